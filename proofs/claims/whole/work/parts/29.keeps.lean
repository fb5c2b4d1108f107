/-! the reference keeps, comes back -/
section KE
variable {d : Nat} {w : Nat × Nat × Nat} {C : Int}
theorem c_keeps6 {Q : zM → Prop} : ∀ (k : Nat) (z : Int) (m : zM), 0 ≤ z → z + k = 13342 → (∀ m', fr [263] m m' → m'.1 = m.1 → (∀ y, z ≤ y → y < 13342 → lq m' 263 y = lq m 263 (y + 1906)) → (∀ y, 0 ≤ y → (y < z ∨ 13342 ≤ y) → lq m' 263 y = lq m 263 y) → W_M_keeps_29 d (J 0) w (sq m' 261 2 (iq m' 261 2 - 1)) Q) → W_M_keeps_6 d (J z) w m Q := by
  intro k
  induction k with
  | zero =>
    intro z m hz hk H
    refine S_M_keeps_6 ?_
    simp (disch := first | (unfold r32; omega) | omega) only [j_lit, J_le, vp_J, J_cl, j_rd, jl_rd, j_wr, jl_wr, sl_tn, lq_tn, iq_tn, j_ops, j_nc]
    exact ⟨fun _ => H m (fr.rf _ _) rfl (fun y g1 g2 => by omega) (fun y g1 g2 => rfl), fun q => by omega⟩
  | succ k ih =>
    intro z m hz hk H
    refine S_M_keeps_6 ?_
    simp (disch := first | (unfold r32; omega) | omega) only [j_lit, J_le, vp_J, J_cl, j_rd, jl_rd, j_wr, jl_wr, sl_tn, lq_tn, iq_tn, j_ops, j_nc]
    refine ⟨fun q => by omega, fun _ => ⟨by omega, by omega, ih (z + 1) _ (by omega) (by omega) (fun m' g1 g2 g3 g4 => H m' (((fr.rf [263] m).sll (by simp) z _).tr g1) g2 (fun y q1 q2 => ?_) (fun y q1 q2 => ?_))⟩⟩
    · by_cases e : y = z
      · subst e
        rw [g4 y (by omega) (by omega), lq_sl (by omega) (by omega) (lq_r _ _ _), if_pos ⟨rfl, rfl⟩]
      · rw [g3 y (by omega) q2, lq_sl (by omega) (by omega) (lq_r _ _ _), if_neg (by omega)]
    · rw [g4 y q1 (by omega), lq_sl (by omega) (by omega) (lq_r _ _ _), if_neg (by omega)]
theorem c_keeps29 {Q : zM → Prop} {u : Int} (hu : 0 ≤ u ∧ u ≤ 7) : ∀ (k : Nat) (z : Int) (m : zM), iq m 261 2 = u → 0 ≤ z → z + k = 1906 → (∀ m', fr [263] m m' → m'.1 = m.1 → (∀ y, z ≤ y → y < 1906 → lq m' 263 (1906 * u + y) = lq m 262 y) → (∀ y, 0 ≤ y → (y < 1906 * u + z ∨ 1906 * u + 1906 ≤ y) → lq m' 263 y = lq m 263 y) → Q (sq (sq m' 261 2 (u + 1)) 261 20 0)) → W_M_keeps_29 d (J z) w m Q := by
  intro k
  induction k with
  | zero =>
    intro z m hm hz hk H
    refine S_M_keeps_29 ?_
    simp (disch := first | (unfold r32; omega) | omega) only [j_lit, J_le, vp_J, J_cl, j_rd, jl_rd, j_wr, jl_wr, sl_tn, lq_tn, iq_tn, j_ops, j_nc, hm]
    exact ⟨fun _ => H m (fr.rf _ _) rfl (fun y g1 g2 => by omega) (fun y g1 g2 => rfl), fun q => by omega⟩
  | succ k ih =>
    intro z m hm hz hk H
    refine S_M_keeps_29 ?_
    simp (disch := first | (unfold r32; omega) | omega) only [j_lit, J_le, vp_J, J_cl, j_rd, jl_rd, j_wr, jl_wr, sl_tn, lq_tn, iq_tn, j_ops, j_nc, hm]
    refine ⟨fun q => by omega, fun _ => ⟨by omega, by omega, ih (z + 1) _ hm (by omega) (by omega) (fun m' g1 g2 g3 g4 => H m' (((fr.rf [263] m).sll (by simp) _ _).tr g1) g2 (fun y q1 q2 => ?_) (fun y q1 q2 => ?_))⟩⟩
    · by_cases e : y = z
      · subst e
        rw [g4 _ (by omega) (by omega), lq_sl (by omega) (by omega) (lq_r _ _ _), if_pos ⟨rfl, rfl⟩]
      · rw [g3 y (by omega) q2, lq_sl (by omega) (by omega) (lq_r _ _ _), if_neg (by omega)]
    · rw [g4 y q1 (by omega), lq_sl (by omega) (by omega) (lq_r _ _ _), if_neg (by omega)]
/-- now is kept -/
theorem c_M_keeps {Q : zM → Prop} {m : zM} {u : Int} (hm : iq m 261 2 = u) (hu : 0 ≤ u ∧ u ≤ 8) (H : ∀ (m' : zM) (v : Int), v = (if u + 1 ≤ 8 then u + 1 else 8) → (∀ b, b ≠ 261 → b ≠ 263 → m'.1 b = m.1 b ∧ m'.2 b = m.2 b) → m'.1 263 = m.1 263 → m'.2 261 = m.2 261 → iq m' 261 2 = v → iq m' 261 20 = 0 → (∀ y, 0 ≤ y → y ≠ 2 → y ≠ 20 → iq m' 261 y = iq m 261 y) → (∀ y, 0 ≤ y → y < 1906 → lq m' 263 (1906 * (v - 1) + y) = lq m 262 y) → (∀ y, 0 ≤ y → y < 1906 * (v - 1) → lq m' 263 y = lq m 263 (y + 1906 * (u + 1 - v))) → Q m') : cV d 185 [.ref 261] w m Q := by
  refine S_M_keeps ?_
  simp (disch := first | exact iq_r _ _ _ | (unfold r32; omega) | omega) only [j_lit, J_eq, j_rd, j_nc]
  refine ⟨fun q => ?_, fun q => ?_⟩
  · refine c_keeps29 (u := u) (by omega) 1906 0 m hm (by omega) (by omega) (fun m' g1 g2 g3 g4 => ?_)
    refine H _ (u + 1) (by rw [if_pos (by omega)]) (fun b h1 h2 => ⟨?_, ?_⟩) ?_ ?_ ?_ ?_ (fun y h1 h2 h3 => ?_) (fun y h1 h2 => ?_) (fun y h1 h2 => ?_)
    · rw [(fo_sq _ 261 20 0 b (by omega)).1, (fo_sq _ 261 2 _ b (by omega)).1, g2]
    · exact (g1 b (by simp; exact h2)).2
    · rw [(fo_sq _ 261 20 0 263 (by omega)).1, (fo_sq _ 261 2 _ 263 (by omega)).1, g2]
    · exact (g1 261 (by simp)).2
    · rw [iq_sq (by omega) (by omega) (by unfold r32; omega), if_neg (by omega), iq_sq (by omega) (by omega) (by unfold r32; omega), if_pos ⟨rfl, rfl⟩]
    · rw [iq_sq (by omega) (by omega) (by unfold r32; omega), if_pos ⟨rfl, rfl⟩]
    · rw [iq_sq (by omega) (by omega) (by unfold r32; omega), if_neg (by omega), iq_sq (by omega) (by omega) (by unfold r32; omega), if_neg (by omega)]
      unfold iq
      rw [g2]
    · rw [lq_sq, lq_sq, show u + 1 - 1 = u by omega, g3 y h1 h2]
    · rw [lq_sq, lq_sq, g4 y h1 (by omega)]
      congr 1
      omega
  · refine c_keeps6 13342 0 m (by omega) (by omega) (fun m1 f1 f2 f3 f4 => ?_)
    have e2 : iq m1 261 2 = 8 := by unfold iq; rw [f2]; exact q
    rw [e2]
    refine c_keeps29 (u := 7) (by omega) 1906 0 _ (by rw [iq_sq (by omega) (by omega) (by unfold r32; omega), if_pos ⟨rfl, rfl⟩]; omega) (by omega) (by omega) (fun m' g1 g2 g3 g4 => ?_)
    have r1 : ∀ b, b ≠ 261 → m'.1 b = m.1 b := fun b hb => by rw [g2, (fo_sq _ 261 2 _ b (by omega)).1, f2]
    refine H _ 8 (by rw [if_neg (by omega)]) (fun b h1 h2 => ⟨?_, ?_⟩) ?_ ?_ ?_ ?_ (fun y h1 h2 h3 => ?_) (fun y h1 h2 => ?_) (fun y h1 h2 => ?_)
    · rw [(fo_sq _ 261 20 0 b (by omega)).1, (fo_sq _ 261 2 _ b (by omega)).1, r1 b h1]
    · have h3 := (g1 b (by simp; exact h2)).2
      have h4 := (f1 b (by simp; exact h2)).2
      exact h3.trans h4
    · rw [(fo_sq _ 261 20 0 263 (by omega)).1, (fo_sq _ 261 2 _ 263 (by omega)).1, r1 263 (by omega)]
    · have h3 := (g1 261 (by simp)).2
      have h4 := (f1 261 (by simp)).2
      exact h3.trans h4
    · rw [iq_sq (by omega) (by omega) (by unfold r32; omega), if_neg (by omega), iq_sq (by omega) (by omega) (by unfold r32; omega), if_pos ⟨rfl, rfl⟩]
      omega
    · rw [iq_sq (by omega) (by omega) (by unfold r32; omega), if_pos ⟨rfl, rfl⟩]
    · rw [iq_sq (by omega) (by omega) (by unfold r32; omega), if_neg (by omega), iq_sq (by omega) (by omega) (by unfold r32; omega), if_neg (by omega)]
      unfold iq
      rw [g2]
      show iq (sq m1 261 2 (8 - 1)) 261 y = iq m 261 y
      rw [iq_sq (by omega) h1 (by unfold r32; omega), if_neg (by omega)]
      unfold iq
      rw [f2]
    · rw [lq_sq, lq_sq, show (8 : Int) - 1 = 7 by omega, g3 y h1 h2, lq_sq]
      exact f1.l (by simp) y
    · rw [lq_sq, lq_sq, g4 y h1 (by omega), lq_sq, f3 y h1 (by omega)]
      congr 1
      omega
theorem c_undo13 {Q : Int32 → zM → Prop} {u : Int} {m0 : zM} (hu : 0 ≤ u ∧ u ≤ 7) (H : ∀ m', fr [262] m0 m' → m'.1 = m0.1 → (∀ y, 0 ≤ y → y < 1906 → lq m' 262 y = lq m0 263 (1906 * u + y)) → Q (J 1) (sq m' 261 20 0)) : ∀ (k : Nat) (z : Int) (m : zM), iq m 261 2 = u → 0 ≤ z → z + k = 1906 → fr [262] m0 m → m.1 = m0.1 → (∀ y, 0 ≤ y → y < z → lq m 262 y = lq m0 263 (1906 * u + y)) → W_M_undo_13 d (J z) w m Q := by
  intro k
  induction k with
  | zero =>
    intro z m hm hz hk hf h1 hy
    refine S_M_undo_13 ?_
    simp (disch := first | (unfold r32; omega) | omega) only [j_lit, J_le, vp_J, J_cl, j_rd, jl_rd, j_wr, jl_wr, sl_tn, lq_tn, iq_tn, j_ops, j_nc, hm]
    exact ⟨fun _ => H m hf h1 (fun y g1 g2 => hy y g1 (by omega)), fun q => by omega⟩
  | succ k ih =>
    intro z m hm hz hk hf h1 hy
    refine S_M_undo_13 ?_
    simp (disch := first | (unfold r32; omega) | omega) only [j_lit, J_le, vp_J, J_cl, j_rd, jl_rd, j_wr, jl_wr, sl_tn, lq_tn, iq_tn, j_ops, j_nc, hm]
    refine ⟨fun q => by omega, fun _ => ⟨by omega, by omega, ih (z + 1) _ hm (by omega) (by omega) (hf.sll (by simp) _ _) h1 (fun y g1 g2 => ?_)⟩⟩
    rw [lq_sl (by omega) g1 (lq_r _ _ _)]
    by_cases e : y = z
    · rw [if_pos ⟨rfl, e⟩, e]
      exact hf.l (by simp) _
    · rw [if_neg (by omega)]
      exact hy y g1 (by omega)
/-- both come back -/
theorem p_undo {P : Int32 → Int32 → Nat × Nat × Nat → zM → Prop} {m : zM} {C : Int} (hR : RG C w m)
    (H0 : iq m 3 11 = 0 → P (J 0) (J 0) w m)
    (H1 : ∀ m', RG C (w.1, tb ((iq m 3 10 - 1) % 10), w.2.2) m' → iq m' 3 14 = 0 → iq m' 261 20 = 0 → (∀ z, 0 ≤ z → z ≠ 10 → z ≠ 11 → z ≠ 14 → iq m' 3 z = iq m 3 z) → (∀ z, 0 ≤ z → z ≠ 2 → z ≠ 20 → iq m' 261 z = iq m 261 z) → m'.2 261 = m.2 261 → (∀ b, b ≠ 3 → b ≠ 261 → b ≠ 262 → m'.1 b = m.1 b ∧ m'.2 b = m.2 b) → P (J 1) (J 1) (w.1, tb ((iq m 3 10 - 1) % 10), w.2.2) m') :
    cIw (d + 1) 124 [.ref 3] w m (fun v w1 m1 => cI (d + 1) 186 [.ref 261] w1 m1 (fun v' m2 => P v v' w1 m2)) := by
  obtain ⟨h1, h2, h3, h4, h5, h6, h7, h8⟩ := id hR
  refine S_T_undo ?_
  simp (disch := first | exact iq_r _ _ _ | (unfold r32; omega) | omega) only [j_lit, J_lt, j_rd, j_nc, j_ops, J_mod, j_wr]
  refine ⟨fun q => ⟨by decide, ?_⟩, fun q => ?_⟩
  · have hi : 0 ≤ (iq m 3 10 + 10 - 1) % 10 ∧ (iq m 3 10 + 10 - 1) % 10 < 10 := by omega
    have ei : (iq m 3 10 + 10 - 1) % 10 = (iq m 3 10 - 1) % 10 := by omega
    refine c_slotAt hi.1 hi.2 ⟨zT_n (tb_T hi.1 hi.2), ?_⟩
    generalize hm1 : sq (sq (sq m 3 11 (iq m 3 11 - 1)) 3 10 ((iq m 3 10 + 10 - 1) % 10)) 3 14 0 = m1
    have a1 : ∀ z, 0 ≤ z → iq m1 3 z = if z = 14 then 0 else if z = 10 then (iq m 3 10 - 1) % 10 else if z = 11 then iq m 3 11 - 1 else iq m 3 z := by
      intro z hz
      rw [← hm1, iq_sq (by omega) hz (by unfold r32; omega), iq_sq (by omega) hz (by unfold r32; omega), iq_sq (by omega) hz (by unfold r32; omega), ei]
      simp
    have a2 : ∀ b, b ≠ 3 → m1.1 b = m.1 b ∧ m1.2 b = m.2 b := by
      intro b hb
      rw [← hm1]
      have q1 := fo_sq m 3 11 (iq m 3 11 - 1) b (by omega)
      have q2 := fo_sq (sq m 3 11 (iq m 3 11 - 1)) 3 10 ((iq m 3 10 + 10 - 1) % 10) b (by omega)
      have q3 := fo_sq (sq (sq m 3 11 (iq m 3 11 - 1)) 3 10 ((iq m 3 10 + 10 - 1) % 10)) 3 14 0 b (by omega)
      exact ⟨q3.1.trans (q2.1.trans q1.1), q3.2.trans (q2.2.trans q1.2)⟩
    have b2 : iq m1 261 2 = iq m 3 11 := by unfold iq; rw [(a2 261 (by omega)).1]; exact h5
    rw [ei]
    refine S_M_undo ?_
    simp (disch := first | exact iq_r _ _ _ | (unfold r32; omega) | omega) only [j_lit, J_eq, j_rd, j_nc, j_ops, j_wr, b2]
    refine ⟨fun _ => ?_, fun q2 => by omega⟩
    generalize hm2 : sq m1 261 2 (iq m 3 11 - 1) = m2
    have c1 : ∀ z, 0 ≤ z → iq m2 261 z = if z = 2 then iq m 3 11 - 1 else iq m1 261 z := by
      intro z hz
      rw [← hm2, iq_sq (by omega) hz (by unfold r32; omega)]
      simp
    have c2 : ∀ b, b ≠ 261 → m2.1 b = m1.1 b ∧ m2.2 b = m1.2 b := fun b hb => by rw [← hm2]; exact fo_sq _ _ _ _ b (by omega)
    have c3 : m2.2 = m1.2 := by rw [← hm2]; rfl
    refine c_undo13 (u := iq m 3 11 - 1) (m0 := m2) (by omega) (fun m3 f g1 g2 => ?_) 1906 0 m2 (by rw [c1 _ (by omega), if_pos rfl]) (by omega) (by omega) (fr.rf _ _) rfl (fun y _ _ => by omega)
    generalize hm4 : sq m3 261 20 0 = m4
    have d1 : ∀ z, 0 ≤ z → iq m4 261 z = if z = 20 then 0 else iq m3 261 z := by
      intro z hz
      rw [← hm4, iq_sq (by omega) hz (by unfold r32; omega)]
      simp
    have d2 : ∀ b, b ≠ 261 → m4.1 b = m3.1 b := fun b hb => by rw [← hm4]; exact (fo_sq _ _ _ _ b (by omega)).1
    have d3 : m4.2 = m3.2 := by rw [← hm4]; rfl
    have rows : ∀ b, b ≠ 3 → b ≠ 261 → b ≠ 262 → m4.1 b = m.1 b ∧ m4.2 b = m.2 b := by
      intro b e1 e2 e3
      refine ⟨?_, ?_⟩
      · rw [d2 b e2, g1, (c2 b e2).1, (a2 b e1).1]
      · rw [d3, (f b (by simp; exact e3)).2, (c2 b e2).2, (a2 b e1).2]
    have r3 : ∀ z, iq m4 3 z = iq m1 3 z := fun z => by unfold iq; rw [d2 3 (by omega), g1, (c2 3 (by omega)).1]
    have r261 : ∀ z, 0 ≤ z → iq m4 261 z = if z = 20 then 0 else if z = 2 then iq m 3 11 - 1 else iq m 261 z := by
      intro z hz
      rw [d1 z hz]
      split
      · rfl
      · have : iq m3 261 z = iq m2 261 z := by unfold iq; rw [g1]
        rw [this, c1 z hz]
        split
        · rfl
        · unfold iq; rw [(a2 261 (by omega)).1]
    have r262 : ∀ y, 0 ≤ y → y < 1906 → lq m4 262 y = past m (iq m 3 11 - 1) y := by
      intro y q1 q2
      have e1 : lq m4 262 y = lq m3 262 y := by unfold lq; rw [d3]
      rw [e1, g2 y q1 q2]
      show lq m2 263 _ = lq m 263 _
      unfold lq
      rw [(c2 263 (by omega)).2, (a2 263 (by omega)).2]
    have r263 : ∀ y, lq m4 263 y = lq m 263 y := fun y => by unfold lq; rw [(rows 263 (by omega) (by omega) (by omega)).2]
    have TVr : ∀ i, 0 ≤ i → i < 10 → TV m (tb i) m4 (tb i) := fun i q1 q2 => TV.rows (fun c q3 q4 => by
      have := tb_bd q1 q2
      exact rows c (by omega) (by omega) (by omega))
    refine H1 m4 ⟨?_, ?_, ?_, ?_, ?_, ?_, ?_, fun j q1 q2 => ?_⟩ ?_ ?_ (fun z q0 q1 q2 q3 => ?_) (fun z q0 q1 q2 => ?_) ?_ rows
    · rw [r3, a1 _ (by omega), if_neg (by omega), if_pos rfl]; omega
    · rw [r3, a1 _ (by omega), if_neg (by omega), if_pos rfl]; omega
    · rw [r3, a1 _ (by omega), if_neg (by omega), if_neg (by omega), if_pos rfl]; omega
    · rw [r3, a1 _ (by omega), if_neg (by omega), if_neg (by omega), if_pos rfl]; omega
    · rw [r261 _ (by omega), if_neg (by omega), if_pos rfl, r3, a1 _ (by omega), if_neg (by omega), if_neg (by omega), if_pos rfl]
    · rw [r3, a1 _ (by omega), if_neg (by omega), if_pos rfl]
    · have := h8 0 (by omega) (by omega)
      rw [show (iq m 3 10 - 1 - 0) % 10 = (iq m 3 10 - 1) % 10 by omega, show iq m 3 11 - 1 - 0 = iq m 3 11 - 1 by omega] at this
      exact (this.view (TVr _ (by omega) (by omega))).row r262
    · rw [r3, a1 11 (by omega), if_neg (by omega), if_neg (by omega), if_pos rfl] at q2
      rw [r3, a1 10 (by omega), if_neg (by omega), if_pos rfl, r3, a1 11 (by omega), if_neg (by omega), if_neg (by omega), if_pos rfl]
      have := h8 (j + 1) (by omega) (by omega)
      rw [show ((iq m 3 10 - 1) % 10 - 1 - j) % 10 = (iq m 3 10 - 1 - (j + 1)) % 10 by omega, show iq m 3 11 - 1 - 1 - j = iq m 3 11 - 1 - (j + 1) by omega]
      exact (this.view (TVr _ (by omega) (by omega))).row (fun k _ _ => r263 _)
    · rw [r3, a1 _ (by omega), if_pos rfl]
    · rw [r261 _ (by omega), if_pos rfl]
    · rw [r3, a1 _ q0, if_neg q3, if_neg q1, if_neg q2]
    · rw [r261 _ q0, if_neg q2, if_neg q1]
    · rw [d3, (f 261 (by simp)).2, c3, (a2 261 (by omega)).2]
  · refine S_M_undo ?_
    simp (disch := first | exact iq_r _ _ _ | (unfold r32; omega) | omega) only [j_lit, J_eq, j_rd, j_nc, h5]
    exact ⟨fun q2 => by omega, fun q2 => H0 q2⟩
end KE
