/-! copies -/
section CP
variable {d : Nat} {w : Nat × Nat × Nat} {a o n n0 n1 : Nat} {v : Int}
theorem c_copy_l {Q : zM → Prop} (h0 : zAr w o 12 n0) (h1 : zAr w a 12 n1) (hn0 : n0 < 100000) (hn1 : n1 < 100000) (hne : o ≠ a) (hv : v ≤ n0 ∧ v ≤ n1) : ∀ (k : Nat) (z : Int) (m : zM), 0 ≤ z → z + k = v → (∀ m', fr [a] m m' → m'.2 = m.2 → (∀ y, z ≤ y → y < v → iq m' a y = iq m o y) → (∀ y, 0 ≤ y → y < z → iq m' a y = iq m a y) → Q m') → W_T_copy_2 d o a (J v) (J z) w m Q := by
  intro k
  induction k with
  | zero =>
    intro z m hz hk H
    refine S_T_copy_2 h0 h1 ?_
    simp (disch := first | (unfold r32; omega) | omega) only [j_lit, ofn_J, J_lt, J_le, vp_J, J_cl, j_rd, j_wr, sq_tn, iq_tn, j_ops]
    exact ⟨fun _ => H m (fr.rf _ _) rfl (fun y g1 g2 => by omega) (fun y g1 g2 => rfl), fun q => by omega⟩
  | succ k ih =>
    intro z m hz hk H
    refine S_T_copy_2 h0 h1 ?_
    simp (disch := first | (unfold r32; omega) | omega) only [j_lit, ofn_J, J_lt, J_le, vp_J, J_cl, j_rd, j_wr, sq_tn, iq_tn, j_ops]
    refine ⟨fun q => by omega, fun _ => ⟨fun q => by omega, fun _ => ⟨fun q => by omega, fun _ => ⟨by omega, by omega, ih (z + 1) _ (by omega) (by omega) (fun m' g1 g2 g3 g4 => H m' (((fr.rf [a] m).si (by simp) z _).tr g1) g2 (fun y q1 q2 => ?_) (fun y q1 q2 => ?_))⟩⟩⟩⟩
    · by_cases e : y = z
      · subst e
        rw [g4 y (by omega) (by omega), iq_sq (by omega) (by omega) (iq_r _ _ _), if_pos ⟨rfl, rfl⟩]
      · rw [g3 y (by omega) q2, iq_sq (by omega) (by omega) (iq_r _ _ _), if_neg (fun q => hne q.1)]
    · rw [g4 y (by omega) (by omega), iq_sq (by omega) (by omega) (iq_r _ _ _), if_neg (by omega)]
theorem c_copy {Q : zM → Prop} {m : zM} (h0 : zAr w o 12 n0) (h1 : zAr w a 12 n1) (hn0 : n0 < 100000) (hn1 : n1 < 100000) (hne : o ≠ a) (hv : 0 ≤ v ∧ v ≤ n0 ∧ v ≤ n1) (H : ∀ m', fr [a] m m' → m'.2 = m.2 → (∀ y, 0 ≤ y → y < v → iq m' a y = iq m o y) → Q m') : cV d 161 [.ref o, .ref a, .int (J v)] w m Q :=
  S_T_copy (c_copy_l h0 h1 hn0 hn1 hne hv.2 v.toNat 0 m (by omega) (by omega) (fun m' g1 g2 g3 _ => H m' g1 g2 g3))
theorem c_copyl_l {Q : zM → Prop} (h0 : zAr w o 13 n0) (h1 : zAr w a 13 n1) (hn0 : n0 < 100000) (hn1 : n1 < 100000) (hne : o ≠ a) (hv : v ≤ n0 ∧ v ≤ n1) : ∀ (k : Nat) (z : Int) (m : zM), 0 ≤ z → z + k = v → (∀ m', fr [a] m m' → m'.1 = m.1 → (∀ y, z ≤ y → y < v → lq m' a y = lq m o y) → (∀ y, 0 ≤ y → y < z → lq m' a y = lq m a y) → Q m') → W_T_copy__2 d o a (J v) (J z) w m Q := by
  intro k
  induction k with
  | zero =>
    intro z m hz hk H
    refine S_T_copy__2 h0 h1 ?_
    simp (disch := first | (unfold r32; omega) | omega) only [j_lit, ofn_J, J_lt, J_le, vp_J, J_cl, jl_rd, jl_wr, sl_tn, lq_tn, j_ops]
    exact ⟨fun _ => H m (fr.rf _ _) rfl (fun y g1 g2 => by omega) (fun y g1 g2 => rfl), fun q => by omega⟩
  | succ k ih =>
    intro z m hz hk H
    refine S_T_copy__2 h0 h1 ?_
    simp (disch := first | (unfold r32; omega) | omega) only [j_lit, ofn_J, J_lt, J_le, vp_J, J_cl, jl_rd, jl_wr, sl_tn, lq_tn, j_ops]
    refine ⟨fun q => by omega, fun _ => ⟨fun q => by omega, fun _ => ⟨fun q => by omega, fun _ => ⟨by omega, by omega, ih (z + 1) _ (by omega) (by omega) (fun m' g1 g2 g3 g4 => H m' (((fr.rf [a] m).sll (by simp) z _).tr g1) g2 (fun y q1 q2 => ?_) (fun y q1 q2 => ?_))⟩⟩⟩⟩
    · by_cases e : y = z
      · subst e
        rw [g4 y (by omega) (by omega), lq_sl (by omega) (by omega) (lq_r _ _ _), if_pos ⟨rfl, rfl⟩]
      · rw [g3 y (by omega) q2, lq_sl (by omega) (by omega) (lq_r _ _ _), if_neg (fun q => hne q.1)]
    · rw [g4 y (by omega) (by omega), lq_sl (by omega) (by omega) (lq_r _ _ _), if_neg (by omega)]
theorem c_copyl {Q : zM → Prop} {m : zM} (h0 : zAr w o 13 n0) (h1 : zAr w a 13 n1) (hn0 : n0 < 100000) (hn1 : n1 < 100000) (hne : o ≠ a) (hv : 0 ≤ v ∧ v ≤ n0 ∧ v ≤ n1) (H : ∀ m', fr [a] m m' → m'.1 = m.1 → (∀ y, 0 ≤ y → y < v → lq m' a y = lq m o y) → Q m') : cV d 162 [.ref o, .ref a, .int (J v)] w m Q :=
  S_T_copy_ (c_copyl_l h0 h1 hn0 hn1 hne hv.2 v.toNat 0 m (by omega) (by omega) (fun m' g1 g2 g3 _ => H m' g1 g2 g3))
/-- all rows but those of a .. a + k stay -/
def fo (a k : Nat) (m m' : zM) : Prop := ∀ b, b < a ∨ a + k ≤ b → m'.1 b = m.1 b ∧ m'.2 b = m.2 b
theorem fo.rf (a k : Nat) (m : zM) : fo a k m m := fun _ _ => ⟨rfl, rfl⟩
theorem fo.tr {a k : Nat} {m m1 m2 : zM} (h1 : fo a k m m1) (h2 : fo a k m1 m2) : fo a k m m2 := fun b hb => ⟨((h2 b hb).1).trans (h1 b hb).1, ((h2 b hb).2).trans (h1 b hb).2⟩
theorem fo.mo {a k a' k' : Nat} {m m1 : zM} (h : fo a k m m1) (h1 : a' ≤ a) (h2 : a + k ≤ a' + k') : fo a' k' m m1 := fun b hb => h b (by omega)
theorem fo.i {a k : Nat} {m m1 : zM} (h : fo a k m m1) {b : Nat} (hb : b < a ∨ a + k ≤ b) (z : Int) : iq m1 b z = iq m b z := by unfold iq; rw [(h b hb).1]
theorem fo.l {a k : Nat} {m m1 : zM} (h : fo a k m m1) {b : Nat} (hb : b < a ∨ a + k ≤ b) (z : Int) : lq m1 b z = lq m b z := by unfold lq; rw [(h b hb).2]
theorem fr.fo {S : List Nat} {a k : Nat} {m m1 : zM} (h : fr S m m1) (hs : ∀ b ∈ S, a ≤ b ∧ b < a + k) : fo a k m m1 := fun b hb => h b (fun q => by have := hs b q; omega)
theorem fo_sq (m : zM) (a : Nat) (z v : Int) : fo a 1 m (sq m a z v) := fun b hb => ⟨by
  funext j
  show (if b = a ∧ j = z.toNat then J v else m.1 b j) = m.1 b j
  exact if_neg (fun q => by omega), rfl⟩
theorem c_PairsCopy {Q : zM → Prop} {m : zM} (ha : zPa w a n) (ho : zPa w o n) (hn : n < 100000) (hap : a + 3 ≤ o ∨ o + 3 ≤ a) (hs : 0 ≤ iq m o 2 ∧ iq m o 2 ≤ n)
    (H : ∀ m', fo a 3 m m' → iq m' a 2 = iq m o 2 → (∀ k, 0 ≤ k → k < iq m o 2 → lq m' (a + 1) k = lq m (o + 1) k ∧ lq m' (a + 2) k = lq m (o + 2) k) → Q m') : cV (d + 1) 34 [.ref a, .ref o] w m Q := by
  refine S_Pairs_copyFrom ho ha ?_
  simp only [j_rd, j_nc, j_wr]
  rw [iq_sq (by decide) (by decide) (iq_r _ _ _), if_pos ⟨rfl, rfl⟩]
  refine c_copyl ho.2.2.2.1 ha.2.2.2.1 hn hn (by omega) (by omega) (fun m1 f1 g1 e1 => ?_)
  have z1 : iq m1 a 2 = iq m o 2 := by rw [f1.i (by simp), iq_sq (by decide) (by decide) (iq_r _ _ _), if_pos ⟨rfl, rfl⟩]
  rw [z1]
  refine c_copyl ho.2.2.2.2 ha.2.2.2.2 hn hn (by omega) (by omega) (fun m2 f2 g2 e2 => ?_)
  refine H m2 ((((fo_sq m a 2 _).mo (by omega) (by omega)).tr (f1.fo (by simp))).tr (f2.fo (by simp))) (by rw [f2.i (by simp), z1]) (fun k h0 h1 => ⟨?_, ?_⟩)
  · rw [f2.l (by simp), e1 k h0 h1, lq_sq]
  · rw [e2 k h0 h1, f1.l (by simp; omega), lq_sq]
theorem c_ProseCopy {Q : zM → Prop} {m : zM} (ha : zPr w a) (ho : zPr w o) (hap : a + 3 ≤ o ∨ o + 3 ≤ a) (hs : 0 ≤ iq m o 2 ∧ iq m o 2 ≤ 240)
    (H : ∀ m', fo a 3 m m' → iq m' a 2 = iq m o 2 → (∀ k, 0 ≤ k → k < iq m o 2 → lq m' (a + 1) k = lq m (o + 1) k ∧ iq m' (a + 2) k = iq m (o + 2) k) → Q m') : cV (d + 1) 55 [.ref a, .ref o] w m Q := by
  refine S_Prose_copyFrom ho ha ?_
  simp only [j_rd, j_nc, j_wr]
  rw [iq_sq (by decide) (by decide) (iq_r _ _ _), if_pos ⟨rfl, rfl⟩]
  refine c_copyl ho.2.2.2.1 ha.2.2.2.1 (by decide) (by decide) (by omega) (by omega) (fun m1 f1 g1 e1 => ?_)
  have z1 : iq m1 a 2 = iq m o 2 := by rw [f1.i (by simp), iq_sq (by decide) (by decide) (iq_r _ _ _), if_pos ⟨rfl, rfl⟩]
  rw [z1]
  refine c_copy ho.2.2.2.2 ha.2.2.2.2 (by decide) (by decide) (by omega) (by omega) (fun m2 f2 g2 e2 => ?_)
  refine H m2 ((((fo_sq m a 2 _).mo (by omega) (by omega)).tr (f1.fo (by simp))).tr (f2.fo (by simp))) (by rw [f2.i (by simp), z1]) (fun k h0 h1 => ⟨?_, ?_⟩)
  · rw [f2.l (by simp), e1 k h0 h1, lq_sq]
  · rw [e2 k h0 h1, f1.i (by simp; omega), iq_sq (by decide) h0 (iq_r _ _ _), if_neg (by omega)]
theorem c_PatternCopy {Q : zM → Prop} {m : zM} (ha : zPt w a) (ho : zPt w o) (hap : a + 3 ≤ o ∨ o + 3 ≤ a) (hs : 0 ≤ iq m o 2 ∧ iq m o 2 ≤ 12)
    (H : ∀ m', fo a 3 m m' → iq m' a 2 = iq m o 2 → iq m' a 3 = iq m o 3 → iq m' a 4 = iq m o 4 → (∀ k, 0 ≤ k → k < iq m o 2 → iq m' (a + 1) k = iq m (o + 1) k ∧ iq m' (a + 2) k = iq m (o + 2) k) → Q m') : cV (d + 1) 39 [.ref a, .ref o] w m Q := by
  refine S_Pattern_copyFrom ho ha ?_
  simp only [j_rd, j_nc, j_wr]
  rw [iq_sq (by decide) (by decide) (iq_r _ _ _), if_pos ⟨rfl, rfl⟩]
  refine c_copy ho.2.2.2.1 ha.2.2.2.1 (by decide) (by decide) (by omega) (by omega) (fun m1 f1 g1 e1 => ?_)
  have z1 : iq m1 a 2 = iq m o 2 := by rw [f1.i (by simp), iq_sq (by decide) (by decide) (iq_r _ _ _), if_pos ⟨rfl, rfl⟩]
  rw [z1]
  refine c_copy ho.2.2.2.2 ha.2.2.2.2 (by decide) (by decide) (by omega) (by omega) (fun m2 f2 g2 e2 => ?_)
  have fa : fo a 3 m m2 := ((((fo_sq m a 2 _).mo (by omega) (by omega)).tr (f1.fo (by simp))).tr (f2.fo (by simp)))
  have r3 : iq m2 o 3 = iq m o 3 := fa.i (by omega) 3
  have r4 : iq m2 o 4 = iq m o 4 := fa.i (by omega) 4
  simp (disch := first | exact iq_r _ _ _ | omega) only [iq_sq]
  rw [if_neg (by omega)]
  refine H _ ((fa.tr ((fo_sq _ a 3 _).mo (by omega) (by omega))).tr ((fo_sq _ a 4 _).mo (by omega) (by omega))) ?_ ?_ ?_ (fun k h0 h1 => ⟨?_, ?_⟩)
  · simp (disch := first | exact iq_r _ _ _ | omega) only [iq_sq]
    rw [if_neg (by omega), if_neg (by omega), f2.i (by simp), z1]
  · simp (disch := first | exact iq_r _ _ _ | omega) only [iq_sq]
    rw [if_neg (by omega), if_pos (by simp), r3]
  · simp (disch := first | exact iq_r _ _ _ | omega) only [iq_sq]
    rw [if_pos (by simp), r4]
  · simp (disch := first | exact iq_r _ _ _ | omega) only [iq_sq]
    rw [if_neg (by omega), if_neg (by omega), f2.i (by simp), e1 k h0 h1, iq_sq (by decide) h0 (iq_r _ _ _), if_neg (by omega)]
  · simp (disch := first | exact iq_r _ _ _ | omega) only [iq_sq]
    rw [if_neg (by omega), if_neg (by omega), e2 k h0 h1, f1.i (by simp; omega), iq_sq (by decide) h0 (iq_r _ _ _), if_neg (by omega)]
theorem zT_ap (ha : zT a) (ho : zT o) (h : a ≠ o) : a + 21 ≤ o ∨ o + 21 ≤ a := by
  unfold zT at ha ho
  omega
end CP
