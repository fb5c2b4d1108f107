/-! the end of a reading: it is kept, or what was comes back -/
section EN
variable {d : Nat} {w : Nat × Nat × Nat}
theorem c_ends42 {Q : Int32 → zM → Prop} {l1 : Int32} {m0 : zM} (H : ∀ m', fr [262] m0 m' → m'.1 = m0.1 → (∀ y, 0 ≤ y → y < 1906 → lq m' 262 y = lq m0 264 y) → (l1 = J 0 ∨ l1 = J 1) ∧ Q l1 m') : ∀ (k : Nat) (z : Int) (m : zM), 0 ≤ z → z + k = 1906 → fr [262] m0 m → m.1 = m0.1 → (∀ y, 0 ≤ y → y < z → lq m 262 y = lq m0 264 y) → W_M_ends_42 d l1 (J z) w m Q := by
  intro k
  induction k with
  | zero =>
    intro z m h0 hk f e h
    refine S_M_ends_42 ?_
    simp (disch := first | (unfold r32; omega) | omega) only [j_lit, J_le]
    exact ⟨fun _ => H m f e (fun y y0 y1 => h y y0 (by omega)), fun q => by omega⟩
  | succ k ih =>
    intro z m h0 hk f e h
    refine S_M_ends_42 ?_
    simp (disch := first | (unfold r32; omega) | omega) only [j_lit, J_le, vp_J, J_cl, jl_rd, lq_tn, jl_wr, sl_tn, j_ops]
    refine ⟨fun q => by omega, fun _ => ⟨by omega, by omega, ?_⟩⟩
    refine ih (z + 1) _ (by omega) (by omega) (f.sll (by simp) _ _) e (fun y y0 y1 => ?_)
    by_cases q : y = z
    · rw [q, lq_eq (lq_r _ _ _), f.l (by simp)]
    · rw [lq_ne (Or.inr q) h0 y0]
      exact h y y0 (by omega)
theorem c_ends15 {Q : Int32 → zM → Prop} {l1 : Int32} {m0 : zM} (H : ∀ m', fr [262, 264] m0 m' → m'.1 = m0.1 → (∀ y, 0 ≤ y → y < 1906 → lq m' 262 y = lq m0 264 y ∧ lq m' 264 y = lq m0 262 y) → cV d 185 [.ref 261] w m' (fun m1 => W_M_ends_42 d l1 (J 0) w m1 Q)) : ∀ (k : Nat) (z : Int) (m : zM), 0 ≤ z → z + k = 1906 → fr [262, 264] m0 m → m.1 = m0.1 → (∀ y, 0 ≤ y → y < 1906 → (y < z → lq m 262 y = lq m0 264 y ∧ lq m 264 y = lq m0 262 y) ∧ (z ≤ y → lq m 262 y = lq m0 262 y ∧ lq m 264 y = lq m0 264 y)) → W_M_ends_15 d l1 (J z) w m Q := by
  intro k
  induction k with
  | zero =>
    intro z m h0 hk f e h
    refine S_M_ends_15 ?_
    simp (disch := first | (unfold r32; omega) | omega) only [j_lit, J_le]
    exact ⟨fun _ => H m f e (fun y y0 y1 => (h y y0 y1).1 (by omega)), fun q => by omega⟩
  | succ k ih =>
    intro z m h0 hk f e h
    refine S_M_ends_15 ?_
    simp (disch := first | (unfold r32; omega) | omega) only [j_lit, J_le, vp_J, J_cl, jl_rd, lq_tn, jl_wr, sl_tn, j_ops]
    refine ⟨fun q => by omega, fun _ => ⟨by omega, by omega, by omega, by omega, ?_⟩⟩
    have hz := (h z h0 (by omega)).2 (by omega)
    have hz1 := lq_r m 262 z
    have hz2 := lq_r m 264 z
    refine ih (z + 1) _ (by omega) (by omega) ((f.sll (by simp) _ _).sll (by simp) _ _) e (fun y y0 y1 => ⟨fun q => ?_, fun q => ?_⟩)
    · by_cases q2 : y = z
      · subst q2
        rw [lq_ne (by omega) (by omega) (by omega), lq_eq hz2, lq_eq hz1]
        exact ⟨hz.2, hz.1⟩
      · rw [lq_ne (by omega) (by omega) (by omega), lq_ne (by omega) (by omega) (by omega), lq_ne (by omega) (by omega) (by omega), lq_ne (by omega) (by omega) (by omega)]
        exact (h y y0 y1).1 (by omega)
    · rw [lq_ne (by omega) (by omega) (by omega), lq_ne (by omega) (by omega) (by omega), lq_ne (by omega) (by omega) (by omega), lq_ne (by omega) (by omega) (by omega)]
      exact (h y y0 y1).2 (by omega)
/-- what ends writes first -/
def es (m : zM) : zM := sq (sq (sq m 261 5 0) 261 9 (iq m 261 7)) 261 10 (iq m 261 8)
theorem es_f (m : zM) : fr [261] m (es m) ∧ (es m).2 = m.2 ∧ iq (es m) 261 5 = 0 ∧ iq (es m) 261 9 = iq m 261 7 ∧ iq (es m) 261 10 = iq m 261 8 ∧ ∀ z, 0 ≤ z → z ≠ 5 → z ≠ 9 → z ≠ 10 → iq (es m) 261 z = iq m 261 z := by
  unfold es
  refine ⟨(((fr.rf _ m).si (by simp) _ _).si (by simp) _ _).si (by simp) _ _, rfl, ?_, ?_, ?_, fun z z0 z1 z2 z3 => ?_⟩
  · rw [iq_ne (by omega) (by omega) (by omega), iq_ne (by omega) (by omega) (by omega), iq_eq (by unfold r32; omega)]
  · rw [iq_ne (by omega) (by omega) (by omega), iq_eq (iq_r _ _ _)]
  · rw [iq_eq (iq_r _ _ _)]
  · rw [iq_ne (by omega) (by omega) (by omega), iq_ne (by omega) (by omega) (by omega), iq_ne (by omega) (by omega) (by omega)]
theorem c_ends0 {Q : Int32 → zM → Prop} {m : zM} (H : ∀ m', fr [261, 262] m m' → iq m' 261 5 = 0 → iq m' 261 9 = iq m 261 7 → iq m' 261 10 = iq m 261 8 → (∀ z, 0 ≤ z → z ≠ 5 → z ≠ 9 → z ≠ 10 → iq m' 261 z = iq m 261 z) → (∀ k, 0 ≤ k → k < 1906 → lq m' 262 k = lq m 264 k) → Q (J 0) m') : cI (d + 1) 220 [.ref 261, .int (J 0)] w m Q := by
  obtain ⟨e1, e2, e3, e4, e5, e6⟩ := es_f m
  refine S_M_ends ?_
  simp (disch := first | (unfold r32; omega) | omega) only [j_lit, J_eq, j_rd, j_nc, j_wr]
  refine ⟨fun _ => ?_, fun q => absurd trivial q⟩
  refine c_ends42 (m0 := es m) (fun m' f g h => ⟨Or.inl rfl, ?_⟩) 1906 0 (es m) (by omega) (by omega) (fr.rf _ _) rfl (fun y a b => by omega)
  have i : ∀ z, iq m' 261 z = iq (es m) 261 z := f.i (by simp)
  exact H m' ((e1.mo (by simp)).tr (f.mo (by simp))) (by rw [i, e3]) (by rw [i, e4]) (by rw [i, e5]) (fun z z0 z1 z2 z3 => by rw [i, e6 z z0 z1 z2 z3]) (fun k k0 k1 => by rw [h k k0 k1]; unfold lq; rw [e2])
theorem c_ends1 {Q : Int32 → zM → Prop} {m : zM} (hu : 0 ≤ iq m 261 2 ∧ iq m 261 2 ≤ 8) (H : ∀ (m' : zM) (v : Int), v = (if iq m 261 2 + 1 ≤ 8 then iq m 261 2 + 1 else 8) → fr [261, 262, 263, 264] m m' → iq m' 261 5 = 0 → iq m' 261 9 = iq m 261 7 → iq m' 261 10 = iq m 261 8 → iq m' 261 2 = v → iq m' 261 20 = 0 → (∀ z, 0 ≤ z → z ≠ 2 → z ≠ 5 → z ≠ 9 → z ≠ 10 → z ≠ 20 → iq m' 261 z = iq m 261 z) → (∀ k, 0 ≤ k → k < 1906 → lq m' 262 k = lq m 262 k) → (∀ y, 0 ≤ y → y < 1906 → lq m' 263 (1906 * (v - 1) + y) = lq m 264 y) → (∀ y, 0 ≤ y → y < 1906 * (v - 1) → lq m' 263 y = lq m 263 (y + 1906 * (iq m 261 2 + 1 - v))) → Q (J 1) m') : cI (d + 1) 220 [.ref 261, .int (J 1)] w m Q := by
  obtain ⟨e1, e2, e3, e4, e5, e6⟩ := es_f m
  have i2 := e6 2 (by omega) (by omega) (by omega) (by omega)
  refine S_M_ends ?_
  simp (disch := first | (unfold r32; omega) | omega) only [j_lit, J_eq, j_rd, j_nc, j_wr]
  refine ⟨fun q => by omega, fun _ => ?_⟩
  refine c_ends15 (m0 := es m) (fun m1 f1 g1 h1 => ?_) 1906 0 (es m) (by omega) (by omega) (fr.rf _ _) rfl (fun y a b => ⟨fun q => by omega, fun _ => ⟨rfl, rfl⟩⟩)
  have j1 : ∀ z, iq m1 261 z = iq (es m) 261 z := f1.i (by simp)
  have j2 : iq m1 261 2 = iq m 261 2 := (j1 2).trans i2
  refine c_keepsK (by rw [j2]; exact hu) (fun m2 hk => ?_)
  rw [j2] at hk
  obtain ⟨k1, k2, k3, k4, k5, k6, k7, k8⟩ := hk
  refine c_ends42 (m0 := m2) (fun m' f g h => ⟨Or.inr rfl, ?_⟩) 1906 0 m2 (by omega) (by omega) (fr.rf _ _) rfl (fun y a b => by omega)
  have i : ∀ z, iq m' 261 z = iq m2 261 z := f.i (by simp)
  have l63 : ∀ z, lq m' 263 z = lq m2 263 z := f.l (by simp)
  refine H m' _ rfl ?_ (by rw [i, k6 5 (by omega) (by omega) (by omega), j1, e3]) (by rw [i, k6 9 (by omega) (by omega) (by omega), j1, e4]) (by rw [i, k6 10 (by omega) (by omega) (by omega), j1, e5]) (by rw [i, k4]) (by rw [i, k5]) (fun z z0 z1 z2 z3 z4 z5 => by rw [i, k6 z z0 z1 z5, j1, e6 z z0 z2 z3 z4]) (fun k a b => ?_) (fun y a b => ?_) (fun y a b => ?_)
  · refine ((e1.mo (by simp)).tr (f1.mo (by simp))).tr (fr.tr (m1 := m2) (fun c hc => ?_) (f.mo (by simp)))
    simp at hc
    exact k1 c hc.1 hc.2.2.1
  · rw [h k a b]
    have := (h1 k a b).2
    unfold lq at this ⊢
    rw [(k1 264 (by omega) (by omega)).2, this, e2]
  · rw [l63, k7 y a b, (h1 y a b).1]
    unfold lq
    rw [e2]
  · rw [l63, k8 y a b, j2, f1.l (by simp)]
    unfold lq
    rw [e2]
/-- the class's end of a reading -/
def rd3 (m : zM) (x y : Int) : zM := sq (sq (sq m 4 1 0) 3 12 x) 3 13 y
theorem rd3_f (m : zM) {x y : Int} (hx : r32 x) (hy : r32 y) : fr [3, 4] m (rd3 m x y) ∧ (rd3 m x y).2 = m.2 ∧ iq (rd3 m x y) 4 1 = 0 ∧ iq (rd3 m x y) 3 12 = x ∧ iq (rd3 m x y) 3 13 = y ∧ ∀ z, 0 ≤ z → z ≠ 12 → z ≠ 13 → iq (rd3 m x y) 3 z = iq m 3 z := by
  unfold rd3
  refine ⟨(((fr.rf _ m).si (by simp) _ _).si (by simp) _ _).si (by simp) _ _, rfl, ?_, ?_, ?_, fun z z0 z1 z2 => ?_⟩
  · rw [iq_ne (by omega) (by omega) (by omega), iq_ne (by omega) (by omega) (by omega), iq_eq (by unfold r32; omega)]
  · rw [iq_ne (by omega) (by omega) (by omega), iq_eq hx]
  · rw [iq_eq hy]
  · rw [iq_ne (by omega) (by omega) (by omega), iq_ne (by omega) (by omega) (by omega), iq_ne (by omega) (by omega) (by omega)]
theorem c_endF {Q : Int32 → Nat × Nat × Nat → zM → Prop} {m : zM} {x y : Int} (h5 : iq m 8 5 = x) (h6 : iq m 8 6 = y) (hx : x ≠ 0) (H : Q (J 0) w (rd3 m x y)) : cIw (d + 1) 149 [.ref 3] w m Q := by
  have hxr : r32 x := by rw [← h5]; exact iq_r _ _ _
  refine S_T_endReading ?_
  simp (disch := first | exact hxr | (unfold r32; omega) | omega) only [j_lit, J_eq, j_rd, j_nc, h5, h6, j_wr, j_ops]
  exact ⟨fun _ => ⟨fun q => absurd q hx, fun _ => H⟩, fun q => absurd q hx⟩
theorem c_endK {Q : Int32 → Nat × Nat × Nat → zM → Prop} {m : zM} (h5 : iq m 8 5 = 0) (hT : zT w.2.2) (h1 : 0 ≤ iq m 3 10 ∧ iq m 3 10 < 10) (h2 : 0 ≤ iq m 3 11 ∧ iq m 3 11 ≤ 8) (H : Q (J 1) (w.1, w.2.2, w.2.2) (kc (rd3 m 0 (-1)))) : cIw (d + 2) 149 [.ref 3] w m Q := by
  obtain ⟨e1, e2, e3, e4, e5, e6⟩ := rd3_f m (x := 0) (y := -1) (by unfold r32; omega) (by unfold r32; omega)
  refine S_T_endReading ?_
  simp (disch := first | (unfold r32; omega) | omega) only [j_lit, J_eq, j_rd, j_nc, h5, j_wr, j_ops]
  refine ⟨fun q => absurd trivial q, fun _ => ⟨fun _ => ?_, fun q => absurd trivial q⟩⟩
  exact c_keep hT (by rw [← e6 10 (by omega) (by omega) (by omega)] at h1; exact h1) (by rw [← e6 11 (by omega) (by omega) (by omega)] at h2; exact h2) H
end EN
/-! what text, doc leave -/
def TXc (m m' : zM) : Prop := iq m' 4 1 = 0 ∧ iq m' 261 5 = 0 ∧ iq m' 3 12 = iq m' 261 9 ∧ iq m' 3 13 = iq m' 261 10 ∧ (∀ c, (c = 6 ∨ c = 7 ∨ (220 ≤ c ∧ c ≠ 261 ∧ c ≠ 262 ∧ c ≠ 263 ∧ c ≠ 264 ∧ c ≠ 266 ∧ c ≠ 267)) → m'.1 c = m.1 c ∧ m'.2 c = m.2 c) ∧ ∀ z, 20 < z → iq m' 261 z = iq m 261 z
def TXK (C : Int) (w : Nat × Nat × Nat) (m : zM) (w' : Nat × Nat × Nat) (m' : zM) : Prop := RG C w' m' ∧ w'.1 = w.1 ∧ iq m' 3 14 = 0 ∧ iq m' 261 20 = 0 ∧ TXc m m'
def TXU (C : Int) (w : Nat × Nat × Nat) (m : zM) (w' : Nat × Nat × Nat) (m' : zM) : Prop := RG C w' m' ∧ w'.1 = w.1 ∧ w'.2.1 = w.2.1 ∧ iq m' 3 14 = iq m 3 14 ∧ iq m' 261 20 = iq m 261 20 ∧ (∀ k, 0 ≤ k → k < 1906 → lq m' 262 k = lq m 262 k) ∧ TXc m m'
/-- the reference's frame of all its reading: u: nothing kept -/
def gU (m m' : zM) : Prop := (∀ b, b ≠ 261 → b ≠ 262 → b ≠ 264 → b ≠ 266 → b ≠ 267 → m'.1 b = m.1 b ∧ m'.2 b = m.2 b) ∧ (∀ z, 0 ≤ z → (z < 5 ∨ z = 11 ∨ 13 ≤ z) → (z < 15 ∨ 19 < z) → iq m' 261 z = iq m 261 z)
def gK (m m' : zM) : Prop := (∀ b, b ≠ 261 → b ≠ 262 → b ≠ 263 → b ≠ 264 → b ≠ 266 → b ≠ 267 → m'.1 b = m.1 b ∧ m'.2 b = m.2 b) ∧ (∀ z, 20 < z → iq m' 261 z = iq m 261 z)
section TX
variable {d : Nat} {w : Nat × Nat × Nat} {C C' : Int}
theorem txU {m mb mz : zM} {x : Nat} {X Y : Int} (hR : RG C w m) (hx : x = tb ((iq m 3 10 + 1) % 10)) (fb : fx x m mb) (hX : r32 X) (hY : r32 Y) (g : gU (rd3 mb X Y) mz) (e5 : iq mz 261 5 = 0) (e9 : iq mz 261 9 = X) (e10 : iq mz 261 10 = Y) (e62 : ∀ k, 0 ≤ k → k < 1906 → lq mz 262 k = lq m 262 k) : TXU C w m (w.1, w.2.1, x) mz := by
  have h10 : 0 ≤ iq m 3 10 ∧ iq m 3 10 < 10 := ⟨hR.1, hR.2.1⟩
  have bb := tb_bd (i := (iq m 3 10 + 1) % 10) (by omega) (by omega)
  rw [← hx] at bb
  obtain ⟨r1, r2, r3, r4, r5, r6⟩ := rd3_f mb hX hY
  have rows : ∀ c, c ≠ 3 → c ≠ 4 → c ≠ 8 → c ≠ 261 → c ≠ 262 → c ≠ 264 → c ≠ 266 → c ≠ 267 → (c < x ∨ x + 21 ≤ c) → mz.1 c = m.1 c ∧ mz.2 c = m.2 c := fun c a1 a2 a3 a4 a5 a6 a7 a8 a9 => by
    have e1 := g.1 c a4 a5 a6 a7 a8
    have e2 := r1 c (by simp; exact ⟨a1, a2⟩)
    have e3 := fb c a3 a9
    exact ⟨e1.1.trans (e2.1.trans e3.1), e1.2.trans (e2.2.trans e3.2)⟩
  have i3 : ∀ z, 0 ≤ z → z ≠ 12 → z ≠ 13 → iq mz 3 z = iq m 3 z := fun z a1 a2 a3 => by
    have e1 : iq mz 3 z = iq (rd3 mb X Y) 3 z := by unfold iq; rw [(g.1 3 (by omega) (by omega) (by omega) (by omega) (by omega)).1]
    have e2 : iq mb 3 z = iq m 3 z := by unfold iq; rw [(fb 3 (by omega) (by omega)).1]
    rw [e1, r6 z a1 a2 a3, e2]
  have i3b : ∀ z, iq mz 3 z = iq (rd3 mb X Y) 3 z := fun z => by unfold iq; rw [(g.1 3 (by omega) (by omega) (by omega) (by omega) (by omega)).1]
  have i4 : iq mz 4 1 = 0 := by rw [← r3]; unfold iq; rw [(g.1 4 (by omega) (by omega) (by omega) (by omega) (by omega)).1]
  have i61 : ∀ z, 0 ≤ z → (z < 5 ∨ z = 11 ∨ 13 ≤ z) → (z < 15 ∨ 19 < z) → iq mz 261 z = iq m 261 z := fun z a1 a2 a3 => by
    rw [g.2 z a1 a2 a3, r1.i (by simp)]
    unfold iq
    rw [(fb 261 (by omega) (by omega)).1]
  refine ⟨hR.stay (Int.le_refl _) (i3 _ (by omega) (by omega) (by omega)) (i3 _ (by omega) (by omega) (by omega)) (i61 _ (by omega) (by omega) (by omega)) e62 (fun k a b => ?_) (x := x) (fun b a1 a2 a3 => rows b (by omega) (by omega) (by omega) (by omega) (by omega) (by omega) (by omega) (by omega) a3) (Or.inl hx) _ rfl, rfl, rfl, i3 _ (by omega) (by omega) (by omega), i61 _ (by omega) (by omega) (by omega), e62, i4, e5, by rw [i3b, r4, e9], by rw [i3b, r5, e10], fun c hc => rows c (by omega) (by omega) (by omega) (by omega) (by omega) (by omega) (by omega) (by omega) (by omega), fun z hz => i61 z (by omega) (by omega) (by omega)⟩
  unfold lq
  rw [(rows 263 (by omega) (by omega) (by omega) (by omega) (by omega) (by omega) (by omega) (by omega) (by omega)).2]
theorem txK {m mb mz : zM} {x : Nat} {v : Int} {N' : Int → Int} (hR : RG C w m) (hC : C ≤ C') (hx : x = tb ((iq m 3 10 + 1) % 10)) (fb : fx x m mb) (hT : TR C' mb x N') (g : gK (kc (rd3 mb 0 (-1))) mz) (hN : rowM mz N') (hv : v = if iq m 261 2 + 1 ≤ 8 then iq m 261 2 + 1 else 8) (e2 : iq mz 261 2 = v) (e20 : iq mz 261 20 = 0) (e5 : iq mz 261 5 = 0) (e9 : iq mz 261 9 = 0) (e10 : iq mz 261 10 = -1)
    (p1 : ∀ y, 0 ≤ y → y < 1906 → lq mz 263 (1906 * (v - 1) + y) = lq m 262 y) (p2 : ∀ y, 0 ≤ y → y < 1906 * (v - 1) → lq mz 263 y = lq m 263 (y + 1906 * (iq m 261 2 + 1 - v))) : TXK C' w m (w.1, x, x) mz := by
  have h10 : 0 ≤ iq m 3 10 ∧ iq m 3 10 < 10 := ⟨hR.1, hR.2.1⟩
  have h11 : 0 ≤ iq m 3 11 ∧ iq m 3 11 ≤ 8 := ⟨hR.2.2.1, hR.2.2.2.1⟩
  have h2 : iq m 261 2 = iq m 3 11 := hR.2.2.2.2.1
  have bb := tb_bd (i := (iq m 3 10 + 1) % 10) (by omega) (by omega)
  rw [← hx] at bb
  obtain ⟨r1, r2, r3, r4, r5, r6⟩ := rd3_f mb (x := 0) (y := -1) (by unfold r32; omega) (by unfold r32; omega)
  have b3 : ∀ z, iq mb 3 z = iq m 3 z := fun z => by unfold iq; rw [(fb 3 (by omega) (by omega)).1]
  have s11 : iq (rd3 mb 0 (-1)) 3 11 = iq m 3 11 := by rw [r6 _ (by omega) (by omega) (by omega), b3]
  have s10 : iq (rd3 mb 0 (-1)) 3 10 = iq m 3 10 := by rw [r6 _ (by omega) (by omega) (by omega), b3]
  obtain ⟨c1, c2, c3, c4, c5, c6⟩ := kc_facts (rd3 mb 0 (-1)) (by rw [s11]; exact h11)
  rw [s10] at c1
  rw [s11] at c2
  rw [h2] at hv p2
  have rows : ∀ c, c ≠ 3 → c ≠ 4 → c ≠ 261 → c ≠ 262 → c ≠ 263 → c ≠ 264 → c ≠ 266 → c ≠ 267 → mz.1 c = mb.1 c ∧ mz.2 c = mb.2 c := fun c a1 a2 a4 a5 a6 a7 a8 a9 => by
    have q1 := g.1 c a4 a5 a6 a7 a8 a9
    have q2 := r1 c (by simp; exact ⟨a1, a2⟩)
    exact ⟨q1.1.trans ((c5 c a1).trans q2.1), q1.2.trans (by rw [c6]; exact q2.2)⟩
  have i3 : ∀ z, iq mz 3 z = iq (kc (rd3 mb 0 (-1))) 3 z := fun z => by unfold iq; rw [(g.1 3 (by omega) (by omega) (by omega) (by omega) (by omega) (by omega)).1]
  have i4 : iq mz 4 1 = 0 := by
    rw [← r3]
    unfold iq
    rw [(g.1 4 (by omega) (by omega) (by omega) (by omega) (by omega) (by omega)).1, c5 4 (by omega)]
  have i61 : ∀ z, iq (kc (rd3 mb 0 (-1))) 261 z = iq m 261 z := fun z => by
    unfold iq
    rw [c5 261 (by omega), (r1 261 (by simp)).1, (fb 261 (by omega) (by omega)).1]
  have e62 : ∀ k, 0 ≤ k → k < 1906 → lq mz 262 k = N' k := hN
  refine ⟨?_, rfl, by rw [i3, c3], e20, i4, e5, by rw [i3, c4 12 (by omega) (by omega) (by omega) (by omega), r4, e9], by rw [i3, c4 13 (by omega) (by omega) (by omega) (by omega), r5, e10], fun c hc => ?_, fun z hz => by rw [g.2 z hz, i61]⟩
  · refine hR.keep (v := v) hC hx hv (by rw [i3, c1]) (by rw [i3, c2, hv]) e2 (fun c a1 a2 a3 => ?_) p1 p2 ?_
    · have q1 := rows c (by omega) (by omega) (by omega) (by omega) (by omega) (by omega) (by omega) (by omega)
      have q2 := fb c (by omega) a3
      exact ⟨q1.1.trans q2.1, q1.2.trans q2.2⟩
    · exact (hT.view (TV.rows (fun c a1 a2 => rows c (by omega) (by omega) (by omega) (by omega) (by omega) (by omega) (by omega) (by omega)))).row e62
  · have q1 := rows c (by omega) (by omega) (by omega) (by omega) (by omega) (by omega) (by omega) (by omega)
    have q2 := fb c (by omega) (by omega)
    exact ⟨q1.1.trans q2.1, q1.2.trans q2.2⟩
end TX
