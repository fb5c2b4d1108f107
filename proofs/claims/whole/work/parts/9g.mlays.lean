/-! the reference has laid all out -/
def DM (m : zM) (N : Int → Int) : Prop := DMB m N ∧ MRF N m ∧ DMC N m ∧ DML N m (Zn N) ∧ ∀ x, 0 ≤ x → x < eK (BS N) → iq m 288 x = lk N x
abbrev SMR : List Nat := [261, 268, 269, 270, 271, 272, 273, 274, 275, 276, 277, 278, 279, 280, 281, 282, 283, 284, 285, 286, 287, 288, 289]
section MLA
variable {d : Nat} {w : Nat × Nat × Nat} {b : Nat} {C : Int} {N : Int → Int} {mv : zM}
theorem DM.frm {S : List Nat} {m m' : zM} (h : DM m N) (f : fr S m m') (hs : ∀ c ∈ S, c < 261 ∨ (261 < c ∧ c < 268) ∨ 289 ≤ c) : DM m' N := by
  have k : ∀ c, c = 261 ∨ 268 ≤ c → c < 289 → c ∉ S := fun c a1 a2 q => by have := hs c q; omega
  obtain ⟨h1, h2, h3, h4, h5⟩ := h
  refine ⟨h1.frm f (k _ (by omega) (by omega)) (k _ (by omega) (by omega)) (k _ (by omega) (by omega)) (k _ (by omega) (by omega)) (k _ (by omega) (by omega)) (k _ (by omega) (by omega)) (k _ (by omega) (by omega)), h2.frm f (k _ (by omega) (by omega)) (k _ (by omega) (by omega)) (k _ (by omega) (by omega)) (k _ (by omega) (by omega)) (k _ (by omega) (by omega)) (k _ (by omega) (by omega)), h3.frm f (k _ (by omega) (by omega)) (k _ (by omega) (by omega)) (k _ (by omega) (by omega)) (k _ (by omega) (by omega)) (k _ (by omega) (by omega)) (k _ (by omega) (by omega)), fun t t0 t1 => ?_, fun x x0 x1 => ?_⟩
  · rw [f.i (k 283 (by omega) (by omega)), f.i (k 284 (by omega) (by omega)), f.i (k 285 (by omega) (by omega))]
    exact h4 t t0 t1
  · rw [f.i (k 288 (by omega) (by omega))]
    exact h5 x x0 x1
theorem c_layLikely {Q : zM → Prop} {m0 : zM} (h : TR C mv b N) (hR : rowM m0 N) (hD : DMB m0 N) (hM : MRF N m0) (hC : DMC N m0) (H : ∀ m, fr [288, 289] m0 m → (∀ x, 0 ≤ x → x < eK (BS N) → iq m 288 x = lk N x) → Q m) : cV (d + 2) 244 [.ref 261] w m0 Q := by
  have hMb := Mn_b h
  have hZb := Zn_b h
  have hBk := BS_k h
  have hW := h.words
  have hB0 := eK_0 (BS_b h)
  refine S_M_layLikely ?_
  simp only [j_lit]
  have k15 : ∀ (j : Nat) (t : Int) (m : zM), 0 ≤ t → t + j = Zn N → fr [288, 289] m0 m → (∀ x, 0 ≤ x → x < eK (BS N) → iq m 288 x = cnt (fun y => 0 < tm N y x) t.toNat) → W_M_layLikely_15 (d + 1) (J t) w m Q := by
    intro j
    induction j with
    | zero =>
      intro t m t0 hj f hI
      have e32 : iq m 261 32 = Zn N := (f.i (by simp) 32).trans hM.2.1
      refine S_M_layLikely_15 ?_
      simp (disch := first | (unfold r32; omega) | omega) only [j_lit, j_rd, j_nc, e32, J_le]
      refine ⟨fun _ => H m f (fun x x0 x1 => ?_), fun q => by omega⟩
      rw [hI x x0 x1, show t = Zn N by omega]
      exact cnt_congr _ (fun k _ _ => (Ar_tm h k x).symm)
    | succ j ih =>
      intro t m t0 hj f hI
      have e32 : iq m 261 32 = Zn N := (f.i (by simp) 32).trans hM.2.1
      refine S_M_layLikely_15 ?_
      simp (disch := first | (unfold r32; omega) | omega) only [j_lit, j_rd, j_nc, e32, J_le]
      refine ⟨fun q => by omega, fun _ => c_surrounds (d := d) h (hR.fr f (by simp)) (hD.frm f (by simp) (by simp) (by simp) (by simp) (by simp) (by simp) (by simp)) (hM.frm f (by simp) (by simp) (by simp) (by simp) (by simp) (by simp)) (hC.frm f (by simp) (by simp) (by simp) (by simp) (by simp) (by simp)) ⟨t0, by omega⟩ (fun m1 f1 h1 => ?_)⟩
      have k24 : ∀ (j' : Nat) (x : Int) (m2 : zM), 0 ≤ x → x + j' = eK (BS N) → fr [288] m1 m2 → (∀ y, 0 ≤ y → y < eK (BS N) → iq m2 288 y = cnt (fun y' => 0 < tm N y' y) t.toNat + (if y < x then bi (0 < tm N t y) else 0)) → W_M_layLikely_24 (d + 1) (J t) (J x) w m2 Q := by
        intro j'
        induction j' with
        | zero =>
          intro x m2 x0 hj' f2 hI2
          have e43 : iq m2 261 43 = eK (BS N) := (f2.i (by simp) 43).trans ((f1.i (by simp) 43).trans ((f.i (by simp) 43).trans hD.2.1))
          refine S_M_layLikely_24 ?_
          simp (disch := first | (unfold r32; omega) | omega) only [j_lit, j_rd, j_nc, e43, J_le, j_ops]
          refine ⟨fun _ => ih (t + 1) m2 (by omega) (by omega) (f.tr ((f1.mo (by simp)).tr (f2.mo (by simp)))) (fun y y0 y1 => ?_), fun q => by omega⟩
          rw [hI2 y y0 y1, if_pos (by omega), cnt_z _ t0]
        | succ j' ih' =>
          intro x m2 x0 hj' f2 hI2
          have e43 : iq m2 261 43 = eK (BS N) := (f2.i (by simp) 43).trans ((f1.i (by simp) 43).trans ((f.i (by simp) 43).trans hD.2.1))
          have e89 : iq m2 289 x = tm N t x := (f2.i (by simp) x).trans (h1 x x0 (by omega))
          have tb := tmk_b h t x (Mn N).toNat
          have tb' : 0 ≤ tm N t x ∧ tm N t x ≤ (Mn N).toNat * 6 := tb
          have e88 := hI2 x x0 (by omega)
          rw [if_neg (by omega)] at e88
          have cb := cnt_b (fun y' => 0 < tm N y' x) t.toNat
          have nx : ∀ v, bi (0 < tm N t x) = v → 0 ≤ v → v ≤ 1 → W_M_layLikely_24 (d + 1) (J t) (J (x + 1)) w (sq m2 288 x (iq m2 288 x + v)) Q := fun v hv v0 v1 => ih' (x + 1) _ (by omega) (by omega) (f2.si (by simp) _ _) (fun y y0 y1 => by
            by_cases z : y = x
            · rw [z, iq_eq (by unfold r32; omega), e88, if_pos (by omega), hv]; omega
            · rw [iq_ne (Or.inr z) (by omega) y0, hI2 y y0 y1]
              by_cases g : y < x
              · rw [if_pos g, if_pos (by omega)]
              · rw [if_neg g, if_neg (by omega)])
          refine S_M_layLikely_24 ?_
          simp (disch := first | (unfold r32; omega) | omega) only [j_lit, vp_J, J_cl, iq_tn, j_rd, j_nc, e43, e89, J_le]
          refine ⟨fun q => by omega, fun _ => ⟨by omega, by omega, fun q => S_M_one ?_, fun q => S_M_one ?_⟩⟩
          · simp (disch := first | (unfold r32; omega) | omega) only [j_lit, J_eq, vp_J, J_cl, j_wr, sq_tn, j_ops]
            exact ⟨fun _ => ⟨by omega, nx 0 (bi_0 (by omega)) (by omega) (by omega)⟩, fun y => absurd trivial y⟩
          · simp (disch := first | (unfold r32; omega) | omega) only [j_lit, J_eq, vp_J, J_cl, j_wr, sq_tn, j_ops]
            exact ⟨fun y => by omega, fun _ => ⟨by omega, nx 1 (bi_1 (by omega)) (by omega) (by omega)⟩⟩
      exact k24 (eK (BS N)).toNat 0 m1 (by omega) (by omega) (fr.rf _ _) (fun y y0 y1 => by rw [f1.i (by simp), hI y y0 y1, if_neg (by omega)]; omega)
  have k2 : ∀ (j : Nat) (x : Int) (m : zM), 0 ≤ x → x + j = eK (BS N) → fr [288, 289] m0 m → (∀ y, 0 ≤ y → y < x → iq m 288 y = 0) → W_M_layLikely_2 (d + 1) (J x) w m Q := by
    intro j
    induction j with
    | zero =>
      intro x m x0 hj f hI
      have e43 : iq m 261 43 = eK (BS N) := (f.i (by simp) 43).trans hD.2.1
      refine S_M_layLikely_2 ?_
      simp (disch := first | (unfold r32; omega) | omega) only [j_lit, j_rd, j_nc, e43, J_le]
      exact ⟨fun _ => k15 (Zn N).toNat 0 m (by omega) (by omega) f (fun y y0 y1 => hI y y0 (by omega)), fun q => by omega⟩
    | succ j ih =>
      intro x m x0 hj f hI
      have e43 : iq m 261 43 = eK (BS N) := (f.i (by simp) 43).trans hD.2.1
      refine S_M_layLikely_2 ?_
      simp (disch := first | (unfold r32; omega) | omega) only [j_lit, vp_J, J_cl, j_rd, j_nc, e43, J_le, j_ops, j_wr, sq_tn]
      refine ⟨fun q => by omega, fun _ => ⟨by omega, ih (x + 1) _ (by omega) (by omega) (f.si (by simp) _ _) (fun y y0 y1 => ?_)⟩⟩
      by_cases z : y = x
      · rw [z]; exact iq_eq (by unfold r32; omega)
      · rw [iq_ne (Or.inr z) (by omega) y0]; exact hI y y0 (by omega)
  exact k2 (eK (BS N)).toNat 0 m0 (by omega) (by omega) (fr.rf _ _) (fun y _ _ => by omega)
theorem c_lays {Q : zM → Prop} {m : zM} (h : TR C mv b N) (hR : rowM m N) (hh : iq m 261 20 = 0 ∨ iq m 261 20 = 1 ∧ DM m N) (H1 : iq m 261 20 = 1 → DM m N → Q m) (H0 : iq m 261 20 = 0 → ∀ m', fr SMR m m' → (∀ z, 0 ≤ z → z ≠ 20 → z ≠ 21 → z ≠ 26 → z ≠ 32 → z ≠ 43 → iq m' 261 z = iq m 261 z) → iq m' 261 20 = 1 → DM m' N → Q m') : cV (d + 5) 239 [.ref 261] w m Q := by
  have hMb := Mn_b h
  have hZb := Zn_b h
  have hW := h.words
  refine S_M_lays ?_
  simp (disch := first | (unfold r32; omega) | omega) only [j_lit, J_eq, j_rd, j_wr, j_nc]
  rcases hh with hh | ⟨hh, hd⟩
  · rw [hh]
    refine ⟨fun _ => ?_, fun q => absurd rfl q⟩
    have f0 : fr [261] m (sq m 261 20 1) := (fr.rf _ m).si (by simp) _ _
    have o0 : ∀ z, 0 ≤ z → z ≠ 20 → iq (sq m 261 20 1) 261 z = iq m 261 z := fun z z0 z1 => iq_ne (Or.inr z1) (by omega) z0
    have o20 : iq (sq m 261 20 1) 261 20 = 1 := iq_eq (by unfold r32; omega)
    refine c_layWords (d := d) h (hR.fr f0 (by simp)) (fun m1 f1 k1 hD1 => ?_)
    have f2 : fr [261] m1 (sq (sq m1 261 26 0) 261 32 0) := ((fr.rf _ m1).si (by simp) _ _).si (by simp) _ _
    have e26 : iq (sq (sq m1 261 26 0) 261 32 0) 261 26 = 0 := by rw [iq_ne (by omega) (by omega) (by omega)]; exact iq_eq (by unfold r32; omega)
    have e32 : iq (sq (sq m1 261 26 0) 261 32 0) 261 32 = 0 := iq_eq (by unfold r32; omega)
    have k2 : ∀ z, 0 ≤ z → z ≠ 26 → z ≠ 32 → iq (sq (sq m1 261 26 0) 261 32 0) 261 z = iq m1 261 z := fun z z0 z1 z2 => by rw [iq_ne (Or.inr z2) (by omega) z0, iq_ne (Or.inr z1) (by omega) z0]
    generalize sq (sq m1 261 26 0) 261 32 0 = m2 at *
    have hD2 : DMB m2 N := by
      obtain ⟨a1, a2, a3, a4, a5⟩ := hD1
      exact ⟨(k2 21 (by omega) (by omega) (by omega)).trans a1, (k2 43 (by omega) (by omega) (by omega)).trans a2, fun i i0 i1 => by rw [f2.l (by simp), f2.i (by simp), f2.i (by simp), f2.i (by simp)]; exact a3 i i0 i1, fun t t0 t1 => by rw [f2.l (by simp)]; exact a4 t t0 t1, fun i i0 i1 => by rw [f2.l (by simp)]; exact a5 i i0 i1⟩
    have hR2 : rowM m2 N := ((hR.fr f0 (by simp)).fr f1 (by simp)).fr f2 (by simp)
    refine c_lays17 (m0 := m2) (fun m3 f3 z3 => ?_) 2400 0 m2 (by omega) (by omega) (fr.rf _ _) (fun y _ _ => by omega)
    have hD3 := hD2.frm f3 (by simp) (by simp) (by simp) (by simp) (by simp) (by simp) (by simp)
    have hR3 := hR2.fr f3 (by simp)
    have nil : ∀ f g : Int → Int, enm f 0 (img g 0) := fun f g => ⟨by omega, fun i j _ _ _ => by omega, fun i _ _ => by omega, fun x ⟨i, a, b, _⟩ => by omega⟩
    have noK : ∀ y, ¬ MSo N (6 * 0 + 1) y := fun y ⟨⟨k, n, hm, e⟩, g⟩ => by have := mt_b h hm; omega
    have e32' : iq m3 261 32 = 0 := (f3.i (by simp) 32).trans e32
    have e26' : iq m3 261 26 = 0 := (f3.i (by simp) 26).trans e26
    refine c_lays29 (d := d + 2) (m0 := m3) h hR3 hD3 (fun m4 f4 hM4 => ?_) (wW N).toNat 0 0 0 m3 (by omega) (by omega) (f6.rf m3) ⟨⟨e32', by omega, by omega, fun t _ _ => by omega⟩, e26', by omega, ⟨by omega, fun i j _ _ _ => by omega, fun i _ _ => by omega, fun x hx => absurd hx (noK x)⟩, fun i _ _ => by omega, nil _ _, fun y y0 y1 => by rw [z3 y y0 y1, bi_0 (noK y)]⟩ (by omega)
    have hD4 := hD3.f6 f4
    have hR4 := hR3.fr f4.1 (by simp)
    refine c_lays79 (m0 := m4) h hM4 (fun m5 h5 => ?_) (Zn N).toNat 0 m4 (by omega) (by omega) (fr.rf _ _) (fun t _ _ => by omega)
    refine c_lays102 (d := d + 2) (m0 := m4) h hD4 hM4 (fun m6 h6 => ?_) (Mn N).toNat 0 m5 (by omega) (by omega) h5
    have hD6 := hD4.frm h6.1 (by simp) (by simp) (by simp) (by simp) (by simp) (by simp) (by simp)
    have hM6 := hM4.frm h6.1 (by simp) (by simp) (by simp) (by simp) (by simp) (by simp)
    have hR6 := hR4.fr h6.1 (by simp)
    have hC6 := h6.fin h
    refine c_lays192 (d := d + 2) (m0 := m6) h hR6 hD6 hM6 hC6 (fun m7 f7 h7 => ?_) (Zn N).toNat 0 m6 (by omega) (by omega) (fr.rf _ _) (fun t _ _ => by omega)
    have hD7 := hD6.frm f7 (by simp) (by simp) (by simp) (by simp) (by simp) (by simp) (by simp)
    have hM7 := hM6.frm f7 (by simp) (by simp) (by simp) (by simp) (by simp) (by simp)
    have hC7 := hC6.frm f7 (by simp) (by simp) (by simp) (by simp) (by simp) (by simp)
    refine c_layLikely (d := d + 2) h (hR6.fr f7 (by simp)) hD7 hM7 hC7 (fun m8 f8 h8 => ?_)
    have fall : fr SMR m m8 := ((((((((f0.mo (by simp)).tr (f1.mo (by simp))).tr (f2.mo (by simp))).tr (f3.mo (by simp))).tr (f4.1.mo (by simp))).tr (h6.1.mo (by simp))).tr (f7.mo (by simp))).tr (f8.mo (by simp)))
    have k61 : ∀ z, 0 ≤ z → z ≠ 26 → z ≠ 32 → iq m8 261 z = iq m1 261 z := fun z z0 z1 z2 => by
      rw [f8.i (by simp), f7.i (by simp), h6.1.i (by simp), f4.2 z z0 z1 z2, f3.i (by simp), k2 z z0 z1 z2]
    refine H0 hh m8 fall (fun z z0 z1 z2 z3 z4 z5 => ?_) ?_ ⟨hD7.frm f8 (by simp) (by simp) (by simp) (by simp) (by simp) (by simp) (by simp), hM7.frm f8 (by simp) (by simp) (by simp) (by simp) (by simp) (by simp), hC7.frm f8 (by simp) (by simp) (by simp) (by simp) (by simp) (by simp), fun t t0 t1 => ?_, h8⟩
    · rw [k61 z z0 z3 z4, k1 z z0 z2 z5, o0 z z0 z1]
    · rw [k61 20 (by omega) (by omega) (by omega), k1 20 (by omega) (by omega) (by omega), o20]
    · rw [f8.i (by simp), f8.i (by simp), f8.i (by simp)]
      exact h7 t t0 t1
  · rw [hh]
    exact ⟨fun q => by omega, fun _ => H1 hh hd⟩
end MLA
