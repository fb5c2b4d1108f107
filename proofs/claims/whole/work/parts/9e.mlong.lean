/-! the reference lays each term -/
section MLO
variable {d : Nat} {w : Nat × Nat × Nat} {b : Nat} {C : Int} {N : Int → Int} {mv : zM}
theorem DMC.frm {S : List Nat} {m m' : zM} (h : DMC N m) (f : fr S m m') (h1 : 274 ∉ S) (h2 : 275 ∉ S) (h3 : 279 ∉ S) (h4 : 280 ∉ S) (h5 : 281 ∉ S) (h6 : 282 ∉ S) : DMC N m' :=
  ⟨fun i i0 i1 => by rw [f.i h1, f.i h2]; exact h.1 i i0 i1, fun t t0 t1 => by rw [f.i h3, f.i h4, f.i h5, f.i h6]; exact h.2 t t0 t1⟩
theorem c_layTerm12 {Q : zM → Prop} {m0 : zM} {t : Int} (h : TR C mv b N) (h6 : h268 N m0) (hM : MRF N m0) (hC : DMC N m0) (ht : 0 ≤ t ∧ t < Zn N) (H : ∀ m, fr [283, 284] m0 m → (∀ s, 0 ≤ s → iq m 283 s = if s = t then lo N t else iq m0 283 s) → (∀ s, 0 ≤ s → iq m 284 s = if s = t then tkn N t else iq m0 284 s) → W_M_layTerm_59 (d + 1) (J t) (J 0) w (sq m 285 t 0) Q) :
    ∀ (j : Nat) (s : Int) (m : zM), 0 ≤ s → s + j = Zn N → fr [283, 284] m0 m → (∀ x, 0 ≤ x → iq m 283 x = if x = t then cnt (fun y => hol N t y) s.toNat else iq m0 283 x) → (∀ x, 0 ≤ x → iq m 284 x = if x = t then sm (fun y => bi (hol N t y) * ct N y) s.toNat else iq m0 284 x) → W_M_layTerm_12 (d + 1) (J t) (J s) w m Q := by
  have hMb := Mn_b h
  have hZb := Zn_b h
  obtain ⟨x1, x2, x3, x4, x5, x6⟩ := hM.tlr h ht.1 ht.2
  intro j
  induction j with
  | zero =>
    intro s m s0 hj f h1 h2
    have e32 : iq m 261 32 = Zn N := (f.i (by simp) 32).trans hM.2.1
    refine S_M_layTerm_12 ?_
    simp (disch := first | (unfold r32; omega) | omega) only [j_lit, vp_J, J_cl, j_rd, j_nc, e32, J_le, j_wr, sq_tn]
    rw [show s = Zn N by omega] at h1 h2
    exact ⟨fun _ => ⟨by omega, H m f h1 h2⟩, fun q => by omega⟩
  | succ j ih =>
    intro s m s0 hj f h1 h2
    have hMm := hM.frm f (by simp) (by simp) (by simp) (by simp) (by simp) (by simp)
    have e32 := hMm.2.1
    have e78 := (hMm.tlr h ht.1 ht.2).1
    obtain ⟨y1, y2, y3, y4, y5, y6⟩ := hMm.tlr h s0 (by omega : s < Zn N)
    have e79 : iq m 279 s = ct N s := (f.i (by simp) s).trans (hC.2 s s0 (by omega)).1
    have g1 := h1 t ht.1
    have g2 := h2 t ht.1
    rw [if_pos rfl] at g1 g2
    have cb := cnt_b (fun y => hol N t y) s.toNat
    have tb := tks_b h t (t := s) s0 (by omega)
    have cc := ct_b h s0 (by omega : s < Zn N)
    refine S_M_layTerm_12 ?_
    have no : ¬ hol N t s → W_M_layTerm_12 (d + 1) (J t) (J (s + 1)) w m Q := fun g => ih (s + 1) m (by omega) (by omega) f (fun x x0 => by
      rw [h1 x x0, cnt_z _ s0, bi_0 g]
      by_cases z : x = t
      · rw [if_pos z, if_pos z]; omega
      · rw [if_neg z, if_neg z]) (fun x x0 => by
      rw [h2 x x0, sm_z _ s0, bi_0 g]
      by_cases z : x = t
      · rw [if_pos z, if_pos z]; omega
      · rw [if_neg z, if_neg z])
    simp (disch := first | (unfold r32; omega) | omega) only [j_lit, vp_J, J_cl, j_rd, iq_tn, j_nc, e32, J_le, e78, y1, j_ops]
    refine ⟨fun q => by omega, fun _ => ⟨by omega, by omega, fun q => no (fun z => by have := z.1; omega), fun q => c_M_isInRow (d := d) h (fun i i0 i1 => by rw [f.l (by simp)]; exact h6 i i0 i1) hMm ht ⟨s0, by omega⟩ (by omega) (fun g => ?_) (fun g => ?_)⟩⟩
    · have e84 : iq (sq m 283 t (iq m 283 t + 1)) 284 t = iq m 284 t := iq_ne (by omega) (by omega) (by omega)
      simp (disch := first | (unfold r32; omega) | omega) only [j_lit, vp_J, J_cl, j_rd, iq_tn, J_eq, j_ops, j_wr, sq_tn, e79]
      refine ⟨fun _ => ⟨by omega, by omega, by omega, by omega, by omega, ih (s + 1) _ (by omega) (by omega) ((f.si (by simp) _ _).si (by simp) _ _) (fun x x0 => ?_) (fun x x0 => ?_)⟩, fun y => by omega⟩
      · rw [iq_ne (by omega) (by omega) x0, cnt_z _ s0, bi_1 g]
        by_cases z : x = t
        · rw [if_pos z, z, iq_eq (by unfold r32; omega), g1]
        · rw [if_neg z, iq_ne (Or.inr z) (by omega) x0, h1 x x0, if_neg z]
      · rw [sm_z _ s0, bi_1 g, Int.one_mul]
        by_cases z : x = t
        · rw [if_pos z, z, iq_eq (by unfold r32; omega), g2]
        · rw [if_neg z, iq_ne (Or.inr z) (by omega) x0, iq_ne (by omega) (by omega) x0, h2 x x0, if_neg z]
    · simp (disch := first | (unfold r32; omega) | omega) only [j_lit, J_eq]
      exact ⟨fun y => absurd trivial y, fun _ => no g⟩
theorem c_layTerm {Q : zM → Prop} {m0 : zM} {t : Int} (h : TR C mv b N) (hR : rowM m0 N) (hD : DMB m0 N) (hM : MRF N m0) (hC : DMC N m0) (ht : 0 ≤ t ∧ t < Zn N) (H : ∀ m, fr [283, 284, 285] m0 m → (∀ s, 0 ≤ s → s ≠ t → iq m 283 s = iq m0 283 s ∧ iq m 284 s = iq m0 284 s ∧ iq m 285 s = iq m0 285 s) → iq m 283 t = lo N t ∧ iq m 284 t = tkn N t ∧ iq m 285 t = gn N t → Q m) : cV (d + 2) 242 [.ref 261, .int (J t)] w m0 Q := by
  have hMb := Mn_b h
  have hZb := Zn_b h
  have hG1 := h.2.2.2.2.1.1
  refine S_M_layTerm ?_
  simp (disch := first | (unfold r32; omega) | omega) only [j_lit, vp_J, J_cl, j_wr, sq_tn]
  refine ⟨by omega, by omega, ?_⟩
  have f0 : fr [283, 284] m0 (sq (sq m0 283 t 0) 284 t 0) := ((fr.rf _ m0).si (by simp) _ _).si (by simp) _ _
  refine c_layTerm12 (d := d) (m0 := m0) h (fun i i0 i1 => (hD.2.2.1 i i0 i1).1) hM hC ht (fun m1 f1 h1 h2 => ?_) (Zn N).toNat 0 _ (by omega) (by omega) f0 (fun x x0 => ?_) (fun x x0 => ?_)
  · have f2 : fr [283, 284, 285] m0 (sq m1 285 t 0) := (f1.mo (by simp)).si (by simp) _ _
    have hR2 := hR.fr f2 (by simp)
    have hD2 := hD.frm f2 (by simp) (by simp) (by simp) (by simp) (by simp) (by simp) (by simp)
    have hM2 := hM.frm f2 (by simp) (by simp) (by simp) (by simp) (by simp) (by simp)
    refine c_layTerm59 h hR2 hD2 hM2 ht (fun m3 f3 h3 => ?_) (N 1069).toNat 0 _ (by omega) (by omega) (fr.rf _ _) (fun s s0 => ?_)
    · have e1 := h1 t ht.1
      have e2 := h2 t ht.1
      have e3 := h3 t ht.1
      rw [if_pos rfl] at e1 e2 e3
      refine H m3 (f2.tr (f3.mo (by simp))) (fun s s0 s1 => ?_) ⟨?_, ?_, e3⟩
      · have q1 := h1 s s0
        have q2 := h2 s s0
        have q3 := h3 s s0
        rw [if_neg s1] at q1 q2 q3
        rw [f3.i (by simp), f3.i (by simp), q3, iq_ne (by omega) (by omega) s0, iq_ne (by omega) (by omega) s0, iq_ne (Or.inr s1) (by omega) s0, q1, q2, f1.i (by simp)]
        exact ⟨rfl, rfl, rfl⟩
      · rw [f3.i (by simp), iq_ne (by omega) (by omega) ht.1]; exact e1
      · rw [f3.i (by simp), iq_ne (by omega) (by omega) ht.1]; exact e2
    · by_cases z : s = t
      · rw [if_pos z, z, iq_eq (by unfold r32; omega)]; rfl
      · rw [if_neg z]
  · rw [iq_ne (by omega) (by omega) x0]
    by_cases z : x = t
    · rw [if_pos z, z, iq_eq (by unfold r32; omega)]; rfl
    · rw [if_neg z, iq_ne (Or.inr z) (by omega) x0]
  · by_cases z : x = t
    · rw [if_pos z, z, iq_eq (by unfold r32; omega)]; rfl
    · rw [if_neg z, iq_ne (Or.inr z) (by omega) x0, iq_ne (by omega) (by omega) x0]
theorem c_lays192 {Q : zM → Prop} {m0 : zM} (h : TR C mv b N) (hR : rowM m0 N) (hD : DMB m0 N) (hM : MRF N m0) (hC : DMC N m0) (H : ∀ m, fr [283, 284, 285] m0 m → DML N m (Zn N) → cV (d + 2) 244 [.ref 261] w m (fun m1 => Q m1)) :
    ∀ (j : Nat) (t : Int) (m : zM), 0 ≤ t → t + j = Zn N → fr [283, 284, 285] m0 m → DML N m t → W_M_lays_192 (d + 2) (J t) w m Q := by
  have hMb := Mn_b h
  have hZb := Zn_b h
  intro j
  induction j with
  | zero =>
    intro t m t0 hj f hL
    have e32 : iq m 261 32 = Zn N := (f.i (by simp) 32).trans hM.2.1
    refine S_M_lays_192 ?_
    simp (disch := first | (unfold r32; omega) | omega) only [j_lit, j_rd, j_nc, e32, J_le]
    rw [show t = Zn N by omega] at hL
    exact ⟨fun _ => H m f hL, fun q => by omega⟩
  | succ j ih =>
    intro t m t0 hj f hL
    have e32 : iq m 261 32 = Zn N := (f.i (by simp) 32).trans hM.2.1
    refine S_M_lays_192 ?_
    simp (disch := first | (unfold r32; omega) | omega) only [j_lit, j_rd, j_nc, e32, J_le]
    refine ⟨fun q => by omega, fun _ => c_layTerm (d := d) h (hR.fr f (by simp)) (hD.frm f (by simp) (by simp) (by simp) (by simp) (by simp) (by simp) (by simp)) (hM.frm f (by simp) (by simp) (by simp) (by simp) (by simp) (by simp)) (hC.frm f (by simp) (by simp) (by simp) (by simp) (by simp) (by simp)) ⟨t0, by omega⟩ (fun m1 f1 h1 h2 => ?_)⟩
    simp only [j_ops]
    refine ih (t + 1) m1 (by omega) (by omega) (f.tr f1) (fun s s0 s1 => ?_)
    by_cases z : s = t
    · rw [z]; exact h2
    · obtain ⟨q1, q2, q3⟩ := h1 s s0 z
      rw [q1, q2, q3]
      exact hL s s0 (by omega)
end MLO
