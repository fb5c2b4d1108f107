/-! head: the reference, both -/
def HI (N : Int → Int) (m0 m : zM) (t : Int) : Prop := fr [298, 299, 300] m0 m ∧ ∀ x, 0 ≤ x → x < eK (BS N) → iq m 298 x = hk N x t.toNat ∧ (0 < hk N x t.toNat → iq m 299 x = hgk N x t.toNat ∧ fsT N x t (iq m 300 x))
section QH2
variable {d : Nat} {w : Nat × Nat × Nat} {C : Int} {N : Int → Int} {mv : zM} {b : Nat}
theorem hgk_b (h : TR C mv b N) (x : Int) {t : Int} (t0 : 0 ≤ t) (t1 : t ≤ Zn N) : 0 ≤ hgk N x t.toNat ∧ hgk N x t.toNat ≤ t * 240 := by
  have key : ∀ k : Int, 0 ≤ k → k < t.toNat → 0 ≤ bi (lst N k = x) * ct N k ∧ bi (lst N k = x) * ct N k ≤ 240 := fun k k0 k1 => by
    have c := ct_b h k0 (by omega : k < Zn N)
    by_cases g : lst N k = x
    · rw [bi_1 g, Int.one_mul]; omega
    · rw [bi_0 g, Int.zero_mul]; omega
  have e0 : sm (fun _ => (0 : Int)) t.toNat ≤ hgk N x t.toNat := sm_le _ (fun k k0 k1 => (key k k0 k1).1)
  have e1 : hgk N x t.toNat ≤ sm (fun _ => (240 : Int)) t.toNat := sm_le _ (fun k k0 k1 => (key k k0 k1).2)
  rw [sm_const] at e0 e1
  omega
theorem c_Mhead51 {Q : Int32 → zM → Prop} {m0 m m' : zM} {g c t : Int} (h : TR C mv b N) (hC : DMC N m0) (t0 : 0 ≤ t) (t1 : t < Zn N) (hI : HI N m0 m t) (f : fr [299, 300] m m') (k : ∀ x, 0 ≤ x → x ≠ lst N t → iq m' 299 x = iq m 299 x ∧ iq m' 300 x = iq m 300 x) (k1 : hk N (lst N t) t.toNat = 0 → iq m' 299 (lst N t) = 0 ∧ iq m' 300 (lst N t) = t) (k2 : hk N (lst N t) t.toNat ≠ 0 → iq m' 299 (lst N t) = iq m 299 (lst N t) ∧ iq m' 300 (lst N t) = iq m 300 (lst N t)) (H : ∀ m2, HI N m0 m2 (t + 1) → W_M_head__17 d (J g) (J c) (J (t + 1)) w m2 Q) : W_M_head__51 d (J g) (J c) (J t) (J (lst N t)) w m' Q := by
  have hMb := Mn_b h
  have hZ := Zn_b h
  have hBk := BS_k h
  have hW := h.words
  have hl := lst_b h t0 t1
  obtain ⟨f0, hx⟩ := hI
  have e79 : iq m' 279 t = ct N t := (f.i (by simp) t).trans ((f0.i (by simp) t).trans (hC.2 t t0 t1).1)
  have e98 : iq m' 298 (lst N t) = hk N (lst N t) t.toNat := (f.i (by simp) _).trans (hx _ hl.1 hl.2).1
  have hb := hk_b h (lst N t) (Int.le_of_lt t1) t0
  have gb := hgk_b h (lst N t) t0 (Int.le_of_lt t1)
  have cc := ct_b h t0 t1
  have st : ∀ x, hk N x (t + 1).toNat = hk N x t.toNat + bi (lst N t = x) := fun x => cnt_z _ t0
  have sg : ∀ x, hgk N x (t + 1).toNat = hgk N x t.toNat + bi (lst N t = x) * ct N t := fun x => sm_z _ t0
  refine S_M_head__51 ?_
  have r299 : iq (sq m' 298 (lst N t) (hk N (lst N t) t.toNat + 1)) 299 (lst N t) = iq m' 299 (lst N t) := iq_ne (by omega) (by omega) (by omega)
  simp (disch := first | (unfold r32; omega) | omega) only [j_lit, j_ops, vp_J, J_cl, j_rd, iq_tn, e79, e98, j_wr, sq_tn]
  refine ⟨by omega, by omega, by omega, by omega, by omega, H _ ⟨f0.tr (((f.mo (by simp)).si (by simp) _ _).si (by simp) _ _), fun x x0 x1 => ?_⟩⟩
  have e9 : iq m' 299 (lst N t) = hgk N (lst N t) t.toNat ∧ (hk N (lst N t) t.toNat = 0 → iq m' 300 (lst N t) = t) ∧ (hk N (lst N t) t.toNat ≠ 0 → fsT N (lst N t) t (iq m' 300 (lst N t))) := by
    by_cases q : hk N (lst N t) t.toNat = 0
    · obtain ⟨y1, y2⟩ := k1 q
      refine ⟨?_, fun _ => y2, fun y => absurd q y⟩
      rw [y1]
      refine (sm_zero (f := fun s => bi (lst N s = lst N t) * ct N s) _ (fun s s0 s1 => ?_)).symm
      show bi (lst N s = lst N t) * ct N s = 0
      by_cases e : lst N s = lst N t
      · have := cnt_pos (P := fun s => lst N s = lst N t) s0 e t.toNat s1
        have q' : cnt (fun s => lst N s = lst N t) t.toNat = 0 := q
        omega
      · rw [bi_0 e, Int.zero_mul]
    · obtain ⟨y1, y2⟩ := k2 q
      obtain ⟨z1, z2⟩ := (hx _ hl.1 hl.2).2 (by omega)
      exact ⟨y1.trans z1, fun y => absurd y q, fun _ => by rw [y2]; exact z2⟩
  rw [st x, sg x]
  by_cases q : x = lst N t
  · rw [q, bi_1 rfl, Int.one_mul]
    refine ⟨?_, fun _ => ⟨?_, ?_⟩⟩
    · rw [iq_ne (by omega) (by omega) (by omega)]
      exact iq_eq (by unfold r32; omega)
    · rw [← e9.1]
      exact iq_eq (by rw [e9.1]; unfold r32; omega)
    · rw [iq_ne (by omega) (by omega) (by omega), iq_ne (by omega) (by omega) (by omega)]
      by_cases y : hk N (lst N t) t.toNat = 0
      · rw [e9.2.1 y]
        refine ⟨t0, by omega, rfl, fun s s0 s1 e => ?_⟩
        have := cnt_pos (P := fun s => lst N s = lst N t) s0 e t.toNat (by omega)
        have q' : cnt (fun s => lst N s = lst N t) t.toNat = 0 := y
        omega
      · obtain ⟨w1, w2, w3, w4⟩ := e9.2.2 y
        exact ⟨w1, by omega, w3, w4⟩
  · rw [bi_0 (fun y => q y.symm), Int.zero_mul, Int.add_zero, Int.add_zero]
    obtain ⟨y1, y2⟩ := hx x x0 x1
    obtain ⟨p1, p2⟩ := k x x0 q
    refine ⟨?_, fun y => ?_⟩
    · rw [iq_ne (by omega) (by omega) x0, iq_ne (Or.inr q) (by omega) x0, f.i (by simp)]; exact y1
    · obtain ⟨z1, z2, z3, z4, z5⟩ := y2 y
      rw [iq_ne (Or.inr q) (by omega) x0, iq_ne (by omega) (by omega) x0, iq_ne (by omega) (by omega) x0, iq_ne (by omega) (by omega) x0, p1, p2]
      exact ⟨z1, z2, by omega, z4, z5⟩
theorem c_M_headQ {Q : Int32 → zM → Prop} {m : zM} {g c : Int} (rg : r32 g) (rc : r32 c) (hI : IVN C w m N) (H : ∀ m' v, IVN C w m' N → HQ N g c v → Q (J v) m') : cI (d + 6) 281 [.ref 261, .int (J g), .int (J c)] w m Q := by
  refine S_M_head_ (c_Llays (d := d) hI (fun m1 hI1 _ hd h3 => ?_))
  have hT := hI1.2.2.2.2.1
  have hMb := Mn_b hT
  have hZ := Zn_b hT
  have hBk := BS_k hT
  have hW := hT.words
  have hK0 := eK_0 (BS_b hT)
  have e43 := hd.1.2.1
  have e32 := hd.2.1.2.1
  have k76 : ∀ m2, HI N m1 m2 (Zn N) → W_M_head__76 (d + 5) (J g) (J c) (J 0) (J 0) w m2 Q := by
    intro m2 h2
    have hI2 : IVN C w m2 N := (hI1.ba.fq h2.1 (by intro c hc; simp at hc; omega)).n (hI1.2.2.2.2.2.1.mv (h2.1 6 (by simp)).1 (h2.1 7 (by simp)).1 (h2.1 294 (by simp)).1 (h2.1.i (by simp) 54))
    have e43' : iq m2 261 43 = eK (BS N) := (h2.1.i (by simp) 43).trans e43
    have key : ∀ (z : Nat) (x : Int), 0 ≤ x → x + z = eK (BS N) → (0 ≤ g → cnt (fun x => 0 < hk N x (Zn N).toNat) x.toNat ≤ g) → W_M_head__76 (d + 5) (J g) (J c) (J (cnt (fun x => 0 < hk N x (Zn N).toNat) x.toNat)) (J x) w m2 Q := by
      intro z
      induction z with
      | zero =>
        intro x x0 hz hg
        refine S_M_head__76 ?_
        simp (disch := first | exact rg | (unfold r32; omega) | omega) only [j_lit, j_ops, j_rd, j_nc, e43', J_le, J_eq]
        have ex : (eK (BS N)).toNat = x.toNat := by omega
        refine ⟨fun _ => ⟨fun q => H m2 (-1) hI2 ?_, fun q => H m2 _ hI2 ?_⟩, fun q => by omega⟩
        · unfold HQ
          rw [if_neg q]
          refine ⟨-1, Or.inr ⟨rfl, ?_⟩, Or.inl ⟨rfl, rfl⟩⟩
          rcases Int.lt_or_le g 0 with y | y
          · exact Or.inl y
          · exact Or.inr (by rw [ex]; exact hg y)
        · unfold HQ
          rw [if_pos q]
          show _ = cnt (fun x => 0 < hk N x (Zn N).toNat) (eK (BS N)).toNat
          rw [ex]
      | succ z ih =>
        intro x x0 hz hg
        have cb := cnt_b (fun x => 0 < hk N x (Zn N).toNat) x.toNat
        obtain ⟨y1, y2⟩ := h2.2 x x0 (by omega)
        have hb := hk_b hT x (Int.le_refl (Zn N)) hZ.1
        refine S_M_head__76 ?_
        simp (disch := first | exact rg | exact rc | (unfold r32; omega) | omega) only [j_lit, j_ops, vp_J, J_cl, iq_tn, j_rd, j_nc, e43', J_le, J_eq, y1]
        refine ⟨fun q => by omega, fun _ => ⟨by omega, fun q => ⟨fun q2 => ?_, fun q2 => ?_⟩, fun q => ?_⟩⟩
        · have e : cnt (fun x => 0 < hk N x (Zn N).toNat) (x + 1).toNat = cnt (fun x => 0 < hk N x (Zn N).toNat) x.toNat + 1 := by rw [cnt_z _ x0, bi_1 (by omega)]
          have := ih (x + 1) (by omega) (by omega) (fun z => by rw [e]; have := hg z; omega)
          rw [e] at this
          exact this
        · obtain ⟨p1, p2⟩ := y2 (by omega)
          have fin : ∀ v, HA N x c v → Q (J v) m2 := fun v hv => H m2 v hI2 (by
            unfold HQ
            rw [if_neg (by omega)]
            exact ⟨x, Or.inl ⟨x0, by omega, by show 0 < hk N x (Zn N).toNat; omega, q2⟩, Or.inr ⟨x0, hv⟩⟩)
          refine ⟨fun c0 => ⟨fun c1 => ⟨fun c2 => fin _ ?_, fun c2 => ⟨by omega, fin _ ?_⟩⟩, fun c1 => ⟨by omega, fin _ ?_⟩⟩, fun c0 => ⟨by omega, fin _ ?_⟩⟩
          · unfold HA; rw [if_neg c0, if_neg c1, if_neg c2]
          · unfold HA; rw [if_neg c0, if_neg c1, if_pos c2]; exact p2
          · unfold HA; rw [if_neg c0, if_pos c1]; exact p1
          · unfold HA; rw [if_pos c0]
        · have e : cnt (fun x => 0 < hk N x (Zn N).toNat) (x + 1).toNat = cnt (fun x => 0 < hk N x (Zn N).toNat) x.toNat := by rw [cnt_z _ x0, bi_0 (by omega)]; omega
          have := ih (x + 1) (by omega) (by omega) (fun z => by rw [e]; exact hg z)
          rw [e] at this
          exact this
    have := key (eK (BS N)).toNat 0 (by omega) (by omega) (fun z => z)
    exact this
  have k17 : ∀ (z : Nat) (t : Int) (m2 : zM), 0 ≤ t → t + z = Zn N → HI N m1 m2 t → W_M_head__17 (d + 5) (J g) (J c) (J t) w m2 Q := by
    intro z
    induction z with
    | zero =>
      intro t m2 t0 hz h2
      have e32' : iq m2 261 32 = Zn N := (h2.1.i (by simp) 32).trans e32
      refine S_M_head__17 ?_
      simp (disch := first | (unfold r32; omega) | omega) only [j_lit, j_ops, j_rd, j_nc, e32', J_le]
      rw [show t = Zn N by omega] at h2
      exact ⟨fun _ => k76 m2 h2, fun q => by omega⟩
    | succ z ih =>
      intro t m2 t0 hz h2
      have t1 : t < Zn N := by omega
      have e32' : iq m2 261 32 = Zn N := (h2.1.i (by simp) 32).trans e32
      obtain ⟨x1, x2, x3, x4, x5, x6⟩ := hd.2.1.tlr hT t0 t1
      have e77 : iq m2 277 t = iq m1 277 t := h2.1.i (by simp) t
      have e78 : iq m2 278 t = tl N t := (h2.1.i (by simp) t).trans x1
      have el := lst_r hT t0 t1 ⟨x2, x3⟩ x6
      have e87 : iq m2 287 (iq m1 277 t + tl N t - 1) = lst N t := by
        rw [h2.1.i (by simp), (hd.1.2.2.1 (iq m1 277 t + tl N t - 1) (by omega) (by omega)).2.2.2.2.2, el]
      have hl := lst_b hT t0 t1
      have hb := hk_b hT (lst N t) (Int.le_of_lt t1) t0
      have e98 := (h2.2 (lst N t) hl.1 hl.2).1
      refine S_M_head__17 ?_
      simp (disch := first | (unfold r32; omega) | omega) only [j_lit, j_ops, vp_J, J_cl, iq_tn, j_rd, j_nc, e32', J_le, J_eq, e77, e78, e87, e98, j_wr, sq_tn]
      refine ⟨fun q => by omega, fun _ => ⟨by omega, by omega, by omega, by omega, fun q => ?_, fun q => ⟨by omega, by omega, ?_⟩⟩⟩
      · exact c_Mhead51 hT hd.2.2.1 t0 t1 h2 (fr.rf _ m2) (fun _ _ _ => ⟨rfl, rfl⟩) (fun y => absurd y q) (fun _ => ⟨rfl, rfl⟩) (fun m3 h3 => ih (t + 1) m3 (by omega) (by omega) h3)
      · exact c_Mhead51 hT hd.2.2.1 t0 t1 h2 (((fr.rf _ m2).si (by simp) _ _).si (by simp) _ _) (fun x x0 x1 => ⟨by rw [iq_ne (by omega) (by omega) x0, iq_ne (Or.inr x1) (by omega) x0], by rw [iq_ne (Or.inr x1) (by omega) x0, iq_ne (by omega) (by omega) x0]⟩) (fun _ => ⟨by rw [iq_ne (by omega) (by omega) (by omega)]; exact iq_eq (by unfold r32; omega), iq_eq (by unfold r32; omega)⟩) (fun y => absurd q y) (fun m3 h3 => ih (t + 1) m3 (by omega) (by omega) h3)
  have k4 : ∀ (z : Nat) (x : Int) (m2 : zM), 0 ≤ x → x + z = eK (BS N) → fr [298, 299, 300] m1 m2 → (∀ y, 0 ≤ y → y < x → iq m2 298 y = 0) → W_M_head__4 (d + 5) (J g) (J c) (J x) w m2 Q := by
    intro z
    induction z with
    | zero =>
      intro x m2 x0 hz f hx
      have e43' : iq m2 261 43 = eK (BS N) := (f.i (by simp) 43).trans e43
      refine S_M_head__4 ?_
      simp (disch := first | (unfold r32; omega) | omega) only [j_lit, j_ops, j_rd, j_nc, e43', J_le]
      refine ⟨fun _ => k17 (Zn N).toNat 0 m2 (by omega) (by omega) ⟨f, fun y y0 y1 => ⟨hx y y0 (by omega), fun q => ?_⟩⟩, fun q => by omega⟩
      have e : hk N y 0 = 0 := rfl
      have q' : 0 < hk N y 0 := q
      omega
    | succ z ih =>
      intro x m2 x0 hz f hx
      have e43' : iq m2 261 43 = eK (BS N) := (f.i (by simp) 43).trans e43
      refine S_M_head__4 ?_
      simp (disch := first | (unfold r32; omega) | omega) only [j_lit, j_ops, vp_J, J_cl, j_rd, j_nc, e43', J_le, j_wr, sq_tn]
      refine ⟨fun q => by omega, fun _ => ⟨by omega, ih (x + 1) _ (by omega) (by omega) (f.si (by simp) _ _) (fun y y0 y1 => ?_)⟩⟩
      by_cases q : y = x
      · rw [q]; exact iq_eq (by unfold r32; omega)
      · rw [iq_ne (Or.inr q) (by omega) y0]; exact hx y y0 (by omega)
  exact k4 (eK (BS N)).toNat 0 m1 (by omega) (by omega) (fr.rf _ _) (fun y _ _ => by omega)
theorem p_head {P : Int32 → Int32 → zM → Prop} {m : zM} {g c : Int} (rg : r32 g) (rc : r32 c) (hI : IV C w m) (H : ∀ v m', IV C w m' → P v v m') : cI (d + 9) 141 [.ref 3, .int (J g), .int (J c)] w m (fun x m1 => cI (d + 9) 281 [.ref 261, .int (J g), .int (J c)] w m1 (fun y m2 => P x y m2)) := by
  obtain ⟨N, hI⟩ := hI
  exact c_headQ rg rc hI (fun m1 v hI1 hv => c_M_headQ (d := d + 3) rg rc hI1 (fun m2 v' hI2 hv' => by rw [hv.uniq hv']; exact H _ m2 ⟨N, hI2⟩))
end QH2
