/-! around: both sides -/
def s67 (m m' : zM) : Prop := m'.1 6 = m.1 6 ∧ m'.1 7 = m.1 7
section QA2
variable {d : Nat} {w : Nat × Nat × Nat} {C : Int} {N : Int → Int} {mv : zM} {b : Nat}
theorem s67.slc {m m' : zM} {L : List Int} (h : s67 m m') (s : SLC m L) : SLC m' L := by
  unfold SLC iq
  rw [h.1, h.2]
  exact s
theorem IVB.fq {S : List Nat} {m m' : zM} (h : IVB C w m N) (f : fr S m m') (hs : ∀ c ∈ S, c = 6 ∨ c = 7 ∨ c = 253 ∨ c = 254 ∨ 289 ≤ c) : IVB C w m' N := by
  obtain ⟨h1, h2, h3, h4, h5, h7, h8⟩ := id h
  have no : ∀ c, ¬ (c = 6 ∨ c = 7 ∨ c = 253 ∨ c = 254 ∨ 289 ≤ c) → c ∉ S := fun c g q => g (hs c q)
  have i3 : ∀ z, iq m' 3 z = iq m 3 z := f.i (no 3 (by omega))
  have i61 : ∀ z, iq m' 261 z = iq m 261 z := f.i (no 261 (by omega))
  obtain ⟨r1, r2, r3, r4, r5⟩ := QR.base (N := N) h.zT h1 h2 h3 h4 h5 ⟨fun c c1 c2 c3 c4 => f c (no c (by omega)), fun c hc => f c (no c (by omega)), fun z _ _ => i3 z, fun z _ _ _ => i61 z⟩
  refine ⟨r1, r2, r3, r4, r5, ?_, ?_⟩
  · rcases h7 with g | ⟨g, g1, g2⟩
    · exact Or.inl ((i3 14).trans g)
    · exact Or.inr ⟨(i3 14).trans g, g1.frm f (fun c hc => by have := hs c hc; omega), g2.frm f (no 255 (by omega)) (no 260 (by omega))⟩
  · rcases h8 with g | ⟨g, g1⟩
    · exact Or.inl ((i61 20).trans g)
    · exact Or.inr ⟨(i61 20).trans g, g1.mvd f (fun c hc => by have := hs c hc; omega) (fun z _ => i61 z)⟩
theorem c_B_isTerm {Q : Int32 → zM → Prop} {m : zM} {t : Int} (rt : r32 t) (hI : IVB C w m N) (H1 : ∀ m', IVB C w m' N → DM m' N → iq m' 261 20 = 1 → s67 m m' → m'.1 294 = m.1 294 → iq m' 261 54 = iq m 261 54 → 0 ≤ t ∧ t < Zn N → Q (J 1) m') (H0 : ∀ m', IVB C w m' N → DM m' N → iq m' 261 20 = 1 → s67 m m' → m'.1 294 = m.1 294 → iq m' 261 54 = iq m 261 54 → ¬ (0 ≤ t ∧ t < Zn N) → Q (J 0) m') : cI (d + 6) 256 [.ref 261, .int (J t)] w m Q := by
  refine S_M_isTerm (c_Blays (d := d) hI (fun m1 hI1 g hd cell e54 => ?_))
  have hT := hI1.2.2.2.2.1
  have hM := Mn_b hT
  have hZ := Zn_b hT
  have e32 := hd.2.1.2.1
  have s : s67 m m1 := ⟨(cell 6 (by omega)).1, (cell 7 (by omega)).1⟩
  have s94 := (cell 294 (by omega)).1
  simp (disch := first | exact rt | (unfold r32; omega) | omega) only [j_lit, jl_lit, j_rd, j_nc, e32, j_ops, J_64]
  refine c_isIn (r64_32 rt) (by unfold r64; omega) (by unfold r64; omega) ?_
  by_cases hin : 0 ≤ t ∧ t ≤ Zn N - 1
  · rw [if_pos hin]
    exact ⟨Or.inr rfl, H1 m1 hI1 hd g s s94 e54 (by omega)⟩
  · rw [if_neg hin]
    exact ⟨Or.inl rfl, H0 m1 hI1 hd g s s94 e54 (by omega)⟩
theorem c_M_aroundQ {Q : Int32 → zM → Prop} {m : zM} {t i v0 : Int} {L : List Int} (rt : r32 t) (ri : r32 i) (hI : IVB C w m N) (hin : 0 ≤ t ∧ t < Zn N) (hi : 0 ≤ i) (hv0 : NT (fun x => 0 < tm N t x) (eK (BS N)) i v0) (hL : 0 ≤ v0 → wd L ∧ eU (BS N) v0 = eM L) (H1 : v0 = -1 → ∀ m', IVB C w m' N → s67 m m' → m'.1 294 = m.1 294 → iq m' 261 54 = iq m 261 54 → Q (J (-1)) m') (H2 : 0 ≤ v0 → ∀ m', IVB C w m' N → s67 m m' → SLM m' (sp L) → Q (J (tm N t v0)) m') : cI (d + 7) 279 [.ref 261, .int (J t), .int (J i)] w m Q := by
  refine S_M_around (c_B_isTerm (d := d) rt hI (fun m1 hI1 hd g s s94 e54 _ => ?_) (fun m1 hI1 hd g s s94 e54 no => absurd hin no))
  have hT := hI1.2.2.2.2.1
  have hR := hI1.2.2.2.1
  have hM := Mn_b hT
  have hZ := Zn_b hT
  have hBk := BS_k hT
  have hW := hT.words
  have hK0 := eK_0 (BS_b hT)
  simp (disch := first | exact ri | (unfold r32; omega) | omega) only [j_lit, j_ops, J_eq, J_le]
  refine ⟨fun y => by first | omega | exact absurd y (by simp), fun _ => ⟨fun _ => c_surrounds (d := d + 5) hT hR hd.1 hd.2.1 hd.2.2.1 hin (fun m2 f2 h2 => ?_), fun q => absurd hi q⟩⟩
  have hI2 := hI1.fq f2 (by intro c hc; simp at hc; omega)
  have e43 : iq m2 261 43 = eK (BS N) := (f2.i (by simp) 43).trans hd.1.2.1
  have s2 : s67 m m2 := ⟨(f2 6 (by simp)).1.trans s.1, (f2 7 (by simp)).1.trans s.2⟩
  have key : ∀ (j : Nat) (x : Int), 0 ≤ x → x + j = eK (BS N) → cnt (fun x => 0 < tm N t x) x.toNat ≤ i → W_M_around_15 (d + 6) (J (i - cnt (fun x => 0 < tm N t x) x.toNat)) (J x) w m2 Q := by
    intro j
    induction j with
    | zero =>
      intro x x0 hj hI'
      refine S_M_around_15 ?_
      simp (disch := first | (unfold r32; omega) | omega) only [j_lit, j_ops, j_rd, j_nc, e43, J_le]
      refine ⟨fun _ => H1 ?_ m2 hI2 s2 ((f2 294 (by simp)).1.trans s94) ((f2.i (by simp) 54).trans e54), fun q => by omega⟩
      have : NT (fun x => 0 < tm N t x) (eK (BS N)) i (-1) := Or.inr ⟨rfl, Or.inr (by rw [show (eK (BS N)).toNat = x.toNat by omega]; exact hI')⟩
      exact hv0.uniq this
    | succ j ih =>
      intro x x0 hj hI'
      have cb := cnt_b (fun x => 0 < tm N t x) x.toNat
      have e89 := h2 x x0 (by omega)
      have tb : 0 ≤ tm N t x ∧ tm N t x ≤ (Mn N).toNat * 6 := tmk_b hT t x (Mn N).toNat
      have e86 : lq m2 286 x = eU (BS N) x := (f2.l (by simp) x).trans (hd.1.2.2.2.1 x x0 (by omega))
      refine S_M_around_15 ?_
      unfold r32 at ri
      simp (disch := first | (unfold r32; omega) | omega) only [j_lit, j_ops, vp_J, J_cl, j_rd, iq_tn, j_nc, e43, e89, J_le, J_eq, jl_rd, lq_tn, e86, j_wr]
      refine ⟨fun q => by omega, fun _ => ⟨by omega, fun q => ⟨fun q2 => ?_, fun q2 => ⟨by omega, ?_⟩⟩, fun q => ?_⟩⟩
      · have e : cnt (fun x => 0 < tm N t x) (x + 1).toNat = cnt (fun x => 0 < tm N t x) x.toNat + 1 := by rw [cnt_z _ x0, bi_1 (by omega)]
        have := ih (x + 1) (by omega) (by omega) (by rw [e]; omega)
        rw [e, show i - (cnt (fun x => 0 < tm N t x) x.toNat + 1) = i - cnt (fun x => 0 < tm N t x) x.toNat + -1 by omega] at this
        exact this
      · have ev : v0 = x := hv0.uniq (Or.inl ⟨x0, by omega, by show 0 < tm N t x; omega, by omega⟩)
        obtain ⟨l1, l2⟩ := hL (by omega)
        rw [← ev, l2]
        refine c_M_slateW (d := d + 5) l1 (fun m3 f3 s3 => ?_)
        have e89' : iq m3 289 x = tm N t x := (f3.1.i (by simp) x).trans e89
        rw [ev, e89']
        refine ⟨by omega, ?_⟩
        have := H2 (by omega) m3 (hI2.fm f3) ⟨(f3.1 6 (by simp)).1.trans s2.1, (f3.1 7 (by simp)).1.trans s2.2⟩ s3
        rw [ev] at this
        exact this
      · have e : cnt (fun x => 0 < tm N t x) (x + 1).toNat = cnt (fun x => 0 < tm N t x) x.toNat := by rw [cnt_z _ x0, bi_0 (by omega)]; omega
        have := ih (x + 1) (by omega) (by omega) (by rw [e]; exact hI')
        rw [e] at this
        exact this
  have := key (eK (BS N)).toNat 0 (by omega) (by omega) hi
  rw [show i - cnt (fun x => 0 < tm N t x) (0 : Int).toNat = i by have : cnt (fun x => 0 < tm N t x) (0 : Int).toNat = 0 := rfl; omega] at this
  exact this
theorem c_M_aroundN {Q : Int32 → zM → Prop} {m : zM} {t i : Int} (rt : r32 t) (ri : r32 i) (hI : IVN C w m N) (hno : ¬ ((0 ≤ t ∧ t < Zn N) ∧ 0 ≤ i)) (H : ∀ m', IVN C w m' N → Q (J (-1)) m') : cI (d + 7) 279 [.ref 261, .int (J t), .int (J i)] w m Q := by
  refine S_M_around (c_M_isTerm (d := d) rt hI (fun m1 hI1 hd g h3 hin => ?_) (fun m1 hI1 hd g h3 hin => ?_))
  · simp (disch := first | exact ri | (unfold r32; omega) | omega) only [j_lit, j_ops, J_eq, J_le]
    exact ⟨fun y => by first | omega | exact absurd y (by simp), fun _ => ⟨fun q => absurd ⟨hin, q⟩ hno, fun _ => H m1 hI1⟩⟩
  · simp (disch := first | exact ri | (unfold r32; omega) | omega) only [j_lit, j_ops, J_eq, J_le]
    exact ⟨fun _ => H m1 hI1, fun y => absurd trivial y⟩
theorem p_around {P : Int32 → Int32 → zM → Prop} {m : zM} {t i : Int} (rt : r32 t) (ri : r32 i) (hI : IV C w m) (H : ∀ v m', IV C w m' → P v v m') : cI (d + 9) 139 [.ref 3, .int (J t), .int (J i)] w m (fun x m1 => cI (d + 9) 279 [.ref 261, .int (J t), .int (J i)] w m1 (fun y m2 => P x y m2)) := by
  obtain ⟨N, hI⟩ := hI
  have hb := hI.zT
  refine S_T_around hb (c_Ldraw (d := d) hI (fun m1 hI1 g hd hk h61 => ?_))
  have hT := hI1.2.2.2.2.1
  have hM := Mn_b hT
  have hZ := Zn_b hT
  have hBk := BS_k hT
  have hW := hT.words
  have e19 := hd.2.2.1.1
  have no : ¬ ((0 ≤ t ∧ t < Zn N) ∧ 0 ≤ i) → cI (d + 9) 279 [.ref 261, .int (J t), .int (J i)] w m1 (fun y m2 => P (J (-1)) y m2) := fun q => c_M_aroundN (d := d + 2) rt ri hI1 q (fun m2 hI2 => H _ m2 ⟨N, hI2⟩)
  simp (disch := first | exact rt | exact ri | (unfold r32; omega) | omega) only [j_lit, j_ops, J_eq, J_lt, J_le, j_rd, j_nc, e19]
  refine ⟨fun q => no (by omega), fun q => ⟨fun q2 => no (by omega), fun q2 => ⟨fun q3 => c_baseAround (d := d + 4) hb hT hd ⟨by omega, by omega⟩ ri (fun m2 v f2 h2 hv => ?_), fun q3 => no (by omega)⟩⟩⟩
  have hI2 := hI1.ba.fq f2 (by intro c hc; simp at hc; omega)
  have hin : 0 ≤ t ∧ t < Zn N := ⟨by omega, by omega⟩
  have rv : r32 v := by
    rcases hv with ⟨a1, a2, _⟩ | ⟨a1, _⟩ <;> (unfold r32; omega)
  simp (disch := first | exact rv | (unfold r32; omega) | omega) only [j_lit, j_ops, J_le, j_wr, j_nc]
  refine ⟨fun q4 => ?_, fun q4 => ?_⟩
  · have hv' := hv
    rcases hv' with ⟨a1, a2, a3, a4⟩ | ⟨a1, _⟩
    · have hw : ww (lq m2 226 v) (eU (BS N) v) := by rw [f2.l (by simp)]; exact hd.1.2.2.1 v a1 a2
      obtain ⟨l, l1, l2, l3, l4⟩ := hw
      have e26 : lq (sq m2 6 1 0) 226 v = eC l := l3
      refine c_atl (n := 240) rfl (by decide) rv (by omega) ?_
      rw [e26]
      refine c_slateW (d := d + 5) l1 (fun m3 f3 s3 => c_at (n := 240) rfl (by decide) rv (by omega) ?_)
      have e53 : iq m3 253 v = tm N t v := (fr.i f3 (by simp) v).trans (h2 v a1 a2)
      rw [e53]
      have hl10 := l1.1
      refine c_M_aroundQ (d := d + 2) (v0 := v) (L := l) rt ri (hI2.fc f3) hin q3 hv (fun _ => ⟨l1, l4⟩) (fun z => by omega) (fun _ m4 hI4 s4 s5 => ?_)
      exact H _ m4 ⟨N, hI4.n (SLC_SLM (s4.slc s3) s5 (by rw [sp_len]; omega) (sp_ok l1))⟩
    · omega
  · have hv' := hv
    rcases hv' with ⟨a1, a2, a3, a4⟩ | ⟨a1, _⟩
    · omega
    · refine c_M_aroundQ (d := d + 2) (v0 := v) (L := []) rt ri hI2 hin q3 hv (fun z => by omega) (fun _ m4 hI4 s4 e94 e54 => ?_) (fun z => by omega)
      have hS := hI1.2.2.2.2.2.1
      refine H _ m4 ⟨N, hI4.n (hS.mv (s4.1.trans (f2 6 (by simp)).1) (s4.2.trans (f2 7 (by simp)).1) (e94.trans (f2 294 (by simp)).1) (e54.trans (f2.i (by simp) 54)))⟩
end QA2
