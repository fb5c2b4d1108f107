/-! ranked, rank: both sides -/
def RKQ (N : Int → Int) (g r v : Int) : Prop := if 0 ≤ g ∧ g < 7 ∧ 0 ≤ r ∧ r < Zn N then (∃ o, SB (AR N g) o 0 (Zn N) ∧ v = o r) else v = -1
def RKP (N : Int → Int) (t g v : Int) : Prop := if 0 ≤ g ∧ g < 7 ∧ 0 ≤ t ∧ t < Zn N then (∃ o, SB (AR N g) o 0 (Zn N) ∧ 0 ≤ v ∧ v < Zn N ∧ o v = t) else v = -1
section PRK
variable {d : Nat} {w : Nat × Nat × Nat} {C : Int} {N : Int → Int} {mv : zM} {b : Nat}
theorem SBu (h : TR C mv b N) {g : Int} {o o' : Int → Int} (h1 : SB (AR N g) o 0 (Zn N)) (h2 : SB (AR N g) o' 0 (Zn N)) {i : Int} (i0 : 0 ≤ i) (i1 : i < Zn N) : o i = o' i := by
  have hZ := Zn_b h
  have e : (((Zn N).toNat : Nat) : Int) = Zn N := by omega
  have hA := AR_ord h g
  rw [← e] at h1 h2 hA
  exact SB.uniq hA h1 h2 i0 (by omega)
theorem SBs (h : TR C mv b N) {g : Int} {o : Int → Int} (h1 : SB (AR N g) o 0 (Zn N)) {t : Int} (t0 : 0 ≤ t) (t1 : t < Zn N) : ∃ k : Int, 0 ≤ k ∧ k < Zn N ∧ o k = t := by
  have hZ := Zn_b h
  have e : (((Zn N).toNat : Nat) : Int) = Zn N := by omega
  have hA := AR_ord h g
  rw [← e] at h1 hA
  obtain ⟨k, k0, k1, k2⟩ := prm_sur (h1.prm hA) t0 (by omega)
  exact ⟨k, k0, by omega, k2⟩
theorem SBi (h : TR C mv b N) {g : Int} {o : Int → Int} (h1 : SB (AR N g) o 0 (Zn N)) {i j : Int} (i0 : 0 ≤ i) (i1 : i < Zn N) (j0 : 0 ≤ j) (j1 : j < Zn N) (e : o i = o j) : i = j := by
  have hA := AR_ord h g
  have b1 := h1.2 i i0 i1
  rcases Int.lt_trichotomy i j with q | q | q
  · have := h1.1 i j i0 q j1
    rw [← e] at this
    exact absurd this (hA.2.1 _ b1.1 b1.2)
  · exact q
  · have := h1.1 j i j0 q i1
    rw [← e] at this
    exact absurd this (hA.2.1 _ b1.1 b1.2)
theorem RKQ.uniq (h : TR C mv b N) {g r v v' : Int} (h1 : RKQ N g r v) (h2 : RKQ N g r v') : v = v' := by
  unfold RKQ at h1 h2
  by_cases q : 0 ≤ g ∧ g < 7 ∧ 0 ≤ r ∧ r < Zn N
  · rw [if_pos q] at h1 h2
    obtain ⟨o, a1, a2⟩ := h1
    obtain ⟨o', c1, c2⟩ := h2
    rw [a2, c2]
    exact SBu h a1 c1 q.2.2.1 q.2.2.2
  · rw [if_neg q] at h1 h2; omega
theorem RKP.uniq (h : TR C mv b N) {t g v v' : Int} (h1 : RKP N t g v) (h2 : RKP N t g v') : v = v' := by
  unfold RKP at h1 h2
  by_cases q : 0 ≤ g ∧ g < 7 ∧ 0 ≤ t ∧ t < Zn N
  · rw [if_pos q] at h1 h2
    obtain ⟨o, a1, a2, a3, a4⟩ := h1
    obtain ⟨o', c1, c2, c3, c4⟩ := h2
    have e := SBu h a1 c1 c2 c3
    exact SBi h a1 a2 a3 c2 c3 (by rw [a4, e, c4])
  · rw [if_neg q] at h1 h2; omega
theorem c_rankedQ {Q : Int32 → zM → Prop} {m : zM} {g r : Int} (rg : r32 g) (rr : r32 r) (hI : IVN C w m N) (H : ∀ m' v, IVN C w m' N → RKQ N g r v → Q (J v) m') : cI (d + 9) 136 [.ref 3, .int (J g), .int (J r)] w m Q := by
  have hb := hI.zT
  refine S_T_ranked hb (c_Ldraw (d := d) hI (fun m1 hI1 h14 hd hk _ => ?_))
  have hT := hI1.2.2.2.2.1
  have hM := Mn_b hT
  have hZ := Zn_b hT
  have e19 := hd.2.2.1.1
  have no : ¬ (0 ≤ g ∧ g < 7 ∧ 0 ≤ r ∧ r < Zn N) → Q (J (-1)) m1 := fun q => H m1 _ hI1 (by unfold RKQ; rw [if_neg q])
  simp (disch := first | exact rg | exact rr | (unfold r32; omega) | omega) only [j_lit, j_ops, J_lt, J_le, j_rd, j_nc, e19]
  refine ⟨fun q => no (by omega), fun q1 => ⟨fun q => no (by omega), fun q2 => ⟨fun q => no (by omega), fun q3 => ⟨fun q4 => ?_, fun q => no (by omega)⟩⟩⟩⟩
  refine c_prepare (d := d + 2) ⟨by omega, by omega⟩ hI1 hd hk h14 (fun m2 hI2 hd2 hS => S_Measures_termAt ?_)
  rw [show (1200 : Int32) = J 1200 from rfl, j_ops.2.2.1, j_ops.1, show g * 1200 + r = 1200 * g + r by omega]
  refine c_at (n := 8400) rfl (by decide) (by unfold r32; omega) (by omega) (H m2 _ hI2 ?_)
  unfold RKQ
  rw [if_pos (by omega)]
  exact ⟨_, hS, rfl⟩
theorem c_M_ranked {Q : Int32 → zM → Prop} {m : zM} {g r : Int} (rg : r32 g) (rr : r32 r) (hI : IVN C w m N) (H : ∀ m' v, IVN C w m' N → RKQ N g r v → Q (J v) m') : cI (d + 7) 261 [.ref 261, .int (J g), .int (J r)] w m Q := by
  refine S_M_ranked (c_Llays (d := d + 1) hI (fun m1 hI1 _ hd1 _ => ?_))
  have hT := hI1.2.2.2.2.1
  have hM := Mn_b hT
  have hZ := Zn_b hT
  have e32 := hd1.2.1.2.1
  have no : ¬ (0 ≤ g ∧ g < 7 ∧ 0 ≤ r ∧ r < Zn N) → Q (J (-1)) m1 := fun q => H m1 _ hI1 (by unfold RKQ; rw [if_neg q])
  refine c_M_isMeasure (d := d + 5) rg (fun hg => ?_) (fun hg => ?_)
  · simp (disch := first | exact rr | (unfold r32; omega) | omega) only [j_lit, jl_lit, j_ops, J_eq, j_rd, j_nc, e32, J_64]
    refine ⟨fun y => by omega, fun _ => c_isIn (r64_32 rr) (by unfold r64; omega) (by unfold r64; omega) ?_⟩
    by_cases hr : 0 ≤ r ∧ r ≤ Zn N - 1
    · rw [if_pos hr]
      simp (disch := first | (unfold r32; omega) | omega) only [j_lit, j_ops, J_eq]
      refine ⟨fun _ => c_ranks (d := d) hg hI1 (fun m2 hI2 hd2 hS => ?_), fun y => by omega⟩
      have b2 := hS.2 r hr.1 (by omega)
      simp (disch := first | exact rr | (unfold r32; omega) | omega) only [vp_J, J_cl, iq_tn, j_rd]
      refine ⟨by omega, H m2 _ hI2 ?_⟩
      unfold RKQ
      rw [if_pos (by omega)]
      exact ⟨_, hS, rfl⟩
    · rw [if_neg hr]
      simp (disch := first | (unfold r32; omega) | omega) only [j_lit, j_ops, J_eq]
      exact ⟨fun y => absurd trivial y, fun _ => no (by omega)⟩
  · simp (disch := first | (unfold r32; omega) | omega) only [j_lit, j_ops, J_eq]
    exact ⟨fun _ => no (by omega), fun y => absurd trivial y⟩
theorem p_ranked {P : Int32 → Int32 → zM → Prop} {m : zM} {g r : Int} (rg : r32 g) (rr : r32 r) (hI : IV C w m) (H : ∀ v m', IV C w m' → P v v m') : cI (d + 9) 136 [.ref 3, .int (J g), .int (J r)] w m (fun x m1 => cI (d + 9) 261 [.ref 261, .int (J g), .int (J r)] w m1 (fun y m2 => P x y m2)) := by
  obtain ⟨N, hI⟩ := hI
  refine c_rankedQ rg rr hI (fun m1 v hI1 hv => c_M_ranked (d := d + 2) rg rr hI1 (fun m2 v' hI2 hv' => ?_))
  rw [hv'.uniq hI1.2.2.2.2.1 hv]
  exact H _ m2 ⟨N, hI2⟩
theorem c_rankQ {Q : Int32 → zM → Prop} {m : zM} {t g : Int} (rt : r32 t) (rg : r32 g) (hI : IVN C w m N) (H : ∀ m' v, IVN C w m' N → RKP N t g v → Q (J v) m') : cI (d + 9) 137 [.ref 3, .int (J t), .int (J g)] w m Q := by
  have hb := hI.zT
  refine S_T_rank hb (c_Ldraw (d := d) hI (fun m1 hI1 h14 hd hk _ => ?_))
  have hT := hI1.2.2.2.2.1
  have hM := Mn_b hT
  have hZ := Zn_b hT
  have e19 := hd.2.2.1.1
  have no : ¬ (0 ≤ g ∧ g < 7 ∧ 0 ≤ t ∧ t < Zn N) → Q (J (-1)) m1 := fun q => H m1 _ hI1 (by unfold RKP; rw [if_neg q])
  simp (disch := first | exact rg | exact rt | (unfold r32; omega) | omega) only [j_lit, j_ops, J_lt, J_le, j_rd, j_nc, e19]
  refine ⟨fun q => no (by omega), fun q1 => ⟨fun q => no (by omega), fun q2 => ⟨fun q => no (by omega), fun q3 => ⟨fun q4 => ?_, fun q => no (by omega)⟩⟩⟩⟩
  refine c_prepare (d := d + 2) ⟨by omega, by omega⟩ hI1 hd hk h14 (fun m2 hI2 hd2 hS => S_Measures_rankOf ?_)
  have e19' := hd2.2.2.1.1
  obtain ⟨v, v0, v1, v2⟩ := SBs hT hS (t := t) (by omega) q4
  simp only [j_lit]
  have key : ∀ (z : Nat) (r : Int), 0 ≤ r → r + z = v → W_Measures_rankOf_2 (d + 7) (J g) (J t) (J r) w m2 Q := by
    intro z
    induction z with
    | zero =>
      intro r r0 hz
      refine S_Measures_rankOf_2 ?_
      simp (disch := first | (unfold r32; omega) | omega) only [j_lit, j_ops, J_le, j_rd, j_nc, e19']
      refine ⟨fun q => by omega, fun _ => S_Measures_termAt ?_⟩
      rw [show (1200 : Int32) = J 1200 from rfl, j_ops.2.2.1, j_ops.1, show g * 1200 + r = 1200 * g + r by omega]
      refine c_at (n := 8400) rfl (by decide) (by unfold r32; omega) (by omega) ?_
      rw [show iq m2 260 (1200 * g + r) = t by rw [show r = v by omega]; exact v2]
      refine ⟨fun q => absurd rfl q, fun _ => ?_⟩
      rw [show r = v by omega]
      refine H m2 v hI2 ?_
      unfold RKP
      rw [if_pos (by omega)]
      exact ⟨_, hS, v0, v1, v2⟩
    | succ z ih =>
      intro r r0 hz
      have ne : iq m2 260 (1200 * g + r) ≠ t := fun q => by
        have := SBi hT hS r0 (by omega) v0 v1 (q.trans v2.symm)
        omega
      refine S_Measures_rankOf_2 ?_
      simp (disch := first | (unfold r32; omega) | omega) only [j_lit, j_ops, J_le, j_rd, j_nc, e19']
      refine ⟨fun q => by omega, fun _ => S_Measures_termAt ?_⟩
      rw [show (1200 : Int32) = J 1200 from rfl, j_ops.2.2.1, j_ops.1, show g * 1200 + r = 1200 * g + r by omega]
      refine c_at (n := 8400) rfl (by decide) (by unfold r32; omega) (by omega) ?_
      rw [J_eq (iq_r _ _ _) rt]
      exact ⟨fun _ => ih (r + 1) (by omega) (by omega), fun q => absurd q ne⟩
  exact key v.toNat 0 (by omega) (by omega)
theorem c_M_rank {Q : Int32 → zM → Prop} {m : zM} {t g : Int} (rt : r32 t) (rg : r32 g) (hI : IVN C w m N) (H : ∀ m' v, IVN C w m' N → RKP N t g v → Q (J v) m') : cI (d + 7) 262 [.ref 261, .int (J t), .int (J g)] w m Q := by
  refine S_M_rank (c_M_isTerm (d := d) rt hI (fun m1 hI1 hd _ _ ht => ?_) (fun m1 hI1 hd _ _ ht => ?_))
  · simp (disch := first | (unfold r32; omega) | omega) only [j_lit, j_ops, J_eq]
    refine ⟨fun y => by omega, fun _ => c_M_isMeasure (d := d + 5) rg (fun hg => ?_) (fun hg => ?_)⟩
    · simp (disch := first | (unfold r32; omega) | omega) only [j_lit, j_ops, J_eq]
      refine ⟨fun _ => c_ranks (d := d) hg hI1 (fun m2 hI2 hd2 hS => ?_), fun y => by omega⟩
      have hT := hI2.2.2.2.2.1
      have hM := Mn_b hT
      have hZ := Zn_b hT
      obtain ⟨v, v0, v1, v2⟩ := SBs hT hS ht.1 ht.2
      have key : ∀ (z : Nat) (r : Int), 0 ≤ r → r + z = v → W_M_rank_15 (d + 6) (J t) (J r) w m2 Q := by
        intro z
        induction z with
        | zero =>
          intro r r0 hz
          refine S_M_rank_15 ?_
          have ev : iq m2 292 r = t := by rw [show r = v by omega]; exact v2
          simp (disch := first | (unfold r32; omega) | omega) only [j_lit, j_ops, vp_J, J_cl, iq_tn, j_rd, ev]
          refine ⟨by omega, fun _ => ?_, fun q => absurd trivial q⟩
          rw [show r = v by omega]
          refine H m2 v hI2 ?_
          unfold RKP
          rw [if_pos (by omega)]
          exact ⟨_, hS, v0, v1, v2⟩
        | succ z ih =>
          intro r r0 hz
          have ne : iq m2 292 r ≠ t := fun q => by
            have := SBi hT hS r0 (by omega) v0 v1 (q.trans v2.symm)
            omega
          refine S_M_rank_15 ?_
          simp (disch := first | exact rt | exact iq_r _ _ _ | (unfold r32; omega) | omega) only [j_lit, j_ops, vp_J, J_cl, iq_tn, j_rd, J_eq]
          exact ⟨by omega, fun q => absurd q ne, fun _ => ih (r + 1) (by omega) (by omega)⟩
      exact key v.toNat 0 (by omega) (by omega)
    · simp (disch := first | (unfold r32; omega) | omega) only [j_lit, j_ops, J_eq]
      refine ⟨fun y => absurd trivial y, fun _ => H m1 _ hI1 ?_⟩
      unfold RKP
      rw [if_neg (fun q => hg ⟨q.1, q.2.1⟩)]
  · simp (disch := first | (unfold r32; omega) | omega) only [j_lit, j_ops, J_eq]
    refine ⟨fun _ => H m1 _ hI1 ?_, fun y => absurd trivial y⟩
    unfold RKP
    rw [if_neg (fun q => ht ⟨q.2.2.1, q.2.2.2⟩)]
theorem p_rank {P : Int32 → Int32 → zM → Prop} {m : zM} {t g : Int} (rt : r32 t) (rg : r32 g) (hI : IV C w m) (H : ∀ v m', IV C w m' → P v v m') : cI (d + 9) 137 [.ref 3, .int (J t), .int (J g)] w m (fun x m1 => cI (d + 9) 262 [.ref 261, .int (J t), .int (J g)] w m1 (fun y m2 => P x y m2)) := by
  obtain ⟨N, hI⟩ := hI
  refine c_rankQ rt rg hI (fun m1 v hI1 hv => c_M_rank (d := d + 2) rt rg hI1 (fun m2 v' hI2 hv' => ?_))
  rw [hv'.uniq hI1.2.2.2.2.1 hv]
  exact H _ m2 ⟨N, hI2⟩
end PRK
