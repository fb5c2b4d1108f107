/-! match, longer: both sides -/
noncomputable def mres (N : Int → Int) (a c : Int) : Int := if a = -1 then Mn N else if 0 ≤ a ∧ a < Mn N then (if c = 0 then dcN N (mk N a) else if c = 1 then mk N a - N (260 + dcN N (mk N a)) else if c = 2 then ml N a else if c = 3 then tn N a else if c = 4 then bi (wi N (mk N a) (ml N a)) else -1) else -1
section QMA
variable {d : Nat} {w : Nat × Nat × Nat} {C : Int} {N : Int → Int} {mv : zM} {b : Nat}
theorem c_match {Q : Int32 → zM → Prop} {m : zM} {a c : Int} (ra : r32 a) (rc : r32 c) (hI : IVN C w m N) (H : ∀ m', IVN C w m' N → Q (J (mres N a c)) m') : cI (d + 9) 128 [.ref 3, .int (J a), .int (J c)] w m Q := by
  have hb := hI.zT
  refine S_T_match hb (c_Ldraw (d := d) hI (fun m1 hI1 g hd hk h61 => ?_))
  have hT := hI1.2.2.2.2.1
  have hM := Mn_b hT
  have hW := hT.words
  obtain ⟨hB, hDm, hT0, _, _⟩ := hd
  have e8 := hDm.1.1
  have fin : ∀ v, mres N a c = v → Q (J v) m1 := fun v e => by rw [← e]; exact H m1 hI1
  simp (disch := first | exact ra | exact rc | (unfold r32; omega) | omega) only [j_lit, j_ops, J_eq, J_lt, j_rd, j_nc, e8]
  refine ⟨fun q => ⟨fun q1 => fin _ (by unfold mres; rw [if_neg q, if_neg (by omega)]), fun q1 => ⟨fun q2 => c_at (n := 1200) rfl (by decide) ra (by omega) ?_, fun q2 => fin _ (by unfold mres; rw [if_neg q, if_neg (by omega)])⟩⟩, fun q => fin _ (by unfold mres; rw [if_pos q])⟩
  obtain ⟨f1, f2, f3, f4⟩ := hDm.1.2 a (by omega) q2
  have bd := mk_bd hT (by omega : 0 ≤ a) q2
  have hdc := dc_ex hT.2.2.2.1 bd.1 (by omega : mk N a < wW N)
  have e33 := hT0.2.2 a (by omega) q2
  have e34 := hDm.2.1 a (by omega) q2
  have U : mres N a c = (if c = 0 then dcN N (mk N a) else if c = 1 then mk N a - N (260 + dcN N (mk N a)) else if c = 2 then ml N a else if c = 3 then tn N a else if c = 4 then bi (wi N (mk N a) (ml N a)) else -1) := by
    unfold mres; rw [if_neg q, if_pos ⟨by omega, q2⟩]
  rw [f1]
  refine ⟨fun z => c_docAt hb hT ⟨bd.1, by omega⟩ (fun _ _ => fin _ (by rw [U, if_pos z])), fun z => ⟨fun z1 => c_docAt hb hT ⟨bd.1, by omega⟩ (fun _ _ => c_docFirst hb hT.2.2.2.1 hdc.1 (by have := hdc.2.1; omega) ?_), fun z1 => ⟨fun z2 => c_at (n := 1200) rfl (by decide) ra (by omega) ?_, fun z2 => ⟨fun z3 => c_at (n := 1200) rfl (by decide) ra (by omega) ?_, fun z3 => ⟨fun z4 => c_at (n := 1200) rfl (by decide) ra (by omega) ?_, fun z4 => ?_⟩⟩⟩⟩⟩
  · rw [j_ops.2.1]; exact fin _ (by rw [U, if_neg z, if_pos z1])
  · rw [f2]; exact fin _ (by rw [U, if_neg z, if_neg z1, if_pos z2])
  · rw [e33]; exact fin _ (by rw [U, if_neg z, if_neg z1, if_neg z2, if_pos z3])
  · rw [e34]; exact fin _ (by rw [U, if_neg z, if_neg z1, if_neg z2, if_neg z3, if_pos z4])
  · exact fin _ (by rw [U, if_neg z, if_neg z1, if_neg z2, if_neg z3, if_neg z4])
theorem c_M_match {Q : Int32 → zM → Prop} {m : zM} {a c : Int} (ra : r32 a) (rc : r32 c) (hI : IVN C w m N) (H : ∀ m', IVN C w m' N → Q (J (mres N a c)) m') : cI (d + 6) 270 [.ref 261, .int (J a), .int (J c)] w m Q := by
  refine S_M_match (c_Llays (d := d) hI (fun m1 hI1 g hd h3 => ?_))
  have hT := hI1.2.2.2.2.1
  have hR := hI1.2.2.2.1
  have hM := Mn_b hT
  have hW := hT.words
  obtain ⟨hB, hF, hC, _, _⟩ := hd
  have e26 := hF.1
  have fin : ∀ v, mres N a c = v → Q (J v) m1 := fun v e => by rw [← e]; exact H m1 hI1
  simp (disch := first | exact ra | exact rc | (unfold r32; omega) | omega) only [j_lit, jl_lit, J_eq, j_rd, j_nc, e26, j_ops, J_64]
  refine ⟨fun q => c_isIn (r64_32 ra) (by unfold r64; omega) (by unfold r64; omega) ?_, fun q => fin _ (by unfold mres; rw [if_pos q])⟩
  by_cases hin : 0 ≤ a ∧ a ≤ Mn N - 1
  · rw [if_pos hin]
    have ha : 0 ≤ a ∧ a < Mn N := by omega
    obtain ⟨f1, f2⟩ := hF.2.2.1 a ha.1 ha.2
    obtain ⟨f3, f4⟩ := hC.1 a ha.1 ha.2
    have bd := mk_bd hT ha.1 ha.2
    have hdc := dc_ex hT.2.2.2.1 bd.1 (by omega : mk N a < wW N)
    have d8 := hT.2.2.2.1.2.1
    have dl := hdc.1
    have dh := hdc.2.1
    have e70 := (hB.2.2.1 (mk N a) bd.1 (by omega)).2.2.2.2.1
    have r1 := hR (260 + dcN N (mk N a)) (by omega) (by omega)
    have rb := trD_r hT.2.2.2.1 (dc := dcN N (mk N a)) dl (by omega)
    have hwb := bi_b (wi N (mk N a) (ml N a))
    have U : mres N a c = (if c = 0 then dcN N (mk N a) else if c = 1 then mk N a - N (260 + dcN N (mk N a)) else if c = 2 then ml N a else if c = 3 then tn N a else if c = 4 then bi (wi N (mk N a) (ml N a)) else -1) := by
      unfold mres; rw [if_neg q, if_pos ha]
    simp (disch := first | exact ra | exact rc | (unfold r32; omega) | omega) only [j_lit, J_eq, vp_J, J_cl, j_rd, iq_tn, f1, f2, f3, f4, e70, j_ops, jl_rd, lq_tn, r1, JL_32]
    refine ⟨fun _ => ⟨fun z => ⟨by omega, by omega, fin _ (by rw [U, if_pos z])⟩, fun z => ⟨fun z1 => ⟨by omega, by omega, by omega, by omega, fin _ (by rw [U, if_neg z, if_pos z1])⟩, fun z1 => ⟨fun z2 => ⟨by omega, fin _ (by rw [U, if_neg z, if_neg z1, if_pos z2])⟩, fun z2 => ⟨fun z3 => ⟨by omega, fin _ (by rw [U, if_neg z, if_neg z1, if_neg z2, if_pos z3])⟩, fun z3 => ⟨fun z4 => ⟨by omega, S_M_one ?_⟩, fun z4 => fin _ (by rw [U, if_neg z, if_neg z1, if_neg z2, if_neg z3, if_neg z4])⟩⟩⟩⟩⟩, fun y => by first | omega | exact absurd y (by simp)⟩
    have V : mres N a c = bi (wi N (mk N a) (ml N a)) := by rw [U, if_neg z, if_neg z1, if_neg z2, if_neg z3, if_pos z4]
    simp (disch := first | (unfold r32; omega) | omega) only [j_lit, j_ops, J_eq]
    exact ⟨fun y => fin 0 (by omega), fun y => fin 1 (by omega)⟩
  · rw [if_neg hin]
    simp (disch := first | (unfold r32; omega) | omega) only [j_lit, j_ops, J_eq]
    refine ⟨fun y => absurd trivial y, fun _ => fin _ (by unfold mres; rw [if_neg q, if_neg (by omega)])⟩
theorem c_holds {Q : Int32 → zM → Prop} {m : zM} {t u : Int} (h : TR C mv b N) (ht : 0 ≤ t ∧ t < Zn N) (hu : 0 ≤ u ∧ u < Zn N) (hl : tl N u < tl N t) (H1 : hol N u t → Q (J 1) m) (H0 : ¬ hol N u t → Q (J 0) m) : cI (d + 2) 175 [.long (JL (tr N t)), .long (JL (tr N u))] w m Q := by
  have bt := tr_b h ht.1 ht.2
  have bu := tr_b h hu.1 hu.2
  have lt := tl_b h ht.1 ht.2
  have lu := tl_b h hu.1 hu.2
  refine S_T_holds (c_cellsOf bu (c_cellsOf bt ?_))
  have eu : cl (tr N u) = tl N u := rfl
  have et : cl (tr N t) = tl N t := rfl
  rw [eu, et]
  simp only [j_lit, j_ops]
  have key : ∀ (j : Nat) (f : Int), 0 ≤ f → f + j = tl N t - tl N u + 1 → (∀ g, 0 ≤ g → g < f → prt (tr N t) g (tl N u) ≠ tr N u) → W_T_holds_10 (d + 1) (JL (tr N t)) (JL (tr N u)) (J (tl N u)) (J (tl N t - tl N u)) (J f) w m Q := by
    intro j
    induction j with
    | zero =>
      intro f f0 hj hI
      refine S_T_holds_10 ?_
      simp (disch := first | (unfold r32; omega) | omega) only [j_lit, j_ops, J_lt]
      exact ⟨fun _ => H0 (fun ⟨_, g, g0, g1, g2⟩ => hI g g0 (by omega) g2), fun q => by omega⟩
    | succ j ih =>
      intro f f0 hj hI
      obtain ⟨p1, p2, p3⟩ := prt_cl h ht.1 ht.2 f0 (by omega : 0 ≤ tl N u) (by omega)
      refine S_T_holds_10 ?_
      simp (disch := first | (unfold r32; omega) | omega) only [j_lit, J_lt, J_le, j_ops]
      refine ⟨fun q => by omega, fun _ => ⟨fun q => by omega, fun _ => c_part bt ⟨f0, by omega⟩ ⟨by omega, by omega⟩ ?_⟩⟩
      simp (disch := first | (unfold r64; omega) | omega) only [JL_eq]
      refine ⟨fun q => ih (f + 1) (by omega) (by omega) (fun g g0 g1 => ?_), fun q => H1 ⟨hl, f, f0, by omega, q⟩⟩
      by_cases z : g = f
      · rw [z]; exact q
      · exact hI g g0 (by omega)
  exact key (tl N t - tl N u + 1).toNat 0 (by omega) (by omega) (fun g _ _ => by omega)
theorem c_longerAt {Q : Int32 → zM → Prop} {m : zM} {t i : Int} (h : TR C mv b N) (hT : DT0 m N) (ht : 0 ≤ t ∧ t < Zn N) (ri : r32 i) (H : ∀ v, NT (fun x => hol N t x) (Zn N) i v → Q (J v) m) : cI (d + 3) 94 [.ref 237, .int (J t), .int (J i)] w m Q := by
  have hM := Mn_b h
  have hZ := Zn_b h
  refine S_Terms_longerAt ?_
  simp only [j_lit]
  have key : ∀ (j : Nat) (x : Int), 0 ≤ x → x + j = Zn N → (0 ≤ i → cnt (fun x => hol N t x) x.toNat ≤ i) → W_Terms_longerAt_4 (d + 2) (J t) (J i) (J (cnt (fun x => hol N t x) x.toNat)) (J x) w m Q := by
    intro j
    induction j with
    | zero =>
      intro x x0 hj hI
      refine S_Terms_longerAt_4 ?_
      simp (disch := first | (unfold r32; omega) | omega) only [j_lit, j_ops, j_rd, j_nc, hT.1, J_le]
      refine ⟨fun _ => H (-1) (Or.inr ⟨rfl, ?_⟩), fun q => by omega⟩
      rw [show (Zn N).toNat = x.toNat by omega]
      rcases Int.lt_or_le i 0 with g | g
      · exact Or.inl g
      · exact Or.inr (hI g)
    | succ j ih =>
      intro x x0 hj hI
      have l1 := tl_b h x0 (by omega : x < Zn N)
      have l2 := tl_b h ht.1 ht.2
      have cb := cnt_b (fun x => hol N t x) x.toNat
      have nx : ¬ hol N t x → W_Terms_longerAt_4 (d + 2) (J t) (J i) (J (cnt (fun x => hol N t x) x.toNat)) (J (x + 1)) w m Q := fun g => by
        have e : cnt (fun x => hol N t x) (x + 1).toNat = cnt (fun x => hol N t x) x.toNat := by rw [cnt_z _ x0, bi_0 g]; omega
        have := ih (x + 1) (by omega) (by omega) (fun z => by rw [e]; exact hI z)
        rw [e] at this
        exact this
      refine S_Terms_longerAt_4 ?_
      simp (disch := first | (unfold r32; omega) | omega) only [j_lit, j_rd, j_nc, hT.1, J_le, j_ops]
      refine ⟨fun q => by omega, fun _ => c_lengthOf (d := d) h hT x0 (by omega) (c_lengthOf (d := d) h hT ht.1 ht.2 ?_)⟩
      simp (disch := first | (unfold r32; omega) | omega) only [J_le]
      refine ⟨fun q => nx (fun z => by have := z.1; omega), fun q => c_atl (n := 1200) rfl (by decide) (by unfold r32; omega) (by omega) (c_atl (n := 1200) rfl (by decide) (by unfold r32; omega) (by omega) ?_)⟩
      rw [(hT.2.1 x x0 (by omega)).1, (hT.2.1 t ht.1 ht.2).1]
      refine c_holds (d := d) h ⟨x0, by omega⟩ ht (by omega) (fun g => ?_) (fun g => ?_)
      · simp (disch := first | exact ri | (unfold r32; omega) | omega) only [j_lit, j_ops, J_eq]
        refine ⟨fun y => by omega, fun _ => ⟨fun q2 => ?_, fun q2 => H x (Or.inl ⟨x0, by omega, g, q2⟩)⟩⟩
        have e : cnt (fun x => hol N t x) (x + 1).toNat = cnt (fun x => hol N t x) x.toNat + 1 := by rw [cnt_z _ x0, bi_1 g]
        have := ih (x + 1) (by omega) (by omega) (fun z => by rw [e]; have := hI z; omega)
        rw [e] at this
        exact this
      · simp (disch := first | (unfold r32; omega) | omega) only [j_lit, j_ops, J_eq]
        exact ⟨fun _ => nx g, fun y => absurd trivial y⟩
  have := key (Zn N).toNat 0 (by omega) (by omega) (fun z => z)
  exact this
/-- the answer to longer -/
def LRs (N : Int → Int) (t i v : Int) : Prop := if 0 ≤ t ∧ t < Zn N then (if i = -1 then v = lo N t else NT (fun x => hol N t x) (Zn N) i v) else v = -1
theorem LRs.uniq {t i v v' : Int} (h : LRs N t i v) (h' : LRs N t i v') : v = v' := by
  unfold LRs at h h'
  by_cases g : 0 ≤ t ∧ t < Zn N
  · rw [if_pos g] at h h'
    by_cases z : i = -1
    · rw [if_pos z] at h h'; omega
    · rw [if_neg z] at h h'; exact h.uniq h'
  · rw [if_neg g] at h h'; omega
theorem c_longerQ {Q : Int32 → zM → Prop} {m : zM} {t i : Int} (rt : r32 t) (ri : r32 i) (hI : IVN C w m N) (H : ∀ m' v, IVN C w m' N → LRs N t i v → Q (J v) m') : cI (d + 9) 138 [.ref 3, .int (J t), .int (J i)] w m Q := by
  refine S_T_longer (c_Ldraw (d := d) hI (fun m1 hI1 g hd hk h61 => ?_))
  have hT := hI1.2.2.2.2.1
  have hM := Mn_b hT
  have hZ := Zn_b hT
  obtain ⟨hB, hDm, hT0, hU, _⟩ := hd
  simp (disch := first | exact rt | exact ri | (unfold r32; omega) | omega) only [j_lit, j_ops, J_eq, J_lt, j_rd, j_nc, hT0.1]
  have no : ¬ (0 ≤ t ∧ t < Zn N) → Q (J (-1)) m1 := fun q => H m1 _ hI1 (by unfold LRs; rw [if_neg q])
  refine ⟨fun q => no (by omega), fun q => ⟨fun q2 => ⟨fun q3 => c_longerAt (d := d + 5) hT hT0 ⟨by omega, q2⟩ ri (fun v hv => H m1 v hI1 (by unfold LRs; rw [if_pos ⟨by omega, q2⟩, if_neg q3]; exact hv)), fun q3 => c_at (n := 1200) rfl (by decide) rt (by omega) ?_⟩, fun q2 => no (by omega)⟩⟩
  rw [(hU t (by omega) q2).1]
  exact H m1 _ hI1 (by unfold LRs; rw [if_pos ⟨by omega, q2⟩, if_pos q3])
theorem c_M_isTerm {Q : Int32 → zM → Prop} {m : zM} {t : Int} (rt : r32 t) (hI : IVN C w m N) (H1 : ∀ m', IVN C w m' N → DM m' N → iq m' 261 20 = 1 → (∀ z, iq m' 3 z = iq m 3 z) → 0 ≤ t ∧ t < Zn N → Q (J 1) m') (H0 : ∀ m', IVN C w m' N → DM m' N → iq m' 261 20 = 1 → (∀ z, iq m' 3 z = iq m 3 z) → ¬ (0 ≤ t ∧ t < Zn N) → Q (J 0) m') : cI (d + 6) 256 [.ref 261, .int (J t)] w m Q := by
  refine S_M_isTerm (c_Llays (d := d) hI (fun m1 hI1 g hd h3 => ?_))
  have hT := hI1.2.2.2.2.1
  have hM := Mn_b hT
  have hZ := Zn_b hT
  have e32 := hd.2.1.2.1
  simp (disch := first | exact rt | (unfold r32; omega) | omega) only [j_lit, jl_lit, j_rd, j_nc, e32, j_ops, J_64]
  refine c_isIn (r64_32 rt) (by unfold r64; omega) (by unfold r64; omega) ?_
  by_cases hin : 0 ≤ t ∧ t ≤ Zn N - 1
  · rw [if_pos hin]
    exact ⟨Or.inr rfl, H1 m1 hI1 hd g h3 (by omega)⟩
  · rw [if_neg hin]
    exact ⟨Or.inl rfl, H0 m1 hI1 hd g h3 (by omega)⟩
theorem c_M_longerQ {Q : Int32 → zM → Prop} {m : zM} {t i : Int} (rt : r32 t) (ri : r32 i) (hI : IVN C w m N) (H : ∀ m' v, IVN C w m' N → LRs N t i v → Q (J v) m') : cI (d + 7) 278 [.ref 261, .int (J t), .int (J i)] w m Q := by
  refine S_M_longer (c_M_isTerm (d := d) rt hI (fun m1 hI1 hd g h3 hin => ?_) (fun m1 hI1 hd g h3 hin => ?_))
  · have hT := hI1.2.2.2.2.1
    have hM := Mn_b hT
    have hZ := Zn_b hT
    have hMF := hd.2.1
    have e83 := (hd.2.2.2.1 t hin.1 hin.2).1
    have e32 := hMF.2.1
    simp (disch := first | exact rt | exact ri | (unfold r32; omega) | omega) only [j_lit, j_ops, J_eq, vp_J, J_cl, j_rd, iq_tn, e83]
    refine ⟨fun _ => ⟨fun q => ?_, fun q => ⟨by omega, H m1 _ hI1 (by unfold LRs; rw [if_pos hin, if_pos q])⟩⟩, fun y => by first | omega | exact absurd y (by simp)⟩
    have fin : ∀ v, NT (fun x => hol N t x) (Zn N) i v → Q (J v) m1 := fun v hv => H m1 v hI1 (by unfold LRs; rw [if_pos hin, if_neg q]; exact hv)
    have key : ∀ (j : Nat) (x : Int), 0 ≤ x → x + j = Zn N → (0 ≤ i → cnt (fun x => hol N t x) x.toNat ≤ i) → W_M_longer_18 (d + 6) (J t) (J i) (J (i - cnt (fun x => hol N t x) x.toNat)) (J x) w m1 Q := by
      intro j
      induction j with
      | zero =>
        intro x x0 hj hI
        refine S_M_longer_18 ?_
        simp (disch := first | (unfold r32; omega) | omega) only [j_lit, j_ops, j_rd, j_nc, e32, J_le]
        refine ⟨fun _ => fin (-1) (Or.inr ⟨rfl, ?_⟩), fun q => by omega⟩
        rw [show (Zn N).toNat = x.toNat by omega]
        rcases Int.lt_or_le i 0 with g | g
        · exact Or.inl g
        · exact Or.inr (hI g)
      | succ j ih =>
        intro x x0 hj hI
        have l1 := hMF.tlr hT x0 (by omega : x < Zn N)
        have l2 := hMF.tlr hT hin.1 hin.2
        have cb := cnt_b (fun x => hol N t x) x.toNat
        have nx : ¬ hol N t x → W_M_longer_18 (d + 6) (J t) (J i) (J (i - cnt (fun x => hol N t x) x.toNat)) (J (x + 1)) w m1 Q := fun g => by
          have e : cnt (fun x => hol N t x) (x + 1).toNat = cnt (fun x => hol N t x) x.toNat := by rw [cnt_z _ x0, bi_0 g]; omega
          have := ih (x + 1) (by omega) (by omega) (fun z => by rw [e]; exact hI z)
          rw [e] at this
          exact this
        refine S_M_longer_18 ?_
        simp (disch := first | exact ri | (unfold r32; omega) | omega) only [j_lit, j_rd, j_nc, e32, J_le, J_lt, j_ops, vp_J, J_cl, iq_tn, l1.1, l2.1]
        refine ⟨fun q => by omega, fun _ => ⟨fun q => fin (-1) (Or.inr ⟨rfl, Or.inl q⟩), fun q => ⟨by omega, by omega, fun q2 => nx (fun z => by have := z.1; omega), fun q2 => c_M_isInRow (d := d + 5) hT (fun y y0 y1 => (hd.1.2.2.1 y y0 y1).1) hMF hin ⟨x0, by omega⟩ (by omega) (fun g => ?_) (fun g => ?_)⟩⟩⟩
        · have hI' := hI (by omega)
          unfold r32 at ri
          simp (disch := first | (unfold r32; omega) | omega) only [j_lit, J_eq, j_ops]
          refine ⟨fun _ => ⟨fun q3 => ?_, fun q3 => fin x (Or.inl ⟨x0, by omega, g, by omega⟩)⟩, fun y => by first | omega | exact absurd y (by simp)⟩
          have e : cnt (fun x => hol N t x) (x + 1).toNat = cnt (fun x => hol N t x) x.toNat + 1 := by rw [cnt_z _ x0, bi_1 g]
          have := ih (x + 1) (by omega) (by omega) (fun z => by rw [e]; omega)
          rw [e, show i - (cnt (fun x => hol N t x) x.toNat + 1) = i - cnt (fun x => hol N t x) x.toNat + -1 by omega] at this
          exact this
        · simp (disch := first | (unfold r32; omega) | omega) only [j_lit, j_ops, J_eq]
          exact ⟨fun y => absurd trivial y, fun _ => nx g⟩
    have := key (Zn N).toNat 0 (by omega) (by omega) (fun z => z)
    rw [show i - cnt (fun x => hol N t x) (0 : Int).toNat = i by have : cnt (fun x => hol N t x) (0 : Int).toNat = 0 := rfl; omega] at this
    exact this
  · simp (disch := first | (unfold r32; omega) | omega) only [j_lit, j_ops, J_eq]
    exact ⟨fun y => absurd trivial y, fun _ => H m1 _ hI1 (by unfold LRs; rw [if_neg hin])⟩
theorem p_match {P : Int32 → Int32 → zM → Prop} {m : zM} {a c : Int} (ra : r32 a) (rc : r32 c) (hI : IV C w m) (H : ∀ v m', IV C w m' → P v v m') : cI (d + 9) 128 [.ref 3, .int (J a), .int (J c)] w m (fun x m1 => cI (d + 9) 270 [.ref 261, .int (J a), .int (J c)] w m1 (fun y m2 => P x y m2)) := by
  obtain ⟨N, hI⟩ := hI
  exact c_match ra rc hI (fun m1 hI1 => c_M_match (d := d + 3) ra rc hI1 (fun m2 hI2 => H _ m2 ⟨N, hI2⟩))
theorem p_longer {P : Int32 → Int32 → zM → Prop} {m : zM} {t i : Int} (rt : r32 t) (ri : r32 i) (hI : IV C w m) (H : ∀ v m', IV C w m' → P v v m') : cI (d + 9) 138 [.ref 3, .int (J t), .int (J i)] w m (fun x m1 => cI (d + 9) 278 [.ref 261, .int (J t), .int (J i)] w m1 (fun y m2 => P x y m2)) := by
  obtain ⟨N, hI⟩ := hI
  exact c_longerQ rt ri hI (fun m1 v hI1 hv => c_M_longerQ (d := d + 2) rt ri hI1 (fun m2 v' hI2 hv' => by rw [hv.uniq hv']; exact H _ m2 ⟨N, hI2⟩))
end QMA
