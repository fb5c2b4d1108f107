/-! terms: pure; rows of the class *)
-/
noncomputable def TS (N : Int → Int) : Int → Prop := img (pkm N) (Mn N)
noncomputable def Zn (N : Int → Int) : Int := eK (TS N)
noncomputable def tr (N : Int → Int) (t : Int) : Int := eU (TS N) t
noncomputable def tn (N : Int → Int) (m : Int) : Int := ei (TS N) (pkm N m)
/-- digits, how many lead -/
def dg (x : Int) (j : Nat) : Int := x / 256 ^ (4 - j) % 256
def cl (x : Int) : Int := if dg x 0 = 0 then 0 else if dg x 1 = 0 then 1 else if dg x 2 = 0 then 2 else if dg x 3 = 0 then 3 else if dg x 4 = 0 then 4 else 5
noncomputable def tl (N : Int → Int) (t : Int) : Int := cl (tr N t)
theorem pkf_cl {g : Int → Int} {k n : Int} (h : okd g k n) (h0 : 0 ≤ n) (h5 : n ≤ 5) : cl (pkf g k n) = n := by
  have d : ∀ j : Nat, j < 5 → dg (pkf g k n) j = if (j : Int) < n then g (k + j) + 1 else 0 := fun j hj => pkf_dig h hj
  have nz : ∀ j : Nat, j < 5 → (dg (pkf g k n) j = 0 ↔ n ≤ j) := fun j hj => by
    rw [d j hj]
    by_cases q : (j : Int) < n
    · rw [if_pos q]
      have := h j (by omega) q
      omega
    · rw [if_neg q]
      omega
  have d0 := nz 0 (by omega)
  have d1 := nz 1 (by omega)
  have d2 := nz 2 (by omega)
  have d3 := nz 3 (by omega)
  have d4 := nz 4 (by omega)
  unfold cl
  by_cases q0 : dg (pkf g k n) 0 = 0
  · rw [if_pos q0]; omega
  rw [if_neg q0]
  by_cases q1 : dg (pkf g k n) 1 = 0
  · rw [if_pos q1]; omega
  rw [if_neg q1]
  by_cases q2 : dg (pkf g k n) 2 = 0
  · rw [if_pos q2]; omega
  rw [if_neg q2]
  by_cases q3 : dg (pkf g k n) 3 = 0
  · rw [if_pos q3]; omega
  rw [if_neg q3]
  by_cases q4 : dg (pkf g k n) 4 = 0
  · rw [if_pos q4]; omega
  rw [if_neg q4]; omega
section TMS
variable {d : Nat} {w : Nat × Nat × Nat} {b : Nat} {C : Int} {N : Int → Int} {mv : zM}
theorem TS_b (h : TR C mv b N) : bnd (TS N) := ⟨1099511627776, fun x hx => by
  obtain ⟨i, i0, i1, e⟩ := hx
  have := pk_r64 h i0 i1
  rw [← e]
  omega⟩
theorem Zn_b (h : TR C mv b N) : 0 ≤ Zn N ∧ Zn N ≤ Mn N := ⟨eK_0 (TS_b h), img_k (TS_b h) (Mn_b h).1 (fun _ => Iff.rfl)⟩
/-- a term has a match -/
theorem tr_ex (h : TR C mv b N) {t : Int} (h0 : 0 ≤ t) (h1 : t < Zn N) : ∃ m, 0 ≤ m ∧ m < Mn N ∧ pkm N m = tr N t := (e_spec (TS_b h)).2.2.1 t h0 h1
theorem tn_in (h : TR C mv b N) {m : Int} (h0 : 0 ≤ m) (h1 : m < Mn N) : 0 ≤ tn N m ∧ tn N m < Zn N ∧ tr N (tn N m) = pkm N m := ei_in (TS_b h) ⟨m, h0, h1, rfl⟩
theorem tr_inj (h : TR C mv b N) {s t : Int} (h0 : 0 ≤ s) (h1 : s < Zn N) (h2 : 0 ≤ t) (h3 : t < Zn N) (e : tr N s = tr N t) : s = t := eU_inj (TS_b h) h0 h1 h2 h3 e
theorem tn_is (h : TR C mv b N) {m t : Int} (h0 : 0 ≤ m) (h1 : m < Mn N) (t0 : 0 ≤ t) (t1 : t < Zn N) : tn N m = t ↔ pkm N m = tr N t := by
  have a := tn_in h h0 h1
  constructor
  · intro e; rw [← e]; exact a.2.2.symm
  · intro e; exact tr_inj h a.1 a.2.1 t0 t1 (a.2.2.trans e)
theorem pk_len (h : TR C mv b N) {k n : Int} (h0 : 0 ≤ k) (hn : 0 ≤ n) (h5 : n ≤ 5) (h1 : k + n ≤ wW N) : cl (pk N k n) = n := pkf_cl (okd_id h h0 h1) hn h5
theorem pkm_cl (h : TR C mv b N) {m : Int} (h0 : 0 ≤ m) (h1 : m < Mn N) : cl (pkm N m) = ml N m := by
  have := mk_bd h h0 h1
  exact pk_len h this.1 (by omega) this.2.2.1 this.2.2.2.1
theorem tl_m (h : TR C mv b N) {m t : Int} (h0 : 0 ≤ m) (h1 : m < Mn N) (e : pkm N m = tr N t) : tl N t = ml N m := by
  unfold tl
  rw [← e]
  exact pkm_cl h h0 h1
theorem tl_b (h : TR C mv b N) {t : Int} (h0 : 0 ≤ t) (h1 : t < Zn N) : 1 ≤ tl N t ∧ tl N t ≤ 5 := by
  obtain ⟨m, m0, m1, e⟩ := tr_ex h h0 h1
  have := mk_bd h m0 m1
  rw [tl_m h m0 m1 e]
  omega
theorem tr_b (h : TR C mv b N) {t : Int} (h0 : 0 ≤ t) (h1 : t < Zn N) : 0 ≤ tr N t ∧ tr N t < 1099511627776 := by
  obtain ⟨m, m0, m1, e⟩ := tr_ex h h0 h1
  have := pk_r64 h m0 m1
  rw [← e]
  omega
theorem dg_b (x : Int) (j : Nat) : 0 ≤ dg x j ∧ dg x j < 256 := by unfold dg; omega
theorem c_idIn {Q : Int32 → zM → Prop} {m : zM} {x : Int} {j : Nat} (hx : 0 ≤ x ∧ x < 1099511627776) (hj : j < 5) (H : Q (J (dg x j - 1)) m) : cI d 172 [.long (JL x), .int (J (j : Int))] w m Q := by
  refine S_T_idIn ?_
  have e1 := JL_ushr (a := x) hx.1 (by omega) (s := 8 * (4 - (j : Int))) (by omega) (by omega)
  have e2 : (2 : Int) ^ (8 * (4 - (j : Int))).toNat = 256 ^ (4 - j) := by
    rw [show (8 * (4 - (j : Int))).toNat = 8 * (4 - j) by omega, Int.pow_mul]
    rfl
  rw [e2] at e1
  have e3 : ∀ z, JL z &&& JL 255 = JL (z % 256) := fun z => JL_mask z (k := 8) (by decide)
  simp only [j_lit, jl_lit, j_ops]
  have e1' : ((JL x).toUInt64 >>> ((J (8 * (4 - (j : Int)))).toInt64.toUInt64 &&& Int64.toUInt64 63)).toInt64 = JL (x / 256 ^ (4 - j)) := e1
  rw [e1', e3, JL_32]
  simp only [j_ops]
  exact H
theorem c_cellsOf {Q : Int32 → zM → Prop} {m : zM} {x : Int} (hx : 0 ≤ x ∧ x < 1099511627776) (H : Q (J (cl x)) m) : cI (d + 1) 173 [.long (JL x)] w m Q := by
  have step : ∀ (j : Nat) (H0 : dg x j = 0 → Q (J (j : Int)) m) (H1 : dg x j ≠ 0 → W_T_cellsOf_2 d (JL x) (J ((j : Int) + 1)) w m Q), j < 5 → W_T_cellsOf_2 d (JL x) (J (j : Int)) w m Q := by
    intro j H0 H1 hj
    have hb := dg_b x j
    refine S_T_cellsOf_2 ?_
    simp (disch := first | (unfold r32; omega) | omega) only [j_lit, J_le, j_ops]
    refine ⟨fun q => by omega, fun _ => c_idIn hx hj ?_⟩
    simp (disch := first | (unfold r32; omega) | omega) only [j_lit, J_lt]
    exact ⟨fun q => H0 (by omega), fun q => H1 (by omega)⟩
  unfold cl at H
  refine S_T_cellsOf ?_
  simp only [j_lit]
  refine step 0 (fun q => ?_) (fun q0 => step 1 (fun q => ?_) (fun q1 => step 2 (fun q => ?_) (fun q2 => step 3 (fun q => ?_) (fun q3 => step 4 (fun q => ?_) (fun q4 => ?_) (by omega)) (by omega)) (by omega)) (by omega)) (by omega)
  · rw [if_pos q] at H; exact H
  · rw [if_neg q0, if_pos q] at H; exact H
  · rw [if_neg q0, if_neg q1, if_pos q] at H; exact H
  · rw [if_neg q0, if_neg q1, if_neg q2, if_pos q] at H; exact H
  · rw [if_neg q0, if_neg q1, if_neg q2, if_neg q3, if_pos q] at H; exact H
  · rw [if_neg q0, if_neg q1, if_neg q2, if_neg q3, if_neg q4] at H
    refine S_T_cellsOf_2 ?_
    simp (disch := first | (unfold r32; omega) | omega) only [j_lit, J_le]
    exact ⟨fun _ => H, fun q => by omega⟩
theorem c_part {Q : Int64 → zM → Prop} {m : zM} {x f l : Int} (hx : 0 ≤ x ∧ x < 1099511627776) (hf : 0 ≤ f ∧ f ≤ 5) (hl : 0 ≤ l ∧ l ≤ 5) (H : Q (JL (prt x f l)) m) : cL d 174 [.long (JL x), .int (J f), .int (J l)] w m Q := by
  refine S_T_part ?_
  have e1 := JL_shl x (s := 8 * f) (by omega) (by omega)
  have p1 : (2 : Int) ^ (8 * f).toNat = 256 ^ f.toNat := by rw [show (8 * f).toNat = 8 * f.toNat by omega, Int.pow_mul]; rfl
  rw [p1] at e1
  have e2 : ∀ z, JL z &&& JL 1099511627775 = JL (z % 1099511627776) := fun z => JL_mask z (k := 40) (by decide)
  have mb : 0 ≤ x * 256 ^ f.toNat % 1099511627776 ∧ x * 256 ^ f.toNat % 1099511627776 < 1099511627776 := by omega
  have e3 := JL_ushr (a := x * 256 ^ f.toNat % 1099511627776) mb.1 (by omega) (s := 8 * (5 - l)) (by omega) (by omega)
  have p2 : (2 : Int) ^ (8 * (5 - l)).toNat = 256 ^ (5 - l).toNat := by rw [show (8 * (5 - l)).toNat = 8 * (5 - l).toNat by omega, Int.pow_mul]; rfl
  rw [p2] at e3
  have e4 := JL_shl (x * 256 ^ f.toNat % 1099511627776 / 256 ^ (5 - l).toNat) (s := 8 * (5 - l)) (by omega) (by omega)
  rw [p2] at e4
  simp only [j_lit, jl_lit, j_ops]
  have e1' : JL x <<< ((J (8 * f)).toInt64 &&& 63) = JL (x * 256 ^ f.toNat) := e1
  have e3' : ((JL (x * 256 ^ f.toNat % 1099511627776)).toUInt64 >>> ((J (8 * (5 - l))).toInt64.toUInt64 &&& Int64.toUInt64 63)).toInt64 = JL (x * 256 ^ f.toNat % 1099511627776 / 256 ^ (5 - l).toNat) := e3
  have e4' : JL (x * 256 ^ f.toNat % 1099511627776 / 256 ^ (5 - l).toNat) <<< ((J (8 * (5 - l))).toInt64 &&& 63) = JL (x * 256 ^ f.toNat % 1099511627776 / 256 ^ (5 - l).toNat * 256 ^ (5 - l).toNat) := e4
  rw [e1', e2, e3', e4']
  exact H
/-- the doc of a place -/
theorem c_docAt {Q : Int32 → zM → Prop} {m : zM} {i : Int} (hb : zT b) (hN : TR C m b N) (hi : 0 ≤ i ∧ i < wW N) (H : 0 ≤ dcN N i → dcN N i < 8 → Q (J (dcN N i)) m) : cI (d + 1) 113 [.ref b, .int (J i)] w m Q := by
  have hD := hN.2.2.2.1
  have hw := hN.words
  have hdc := dc_ex hD hi.1 hi.2
  obtain ⟨q1, q2, q3, q4⟩ := id hdc
  have h8 := hD.2.1
  refine S_Told_docAt ?_
  simp only [j_lit]
  have key : ∀ (k : Nat) (z : Int), 0 ≤ z → z + k = dcN N i → W_Told_docAt_2 d b (J i) (J z) w m Q := by
    intro k
    induction k with
    | zero =>
      intro z hz hk
      rw [show dcN N i = z by omega] at H q2 q4
      refine S_Told_docAt_2 hb ?_
      simp (disch := first | (unfold r32; omega) | omega) only [j_lit, J_le]
      refine ⟨fun _ => H hz (by omega), fun q => c_at (n := 8) (zT_de hb) (by decide) (by unfold r32; omega) (by omega) ?_⟩
      have e := (hD.2.2.2.2.1 z hz q2).2
      rw [e]
      have rb := trD_r hD (dc := z + 1) (by omega) (by omega)
      rw [show 260 + (z + 1) = 261 + z by omega] at rb
      simp (disch := first | (unfold r32; omega) | omega) only [J_lt]
      exact ⟨fun _ => H hz (by omega), fun q => by omega⟩
    | succ k ih =>
      intro z hz hk
      refine S_Told_docAt_2 hb ?_
      simp (disch := first | (unfold r32; omega) | omega) only [j_lit, J_le, j_ops]
      refine ⟨fun q => by omega, fun q => c_at (n := 8) (zT_de hb) (by decide) (by unfold r32; omega) (by omega) ?_⟩
      have e := (hD.2.2.2.2.1 z hz (by omega)).2
      rw [e]
      have rb := trD_r hD (dc := z + 1) (by omega) (by omega)
      have rm := trD_m hD (e := z + 1) (dc := dcN N i) (by omega) (by omega) (by omega)
      rw [show 260 + (z + 1) = 261 + z by omega] at rb rm
      simp (disch := first | (unfold r32; omega) | omega) only [J_lt]
      exact ⟨fun q => by omega, fun _ => ih (z + 1) (by omega) (by omega)⟩
  exact key (dcN N i).toNat 0 (by omega) (by omega)
end TMS
