/-! the reference compares fractions by Euclid's steps -/
theorem xor_sign (x y : Int64) : ((0 : Int64) ≤ (x ^^^ y)) ↔ (x.toInt < 0 ↔ y.toInt < 0) := by
  have h0 : (0 : Int64).toInt = 0 := by decide
  rw [Int64.le_iff_toInt_le, h0]
  have e : (x ^^^ y).toInt = (x.toBitVec ^^^ y.toBitVec).toInt := rfl
  have ex : x.toInt = x.toBitVec.toInt := rfl
  have ey : y.toInt = y.toBitVec.toInt := rfl
  have m1 := BitVec.msb_eq_toInt (x := x.toBitVec ^^^ y.toBitVec)
  have m2 := BitVec.msb_eq_toInt (x := x.toBitVec)
  have m3 := BitVec.msb_eq_toInt (x := y.toBitVec)
  rw [BitVec.msb_xor, m2, m3] at m1
  rw [e, ex, ey]
  generalize (x.toBitVec ^^^ y.toBitVec).toInt = t at *
  generalize x.toBitVec.toInt = a at *
  generalize y.toBitVec.toInt = c at *
  clear m2 m3 e ex ey h0
  by_cases ha : a < 0
  · by_cases hc : c < 0
    · rw [decide_eq_true ha, decide_eq_true hc] at m1
      have : ¬ t < 0 := fun y => by rw [decide_eq_true y] at m1; exact absurd m1 (by decide)
      omega
    · rw [decide_eq_true ha, decide_eq_false hc] at m1
      have : t < 0 := by
        by_cases y : t < 0
        · exact y
        · rw [decide_eq_false y] at m1; exact absurd m1 (by decide)
      omega
  · by_cases hc : c < 0
    · rw [decide_eq_false ha, decide_eq_true hc] at m1
      have : t < 0 := by
        by_cases y : t < 0
        · exact y
        · rw [decide_eq_false y] at m1; exact absurd m1 (by decide)
      omega
    · rw [decide_eq_false ha, decide_eq_false hc] at m1
      have : ¬ t < 0 := fun y => by rw [decide_eq_true y] at m1; exact absurd m1 (by decide)
      omega
theorem fl_st {x y X z wd Z : Int} (hy : 0 < y) (hw : 0 < wd) (hx : x < y * X + y) (hz : wd * Z ≤ z) (h : X < Z) : x * wd < z * y := by
  have a1 : y * (X + 1) ≤ y * Z := Int.mul_le_mul_of_nonneg_left (by omega) (by omega)
  rw [Int.mul_add, Int.mul_one] at a1
  have a2 : x * wd < y * Z * wd := Int.mul_lt_mul_of_pos_right (by omega) hw
  have a3 : wd * Z * y ≤ z * y := Int.mul_le_mul_of_nonneg_right hz (by omega)
  rw [show wd * Z * y = y * Z * wd by ac_rfl] at a3
  omega
section LES
variable {d : Nat} {w : Nat × Nat × Nat} {C : Int} {N : Int → Int} {mv : zM} {b : Nat}
theorem c_floorDiv {Q : Int64 → zM → Prop} {m : zM} {a e : Int} (ha : -1000000000000 ≤ a ∧ a ≤ 1000000000000) (he : 0 < e ∧ e ≤ 1000000000000) (H : Q (JL (a / e)) m) : cL d 289 [.long (JL a), .long (JL e)] w m Q := by
  refine S_JM_floorDiv ?_
  have ne : ¬ JL e = 0 := by rw [show (0 : Int64) = JL 0 from rfl, JL_eq (by unfold r64; omega) (by unfold r64; omega)]; omega
  have xs := xor_sign (JL a) (JL e)
  rw [JL_toInt (by unfold r64; omega), JL_toInt (by unfold r64; omega)] at xs
  refine ⟨ne, ?_⟩
  by_cases g : 0 ≤ a
  · rw [JL_div g (by unfold r64; omega) he.1 (by unfold r64; omega)]
    exact ⟨fun _ => H, fun q => absurd (xs.mpr (by omega)) q⟩
  · have b1 := Int.mul_ediv_add_emod (-a) e
    have b2 := Int.emod_nonneg (-a) (show e ≠ 0 by omega)
    have b3 := Int.emod_lt_of_pos (-a) he.1
    have b4 : (-a) / e ≤ -a := Int.ediv_le_self _ (by omega)
    have b5 : 0 ≤ (-a) / e := Int.ediv_nonneg (by omega) (by omega)
    have dv : JL a / JL e = JL (-((-a) / e)) := by
      rw [← Int64.toInt_inj, Int64.toInt_div_of_ne_right, JL_toInt (by unfold r64; omega), JL_toInt (by unfold r64; omega), JL_toInt (by unfold r64; omega)]
      · have : a = -(-a) := by omega
        rw [this, Int.neg_tdiv, Int.tdiv_eq_ediv_of_nonneg (by omega), Int.neg_neg]
      · intro h
        have := congrArg Int64.toInt h
        rw [JL_toInt (by unfold r64; omega)] at this
        have h3 : (-1 : Int64).toInt = -1 := by decide
        omega
    rw [dv, jl_ops.2.2.1]
    generalize hq : (-a) / e = q at *
    generalize hr : (-a) % e = r at *
    have c1 : -q * e = -(e * q) := by rw [Int.neg_mul, Int.mul_comm]
    refine ⟨fun y => absurd (xs.mp y) (by omega), fun _ => ?_⟩
    rw [show (1 : Int64) = JL 1 from rfl, jl_ops.2.1, c1]
    have m0 : -1000000000000 ≤ -(e * q) ∧ -(e * q) ≤ 0 := by
      have := Int.mul_nonneg (show 0 ≤ e by omega) b5
      omega
    rw [JL_eq (by unfold r64; omega) (by unfold r64; omega)]
    refine ⟨fun y => ?_, fun y => ?_⟩
    · have : a / e = -q := (Int.ediv_emod_unique (r := 0) he.1).mpr ⟨by rw [Int.mul_neg]; omega, by omega, he.1⟩ |>.1
      rw [this] at H
      exact H
    · have : a / e = -q - 1 := (Int.ediv_emod_unique (r := e - r) he.1).mpr ⟨by rw [Int.mul_sub, Int.mul_neg, Int.mul_one]; omega, by omega, by omega⟩ |>.1
      rw [this] at H
      exact H
theorem c_less55 {Q : Int32 → zM → Prop} {m : zM} {x z tn : Int} (rx : r64 x) (rz : r64 z) (ht : tn = 0 ∨ tn = 1) (H1 : (tn = 0 → x = 0 ∧ z ≠ 0) → (tn = 1 → x ≠ 0 ∧ z = 0) → Q (J 1) m) (H0 : (tn = 0 → ¬ (x = 0 ∧ z ≠ 0)) → (tn = 1 → ¬ (x ≠ 0 ∧ z = 0)) → Q (J 0) m) : W_M_isLess_55 d (JL x) (JL z) (J tn) w m Q := by
  refine S_M_isLess_55 ?_
  simp (disch := first | exact rx | exact rz | (unfold r32; omega) | (unfold r64; omega)) only [j_lit, jl_lit, J_eq, JL_eq]
  exact ⟨fun q => ⟨fun q1 => H0 (fun _ y => q1 y.1) (fun y => by omega), fun q1 => ⟨fun q2 => H0 (fun _ y => y.2 q2) (fun y => by omega), fun q2 => H1 (fun _ => ⟨q1, q2⟩) (fun y => by omega)⟩⟩, fun q => ⟨fun q1 => H0 (fun y => by omega) (fun _ y => y.1 q1), fun q1 => ⟨fun q2 => H0 (fun y => by omega) (fun _ y => q2 y.2), fun q2 => H1 (fun y => by omega) (fun _ => ⟨q1, q2⟩)⟩⟩⟩
theorem c_less10 {Q : Int32 → zM → Prop} {m : zM} : ∀ (n : Nat) (x y z v tn : Int), 0 < y → y ≤ n → 0 < v → y ≤ 1000000000000 → v ≤ 1000000000000 → -1000000000000 ≤ x ∧ x ≤ 1000000000000 → -1000000000000 ≤ z ∧ z ≤ 1000000000000 → tn = 0 ∨ tn = 1 → ((tn = 0 → x * v < z * y) → (tn = 1 → z * y < x * v) → Q (J 1) m) → ((tn = 0 → ¬ x * v < z * y) → (tn = 1 → ¬ z * y < x * v) → Q (J 0) m) → W_M_isLess_10 d (JL x) (JL y) (JL z) (JL v) (J tn) w m Q := by
  intro n
  induction n with
  | zero => intro x y z v tn y0 yn _ _ _ _ _ _ _ _; omega
  | succ n ih =>
    intro x y z v tn y0 yn v0 yb vb hx hz ht H1 H0
    refine S_M_isLess_10 (c_floorDiv hx ⟨y0, yb⟩ (c_floorDiv hz ⟨v0, vb⟩ ?_))
    have x1 := Int.mul_ediv_add_emod x y
    have x2 := Int.emod_nonneg x (show y ≠ 0 by omega)
    have x3 := Int.emod_lt_of_pos x y0
    have z1 := Int.mul_ediv_add_emod z v
    have z2 := Int.emod_nonneg z (show v ≠ 0 by omega)
    have z3 := Int.emod_lt_of_pos z v0
    have xb : -1000000000000 ≤ x / y ∧ x / y ≤ 1000000000000 := by
      refine ⟨(Int.le_ediv_iff_mul_le y0).mpr ?_, ?_⟩
      · have := Int.mul_le_mul_of_nonneg_left y0 (show (0 : Int) ≤ 1000000000000 by omega)
        omega
      · refine Int.le_trans (Int.ediv_le_ediv y0 hx.2) (Int.ediv_le_self _ (by omega))
    have zb : -1000000000000 ≤ z / v ∧ z / v ≤ 1000000000000 := by
      refine ⟨(Int.le_ediv_iff_mul_le v0).mpr ?_, ?_⟩
      · have := Int.mul_le_mul_of_nonneg_left v0 (show (0 : Int) ≤ 1000000000000 by omega)
        omega
      · refine Int.le_trans (Int.ediv_le_ediv v0 hz.2) (Int.ediv_le_self _ (by omega))
    generalize x / y = X at *
    generalize x % y = x' at *
    generalize z / v = Z at *
    generalize z % v = z' at *
    simp (disch := first | (unfold r32; omega) | (unfold r64; omega)) only [j_lit, JL_eq, JL_le, J_eq]
    refine ⟨fun q => S_M_isLess_37 (S_M_isLess_43 ?_), fun q => ⟨fun t0 => ⟨fun q2 => H0 (fun _ g => ?_) (fun g => by omega), fun q2 => H1 (fun _ => ?_) (fun g => by omega)⟩, fun t0 => ⟨fun q2 => H0 (fun g => by omega) (fun _ g => ?_), fun q2 => H1 (fun g => by omega) (fun _ => ?_)⟩⟩⟩
    · rw [jl_ops.2.2.1, jl_ops.2.2.1, jl_ops.2.1, jl_ops.2.1]
      have ex : x - X * y = x' := by rw [Int.mul_comm]; omega
      have ez : z - Z * v = z' := by rw [Int.mul_comm]; omega
      rw [ex, ez]
      -- the comparison goes over to the rests
      have s1 : x * v = y * X * v + x' * v := by rw [← x1, Int.add_mul]
      have s2 : z * y = y * X * v + z' * y := by
        rw [← z1, Int.add_mul, ← q]
        congr 1
        ac_rfl
      have c1 : x * v < z * y ↔ x' * v < z' * y := by omega
      have c2 : z * y < x * v ↔ z' * y < x' * v := by omega
      rw [c1, c2] at H1 H0
      have fin : x' = 0 ∨ z' = 0 → W_M_isLess_55 d (JL x') (JL z') (J tn) w m Q := fun g => by
        have px : x' ≠ 0 → 0 < x' * v := fun y => Int.mul_pos (by omega) v0
        have pz : z' ≠ 0 → 0 < z' * y := fun y => Int.mul_pos (by omega) y0
        have zx : x' = 0 → x' * v = 0 := fun y => by rw [y, Int.zero_mul]
        have zz : z' = 0 → z' * y = 0 := fun y => by rw [y, Int.zero_mul]
        refine c_less55 (by unfold r64; omega) (by unfold r64; omega) ht (fun a1 a2 => H1 (fun t => ?_) (fun t => ?_)) (fun a1 a2 => H0 (fun t => ?_) (fun t => ?_))
        · have := a1 t
          have := zx this.1
          have := pz (a1 t).2
          omega
        · have := a2 t
          have := px this.1
          have := zz (a2 t).2
          omega
        · have := a1 t
          by_cases gx : x' = 0
          · by_cases gz : z' = 0
            · have := zx gx; have := zz gz; omega
            · exact absurd ⟨gx, gz⟩ this
          · have := px gx
            have := zz (by omega)
            omega
        · have := a2 t
          by_cases gz : z' = 0
          · by_cases gx : x' = 0
            · have := zx gx; have := zz gz; omega
            · exact absurd ⟨gx, gz⟩ this
          · have := pz gz
            have := zx (by omega)
            omega
      simp (disch := first | (unfold r32; omega) | (unfold r64; omega)) only [jl_lit, JL_eq]
      refine ⟨fun g => fin (Or.inl g), fun g => ⟨fun g2 => S_M_isLess_77 (S_M_isLess_81 (S_M_isLess_85 (S_M_isLess_89 ?_))), fun g2 => fin (Or.inr g2)⟩⟩
      have e1 : y * z' = z' * y := Int.mul_comm _ _
      have e2 : v * x' = x' * v := Int.mul_comm _ _
      simp (disch := first | (unfold r32; omega) | (unfold r64; omega)) only [j_lit, J_eq]
      refine ⟨fun t => ih y x' v z' 0 (by omega) (by omega) (by omega) (by omega) (by omega) (by omega) (by omega) (Or.inl rfl) (fun a1 a2 => H1 (fun y => by omega) (fun _ => ?_)) (fun a1 a2 => H0 (fun y => by omega) (fun _ => ?_)), fun t => ih y x' v z' 1 (by omega) (by omega) (by omega) (by omega) (by omega) (by omega) (by omega) (Or.inr rfl) (fun a1 a2 => H1 (fun _ => ?_) (fun y => by omega)) (fun a1 a2 => H0 (fun _ => ?_) (fun y => by omega))⟩
      · have := a1 rfl; omega
      · have := a1 rfl; omega
      · have := a2 rfl; omega
      · have := a2 rfl; omega
    · have := fl_st (x := z) (y := v) (X := Z) (z := x) (wd := y) (Z := X) v0 y0 (by omega) (by omega) (by omega)
      omega
    · exact fl_st (x := x) (y := y) (X := X) (z := z) (wd := v) (Z := Z) y0 v0 (by omega) (by omega) (by omega)
    · have := fl_st (x := x) (y := y) (X := X) (z := z) (wd := v) (Z := Z) y0 v0 (by omega) (by omega) (by omega)
      omega
    · exact fl_st (x := z) (y := v) (X := Z) (z := x) (wd := y) (Z := X) v0 y0 (by omega) (by omega) (by omega)
theorem c_isLess {Q : Int32 → zM → Prop} {m : zM} {x y z v : Int} (y0 : 0 < y) (v0 : 0 < v) (yb : y ≤ 1000000000000) (vb : v ≤ 1000000000000) (hx : -1000000000000 ≤ x ∧ x ≤ 1000000000000) (hz : -1000000000000 ≤ z ∧ z ≤ 1000000000000) (H1 : x * v < z * y → Q (J 1) m) (H0 : ¬ x * v < z * y → Q (J 0) m) : cI (d + 1) 252 [.long (JL x), .long (JL y), .long (JL z), .long (JL v)] w m Q := by
  refine S_M_isLess ?_
  simp only [j_lit]
  exact c_less10 y.toNat x y z v 0 y0 (by omega) v0 yb vb hx hz (Or.inl rfl) (fun a _ => H1 (a rfl)) (fun a _ => H0 (a rfl))
theorem c_M_isAhead {Q : Int32 → zM → Prop} {m : zM} {g t u : Int} (h : TR C mv b N) (hC : DMC N m) (hU : UD N m 290 291 g (Zn N)) (t0 : 0 ≤ t) (t1 : t < Zn N) (u0 : 0 ≤ u) (u1 : u < Zn N) (H1 : AR N g t u → Q (J 1) m) (H0 : ¬ AR N g t u → Q (J 0) m) : cI (d + 2) 253 [.ref 261, .int (J t), .int (J u)] w m Q := by
  have hM := Mn_b h
  have hZ := Zn_b h
  have ca := ct_b h t0 t1
  have ce := ct_b h u0 u1
  obtain ⟨a1, a2⟩ := hU t t0 t1
  obtain ⟨a3, a4⟩ := hU u u0 u1
  have ra := lw_rg h g t0 t1
  have re := lw_rg h g u0 u1
  have k := AR_lw h (g := g) t0 t1 u0 u1
  have c1 := (hC.2 t t0 t1).1
  have c2 := (hC.2 u u0 u1).1
  unfold AR at H1 H0
  rw [k.1, k.2] at H1 H0
  refine S_M_isAhead ?_
  simp (disch := first | (unfold r32; omega) | omega) only [j_lit, vp_J, J_cl, lq_tn, jl_rd, a1, a2, a3, a4]
  refine ⟨by omega, by omega, by omega, by omega, c_isLess (by omega) (by omega) (by omega) (by omega) (by omega) (by omega) (fun q => ?_) (fun q => ?_)⟩
  · simp (disch := first | (unfold r32; omega) | omega) only [j_lit, J_eq]
    exact ⟨fun y => by omega, fun _ => H1 (Or.inl q)⟩
  · simp (disch := first | (unfold r32; omega) | omega) only [j_lit, J_eq, vp_J, J_cl, lq_tn, jl_rd, a1, a2, a3, a4]
    refine ⟨fun _ => ⟨by omega, by omega, by omega, by omega, c_isLess (by omega) (by omega) (by omega) (by omega) (by omega) (by omega) (fun q2 => ?_) (fun q2 => ?_)⟩, fun y => absurd trivial y⟩
    · simp (disch := first | (unfold r32; omega) | omega) only [j_lit, J_eq]
      exact ⟨fun y => by omega, fun _ => H0 (by omega)⟩
    · simp (disch := first | (unfold r32; omega) | omega) only [j_lit, J_eq, vp_J, J_cl, iq_tn, j_rd, c1, c2, J_le]
      exact ⟨fun _ => ⟨by omega, by omega, fun y => ⟨fun y2 => H0 (by omega), fun y2 => H1 (by omega)⟩, fun y => ⟨by omega, by omega, fun y2 => H0 (by omega), fun y2 => H1 (by omega)⟩⟩, fun y => absurd trivial y⟩
end LES
