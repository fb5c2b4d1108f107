/-! lowest terms: the class's, and both alike -/
theorem JL_divx {a b : Int} (hd : b ∣ a) (ha2 : r64 a) (hb : 0 < b) (hb2 : r64 b) : JL a / JL b = JL (a / b) := by
  have hq : r64 (a / b) := by
    obtain ⟨q, e⟩ := hd
    have e1 : a / b = q := by rw [e]; exact Int.mul_ediv_cancel_left q (by omega)
    unfold r64 at *
    by_cases g : 0 ≤ a
    · have h1 : a / b ≤ a := Int.ediv_le_self _ g
      have h2 : 0 ≤ a / b := Int.ediv_nonneg g (by omega)
      omega
    · have h1 : (-a) / b ≤ -a := Int.ediv_le_self _ (by omega)
      have h2 : 0 ≤ (-a) / b := Int.ediv_nonneg (by omega) (by omega)
      have e2 : (-a) / b = -q := by
        rw [e, show -(b * q) = b * -q by rw [Int.mul_neg]]
        exact Int.mul_ediv_cancel_left (-q) (by omega)
      omega
  have hx := hq
  unfold r64 at ha2 hb2
  rw [← Int64.toInt_inj, JL_toInt hx, Int64.toInt_div_of_ne_right, JL_toInt ⟨by omega, by omega⟩, JL_toInt ⟨by omega, by omega⟩, Int.tdiv_eq_ediv_of_dvd hd]
  intro h
  have := congrArg Int64.toInt h
  rw [JL_toInt ⟨by omega, by omega⟩] at this
  have h3 : (-1 : Int64).toInt = -1 := by decide
  omega
def lwg (a b : Int) : Int := ((a.natAbs.gcd b.toNat : Nat) : Int)
theorem lwg_f {a b : Int} (hb : 0 < b) : 0 < lwg a b ∧ lwg a b ∣ a ∧ lwg a b ∣ b ∧ lwg a b ≤ b := by
  have h1 : 0 < a.natAbs.gcd b.toNat := Nat.gcd_pos_of_pos_right _ (by omega)
  have h3 : lwg a b ∣ b := by
    unfold lwg
    have : ((a.natAbs.gcd b.toNat : Nat) : Int) ∣ ((b.toNat : Nat) : Int) := Int.natCast_dvd_natCast.mpr (Nat.gcd_dvd_right _ _)
    rw [show ((b.toNat : Nat) : Int) = b by omega] at this
    exact this
  refine ⟨by unfold lwg; omega, Int.dvd_natAbs.mp (Int.natCast_dvd_natCast.mpr (Nat.gcd_dvd_left _ _)), h3, Int.le_of_dvd hb h3⟩
theorem lw_f {a b : Int} (hb : 0 < b) : 0 < lwB a b ∧ lwB a b ≤ b ∧ a = lwg a b * lwA a b ∧ b = lwg a b * lwB a b ∧ (0 ≤ a → 0 ≤ lwA a b ∧ lwA a b ≤ a) ∧ (a ≤ 0 → a ≤ lwA a b ∧ lwA a b ≤ 0) := by
  obtain ⟨g0, g1, g2, g3⟩ := lwg_f (a := a) hb
  have eA : a = lwg a b * lwA a b := (Int.mul_ediv_cancel' g1).symm
  have eB : b = lwg a b * lwB a b := (Int.mul_ediv_cancel' g2).symm
  have pB : 0 < lwB a b := by
    have h : 0 ≤ lwB a b := Int.ediv_nonneg (by omega) (by unfold lwg at g0; omega)
    rcases Int.lt_or_eq_of_le h with q | q
    · exact q
    · rw [← q, Int.mul_zero] at eB; omega
  refine ⟨pB, Int.ediv_le_self _ (by omega), eA, eB, fun q => ⟨Int.ediv_nonneg q (by unfold lwg at g0; omega), Int.ediv_le_self _ q⟩, fun q => ?_⟩
  have h1 : (-a) / lwg a b ≤ -a := Int.ediv_le_self _ (by omega)
  have h2 : 0 ≤ (-a) / lwg a b := Int.ediv_nonneg (by omega) (by omega)
  have e2 : (-a) / lwg a b = -(lwA a b) := by
    have e3 : -a = lwg a b * -(lwA a b) := by rw [Int.mul_neg, ← eA]
    rw [e3]
    exact Int.mul_ediv_cancel_left _ (by omega)
  omega
theorem lw_sc (a : Int) {b : Int} {k : Nat} (hb : 0 ≤ b) (hk : 0 < k) : lwA (a * k) (b * k) = lwA a b ∧ lwB (a * k) (b * k) = lwB a b := by
  have e1 : (a * (k : Int)).natAbs = a.natAbs * k := by rw [Int.natAbs_mul, Int.natAbs_natCast]
  have e2 : (b * (k : Int)).toNat = b.toNat * k := by
    have e3 : b = ((b.toNat : Nat) : Int) := by omega
    have e4 : b * (k : Int) = ((b.toNat * k : Nat) : Int) := by rw [Int.natCast_mul, ← e3]
    rw [e4, Int.toNat_natCast]
  unfold lwA lwB
  rw [e1, e2, Nat.gcd_mul_right, Int.natCast_mul]
  exact ⟨Int.mul_ediv_mul_of_pos_left _ _ (by omega), Int.mul_ediv_mul_of_pos_left _ _ (by omega)⟩
theorem lw_eq {a b a' b' : Int} (hb : 0 < b) (hb' : 0 < b') (e : a * b' = a' * b) : lwA a b = lwA a' b' ∧ lwB a b = lwB a' b' := by
  have e1 : b = ((b.toNat : Nat) : Int) := by omega
  have e2 : b' = ((b'.toNat : Nat) : Int) := by omega
  have s1 := lw_sc a (b := b) (k := b'.toNat) (by omega) (by omega)
  have s2 := lw_sc a' (b := b') (k := b.toNat) (by omega) (by omega)
  rw [← e2, e] at s1
  rw [← e1] at s2
  rw [Int.mul_comm b b'] at s1
  exact ⟨s1.1.symm.trans s2.1, s1.2.symm.trans s2.2⟩
/-- a fraction, reduced, times another -/
theorem lw_mul {a b c e : Int} (hb : 0 < b) (he : 0 < e) : lwA (lwA a b * lwA c e) (lwB a b * lwB c e) = lwA (a * c) (b * e) ∧ lwB (lwA a b * lwA c e) (lwB a b * lwB c e) = lwB (a * c) (b * e) := by
  obtain ⟨b0, _, eA, eB, _, _⟩ := lw_f (a := a) hb
  obtain ⟨e0, _, cA, cB, _, _⟩ := lw_f (a := c) he
  refine lw_eq (Int.mul_pos b0 e0) (Int.mul_pos hb he) ?_
  generalize lwA a b = x at *
  generalize lwB a b = y at *
  generalize lwA c e = z at *
  generalize lwB c e = u at *
  generalize lwg a b = g at *
  generalize lwg c e = k at *
  rw [eA, eB, cA, cB]
  ac_rfl
section LW2
variable {d : Nat} {w : Nat × Nat × Nat}
theorem c_abs {Q : Int64 → zM → Prop} {m : zM} {a : Int} (ha : -9223372036854775807 < a ∧ a < 9223372036854775807) (H : Q (JL ((a.natAbs : Nat) : Int)) m) : cL d 290 [.long (JL a)] w m Q := by
  refine S_JM_abs ?_
  simp (disch := first | (unfold r64; omega) | omega) only [j_lit, jl_lit, jl_ops, JL_le]
  refine ⟨fun q => ?_, fun q => ?_⟩
  · rw [show ((a.natAbs : Nat) : Int) = a by omega] at H; exact H
  · rw [show ((a.natAbs : Nat) : Int) = -a by omega] at H; exact H
theorem c_gcdT {Q : Int64 → zM → Prop} {m : zM} {a b : Int} (ha : -9223372036854775807 < a ∧ a < 9223372036854775807) (hb : 0 ≤ b ∧ b < 9223372036854775807) (H : Q (JL (lwg a b)) m) : cL (d + 1) 180 [.long (JL a), .long (JL b)] w m Q := by
  refine S_T_greatestDivisor (c_abs ha (c_abs ⟨by omega, hb.2⟩ ?_))
  simp only [j_lit]
  rw [show b.natAbs = b.toNat by omega]
  exact c_gd8 (s := 0) 63 a.natAbs b.toNat (by omega) (by omega) (by omega) (by omega) H
theorem c_set {Q : zM → Prop} {m : zM} {a b : Int} (ha : -9223372036854775807 < a ∧ a < 9223372036854775807) (hb : 0 < b ∧ b < 9223372036854775807) (H : Q (sl (sl m 255 7 (lwA a b)) 255 8 (lwB a b))) : cV (d + 2) 17 [.ref 255, .long (JL a), .long (JL b)] w m Q := by
  obtain ⟨g0, g1, g2, g3⟩ := lwg_f (a := a) hb.1
  refine S_Measures_set (c_gcdT (d := d) ha ⟨by omega, hb.2⟩ ?_)
  have d1 : JL a / JL (lwg a b) = JL (a / lwg a b) := JL_divx g1 (by unfold r64; omega) g0 (by unfold r64; omega)
  have d2 : JL b / JL (lwg a b) = JL (b / lwg a b) := JL_divx g2 (by unfold r64; omega) g0 (by unfold r64; omega)
  rw [d1, d2]
  simp (disch := first | (unfold r64; omega) | omega) only [j_lit, jl_lit, JL_le, JL_lt, JL_eq, jl_wr, j_nc]
  exact ⟨fun q => by omega, fun _ => ⟨fun _ => ⟨by omega, by omega, H⟩, fun q => by omega⟩⟩
theorem c_puts {Q : zM → Prop} {m : zM} {a b : Int} (ha : -9223372036854775807 < a ∧ a < 9223372036854775807) (hb : 0 < b ∧ b < 9223372036854775807) (H : Q (sl (sl m 261 47 (lwA a b)) 261 48 (lwB a b))) : cV (d + 1) 246 [.ref 261, .long (JL a), .long (JL b)] w m Q := by
  obtain ⟨g0, g1, g2, g3⟩ := lwg_f (a := a) hb.1
  refine S_M_puts (c_Mgcd (d := d) ha ⟨by omega, hb.2⟩ ?_)
  have d1 : JL a / JL (lwg a b) = JL (a / lwg a b) := JL_divx g1 (by unfold r64; omega) g0 (by unfold r64; omega)
  have d2 : JL b / JL (lwg a b) = JL (b / lwg a b) := JL_divx g2 (by unfold r64; omega) g0 (by unfold r64; omega)
  show (¬ JL (lwg a b) = 0) ∧ (¬ JL (lwg a b) = 0) ∧ Q (zL (zL m 261 47 (JL a / JL (lwg a b))) 261 48 (JL b / JL (lwg a b)))
  rw [d1, d2]
  simp (disch := first | (unfold r64; omega) | omega) only [j_lit, jl_lit, JL_le, JL_lt, JL_eq, jl_wr, j_nc]
  exact ⟨by omega, by omega, H⟩
end LW2
