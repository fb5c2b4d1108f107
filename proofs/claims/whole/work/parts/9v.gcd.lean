/-! the greatest divisor: both sides -/
theorem gcd_st (a b : Nat) : Nat.gcd b (a % b) = Nat.gcd a b := by
  rw [Nat.gcd_comm b, ← Nat.gcd_rec, Nat.gcd_comm]
section GCD
variable {d : Nat} {w : Nat × Nat × Nat}
theorem c_gd1 {Q : Int64 → zM → Prop} {m : zM} {a b s : Nat} (ha : a < 9223372036854775807) (hb : b < 9223372036854775807) (hs : s < 200) (H0 : b = 0 → Q (JL (a : Int)) m) (H1 : b ≠ 0 → W_T_greatestDivisor_8 d (JL (b : Int)) (JL ((a % b : Nat) : Int)) (J ((s + 1 : Nat) : Int)) w m Q) : W_T_greatestDivisor_8 d (JL (a : Int)) (JL (b : Int)) (J (s : Int)) w m Q := by
  refine S_T_greatestDivisor_8 ?_
  simp (disch := first | (unfold r32; omega) | (unfold r64; omega) | omega) only [j_lit, jl_lit, j_ops, J_le, JL_eq]
  refine ⟨fun q => by omega, fun _ => ⟨fun q => H0 (by omega), fun q => ⟨by omega, ?_⟩⟩⟩
  rw [JL_mod (by omega) (by unfold r64; omega) (by omega) (by unfold r64; omega)]
  exact H1 (by omega)
theorem c_gd8 {Q : Int64 → zM → Prop} {m : zM} : ∀ (k a b s : Nat), a < 9223372036854775807 → b < 9223372036854775807 → b < 2 ^ k → s + 2 * k ≤ 199 → Q (JL ((a.gcd b : Nat) : Int)) m → W_T_greatestDivisor_8 d (JL (a : Int)) (JL (b : Int)) (J (s : Int)) w m Q := by
  intro k
  induction k with
  | zero =>
    intro a b s ha hb hk hs H
    have b0 : b = 0 := by
      have : (2 : Nat) ^ 0 = 1 := rfl
      omega
    refine c_gd1 ha hb (by omega) (fun _ => ?_) (fun q => absurd b0 q)
    rw [b0, Nat.gcd_zero_right] at H
    exact H
  | succ k ih =>
    intro a b s ha hb hk hs H
    have e2 : (2 : Nat) ^ (k + 1) = 2 ^ k * 2 := Nat.pow_succ 2 k
    refine c_gd1 ha hb (by omega) (fun q => ?_) (fun q => ?_)
    · rw [q, Nat.gcd_zero_right] at H; exact H
    · have r1 : a % b < b := Nat.mod_lt _ (by omega)
      refine c_gd1 hb (by omega) (by omega) (fun q2 => ?_) (fun q2 => ?_)
      · rw [← gcd_st, q2, Nat.gcd_zero_right] at H; exact H
      · have r2 : b % (a % b) < a % b := Nat.mod_lt _ (by omega)
        have r3 : b % (a % b) < 2 ^ k := by
          by_cases g : 2 * (a % b) ≤ b
          · omega
          · have : b % (a % b) = b - a % b := by
              rw [Nat.mod_eq_sub_mod (by omega), Nat.mod_eq_of_lt (by omega)]
            omega
        refine ih _ _ _ (by omega) (by omega) r3 (by omega) ?_
        rw [gcd_st, gcd_st]
        exact H
theorem c_Mgcd10 {Q : Int64 → zM → Prop} {m : zM} : ∀ (n a b : Nat), b ≤ n → a < 9223372036854775807 → b < 9223372036854775807 → Q (JL ((a.gcd b : Nat) : Int)) m → W_M_gcd_10 d (JL (a : Int)) (JL (b : Int)) w m Q := by
  intro n
  induction n with
  | zero =>
    intro a b hn ha hb H
    have b0 : b = 0 := by omega
    refine S_M_gcd_10 ?_
    simp (disch := first | (unfold r64; omega) | omega) only [j_lit, jl_lit, j_ops, JL_eq]
    rw [b0, Nat.gcd_zero_right] at H
    exact ⟨fun _ => H, fun q => by omega⟩
  | succ n ih =>
    intro a b hn ha hb H
    refine S_M_gcd_10 ?_
    simp (disch := first | (unfold r64; omega) | omega) only [j_lit, jl_lit, j_ops, JL_eq]
    refine ⟨fun q => ?_, fun q => ⟨by omega, ?_⟩⟩
    · rw [show b = 0 by omega, Nat.gcd_zero_right] at H; exact H
    · rw [JL_mod (by omega) (by unfold r64; omega) (by omega) (by unfold r64; omega)]
      have r1 : a % b < b := Nat.mod_lt _ (by omega)
      refine ih b (a % b) (by omega) hb (by omega) ?_
      rw [gcd_st]
      exact H
end GCD
