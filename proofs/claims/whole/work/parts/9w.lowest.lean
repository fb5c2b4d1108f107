/-! lowest terms: both sides -/
/-- a measure in lowest terms -/
def lwA (a b : Int) : Int := a / ((a.natAbs.gcd b.toNat : Nat) : Int)
def lwB (a b : Int) : Int := b / ((a.natAbs.gcd b.toNat : Nat) : Int)
section LWT
variable {d : Nat} {w : Nat × Nat × Nat}
theorem c_Mgcd {Q : Int64 → zM → Prop} {m : zM} {a b : Int} (ha : -9223372036854775807 < a ∧ a < 9223372036854775807) (hb : 0 ≤ b ∧ b < 9223372036854775807) (H : Q (JL ((a.natAbs.gcd b.toNat : Nat) : Int)) m) : cL d 245 [.long (JL a), .long (JL b)] w m Q := by
  have eb : b = ((b.toNat : Nat) : Int) := by omega
  refine S_M_gcd ?_
  simp (disch := first | (unfold r64; omega) | omega) only [j_lit, jl_lit, j_ops, jl_ops, JL_le]
  refine ⟨fun q => ?_, fun q => ?_⟩
  · have ea : a = ((a.natAbs : Nat) : Int) := by omega
    rw [ea, eb]
    refine c_Mgcd10 b.toNat a.natAbs b.toNat (by omega) (by omega) (by omega) H
  · have ea : -a = ((a.natAbs : Nat) : Int) := by omega
    rw [ea, eb]
    exact c_Mgcd10 b.toNat a.natAbs b.toNat (by omega) (by omega) (by omega) H
end LWT
