/-! the reference's pattern: if an item stands here -/
section ATM
variable {d : Nat} {w : Nat × Nat × Nat} {T : Int → Int} {n : Int}
theorem c_isAtom {Q : Int32 → zM → Prop} {m : zM} {p : Int} (ht : tpM m T n) (hm : iq m 261 6 = p ∨ iq m 261 6 = tP T n p) (hp : 0 ≤ p ∧ p ≤ n) (H : ∀ m', g6 m m' → m'.2 = m.2 → iq m' 261 12 = iq m 261 12 → iq m' 261 6 = tP T n p → (ato (tC T n p) → Q (J 1) m') ∧ (¬ ato (tC T n p) → Q (J 0) m')) : cI (d + 1) 211 [.ref 261] w m Q := by
  have hr := tC_r (n := n) (p := p) ht.2.2.2.2
  refine S_M_isAtom (c_see' ht hm hp (fun m' f1 f2 f3 f4 => ?_))
  obtain ⟨a, b⟩ := H m' f1 f2 f3 f4
  unfold ato at a b
  simp (disch := first | (unfold r32; omega) | omega) only [j_lit, J_eq, j_ops]
  refine ⟨fun q => a (Or.inl q), fun q1 => ⟨fun q => a (Or.inr (Or.inl q)), fun q2 => ⟨fun q => a (Or.inr (Or.inr (Or.inl q))), fun q3 => c_kindBy (by unfold r32; omega) ?_⟩⟩⟩
  have hk : -1 ≤ kb (tC T n p) ∧ kb (tC T n p) ≤ 5 := by
    unfold kb
    repeat (first | omega | split)
  simp (disch := first | (unfold r32; omega) | omega) only [J_eq]
  exact ⟨fun q => b (fun z => by omega), fun q => a (Or.inr (Or.inr (Or.inr q)))⟩
end ATM
