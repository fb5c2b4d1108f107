/-! the reference before it reads -/
section TRI
variable {d : Nat} {w : Nat × Nat × Nat}
theorem c_tries_l {Q : zM → Prop} : ∀ (j : Nat) (z : Int) (m : zM), 0 ≤ z → z + j = 1906 → (∀ m', fr [264] m m' → m'.1 = m.1 → (∀ k, z ≤ k → k < 1906 → lq m' 264 k = lq m 262 k) → (∀ k, 0 ≤ k → k < z → lq m' 264 k = lq m 264 k) → Q m') → W_M_tries_4 d (J z) w m Q := by
  intro j
  induction j with
  | zero =>
    intro z m h0 hj H
    refine S_M_tries_4 ?_
    simp (disch := first | (unfold r32; omega) | omega) only [j_lit, J_le]
    exact ⟨fun _ => H m (fr.rf _ m) rfl (fun k g0 g1 => by omega) (fun k _ _ => rfl), fun q => by omega⟩
  | succ j ih =>
    intro z m h0 hj H
    refine S_M_tries_4 ?_
    simp (disch := first | (unfold r32; omega) | omega) only [j_lit, J_le, vp_J, J_cl, jl_rd, lq_tn, jl_wr, sl_tn, j_ops]
    refine ⟨fun q => by omega, fun _ => ⟨by omega, by omega, ?_⟩⟩
    refine ih (z + 1) _ (by omega) (by omega) (fun m' f1 f2 f3 f4 => H m' (((fr.rf [264] m).sll (by simp) z _).tr f1) f2 (fun k g0 g1 => ?_) (fun k g0 g1 => ?_))
    · by_cases e : k = z
      · rw [f4 k (by omega) (by omega), lq_sl h0 (by omega) (lq_r _ _ _), if_pos ⟨rfl, e⟩, e]
      · rw [f3 k (by omega) g1, lq_sl h0 (by omega) (lq_r _ _ _), if_neg (by omega)]
    · rw [f4 k g0 (by omega), lq_sl h0 g0 (lq_r _ _ _), if_neg (by omega)]
theorem c_tries {Q : zM → Prop} {m : zM} (H : ∀ m', fr [261, 264] m m' → m'.2 261 = m.2 261 → iq m' 261 6 = 0 → iq m' 261 7 = 0 → iq m' 261 8 = -1 → (∀ z, 0 ≤ z → z ≠ 6 → z ≠ 7 → z ≠ 8 → iq m' 261 z = iq m 261 z) → (∀ k, 0 ≤ k → k < 1906 → lq m' 264 k = lq m 262 k) → Q m') : cV (d + 1) 219 [.ref 261] w m Q := by
  refine S_M_tries (S_M_begins ?_)
  simp only [j_lit, j_ops, j_wr, j_nc]
  have f0 : fr [261] m (sq (sq (sq m 261 6 0) 261 7 0) 261 8 (-1)) := (((fr.rf _ m).si (by simp) 6 0).si (by simp) 7 0).si (by simp) 8 (-1)
  have i6 : iq (sq (sq (sq m 261 6 0) 261 7 0) 261 8 (-1)) 261 6 = 0 := by
    rw [iq_sq (by omega) (by omega) (by unfold r32; omega), if_neg (by omega), iq_sq (by omega) (by omega) (by unfold r32; omega), if_neg (by omega), iq_sq (by omega) (by omega) (by unfold r32; omega), if_pos ⟨rfl, rfl⟩]
  have i7 : iq (sq (sq (sq m 261 6 0) 261 7 0) 261 8 (-1)) 261 7 = 0 := by
    rw [iq_sq (by omega) (by omega) (by unfold r32; omega), if_neg (by omega), iq_sq (by omega) (by omega) (by unfold r32; omega), if_pos ⟨rfl, rfl⟩]
  have i8 : iq (sq (sq (sq m 261 6 0) 261 7 0) 261 8 (-1)) 261 8 = -1 := by
    rw [iq_sq (by omega) (by omega) (by unfold r32; omega), if_pos ⟨rfl, rfl⟩]
  have io : ∀ z, 0 ≤ z → z ≠ 6 → z ≠ 7 → z ≠ 8 → iq (sq (sq (sq m 261 6 0) 261 7 0) 261 8 (-1)) 261 z = iq m 261 z := fun z z0 z6 z7 z8 => by
    rw [iq_sq (by omega) z0 (by unfold r32; omega), if_neg (by omega), iq_sq (by omega) z0 (by unfold r32; omega), if_neg (by omega), iq_sq (by omega) z0 (by unfold r32; omega), if_neg (by omega)]
  have l2 : (sq (sq (sq m 261 6 0) 261 7 0) 261 8 (-1)).2 = m.2 := rfl
  generalize sq (sq (sq m 261 6 0) 261 7 0) 261 8 (-1) = m1 at *
  refine c_tries_l 1906 0 m1 (by omega) (by omega) (fun m' f1 f2 f3 f4 => ?_)
  have e : ∀ z, iq m' 261 z = iq m1 261 z := f1.i (by simp)
  exact H m' ((f0.mo (by simp)).tr (f1.mo (by simp))) (by rw [(f1 261 (by simp)).2, l2]) (by rw [e, i6]) (by rw [e, i7]) (by rw [e, i8]) (fun z z0 z6 z7 z8 => by rw [e]; exact io z z0 z6 z7 z8) (fun k k0 k1 => by rw [f3 k k0 k1]; unfold lq; rw [l2])
end TRI
