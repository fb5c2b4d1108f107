/-! the class's pattern: one kind -/
section CKD
variable {d : Nat} {w : Nat × Nat × Nat} {T : Int → Int} {n : Int} {a : Nat}
theorem pp_bit : ∀ k : Fin 12, (J 1 <<< (J (k.val : Int) &&& J 31)) ||| ((J 1 <<< (J (k.val : Int) &&& J 31)) <<< (J 12 &&& J 31)) = J ((ppk (2 ^ k.val) (2 ^ k.val) 0 : Nat) : Int) := by decide
theorem pp_2z {z : Nat} (h : z < 12) : 2 ^ z < 4096 := by
  have := Nat.pow_lt_pow_right (a := 2) (by decide) h
  exact this
theorem c_pkind {Q : Int32 → zM → Prop} {m : zM} {p : Int} {z : Nat} {K : Nat → Int} {F : Nat → Nat} (ha : zPt w a) (ha9 : 9 ≤ a) (ht : tpC m T n) (h8 : atB m T n p) (h5 : iq m 8 5 = 0) (hp : 0 ≤ p ∧ p ≤ n) (hK : KF a m z K F) (hc : tC T n p ≠ 40) (hc1 : tC T n p ≠ -1)
    (H : ∀ m', ato (tC T n p) → z ≠ 12 → fr [8, a, a + 1, a + 2] m m' → (∀ y, 0 ≤ y → y ≠ 2 → iq m' a y = iq m a y) → iq m' 8 5 = 0 → iq m' 8 6 = iq m 8 6 → atB m' T n (nB T n p) → KF a m' (z + 1) (fun k => if k = z then tC T n p else K k) (fun k => if k = z then 0 else F k) → Q (J ((ppk (2 ^ z) (2 ^ z) 0 : Nat) : Int)) m')
    (H1 : ∀ m', ¬ ato (tC T n p) → fr [8] m m' → iq m' 8 5 = 1 → iq m' 8 6 = tP T n p → Q (J 0) m')
    (H2 : ∀ m', ato (tC T n p) → z = 12 → fr [8] m m' → iq m' 8 5 = 2 → iq m' 8 6 = tP T n p → Q (J 0) m') : cI (d + 3) 45 [.ref a, .ref 8] w m Q := by
  have hr := tC_r (n := n) (p := p) ht.2.2.2.2
  have hbd := nB_bd (T := T) hp.2
  have hlt := hbd.2.2.2.2 hc1
  have hz := hK.1
  have hzs := hK.2.1
  have full : ato (tC T n p) → ¬ (z : Int) < 12 → cV (d + 2) 63 [.ref 8, .int (J 2)] w m (fun m' => Q (J 0) m') := fun hat q =>
    c_refuse h5 h8.2.1 (by unfold r32; omega) (fun m' e1 e2 e3 => H2 m' hat (by omega) e1 e2 e3)
  have put : ato (tC T n p) → (tC T n p = 46 ∨ tC T n p = 120 ∨ kb (tC T n p) ≠ -1) → (z : Int) < 12 → cV (d + 2) 158 [.ref (a + 1), .int (J (z : Int)), .int (J (tC T n p))] w m (fun m6 => cV (d + 2) 158 [.ref (a + 2), .int (m6.1 a 2), .int (J 0)] w m6 (fun m7 => cV (d + 2) 64 [.ref 8] w (zI m7 a 2 ((m7.1 a 2) + (J 1))) (fun m8 => Q (((J 1) <<< ((m7.1 a 2) &&& J 31)) ||| (((J 1) <<< ((m7.1 a 2) &&& J 31)) <<< ((J 12) &&& J 31))) m8))) := by
    intro hat hkd q
    refine c_put ha.2.2.2.1 (by decide) (by unfold r32; omega) (by omega) ?_
    have v1 : iq (sq m (a + 1) (z : Int) (tC T n p)) a 2 = z := by rw [iq_sq (by omega) (by omega) (by unfold r32; omega), if_neg (by omega), hzs]
    simp only [j_rd, j_nc, v1]
    refine c_put ha.2.2.2.2 (by decide) (by unfold r32; omega) (by omega) ?_
    have v2 : iq (sq (sq m (a + 1) (z : Int) (tC T n p)) (a + 2) (z : Int) 0) a 2 = z := by rw [iq_sq (by omega) (by omega) (by unfold r32; omega), if_neg (by omega), v1]
    simp only [j_rd, j_nc, v2, j_ops, j_wr]
    have pb := pp_bit ⟨z, by omega⟩
    have pb : (J 1 <<< (J (z : Int) &&& J 31)) ||| ((J 1 <<< (J (z : Int) &&& J 31)) <<< (J 12 &&& J 31)) = J ((ppk (2 ^ z) (2 ^ z) 0 : Nat) : Int) := pb
    rw [pb]
    have f1 : fr [a, a + 1, a + 2] m (sq (sq (sq m (a + 1) (z : Int) (tC T n p)) (a + 2) (z : Int) 0) a 2 ((z : Int) + 1)) := (((fr.rf _ m).si (by simp) _ _).si (by simp) _ _).si (by simp) _ _
    have k1 : KF a (sq (sq (sq m (a + 1) (z : Int) (tC T n p)) (a + 2) (z : Int) 0) a 2 ((z : Int) + 1)) (z + 1) (fun k => if k = z then tC T n p else K k) (fun k => if k = z then 0 else F k) := by
      refine ⟨by omega, ?_, fun i hi => ?_⟩
      · rw [iq_sq (by omega) (by omega) (by unfold r32; omega), if_pos ⟨rfl, rfl⟩]
        omega
      · have w1 : iq (sq (sq (sq m (a + 1) (z : Int) (tC T n p)) (a + 2) (z : Int) 0) a 2 ((z : Int) + 1)) (a + 1) (i : Int) = if i = z then tC T n p else iq m (a + 1) (i : Int) := by
          rw [iq_sq (by omega) (by omega) (by unfold r32; omega), if_neg (by omega), iq_sq (by omega) (by omega) (by unfold r32; omega), if_neg (by omega), iq_sq (by omega) (by omega) (by unfold r32; omega)]
          by_cases x : i = z
          · rw [if_pos ⟨rfl, by omega⟩, if_pos x]
          · rw [if_neg (by omega), if_neg x]
        have w2 : iq (sq (sq (sq m (a + 1) (z : Int) (tC T n p)) (a + 2) (z : Int) 0) a 2 ((z : Int) + 1)) (a + 2) (i : Int) = if i = z then 0 else iq m (a + 2) (i : Int) := by
          rw [iq_sq (by omega) (by omega) (by unfold r32; omega), if_neg (by omega), iq_sq (by omega) (by omega) (by unfold r32; omega)]
          by_cases x : i = z
          · rw [if_pos ⟨rfl, by omega⟩, if_pos x]
          · rw [if_neg (by omega), if_neg x, iq_sq (by omega) (by omega) (by unfold r32; omega), if_neg (by omega)]
        rw [w1, w2]
        by_cases x : i = z
        · rw [if_pos x, if_pos x]
          show tC T n p = (if i = z then tC T n p else K i) ∧ (0 : Int) = ((if i = z then 0 else F i : Nat) : Int) ∧ (if i = z then 0 else F i) < 4096 ∧ ((if i = z then tC T n p else K i) = 46 ∨ (if i = z then tC T n p else K i) = 120 ∨ kb (if i = z then tC T n p else K i) ≠ -1)
          rw [if_pos x, if_pos x]
          exact ⟨rfl, rfl, by omega, hkd⟩
        · rw [if_neg x, if_neg x]
          show iq m (a + 1) (i : Int) = (if i = z then tC T n p else K i) ∧ iq m (a + 2) (i : Int) = ((if i = z then 0 else F i : Nat) : Int) ∧ (if i = z then 0 else F i) < 4096 ∧ ((if i = z then tC T n p else K i) = 46 ∨ (if i = z then tC T n p else K i) = 120 ∨ kb (if i = z then tC T n p else K i) ≠ -1)
          rw [if_neg x, if_neg x]
          exact hK.2.2 i (by omega)
    have ia : ∀ y, 0 ≤ y → y ≠ 2 → iq (sq (sq (sq m (a + 1) (z : Int) (tC T n p)) (a + 2) (z : Int) 0) a 2 ((z : Int) + 1)) a y = iq m a y := fun y y0 y2 => by
      rw [iq_sq (by omega) y0 (by unfold r32; omega), if_neg (by omega), iq_sq (by omega) y0 (by unfold r32; omega), if_neg (by omega), iq_sq (by omega) y0 (by unfold r32; omega), if_neg (by omega)]
    generalize sq (sq (sq m (a + 1) (z : Int) (tC T n p)) (a + 2) (z : Int) 0) a 2 ((z : Int) + 1) = m1 at *
    have r8 := f1 8 (by simp; omega)
    have h81 : atB m1 T n p := h8.f8 r8.1
    refine c_nextB (p := nB T n p) (ht.fr f1 (by simp; omega) (by simp; omega)) h81.2.2 (by omega) (fun m2 f2 f2l g2 => ?_)
    exact H m2 hat (by omega) ((f1.mo (by simp)).tr (f2.fr.mo (by simp))) (fun y y0 y2 => by rw [f2.i (by omega), ia y y0 y2]) (by rw [f2.2.1, f1.i (by simp; omega), h5]) (by rw [f2.2.2, f1.i (by simp; omega)]) g2 (k1.mv f2.fr (by simp; omega) (by simp; omega) (by simp; omega))
  refine S_Pattern_readKind ha ?_
  simp (disch := first | (unfold r32; omega) | omega) only [j_lit, J_eq, J_lt, j_rd, j_nc, h8.1, hzs]
  refine ⟨fun q => ⟨fun q2 => ?_, fun q2 => full (Or.inr (Or.inl q)) q2⟩, fun q => c_isKind (by omega) ?_⟩
  · have := put (Or.inr (Or.inl q)) (Or.inl q) q2
    simp only [j_rd, j_nc] at this
    exact this
  · by_cases k : kb (tC T n p) ≠ -1 ∨ tC T n p = 120
    · have hat : ato (tC T n p) := by
        rcases k with k | k
        · exact Or.inr (Or.inr (Or.inr k))
        · exact Or.inr (Or.inr (Or.inl k))
      rw [if_pos k]
      simp (disch := first | (unfold r32; omega) | omega) only [J_eq, J_lt, j_rd, j_nc, h8.1, hzs]
      refine ⟨fun _ => ⟨fun q2 => ?_, fun q2 => full hat q2⟩, fun y => by omega⟩
      have := put hat (by rcases k with k | k; · exact Or.inr (Or.inr k)
                          · exact Or.inr (Or.inl k)) q2
      simp only [j_rd, j_nc] at this
      exact this
    · rw [if_neg k]
      simp (disch := first | (unfold r32; omega) | omega) only [J_eq]
      refine ⟨fun y => absurd trivial y, fun _ => c_refuse h5 h8.2.1 (by unfold r32; omega) (fun m' e1 e2 e3 => ?_)⟩
      exact H1 m' (fun y => by
        rcases y with y | y | y | y
        · exact hc y
        · exact q y
        · exact k (Or.inr y)
        · exact k (Or.inl y)) e1 e2 e3
end CKD
