/-! the reference's word -/
section RW
variable {d : Nat} {w : Nat × Nat × Nat} {T : Int → Int} {n : Int}
/-- the digit's weight after k letters -/
def pw (k : Nat) : Int := if k ≤ 9 then 27 ^ (9 - k) else 0
theorem pw_s (k : Nat) : pw k / 27 = pw (k + 1) := by
  unfold pw
  by_cases a : k + 1 ≤ 9
  · rw [if_pos a, if_pos (by omega), show 9 - k = (9 - (k + 1)) + 1 by omega, Int.pow_succ]
    exact Int.mul_ediv_cancel _ (by decide)
  · rw [if_neg a]
    by_cases b : k ≤ 9
    · rw [if_pos b, show 9 - k = 0 by omega]
      decide
    · rw [if_neg b]
      decide
theorem pw_b (k : Nat) : 0 ≤ pw k ∧ pw k ≤ 7625597484987 := by
  unfold pw
  by_cases b : k ≤ 9
  · rw [if_pos b]
    have h := p27 (n := 9 - k) (by omega)
    have e : (27 : Int) ^ 9 = 7625597484987 := by simp
    have h2 : (27 : Nat) ^ (9 - k) ≤ 27 ^ 9 := Nat.pow_le_pow_right (by decide) (by omega)
    have h2 := Int.ofNat_le.mpr h2
    rw [Int.natCast_pow, Int.natCast_pow] at h2
    have e2 : ((27 : Nat) : Int) = 27 := rfl
    rw [e2, e] at h2
    omega
  · rw [if_neg b]; omega
theorem c_rw_l {Q : Int32 → zM → Prop} {m0 : zM} {q : Int} (hq : 0 ≤ q) (hqn : q < n) (h7 : iq m0 261 7 = 0) (H : ∀ m', le_ T n q - q ≤ 10 → g6 m0 m' → iq m' 261 12 = q → iq m' 261 6 = le_ T n q → lq m' 261 11 = eM (lets T q (le_ T n q - q).toNat) → Q (J 1) m') (H2 : ∀ m', ¬ le_ T n q - q ≤ 10 → g8 m0 m' → iq m' 261 7 = 1 → iq m' 261 8 = q → Q (J 0) m') : ∀ (j k : Nat) (m : zM), tpM m T n → g6 m0 m → iq m 261 12 = q → iq m 261 6 = q + k → q + k ≤ n → (n - (q + k)).toNat = j → (∀ i, q ≤ i → i < q + k → 97 ≤ T i ∧ T i ≤ 122) → le_ T n (q + k) = le_ T n q → lq m 261 11 = eM (lets T q (min k 10)) → W_M_readWord_19 (d + 1) (JL (pw k)) w m Q := by
  intro j
  induction j with
  | zero =>
    intro k m ht hf h12 h6 hk hj hl he hw
    obtain ⟨t1, t2, t3, t4, t5⟩ := ht
    have e : q + k = n := by omega
    have le := le_out (T := T) (n := n) (p := q + k) (by omega)
    rw [← he, le] at H H2
    refine S_M_readWord_19 ?_
    simp (disch := first | (unfold r32; omega) | omega) only [j_lit, J_le, j_rd, j_nc, h6, h12, t3, j_ops]
    refine ⟨fun _ => ⟨fun z => ?_, fun z => ?_⟩, fun z => by omega⟩
    · refine H m (by omega) hf h12 h6 ?_
      rw [hw, show (q + (k : Int) - q).toNat = k by omega, Nat.min_eq_left (by omega)]
    · refine c_fails (by rw [hf.2.1 7 (by omega) (by omega) (by omega), h7]) (by unfold r32; omega) (by unfold r32; omega) (fun m2 e1 e2 e3 e4 e5 e6 => ⟨fun _ => ?_, fun z => absurd rfl z⟩)
      exact H2 m2 (by omega) (hf.g8.tr e1) e5 e6
  | succ j ih =>
    intro k m ht hf h12 h6 hk hj hl he hw
    have ht0 := ht
    obtain ⟨t1, t2, t3, t4, t5⟩ := ht
    have e : q + k < n := by omega
    have hT := t5 (q + k)
    have le := le_in (T := T) (n := n) (p := q + k) (by omega)
    have hpb := pw_b k
    have hps := pw_s k
    refine S_M_readWord_19 ?_
    simp (disch := first | (unfold r32; omega) | omega) only [j_lit, jl_lit, J_le, J_cl, j_rd, j_nc, h6, h12, t3, vp_J, iq_tn, j_ops, j_wr, t4 (q + k) (by omega) e, J_64]
    refine ⟨fun z => by omega, fun _ => ⟨by omega, c_isIn (by unfold r64; omega) (by unfold r64; omega) (by unfold r64; omega) ?_⟩⟩
    by_cases hb : 97 ≤ T (q + k) ∧ T (q + k) ≤ 122
    · rw [if_pos hb] at le
      rw [if_pos hb]
      have hl' : ∀ i, q ≤ i → i < q + ((k + 1 : Nat) : Int) → 97 ≤ T i ∧ T i ≤ 122 := by
        intro i q1 q2
        by_cases z : i = q + k
        · rw [z]; exact hb
        · exact hl i q1 (by omega)
      have h27 : ¬ (27 : Int64) = 0 := by decide
      simp (disch := first | (unfold r32; omega) | (unfold r64; omega) | omega) only [j_lit, jl_lit, J_le, J_eq, J_cl, j_rd, jl_rd, j_nc, h6, h12, t3, vp_J, iq_tn, j_ops, j_wr, jl_wr, t4 (q + k) (by omega) e, J_64, JL_div, jl_ops, hps]
      refine ⟨fun z => by omega, fun _ => ⟨fun z => ⟨by decide, ?_⟩, fun z => ⟨by omega, by decide, ?_⟩⟩⟩
      · have f1 := hf.si (m1 := m) (z := 6) (v := q + k + 1) (by omega) (by omega) (by unfold r32; omega)
        have f0 := (g6.rf m).si (z := 6) (v := q + k + 1) (by omega) (by omega) (by unfold r32; omega)
        refine ih (k + 1) _ (ht0.g6 f0) f1 ?_ ?_ (by omega) (by omega) hl' ?_ ?_
        · rw [iq_sq (by omega) (by omega) (by unfold r32; omega), if_neg (by omega), h12]
        · rw [iq_sq (by omega) (by omega) (by unfold r32; omega), if_pos ⟨rfl, rfl⟩]; omega
        · rw [show q + ((k + 1 : Nat) : Int) = q + k + 1 by omega, ← le, he]
        · rw [lq_sq, hw, Nat.min_eq_right (by omega), Nat.min_eq_right (by omega)]
      · have hw' : lq m 261 11 = eM (lets T q k) := by rw [hw, Nat.min_eq_left (by omega)]
        have hwd : wd (lets T q k) := lets_wd (by omega) hl
        have hln : (lets T q k).length = k := lets_len _ _ _
        have es := eM_snoc (l := lets T q k) (x := T (q + k) - 96) (by omega)
        rw [hln, ← lets_s] at es
        have epw : pw k = 27 ^ (9 - k) := if_pos (by omega)
        rw [← epw] at es
        rw [hw', ← es]
        have hc := eM_bd (lets_wd (T := T) (q := q) (k := k + 1) (by omega) hl')
        have f0 := (g6.rf m).sl (v := eM (lets T q (k + 1))) (by unfold r64; omega)
        have f1 := f0.si (z := 6) (v := q + k + 1) (by omega) (by omega) (by unfold r32; omega)
        refine ih (k + 1) _ (ht0.g6 f1) (hf.tr f1) ?_ ?_ (by omega) (by omega) hl' ?_ ?_
        · rw [iq_sq (by omega) (by omega) (by unfold r32; omega), if_neg (by omega), iq_sl, h12]
        · rw [iq_sq (by omega) (by omega) (by unfold r32; omega), if_pos ⟨rfl, rfl⟩]; omega
        · rw [show q + ((k + 1 : Nat) : Int) = q + k + 1 by omega, ← le, he]
        · rw [lq_sq, lq_sl (by omega) (by omega) (by unfold r64; omega), if_pos ⟨rfl, rfl⟩, Nat.min_eq_left (by omega)]
    · rw [if_neg hb] at le
      rw [if_neg hb]
      rw [← he, le] at H H2
      simp (disch := first | (unfold r32; omega) | omega) only [j_lit, jl_lit, J_le, J_eq, j_rd, j_nc, h6, h12, t3, j_ops]
      refine ⟨fun _ => ⟨fun z => ?_, fun z => ?_⟩, fun z => absurd trivial z⟩
      · refine H m (by omega) hf h12 h6 ?_
        rw [hw, show (q + (k : Int) - q).toNat = k by omega, Nat.min_eq_left (by omega)]
      · refine c_fails (by rw [hf.2.1 7 (by omega) (by omega) (by omega), h7]) (by unfold r32; omega) (by unfold r32; omega) (fun m2 e1 e2 e3 e4 e5 e6 => ⟨fun _ => ?_, fun z => absurd rfl z⟩)
        exact H2 m2 (by omega) (hf.g8.tr e1) e5 e6
theorem c_readWord {Q : Int32 → zM → Prop} {m : zM} {p : Int} (ht : tpM m T n) (hm : iq m 261 6 = p) (h7 : iq m 261 7 = 0) (hp : 0 ≤ p ∧ p ≤ n) (H : ∀ m', tS T n p = -2 → g6 m m' → iq m' 261 12 = tP T n p → iq m' 261 6 = tB T n p → lq m' 261 11 = eM (tL T n p) → Q (J 1) m') (H2 : ∀ m', tS T n p ≠ -2 → g8 m m' → iq m' 261 7 = 1 → iq m' 261 8 = tP T n p → Q (J 0) m') : cI (d + 2) 204 [.ref 261] w m Q := by
  have hn := ht.2.1
  have hk := tok_bd (T := T) hp.2
  have hT := ht.2.2.2.2 (sk T n p)
  refine S_M_readWord (c_isL ht hm hp (fun m1 f1 f1l f3 f4 => ?_))
  by_cases a : tS T n p = -2 ∨ tS T n p = -3
  · rw [if_pos a]
    simp (disch := first | (unfold r32; omega) | omega) only [j_lit, jl_lit, J_eq, j_rd, j_nc, j_wr, jl_wr, f4]
    refine ⟨fun _ => ?_, fun z => by omega⟩
    have h27 := c_power (d := d + 1) (w := w) (n := 9) (by decide) (m := sl (sq m1 261 12 (tP T n p)) 261 11 0) (Q := fun v2 m2 => W_M_readWord_19 (d + 1) v2 w m2 Q)
    refine h27 ?_
    have ha := a
    unfold tS at ha
    by_cases b : n ≤ sk T n p
    · rw [if_pos b] at ha; omega
    · rw [if_neg b] at ha
      by_cases c : 97 ≤ T (sk T n p) ∧ T (sk T n p) ≤ 122
      · have et : tS T n p = if le_ T n (sk T n p) - sk T n p ≤ 10 then -2 else -3 := by
          unfold tS
          rw [if_neg b, if_pos c]
        have eB : tB T n p = le_ T n (sk T n p) := by
          unfold tB
          rw [if_neg b, if_pos c]
        have f2 := (f1.si (z := 12) (v := tP T n p) (by omega) (by omega) (by unfold r32; omega)).sl (v := 0) (by unfold r64; omega)
        have fin := c_rw_l (d := d) (w := w) (T := T) (n := n) (Q := Q) (m0 := m) (q := sk T n p) (by unfold tP at hk; omega) (by omega) h7 (fun m' z1 z2 z3 z4 z5 => ?_) (fun m' z1 z2 z3 z4 => ?_) (n - sk T n p).toNat 0 (sl (sq m1 261 12 (tP T n p)) 261 11 0) (ht.g6 f2) f2 ?_ ?_ (by omega) (by omega) (fun i q1 q2 => by omega) ?_ ?_
        · exact fin
        · rw [if_pos z1] at et
          refine H m' et z2 z3 (by rw [z4, eB]) ?_
          rw [z5]
          rfl
        · rw [if_neg z1] at et
          exact H2 m' (by omega) z2 z3 z4
        · rw [iq_sl, iq_sq (by omega) (by omega) (by unfold r32; omega), if_pos ⟨rfl, rfl⟩]
          rfl
        · rw [iq_sl, iq_sq (by omega) (by omega) (by unfold r32; omega), if_neg (by omega), f4]
          unfold tP
          omega
        · rw [show sk T n p + ((0 : Nat) : Int) = sk T n p by omega]
        · rw [lq_sl (by omega) (by omega) (by unfold r64; omega), if_pos ⟨rfl, rfl⟩]
          rfl
      · rw [if_neg c] at ha; omega
  · rw [if_neg a]
    simp (disch := first | (unfold r32; omega) | omega) only [j_lit, jl_lit, J_eq, j_rd, j_nc, j_wr, jl_wr, f4]
    refine ⟨fun z => absurd trivial z, fun _ => ?_⟩
    refine c_fails (by rw [f1.2.1 7 (by omega) (by omega) (by omega), h7]) (by unfold r32; omega) (by unfold r32; omega) (fun m2 e1 e2 e3 e4 e5 e6 => ⟨by simp [j_lit], ?_⟩)
    exact H2 m2 (by omega) (f1.g8.tr e1) e5 e6
end RW
