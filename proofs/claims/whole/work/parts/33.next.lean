/-! the class's next token -/
theorem en_one {k : Nat} (B x : Int) : en B (k + 1) [x] = x * B ^ k := by
  show x * B ^ k + en B k [] = x * B ^ k
  rw [en_nil]; omega
theorem eC_snoc {l : List Int} {x : Int} (h : l.length < 10) : eC (l ++ [x]) = eC l + x * 32 ^ (9 - l.length) := by
  have e := en_app 32 10 l [x] (by omega)
  rw [show 10 - l.length = (9 - l.length) + 1 by omega, en_one] at e
  exact e
theorem lets_tk {T : Int → Int} {q : Int} {k j : Nat} (h : j ≤ k) : (lets T q k).take j = lets T q j := by
  unfold lets
  rw [← List.map_take, List.take_range, Nat.min_eq_left h]
section NX
variable {d : Nat} {w : Nat × Nat × Nat} {T : Int → Int} {n : Int}
theorem c_next_ar {x P R : Int} (h0 : 0 ≤ x) (h1 : x ≤ 26) (hp : 0 < P) (hP : P ≤ 35184372088832) (hR : R = P * 32) : 0 ≤ x * P ∧ x * P < R ∧ x * P ≤ 914793674309632 := by
  have hx : x * P ≤ 26 * P := Int.mul_le_mul_of_nonneg_right h1 (by omega)
  have hx0 : 0 ≤ x * P := Int.mul_nonneg h0 (by omega)
  generalize x * P = y at *
  omega
theorem p32_bd (k : Nat) : (0 : Int) < 32 ^ (9 - k) ∧ (32 : Int) ^ (9 - k) ≤ 35184372088832 := by
  refine ⟨Int.pow_pos (by decide), ?_⟩
  have h : (32 : Nat) ^ (9 - k) ≤ 32 ^ 9 := Nat.pow_le_pow_right (by decide) (by omega)
  have h := Int.ofNat_le.mpr h
  rw [Int.natCast_pow] at h
  exact h
theorem c_next_or {l : List Int} {x : Int} (hl : wd l) (hn : l.length < 10) (h0 : 0 ≤ x) (h1 : x ≤ 26) : JL (eC l) ||| ((J x).toInt64 <<< ((J (5 * (9 - (l.length : Int)))).toInt64 &&& 63)) = JL (eC (l ++ [x])) := by
  rw [J_64 (by unfold r32; omega), JL_shl _ (by omega) (by omega), eC_snoc hn]
  have e1 : (5 * (9 - (l.length : Int))).toNat = 5 * (9 - l.length) := by omega
  rw [e1, p32]
  have hb := wd_b hl (B := 32) (by decide)
  have e2 := en_scale 32 (10 - l.length) l.length l (Nat.le_refl _)
  rw [show l.length + (10 - l.length) = 10 by omega] at e2
  have e3 : (2 : Int) ^ (5 * (10 - l.length)) = 32 ^ (10 - l.length) := p32 _
  have e4 : (32 : Int) ^ (10 - l.length) = 32 ^ (9 - l.length) * 32 := by
    rw [show 10 - l.length = (9 - l.length) + 1 by omega, Int.pow_succ]
  have hp := p32_bd l.length
  have hd := en_bd (B := 32) (by decide) l.length l hb
  have hc := eC_bd hl
  have ha := c_next_ar h0 h1 hp.1 hp.2 e4
  rw [← e3] at e2 ha
  have e6 : eC l = en 32 l.length l * 2 ^ (5 * (10 - l.length)) := e2
  clear e1 e2 e3 e4 hp
  generalize x * 32 ^ (9 - l.length) = y at *
  generalize en 32 l.length l = A at *
  generalize eC l = E at *
  have := JL_oradd (a := A) (b := y) (k := 5 * (10 - l.length)) hd.1 ha.1 ha.2.1 (by rw [← e6]; omega)
  rw [e6]
  exact this
theorem c_next_l {Q : zM → Prop} {m0 : zM} {q : Int} (hq : 0 ≤ q) (hqn : q < n) (H : ∀ m', f8 m0 m' → iq m' 8 2 = iq m0 8 2 → iq m' 8 3 = (if le_ T n q - q ≤ 10 then -2 else -3) → iq m' 8 1 = le_ T n q → lq m' 8 4 = eC (lets T q (min (le_ T n q - q).toNat 10)) → Q m') : ∀ (j k : Nat) (m : zM), tpC m T n → f8 m0 m → iq m 8 2 = iq m0 8 2 → iq m 8 1 = q + k → q + k ≤ n → (n - (q + k)).toNat = j → (∀ i, q ≤ i → i < q + k → 97 ≤ T i ∧ T i ≤ 122) → le_ T n (q + k) = le_ T n q → lq m 8 4 = eC (lets T q (min k 10)) → W_Reader_next_18 (d + 1) (J k) (J k) w m Q := by
  intro j
  induction j with
  | zero =>
    intro k m ht hf h2 h1 hk hj hl he hw
    have hn := ht.2.1
    have e : q + k = n := by omega
    have le := le_out (T := T) (n := n) (p := q + k) (by omega)
    rw [← he, le] at H
    have fin : Q (sq m 8 3 (if (k : Int) ≤ 10 then -2 else -3)) := by
      have hv : r32 (if (k : Int) ≤ 10 then -2 else -3) := by unfold r32; split <;> omega
      refine H _ (hf.si (by omega) (by omega) (by omega) hv) ?_ ?_ ?_ ?_
      · rw [iq_sq (by omega) (by omega) hv, if_neg (by omega), h2]
      · rw [iq_sq (by omega) (by omega) hv, if_pos ⟨rfl, rfl⟩, show q + (k : Int) - q = k by omega]
      · rw [iq_sq (by omega) (by omega) hv, if_neg (by omega), h1]
      · rw [lq_sq, hw, show (q + (k : Int) - q).toNat = k by omega]
    have stop : (((k : Int) ≤ 10 → Q (sq m 8 3 (-2))) ∧ (¬ (k : Int) ≤ 10 → Q (sq m 8 3 (-3)))) := by
      refine ⟨fun z => ?_, fun z => ?_⟩
      · rw [if_pos z] at fin; exact fin
      · rw [if_neg z] at fin; exact fin
    refine S_Reader_next_18 ?_
    simp (disch := first | (unfold r32; omega) | omega) only [j_lit, J_le, J_eq, j_rd, j_nc, j_wr, h1, j_ops]
    refine ⟨fun _ => stop, fun _ => c_tapeAt ht (by omega) (by unfold r32; omega) ?_⟩
    rw [if_neg (by omega)]
    refine c_isLetter (by unfold r32; omega) ?_
    rw [if_neg (by omega)]
    simp (disch := first | (unfold r32; omega) | omega) only [j_lit, J_le, J_eq, j_rd, j_nc, j_wr, h1, j_ops]
    exact ⟨fun _ => stop, fun z => absurd trivial z⟩
  | succ j ih =>
    intro k m ht hf h2 h1 hk hj hl he hw
    have hn := ht.2.1
    have e : q + k < n := by omega
    have hT := ht.2.2.2.2 (q + k)
    have le := le_in (T := T) (n := n) (p := q + k) (by omega)
    refine S_Reader_next_18 ?_
    simp (disch := first | (unfold r32; omega) | omega) only [j_lit, J_le, J_eq, j_rd, j_nc, j_wr, h1, j_ops]
    refine ⟨fun _ => by omega, fun _ => c_tapeAt ht (by omega) (by unfold r32; omega) ?_⟩
    rw [if_pos e]
    refine c_isLetter (by unfold r32; omega) ?_
    by_cases hb : 97 ≤ T (q + k) ∧ T (q + k) ≤ 122
    · rw [if_pos hb] at le
      rw [if_pos hb]
      simp (disch := first | (unfold r32; omega) | omega) only [j_lit, J_le, J_eq, j_rd, j_nc, j_wr, h1, j_ops]
      have hl' : ∀ i, q ≤ i → i < q + ((k + 1 : Nat) : Int) → 97 ≤ T i ∧ T i ≤ 122 := by
        intro i q1 q2
        by_cases z : i = q + k
        · rw [z]; exact hb
        · exact hl i q1 (by omega)
      refine ⟨fun z => by omega, fun _ => ⟨fun z => ?_, fun z => ?_⟩⟩
      · have f1 := hf.si (m1 := m) (z := 1) (v := q + k + 1) (by omega) (by omega) (by omega) (by unfold r32; omega)
        refine ih (k + 1) _ ?_ f1 ?_ ?_ (by omega) (by omega) hl' ?_ ?_
        · exact ht.f8 ((f8.rf m).si (by omega) (by omega) (by omega) (by unfold r32; omega))
        · rw [iq_sq (by omega) (by omega) (by unfold r32; omega), if_neg (by omega), h2]
        · rw [iq_sq (by omega) (by omega) (by unfold r32; omega), if_pos ⟨rfl, rfl⟩]; omega
        · rw [show q + ((k + 1 : Nat) : Int) = q + k + 1 by omega, ← le, he]
        · rw [lq_sq, hw, Nat.min_eq_right (by omega), Nat.min_eq_right (by omega)]
      · refine c_tapeAt ht (by omega) (by unfold r32; omega) ?_
        rw [if_pos e]
        refine c_letterShift ?_
        have hw' : lq m 8 4 = eC (lets T q k) := by rw [hw, Nat.min_eq_left (by omega)]
        have hwd : wd (lets T q k) := lets_wd (by omega) hl
        have hln : (lets T q k).length = k := lets_len _ _ _
        simp (disch := first | (unfold r32; omega) | omega) only [j_lit, J_le, J_eq, j_rd, jl_rd, j_nc, j_wr, h1, j_ops, hw']
        have := c_next_or hwd (x := T (q + k) - 96) (by omega) (by omega) (by omega)
        rw [hln, ← lets_s] at this
        rw [this]
        simp (disch := first | (unfold r32; omega) | omega) only [j_lit, J_le, J_eq, j_rd, jl_rd, j_nc, j_wr, jl_wr, h1, j_ops, hw']
        have f0 := hf.sl (m1 := m) 4 (eC (lets T q (k + 1)))
        have f1 := f0.si (z := 1) (v := q + k + 1) (by omega) (by omega) (by omega) (by unfold r32; omega)
        have hc := eC_bd (lets_wd (T := T) (q := q) (k := k + 1) (by omega) hl')
        refine ih (k + 1) _ ?_ f1 ?_ ?_ (by omega) (by omega) hl' ?_ ?_
        · exact ht.f8 (((f8.rf m).sl 4 _).si (by omega) (by omega) (by omega) (by unfold r32; omega))
        · rw [iq_sq (by omega) (by omega) (by unfold r32; omega), if_neg (by omega), iq_sl, h2]
        · rw [iq_sq (by omega) (by omega) (by unfold r32; omega), if_pos ⟨rfl, rfl⟩]; omega
        · rw [show q + ((k + 1 : Nat) : Int) = q + k + 1 by omega, ← le, he]
        · rw [lq_sq, lq_sl (by omega) (by omega) (by unfold r64; omega), if_pos ⟨rfl, rfl⟩, Nat.min_eq_left (by omega)]
    · rw [if_neg hb] at le
      rw [if_neg hb]
      rw [← he, le] at H
      have fin : Q (sq m 8 3 (if (k : Int) ≤ 10 then -2 else -3)) := by
        have hv : r32 (if (k : Int) ≤ 10 then -2 else -3) := by unfold r32; split <;> omega
        refine H _ (hf.si (by omega) (by omega) (by omega) hv) ?_ ?_ ?_ ?_
        · rw [iq_sq (by omega) (by omega) hv, if_neg (by omega), h2]
        · rw [iq_sq (by omega) (by omega) hv, if_pos ⟨rfl, rfl⟩, show q + (k : Int) - q = k by omega]
        · rw [iq_sq (by omega) (by omega) hv, if_neg (by omega), h1]
        · rw [lq_sq, hw, show (q + (k : Int) - q).toNat = k by omega]
      have stop : (((k : Int) ≤ 10 → Q (sq m 8 3 (-2))) ∧ (¬ (k : Int) ≤ 10 → Q (sq m 8 3 (-3)))) := by
        refine ⟨fun z => ?_, fun z => ?_⟩
        · rw [if_pos z] at fin; exact fin
        · rw [if_neg z] at fin; exact fin
      simp (disch := first | (unfold r32; omega) | omega) only [j_lit, J_le, J_eq, j_rd, j_nc, j_wr, h1, j_ops]
      exact ⟨fun _ => stop, fun z => absurd trivial z⟩
/-- what stands behind the place p is read -/
def at8 (m : zM) (T : Int → Int) (n p : Int) : Prop := iq m 8 3 = tS T n p ∧ iq m 8 2 = tP T n p ∧ iq m 8 1 = tB T n p ∧ (tS T n p = -2 → lq m 8 4 = eC (tL T n p))
theorem c_next {Q : zM → Prop} {m : zM} {p : Int} (ht : tpC m T n) (hm : iq m 8 1 = p) (hp : 0 ≤ p ∧ p ≤ n) (H : ∀ m', f8 m m' → at8 m' T n p → Q m') : cV (d + 3) 65 [.ref 8] w m Q := by
  have hn := ht.2.1
  refine S_Reader_next ?_
  refine c_nextByte ht hm hp (fun m1 f1 f1l g2 g3 g1 => ?_)
  have hT := ht.2.2.2.2 (sk T n p)
  have hb := sk_bd (T := T) hp.2
  have hr3 := iq_r m1 8 3
  simp only [j_rd, j_nc]
  refine c_isLetter hr3 ?_
  rw [g3]
  by_cases a : sk T n p < n
  · rw [if_pos a] at g1 g3 ⊢
    by_cases b : 97 ≤ T (sk T n p) ∧ T (sk T n p) ≤ 122
    · rw [if_pos b]
      simp (disch := first | (unfold r32; omega) | omega) only [j_lit, jl_lit, J_le, J_eq, j_rd, j_nc, j_wr, jl_wr, g2, j_ops]
      refine ⟨fun _ => ?_, fun z => by omega⟩
      have f2 : f8 m1 (sq (sl m1 8 4 0) 8 1 (sk T n p)) := (((f8.rf m1).sl 4 0).si (by omega) (by omega) (by omega) (by unfold r32; omega))
      refine c_next_l (q := sk T n p) (by omega) a (m0 := sq (sl m1 8 4 0) 8 1 (sk T n p)) (fun m' k0 k2 k3 k1 kw => H m' (f1.tr (f2.tr k0)) ⟨?_, ?_, ?_, ?_⟩) (n - sk T n p).toNat 0 _ (ht.f8 (f1.tr f2)) (f8.rf _) rfl ?_ (by omega) (by omega) (fun i q1 q2 => by omega) ?_ ?_
      · unfold tS
        rw [k3, if_neg (show ¬ n ≤ sk T n p by omega), if_pos b]
      · unfold tP
        rw [k2, iq_sq (by omega) (by omega) (by unfold r32; omega), if_neg (by omega), iq_sl, g2]
      · unfold tB
        rw [k1, if_neg (by omega), if_pos b]
      · intro z
        unfold tS at z
        rw [if_neg (by omega), if_pos b] at z
        rw [kw]
        unfold tL
        split at z
        · have ho := le_o (T := T) (n := n) _ (sk T n p) hb.2 rfl
          rw [Nat.min_eq_left (by omega)]
        · omega
      · rw [iq_sq (by omega) (by omega) (by unfold r32; omega), if_pos ⟨rfl, rfl⟩]; omega
      · rw [show sk T n p + ((0 : Nat) : Int) = sk T n p by omega]
      · rw [lq_sq, lq_sl (by omega) (by omega) (by unfold r64; omega), if_pos ⟨rfl, rfl⟩]
        rfl
    · rw [if_neg b]
      simp (disch := first | (unfold r32; omega) | omega) only [j_lit, jl_lit, J_le, J_eq, j_rd, j_nc, j_wr, jl_wr, g2, j_ops]
      refine ⟨fun z => absurd trivial z, fun _ => H m1 f1 ⟨?_, ?_, ?_, ?_⟩⟩
      · unfold tS
        rw [g3, if_neg (by omega), if_neg b]
      · exact g2
      · unfold tB
        rw [g1, if_neg (by omega), if_neg b]
      · intro z
        unfold tS at z
        rw [if_neg (by omega), if_neg b] at z
        omega
  · rw [if_neg a] at g1 g3 ⊢
    rw [if_neg (by omega)]
    simp (disch := first | (unfold r32; omega) | omega) only [j_lit, jl_lit, J_le, J_eq, j_rd, j_nc, j_wr, jl_wr, g2, j_ops]
    refine ⟨fun z => absurd trivial z, fun _ => H m1 f1 ⟨?_, ?_, ?_, ?_⟩⟩
    · unfold tS
      rw [g3, if_pos (by omega)]
    · exact g2
    · unfold tB
      rw [g1, if_pos (by omega)]
    · intro z
      unfold tS at z
      rw [if_pos (by omega)] at z
      omega
end NX
