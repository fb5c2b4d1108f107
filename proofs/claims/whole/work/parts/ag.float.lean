/-! floats and doubles, far from their limits
-/
def V64 (x : UInt64) (s : Bool) (c : Nat) (q : Int) : Prop := FP.Core.val64 x = .fin s c q ∧ 4503599627370496 ≤ c ∧ c < 9007199254740992 ∧ -1000 ≤ q ∧ q ≤ 900
def V32 (x : UInt32) (s : Bool) (c : Nat) (q : Int) : Prop := FP.Core.val32 x = .fin s c q ∧ 8388608 ≤ c ∧ c < 16777216 ∧ -140 ≤ q ∧ q ≤ 100
theorem q64 : FP.Core.b64.qmin = -1074 ∧ FP.Core.b64.qmax = 971 ∧ FP.Core.b64.tails = 4503599627370496 ∧ (2 : Nat) ^ FP.Core.b64.p = 9007199254740992 ∧ FP.Core.b64.exps = 2048 := by decide
theorem q32 : FP.Core.b32.qmin = -149 ∧ FP.Core.b32.qmax = 104 ∧ FP.Core.b32.tails = 8388608 ∧ (2 : Nat) ^ FP.Core.b32.p = 16777216 ∧ FP.Core.b32.exps = 256 := by decide
theorem ft64 {s : Bool} {c : Nat} {q : Int} (h1 : 4503599627370496 ≤ c) (h2 : c < 9007199254740992) (h3 : -1074 ≤ q) (h4 : q ≤ 971) : FP.Core.fits FP.Core.b64 (.fin s c q) := by
  obtain ⟨e1, e2, e3, e4, _⟩ := q64
  exact ⟨by rw [e4]; exact h2, by rw [e1]; exact h3, by rw [e2]; exact h4, Or.inr (by rw [e3]; exact h1)⟩
theorem ft32 {s : Bool} {c : Nat} {q : Int} (h1 : 8388608 ≤ c) (h2 : c < 16777216) (h3 : -149 ≤ q) (h4 : q ≤ 104) : FP.Core.fits FP.Core.b32 (.fin s c q) := by
  obtain ⟨e1, e2, e3, e4, _⟩ := q32
  exact ⟨by rw [e4]; exact h2, by rw [e1]; exact h3, by rw [e2]; exact h4, Or.inr (by rw [e3]; exact h1)⟩
theorem p52 : (2 : Nat) ^ 52 = 4503599627370496 := by decide
theorem sff (s : Bool) : (s != false) = s := by cases s <;> rfl
theorem c_two : FP.Core.val64 4611686018427387904 = .fin false 4503599627370496 (-51) := by decide +kernel
theorem c_big : FP.Core.val64 4841369599423283200 = .fin false 4503599627370496 0 := by decide +kernel
theorem c_1h : FP.Core.val64 4609434218613702656 = .fin false 6755399441055744 (-52) := by decide +kernel
theorem c_d1 : FP.Core.val64 FP.dconst1 = .fin false 4503599627370496 (-52) := by decide +kernel
theorem c_d0 : FP.Core.val64 FP.dconst0 = .fin false 0 (-1074) := by decide +kernel
theorem c_f0 : FP.Core.val32 FP.fconst0 = .fin false 0 (-149) := by decide +kernel
theorem nn64 {x : UInt64} (h : FP.Core.val64 x ≠ .nan) : vf_n64 x := by
  have := (FP.Core.ne_nan x).mp h
  show x &&& 9223372036854775807 ≤ 9218868437227405312
  rw [UInt64.le_iff_toNat_le, UInt64.toNat_and]
  have e : (9223372036854775807 : UInt64).toNat = 2 ^ 63 - 1 := by decide
  have e2 : (9218868437227405312 : UInt64).toNat = 9218868437227405312 := by decide
  rw [e, e2, Nat.and_two_pow_sub_one_eq_mod]
  exact this
theorem nn32 {x : UInt32} (h : FP.Core.val32 x ≠ .nan) : vf_n32 x := by
  have := (FP.Core.ne_nan32 x).mp h
  show x &&& 2147483647 ≤ 2139095040
  rw [UInt32.le_iff_toNat_le, UInt32.toNat_and]
  have e : (2147483647 : UInt32).toNat = 2 ^ 31 - 1 := by decide
  have e2 : (2139095040 : UInt32).toNat = 2139095040 := by decide
  rw [e, e2, Nat.and_two_pow_sub_one_eq_mod]
  exact this
theorem V64.n {x : UInt64} {s : Bool} {c : Nat} {q : Int} (h : V64 x s c q) : vf_n64 x := nn64 (by rw [h.1]; simp)
theorem V32.n {x : UInt32} {s : Bool} {c : Nat} {q : Int} (h : V32 x s c q) : vf_n32 x := nn32 (by rw [h.1]; simp)
theorem V64.half {x : UInt64} {s : Bool} {c : Nat} {q : Int} (h : V64 x s c q) (hq : -999 ≤ q) : V64 (FP.ddiv x 4611686018427387904) s c (q - 1) := by
  obtain ⟨h1, h2, h3, h4, h5⟩ := h
  refine ⟨?_, h2, h3, by omega, by omega⟩
  show FP.Core.val64 (FP.Core.ddiv x 4611686018427387904) = _
  rw [FP.Core.val64_ddiv, h1, c_two]
  show (if (4503599627370496 : Nat) = 0 then (if c = 0 then FP.Core.Datum.nan else FP.Core.Datum.inf (s != false)) else FP.Core.roundRatio FP.Core.b64 (s != false) c 4503599627370496 (q - -51)) = _
  rw [if_neg (by decide), sff]
  refine FP.Core.roundRatio_exact FP.Core.good_b64 (by decide) (ft64 h2 h3 (by omega) (by omega)) ?_
  rw [show (q - -51 - (q - 1)).toNat = 52 by omega, show (q - 1 - (q - -51)).toNat = 0 by omega, p52, Nat.pow_zero, Nat.mul_one]
theorem V64.dbl {x : UInt64} {s : Bool} {c : Nat} {q : Int} (h : V64 x s c q) (hq : q ≤ 899) : V64 (FP.dmul x 4611686018427387904) s c (q + 1) := by
  obtain ⟨h1, h2, h3, h4, h5⟩ := h
  refine ⟨?_, h2, h3, by omega, by omega⟩
  show FP.Core.val64 (FP.Core.dmul x 4611686018427387904) = _
  rw [FP.Core.val64_dmul, h1, c_two]
  show FP.Core.roundRatio FP.Core.b64 (s != false) (c * 4503599627370496) 1 (q + -51) = _
  rw [sff]
  refine FP.Core.roundRatio_exact FP.Core.good_b64 (by decide) (ft64 h2 h3 (by omega) (by omega)) ?_
  rw [show (q + -51 - (q + 1)).toNat = 0 by omega, show (q + 1 - (q + -51)).toNat = 52 by omega, p52, Nat.pow_zero, Nat.mul_one, Nat.mul_one]
theorem V64.scl {x : UInt64} {s : Bool} {c : Nat} (h : V64 x s c (-52)) : V64 (FP.dmul x 4841369599423283200) s c 0 := by
  obtain ⟨h1, h2, h3, h4, h5⟩ := h
  refine ⟨?_, h2, h3, by omega, by omega⟩
  show FP.Core.val64 (FP.Core.dmul x 4841369599423283200) = _
  rw [FP.Core.val64_dmul, h1, c_big]
  show FP.Core.roundRatio FP.Core.b64 (s != false) (c * 4503599627370496) 1 (-52 + 0) = _
  rw [sff]
  refine FP.Core.roundRatio_exact FP.Core.good_b64 (by decide) (ft64 h2 h3 (by omega) (by omega)) ?_
  rw [show ((-52 : Int) + 0 - 0).toNat = 0 by omega, show ((0 : Int) - (-52 + 0)).toNat = 52 by omega, p52, Nat.pow_zero, Nat.mul_one, Nat.mul_one]
theorem V64.d2l {x : UInt64} {c : Nat} (h : V64 x false c 0) : FP.d2l x = JL (c : Int) := by
  obtain ⟨h1, h2, h3, h4, h5⟩ := h
  show FP.Core.toL (FP.Core.val64 x) = _
  rw [h1]
  show Int64.ofInt (max (-2 ^ 63) (min (2 ^ 63 - 1) (FP.Core.truncate false c 0))) = Int64.ofInt (c : Int)
  have e : FP.Core.truncate false c 0 = (c : Int) := by
    show ((c * 2 ^ (0 : Int).toNat / 2 ^ (-(0 : Int)).toNat : Nat) : Int) = (c : Int)
    simp
  rw [e]
  congr 1
  have h63 : (2 : Int) ^ 63 = 9223372036854775808 := by decide
  rw [h63]
  omega
theorem icmp_lt {a b : Int} (h : a < b) : compare a b = .lt := by
  show compareOfLessAndEq a b = .lt
  unfold compareOfLessAndEq
  rw [if_pos h]
theorem icmp_gt {a b : Int} (h : b < a) : compare a b = .gt := by
  show compareOfLessAndEq a b = .gt
  unfold compareOfLessAndEq
  rw [if_neg (by omega), if_neg (by omega)]
theorem icmp_eq (a : Int) : compare a a = .eq := by
  show compareOfLessAndEq a a = .eq
  unfold compareOfLessAndEq
  rw [if_neg (by omega), if_pos rfl]
theorem two_le {k : Nat} (h : 1 ≤ k) : 2 ≤ 2 ^ k := by
  have := Nat.pow_le_pow_right (n := 2) (by decide) h
  simpa using this
theorem V64.cmp_lt {x y : UInt64} {c e : Nat} {q r : Int} (h : V64 x false c q) (h' : FP.Core.val64 y = .fin false e r) (he : 4503599627370496 ≤ e) (hl : q < r) : FP.dcmp x y = some .lt := by
  obtain ⟨h1, h2, h3, h4, h5⟩ := h
  show FP.Core.order (FP.Core.val64 x) (FP.Core.val64 y) = _
  rw [h1, h']
  show some (compare ((c * 2 ^ (q - min q r).toNat : Nat) : Int) ((e * 2 ^ (r - min q r).toNat : Nat) : Int)) = _
  congr 1
  refine icmp_lt ?_
  rw [show (q - min q r).toNat = 0 by omega, Nat.pow_zero, Nat.mul_one]
  have a1 := two_le (k := (r - min q r).toNat) (by omega)
  have a2 : e * 2 ≤ e * 2 ^ (r - min q r).toNat := Nat.mul_le_mul_left _ a1
  omega
theorem V64.cmp_gt {x y : UInt64} {c e : Nat} {q r : Int} (h : V64 x false c q) (h' : FP.Core.val64 y = .fin false e r) (he : e < 9007199254740992) (hl : r < q) : FP.dcmp x y = some .gt := by
  obtain ⟨h1, h2, h3, h4, h5⟩ := h
  show FP.Core.order (FP.Core.val64 x) (FP.Core.val64 y) = _
  rw [h1, h']
  show some (compare ((c * 2 ^ (q - min q r).toNat : Nat) : Int) ((e * 2 ^ (r - min q r).toNat : Nat) : Int)) = _
  congr 1
  refine icmp_gt ?_
  rw [show (r - min q r).toNat = 0 by omega, Nat.pow_zero, Nat.mul_one]
  have a1 := two_le (k := (q - min q r).toNat) (by omega)
  have a2 : c * 2 ≤ c * 2 ^ (q - min q r).toNat := Nat.mul_le_mul_left _ a1
  omega
theorem V64.cmp_q {x y : UInt64} {c e : Nat} {q : Int} (h : V64 x false c q) (h' : FP.Core.val64 y = .fin false e q) : FP.dcmp x y = some (compare (c : Int) (e : Int)) := by
  obtain ⟨h1, h2, h3, h4, h5⟩ := h
  show FP.Core.order (FP.Core.val64 x) (FP.Core.val64 y) = _
  rw [h1, h']
  show some (compare ((c * 2 ^ (q - min q q).toNat : Nat) : Int) ((e * 2 ^ (q - min q q).toNat : Nat) : Int)) = _
  rw [show (q - min q q).toNat = 0 by omega, Nat.pow_zero, Nat.mul_one, Nat.mul_one]
theorem V64.cmp_0 {x : UInt64} {s : Bool} {c : Nat} {q : Int} (h : V64 x s c q) : FP.dcmp x FP.dconst0 = some (if s = true then .lt else .gt) := by
  obtain ⟨h1, h2, h3, h4, h5⟩ := h
  show FP.Core.order (FP.Core.val64 x) (FP.Core.val64 FP.dconst0) = _
  rw [h1, c_d0]
  have p : 0 < c * 2 ^ (q - min q (-1074)).toNat := Nat.mul_pos (by omega) (Nat.two_pow_pos _)
  cases s
  · show some (compare ((c * 2 ^ (q - min q (-1074)).toNat : Nat) : Int) ((0 * 2 ^ (-1074 - min q (-1074)).toNat : Nat) : Int)) = some .gt
    congr 1
    refine icmp_gt ?_
    rw [Nat.zero_mul]; omega
  · show some (compare (-((c * 2 ^ (q - min q (-1074)).toNat : Nat) : Int)) ((0 * 2 ^ (-1074 - min q (-1074)).toNat : Nat) : Int)) = some .lt
    congr 1
    refine icmp_lt ?_
    rw [Nat.zero_mul]; omega
theorem V32.cmp_0 {x : UInt32} {s : Bool} {c : Nat} {q : Int} (h : V32 x s c q) : FP.fcmp x FP.fconst0 = some (if s = true then .lt else .gt) := by
  obtain ⟨h1, h2, h3, h4, h5⟩ := h
  show FP.Core.order (FP.Core.val32 x) (FP.Core.val32 FP.fconst0) = _
  rw [h1, c_f0]
  have p : 0 < c * 2 ^ (q - min q (-149)).toNat := Nat.mul_pos (by omega) (Nat.two_pow_pos _)
  cases s
  · show some (compare ((c * 2 ^ (q - min q (-149)).toNat : Nat) : Int) ((0 * 2 ^ (-149 - min q (-149)).toNat : Nat) : Int)) = some .gt
    congr 1
    refine icmp_gt ?_
    rw [Nat.zero_mul]; omega
  · show some (compare (-((c * 2 ^ (q - min q (-149)).toNat : Nat) : Int)) ((0 * 2 ^ (-149 - min q (-149)).toNat : Nat) : Int)) = some .lt
    congr 1
    refine icmp_lt ?_
    rw [Nat.zero_mul]; omega
theorem V64.neg {x : UInt64} {s : Bool} {c : Nat} {q : Int} (h : V64 x s c q) : V64 (FP.dneg x) (!s) c q := by
  obtain ⟨h1, h2, h3, h4, h5⟩ := h
  refine ⟨?_, h2, h3, h4, h5⟩
  rw [FP.val64_dneg, h1]
  rfl
theorem V32.f2d {x : UInt32} {s : Bool} {c : Nat} {q : Int} (h : V32 x s c q) : V64 (FP.f2d x) s (c * 536870912) (q - 29) := by
  obtain ⟨h1, h2, h3, h4, h5⟩ := h
  refine ⟨?_, by omega, by omega, by omega, by omega⟩
  have nn : FP.fIsNaN x = false := (FP.Core.notNaN_iff32 x).mpr (by rw [h1]; simp)
  rw [FP.f2d_core nn, FP.Core.val64_f2d, h1]
  show FP.Core.roundRatio FP.Core.b64 s c 1 q = _
  refine FP.Core.roundRatio_exact FP.Core.good_b64 (by decide) (ft64 (by omega) (by omega) (by omega) (by omega)) ?_
  rw [show (q - (q - 29)).toNat = 29 by omega, show (q - 29 - q).toNat = 0 by omega, Nat.pow_zero, Nat.mul_one, Nat.mul_one]
section FLC
variable {d : Nat} {w : Nat × Nat × Nat}
theorem cv_lt (op : CmpOp) : Op.cmpValue (some .lt) op = J (-1) := rfl
theorem cv_gt (op : CmpOp) : Op.cmpValue (some .gt) op = J 1 := rfl
theorem cv_eq (op : CmpOp) : Op.cmpValue (some .eq) op = J 0 := rfl
theorem c_exp20 {Q : Int32 → zM → Prop} {m : zM} {c : Nat} : ∀ (z : Nat) (x : UInt64) (q e i : Int), V64 x false c q → q = -52 - z → 0 ≤ i → i + z ≤ 1000 → Q (J (e - z)) m → W_T_exponentOf_20 d x (J e) (J i) w m Q := by
  intro z
  induction z with
  | zero =>
    intro x q e i h hq i0 hi H
    rw [show e - ((0 : Nat) : Int) = e by omega] at H
    refine S_T_exponentOf_20 ?_
    have c0 := h.cmp_0
    have c1 := h.cmp_q (y := FP.dconst1) (e := 4503599627370496) (by rw [c_d1, show q = -52 by omega])
    rw [c0, c1]
    rw [if_neg (by simp), cv_gt]
    simp (disch := first | (unfold r32; omega) | omega) only [j_lit, J_le]
    refine ⟨fun q => by omega, fun _ => ⟨fun q => by omega, fun _ => ⟨fun _ => H, fun y => absurd ?_ y⟩⟩⟩
    rcases Int.lt_or_eq_of_le (show ((4503599627370496 : Nat) : Int) ≤ (c : Int) by have := h.2.1; omega) with g | g
    · rw [icmp_gt g, cv_gt, J_le (by unfold r32; omega) (by unfold r32; omega)]; omega
    · rw [← g, icmp_eq, cv_eq, J_le (by unfold r32; omega) (by unfold r32; omega)]; omega
  | succ z ih =>
    intro x q e i h hq i0 hi H
    refine S_T_exponentOf_20 ?_
    have c0 := h.cmp_0
    have c1 := h.cmp_lt (y := FP.dconst1) c_d1 (by omega) (by omega)
    have h2 := h.dbl (by omega)
    rw [c0, c1]
    rw [if_neg (by simp), cv_gt, cv_lt]
    simp (disch := first | (unfold r32; omega) | omega) only [j_lit, J_le, j_ops]
    refine ⟨fun q => by omega, fun _ => ⟨fun q => by omega, fun _ => ⟨fun y => by omega, fun _ => ⟨h2.n, ih _ (q + 1) (e + -1) (i + 1) h2 (by omega) (by omega) (by omega) ?_⟩⟩⟩⟩
    rw [show e + -1 - (z : Int) = e - ((z + 1 : Nat) : Int) by omega]
    exact H
theorem c_exp4 {Q : Int32 → zM → Prop} {m : zM} {c : Nat} : ∀ (z : Nat) (x : UInt64) (q e i : Int), V64 x false c q → (q + 52).toNat = z → 0 ≤ i → i + z ≤ 1000 → -950 ≤ q → Q (J (e + (q + 52))) m → W_T_exponentOf_4 d x (J e) (J i) w m Q := by
  intro z
  induction z with
  | zero =>
    intro x q e i h hq i0 hi hq2 H
    refine S_T_exponentOf_4 ?_
    have c1 := h.cmp_lt (y := 4611686018427387904) c_two (by omega) (by omega)
    rw [c1, cv_lt]
    simp (disch := first | (unfold r32; omega) | omega) only [j_lit, J_le, J_lt, j_ops]
    refine ⟨fun q => by omega, fun _ => ⟨fun _ => c_exp20 (-52 - q).toNat x q e 0 h (by omega) (by omega) (by omega) ?_, fun y => by omega⟩⟩
    rw [show e - (((-52 - q).toNat : Nat) : Int) = e + (q + 52) by omega]
    exact H
  | succ z ih =>
    intro x q e i h hq i0 hi hq2 H
    refine S_T_exponentOf_4 ?_
    have c1 : ¬ Op.cmpValue (FP.dcmp x 4611686018427387904) .l < J 0 := by
      by_cases g : q = -51
      · have := h.cmp_q (y := 4611686018427387904) (e := 4503599627370496) (by rw [c_two, g])
        rw [this]
        rcases Int.lt_or_eq_of_le (show ((4503599627370496 : Nat) : Int) ≤ (c : Int) by have := h.2.1; omega) with g | g
        · rw [icmp_gt g, cv_gt, J_lt (by unfold r32; omega) (by unfold r32; omega)]; omega
        · rw [← g, icmp_eq, cv_eq, J_lt (by unfold r32; omega) (by unfold r32; omega)]; omega
      · rw [h.cmp_gt (y := 4611686018427387904) c_two (by omega) (by omega), cv_gt, J_lt (by unfold r32; omega) (by unfold r32; omega)]; omega
    have h2 := h.half (by omega)
    simp (disch := first | (unfold r32; omega) | omega) only [j_lit, J_le, j_ops]
    refine ⟨fun q => by omega, fun _ => ⟨fun y => absurd y c1, fun _ => ⟨h2.n, ih _ (q - 1) (e + 1) (i + 1) h2 (by omega) (by omega) (by omega) (by omega) ?_⟩⟩⟩
    rw [show e + 1 + (q - 1 + 52) = e + (q + 52) by omega]
    exact H
theorem c_exponentOf {Q : Int32 → zM → Prop} {m : zM} {x : UInt64} {c : Nat} {q : Int} (h : V64 x false c q) (hq : -500 ≤ q ∧ q ≤ 500) (H : Q (J (q + 52)) m) : cI d 176 [.double x] w m Q := by
  refine S_T_exponentOf ?_
  simp only [j_lit]
  refine c_exp4 (q + 52).toNat x q 0 0 h rfl (by omega) (by omega) (by omega) ?_
  rw [show (0 : Int) + (q + 52) = q + 52 by omega]
  exact H
theorem c_frac14 {Q : Int64 → zM → Prop} {m : zM} {c : Nat} (H : Q (JL (c : Int)) m) : ∀ (z : Nat) (x : UInt64) (q i : Int), V64 x false c q → (i ≤ 0 ∧ z = 0 ∧ q = -52 ∨ i = z ∧ q = -52 + z) → -1000 ≤ i → z ≤ 900 → W_T_fractionOf_14 d x (J i) w m Q := by
  intro z
  induction z with
  | zero =>
    intro x q i h hi i0 hz
    have hq : q = -52 := by omega
    rw [hq] at h
    have h2 := h.scl
    refine S_T_fractionOf_14 ?_
    simp (disch := first | (unfold r32; omega) | omega) only [j_lit, J_le, j_ops]
    refine ⟨fun _ => ⟨h2.n, ?_⟩, fun y => by omega⟩
    rw [h2.d2l]
    exact H
  | succ z ih =>
    intro x q i h hi i0 hz
    have h2 := h.half (by omega)
    refine S_T_fractionOf_14 ?_
    simp (disch := first | (unfold r32; omega) | omega) only [j_lit, J_le, j_ops]
    exact ⟨fun y => by omega, fun _ => ⟨h2.n, ih _ (q - 1) (i + -1) h2 (Or.inr (by omega)) (by omega) (by omega)⟩⟩
theorem c_frac4 {Q : Int64 → zM → Prop} {m : zM} {c : Nat} (H : Q (JL (c : Int)) m) {e : Int} (he : -900 ≤ e ∧ e ≤ 500) : ∀ (z : Nat) (x : UInt64) (q i : Int), V64 x false c q → (-i).toNat = z → -900 ≤ i → (0 ≤ e → i = e) → (e ≤ 0 → i ≤ 0) → q = i - 52 → W_T_fractionOf_4 d (J e) x (J i) w m Q := by
  intro z
  induction z with
  | zero =>
    intro x q i h hz i0 h1 h2 hq
    refine S_T_fractionOf_4 ?_
    simp (disch := first | (unfold r32; omega) | omega) only [j_lit, J_le, j_ops]
    refine ⟨fun _ => ?_, fun y => by omega⟩
    by_cases g : 0 ≤ e
    · exact c_frac14 H i.toNat x q e h (by omega) (by omega) (by omega)
    · exact c_frac14 H 0 x q e h (by omega) (by omega) (by omega)
  | succ z ih =>
    intro x q i h hz i0 h1 h2 hq
    have h3 := h.dbl (by omega)
    refine S_T_fractionOf_4 ?_
    simp (disch := first | (unfold r32; omega) | omega) only [j_lit, J_le, j_ops]
    exact ⟨fun y => by omega, fun _ => ⟨h3.n, ih _ (q + 1) (i + 1) h3 (by omega) (by omega) (by omega) (by omega) (by omega)⟩⟩
theorem c_fractionOf {Q : Int64 → zM → Prop} {m : zM} {x : UInt64} {c : Nat} {q : Int} (h : V64 x false c q) (hq : -500 ≤ q ∧ q ≤ 400) (H : Q (JL (c : Int)) m) : cL d 177 [.double x, .int (J (q + 52))] w m Q :=
  S_T_fractionOf (c_frac4 H (by omega) (-(q + 52)).toNat x q (q + 52) h rfl (by omega) (by omega) (by omega) (by omega))
end FLC
