/-! rest: both sides -/
theorem e15 : (6755399441055744 : Nat) = 3 * 2 ^ 51 := by decide
theorem drem_small {x : UInt64} {s : Bool} {c : Nat} {q : Int} (h : V64 x s c q) (hs : q < -52 ∨ (q = -52 ∧ c < 6755399441055744)) : FP.drem x 4609434218613702656 = x := by
  obtain ⟨h1, h2, h3, h4, h5⟩ := h
  have e : FP.Core.val64 (FP.Core.drem x 4609434218613702656) = .fin s c q := by
    rw [FP.Core.val64_drem, h1, c_1h]
    show FP.Core.round FP.Core.b64 (if (6755399441055744 : Nat) = 0 then FP.Core.Datum.nan else .fin s (c * 2 ^ (q - min q (-52)).toNat % (6755399441055744 * 2 ^ (-52 - min q (-52)).toNat)) (min q (-52))) = _
    rw [if_neg (by decide), show min q (-52) = q by omega, show (q - q).toNat = 0 by omega, Nat.pow_zero, Nat.mul_one]
    have hlt : c < 6755399441055744 * 2 ^ (-52 - q).toNat := by
      rcases hs with g | ⟨g, g2⟩
      · have := two_le (k := (-52 - q).toNat) (by omega)
        have a2 : 6755399441055744 * 2 ≤ 6755399441055744 * 2 ^ (-52 - q).toNat := Nat.mul_le_mul_left _ this
        omega
      · rw [show (-52 - q).toNat = 0 by omega, Nat.pow_zero, Nat.mul_one]; exact g2
    rw [Nat.mod_eq_of_lt hlt]
    exact FP.Core.round_of_fits FP.Core.good_b64 (ft64 h2 h3 (by omega) (by omega))
  exact FP.Core.val64_inj (by show FP.Core.val64 (FP.Core.drem x 4609434218613702656) ≠ _; rw [e]; simp) (e.trans h1.symm)
theorem drem_big {x : UInt64} {s : Bool} {c k : Nat} {q : Int} (h : V64 x s c q) (hq : q = (k : Int) - 52) (hk : k ≤ 51) : FP.Core.val64 (FP.drem x 4609434218613702656) = FP.Core.roundRatio FP.Core.b64 s (c % (3 * 2 ^ (51 - k)) * 2 ^ k) 1 (-52) := by
  obtain ⟨h1, h2, h3, h4, h5⟩ := h
  show FP.Core.val64 (FP.Core.drem x 4609434218613702656) = _
  rw [FP.Core.val64_drem, h1, c_1h]
  show FP.Core.round FP.Core.b64 (if (6755399441055744 : Nat) = 0 then FP.Core.Datum.nan else .fin s (c * 2 ^ (q - min q (-52)).toNat % (6755399441055744 * 2 ^ (-52 - min q (-52)).toNat)) (min q (-52))) = _
  rw [if_neg (by decide), show min q (-52) = -52 by omega, show (q - -52).toNat = k by omega, show ((-52 : Int) - -52).toNat = 0 by omega, Nat.pow_zero, Nat.mul_one, e15]
  have e : (3 : Nat) * 2 ^ 51 = 3 * 2 ^ (51 - k) * 2 ^ k := by rw [Nat.mul_assoc, ← Nat.pow_add, show 51 - k + k = 51 by omega]
  rw [e, Nat.mul_mod_mul_right]
  rfl
theorem rr_zero (s : Bool) (k : Nat) : FP.Core.roundRatio FP.Core.b64 s (0 * 2 ^ k) 1 (-52) = .fin s 0 (-1074) := by
  unfold FP.Core.roundRatio
  rw [Nat.zero_mul, if_pos rfl, q64.1]
theorem rr_shift (s : Bool) {r k j : Nat} (h1 : 4503599627370496 ≤ r * 2 ^ j) (h2 : r * 2 ^ j < 9007199254740992) (hj : j ≤ 900) (hk : k ≤ 900) : FP.Core.roundRatio FP.Core.b64 s (r * 2 ^ k) 1 (-52) = .fin s (r * 2 ^ j) ((k : Int) - 52 - j) := by
  refine FP.Core.roundRatio_exact FP.Core.good_b64 (by decide) (ft64 h1 h2 (by omega) (by omega)) ?_
  rw [Nat.mul_one, Nat.mul_assoc, Nat.mul_assoc, ← Nat.pow_add, ← Nat.pow_add]
  congr 2
  omega
section RST
variable {d : Nat} {w : Nat × Nat × Nat} {C : Int} {N : Int → Int} {mv : zM} {b : Nat}
theorem c_rest58 {Q : Int64 → zM → Prop} {m : zM} {r : Nat} {sg : Int64} {E : Int} (hr : 0 < r) (hE : -2000 ≤ E ∧ E ≤ 2000) (H : ∀ j : Nat, 4503599627370496 ≤ r * 2 ^ j → r * 2 ^ j < 9007199254740992 → j ≤ 52 → W_T_restBits_71 d sg (J (E - j)) (JL ((r * 2 ^ j : Nat) : Int)) w m Q) : ∀ (z j : Nat), j + z = 52 → r * 2 ^ j < 9007199254740992 → W_T_restBits_58 d sg (J (E - j)) (JL ((r * 2 ^ j : Nat) : Int)) (J (j : Int)) w m Q := by
  intro z
  induction z with
  | zero =>
    intro j hj hu
    have ej : j = 52 := by omega
    have h1 : 4503599627370496 ≤ r * 2 ^ j := by
      rw [ej, p52]
      omega
    refine S_T_restBits_58 ?_
    simp (disch := first | (unfold r32; omega) | omega) only [j_lit, J_le]
    exact ⟨fun _ => H j h1 hu (by omega), fun y => by omega⟩
  | succ z ih =>
    intro j hj hu
    refine S_T_restBits_58 ?_
    simp (disch := first | (unfold r32; omega) | omega) only [j_lit, J_le, j_ops]
    refine ⟨fun y => by omega, fun _ => ⟨fun g => H j ?_ hu (by omega), fun g => ?_⟩⟩
    · have g' : JL 4503599627370496 ≤ JL ((r * 2 ^ j : Nat) : Int) := g
      rw [JL_le (by unfold r64; omega) (by unfold r64; omega)] at g'
      omega
    · have g' : ¬ JL 4503599627370496 ≤ JL ((r * 2 ^ j : Nat) : Int) := g
      rw [JL_le (by unfold r64; omega) (by unfold r64; omega)] at g'
      have e : r * 2 ^ (j + 1) = r * 2 ^ j * 2 := by rw [Nat.pow_succ, Nat.mul_assoc]
      have sh := JL_shl ((r * 2 ^ j : Nat) : Int) (s := 1) (by omega) (by omega)
      have e2 : ((r * 2 ^ j : Nat) : Int) * 2 ^ (1 : Int).toNat = ((r * 2 ^ (j + 1) : Nat) : Int) := by
        rw [e]
        have : (2 : Int) ^ (1 : Int).toNat = 2 := by decide
        rw [this]
        omega
      rw [e2] at sh
      rw [sh]
      have := ih (j + 1) (by omega) (by rw [e]; omega)
      rw [show E - ((j + 1 : Nat) : Int) = E - (j : Int) + -1 by omega] at this
      exact this
theorem rb_hi {E : Int} {z : Nat} (h : E + 1023 = z) (hz : z < 2048) : ((J E + J 1023).toInt64 <<< ((J 52).toInt64 &&& 63)) = JL ((z * 2 ^ 52 : Nat) : Int) := by
  rw [j_ops.1, J_64 (by unfold r32; omega), JL_shl _ (by omega) (by omega), h]
  congr 1
theorem rb_lo (u : Nat) : (JL (u : Int) &&& (4503599627370495 : Int64)) = JL ((u % 2 ^ 52 : Nat) : Int) := by
  have m := JL_mask (u : Int) (k := 52) (by decide)
  have a3 : (4503599627370495 : Int64) = JL ((2 : Int) ^ 52 - 1) := by decide
  rw [a3, m]
  congr 1
theorem c_rest71 {Q : Int64 → zM → Prop} {m : zM} {y : UInt64} {s : Bool} {u : Nat} {q : Int} (h1 : FP.Core.val64 y = .fin s u q) (h2 : 4503599627370496 ≤ u) (h3 : u < 9007199254740992) (hq : -900 ≤ q ∧ q ≤ 900) (H : Q y.toInt64 m) : W_T_restBits_71 d (if s = true then (-9223372036854775808 : Int64) else 0) (J (q + 52)) (JL (u : Int)) w m Q := by
  refine S_T_restBits_71 ?_
  have hb := bits64 h1 h2 h3 (by omega) (by omega)
  have mk := mk64 s (z := (q + 1075).toNat) (by omega) h2 h3
  have l1 : (1023 : Int32) = J 1023 := rfl
  have l2 : (52 : Int32) = J 52 := rfl
  rw [l1, l2, rb_hi (z := (q + 1075).toNat) (by omega) (by omega), rb_lo]
  have e : y.toInt64 = ((if s = true then (-9223372036854775808 : Int64) else 0) ||| (JL (((q + 1075).toNat * 2 ^ 52 : Nat) : Int))) ||| JL ((u % 2 ^ 52 : Nat) : Int) := UI64_ext (by rw [mk, hb])
  rw [← e]
  exact H
theorem c_rest22 {Q : Int64 → zM → Prop} {m : zM} {a x : UInt64} {s : Bool} {c : Nat} {q : Int} (hx : V64 x s c q) (ha : V64 a false c q) (hq : -400 ≤ q ∧ q ≤ -13) (H : ∀ s' c' q', FP.Core.val64 (FP.drem x 4609434218613702656) = .fin s' c' q' → Q (FP.drem x 4609434218613702656).toInt64 m) : W_T_restBits_22 d a (if s = true then (-9223372036854775808 : Int64) else 0) w m Q := by
  have c1 := hx.2.1
  have c2 := hx.2.2.1
  refine S_T_restBits_22 (c_exponentOf ha (by omega) (c_fractionOf ha (by omega) ?_))
  by_cases g : q < -52 ∨ (q = -52 ∧ c < 6755399441055744)
  · have hc : Op.cmpValue (FP.dcmp a 4609434218613702656) .l < (0 : Int32) := by
      rcases g with g | ⟨g, g2⟩
      · rw [ha.cmp_lt (y := 4609434218613702656) c_1h (by omega) g, cv_lt, show (0 : Int32) = J 0 from rfl, J_lt (by unfold r32; omega) (by unfold r32; omega)]; omega
      · rw [ha.cmp_q (y := 4609434218613702656) (e := 6755399441055744) (by rw [c_1h, g]), icmp_lt (by omega), cv_lt, show (0 : Int32) = J 0 from rfl, J_lt (by unfold r32; omega) (by unfold r32; omega)]; omega
    have ey := drem_small hx g
    have hv : FP.Core.val64 (FP.drem x 4609434218613702656) = .fin s c q := by rw [ey]; exact hx.1
    refine ⟨fun _ => S_T_restBits_51 ⟨fun _ => ?_, fun y => absurd y ?_⟩, fun y => absurd hc y⟩
    · have := c_rest58 (d := d) (w := w) (m := m) (Q := Q) (r := c) (sg := if s = true then (-9223372036854775808 : Int64) else 0) (E := q + 52) (by omega) (by omega) (fun j u1 u2 hj => ?_) 52 0 (by omega) (by rw [Nat.pow_zero, Nat.mul_one]; exact c2)
      · rw [Nat.pow_zero, Nat.mul_one, show q + 52 - ((0 : Nat) : Int) = q + 52 by omega] at this
        exact this
      · have j0 : j = 0 := by
          by_cases z : j = 0
          · exact z
          · have := two_le (k := j) (by omega)
            have a2 : c * 2 ≤ c * 2 ^ j := Nat.mul_le_mul_left _ this
            omega
        rw [j0, Nat.pow_zero, Nat.mul_one, show q + 52 - ((0 : Nat) : Int) = q + 52 by omega]
        exact c_rest71 hv c1 c2 (by omega) (H _ _ _ hv)
    · rw [show (0 : Int64) = JL 0 from rfl, JL_eq (by unfold r64; omega) (by unfold r64; omega)]; omega
  · obtain ⟨k, hk⟩ : ∃ k : Nat, q = (k : Int) - 52 := ⟨(q + 52).toNat, by omega⟩
    have hc : ¬ Op.cmpValue (FP.dcmp a 4609434218613702656) .l < (0 : Int32) := by
      by_cases g1 : q = -52
      · rw [ha.cmp_q (y := 4609434218613702656) (e := 6755399441055744) (by rw [c_1h, g1])]
        rcases Int.lt_or_eq_of_le (show ((6755399441055744 : Nat) : Int) ≤ (c : Int) by omega) with g2 | g2
        · rw [icmp_gt g2, cv_gt, show (0 : Int32) = J 0 from rfl, J_lt (by unfold r32; omega) (by unfold r32; omega)]; omega
        · rw [← g2, icmp_eq, cv_eq, show (0 : Int32) = J 0 from rfl, J_lt (by unfold r32; omega) (by unfold r32; omega)]; omega
      · rw [ha.cmp_gt (y := 4609434218613702656) c_1h (by omega) (by omega), cv_gt, show (0 : Int32) = J 0 from rfl, J_lt (by unfold r32; omega) (by unfold r32; omega)]; omega
    have dv := drem_big hx hk (by omega)
    have pk : 0 < 2 ^ (51 - k) := Nat.two_pow_pos _
    have pk2 : 2 ^ (51 - k) ≤ 2 ^ 51 := Nat.pow_le_pow_right (by decide) (by omega)
    have p51 : (2 : Nat) ^ 51 = 2251799813685248 := by decide
    refine ⟨fun y => absurd y hc, fun _ => ?_⟩
    simp only [j_lit, j_ops]
    refine c_max (by unfold r32; omega) (by unfold r32; omega) ?_
    have em : (if 0 < 51 - (q + 52) then 51 - (q + 52) else 0) = ((51 - k : Nat) : Int) := by split <;> omega
    rw [em, J_64 (by unfold r32; omega)]
    have sh := JL_shl 3 (s := ((51 - k : Nat) : Int)) (by omega) (by omega)
    rw [J_64 (by unfold r32; omega), Int.toNat_natCast] at sh
    have e3 : (3 : Int) * 2 ^ (51 - k) = ((3 * 2 ^ (51 - k) : Nat) : Int) := by simp
    rw [e3] at sh
    have sh' : (3 : Int64) <<< (JL ((51 - k : Nat) : Int) &&& 63) = JL ((3 * 2 ^ (51 - k) : Nat) : Int) := sh
    rw [sh', show (0 : Int64) = JL 0 from rfl, JL_le (by unfold r64; omega) (by unfold r64; omega), JL_eq (by unfold r64; omega) (by unfold r64; omega), JL_mod (by omega) (by unfold r64; omega) (by omega) (by unfold r64; omega)]
    have e4 : (c : Int) % ((3 * 2 ^ (51 - k) : Nat) : Int) = ((c % (3 * 2 ^ (51 - k)) : Nat) : Int) := by rw [Int.natCast_emod]
    rw [e4]
    have hlt : c % (3 * 2 ^ (51 - k)) < 3 * 2 ^ (51 - k) := Nat.mod_lt _ (by omega)
    generalize c % (3 * 2 ^ (51 - k)) = r at *
    refine ⟨fun y => by omega, fun _ => ⟨by omega, S_T_restBits_51 ⟨fun y => ?_, fun y => ?_⟩⟩⟩
    · have r0 : 0 < r := by
        by_cases z : r = 0
        · rw [z] at y; exact absurd rfl y
        · omega
      have := c_rest58 (d := d) (w := w) (m := m) (Q := Q) (r := r) (sg := if s = true then (-9223372036854775808 : Int64) else 0) (E := q + 52) r0 (by omega) (fun j u1 u2 hj => ?_) 52 0 (by omega) (by rw [Nat.pow_zero, Nat.mul_one]; omega)
      · rw [Nat.pow_zero, Nat.mul_one, show q + 52 - ((0 : Nat) : Int) = q + 52 by omega] at this
        exact this
      · have hv : FP.Core.val64 (FP.drem x 4609434218613702656) = .fin s (r * 2 ^ j) (q - j) := by
          rw [dv, rr_shift s u1 u2 (by omega) (by omega), hk]
        rw [show q + 52 - (j : Int) = (q - j) + 52 by omega]
        exact c_rest71 hv u1 u2 (by omega) (H _ _ _ hv)
    · have r0 : r = 0 := by
        have y' : JL (r : Int) = JL 0 := y
        rw [JL_eq (by unfold r64; omega) (by unfold r64; omega)] at y'
        omega
      have hv : FP.Core.val64 (FP.drem x 4609434218613702656) = .fin s 0 (-1074) := by
        rw [dv, r0, rr_zero]
      have hb := bits0 hv
      have e : (FP.drem x 4609434218613702656).toInt64 = (if s = true then (-9223372036854775808 : Int64) else 0) := UI64_ext (by
        rw [hb]
        cases s <;> decide)
      have := H _ _ _ hv
      rw [e] at this
      exact this
theorem c_restBits {Q : Int64 → zM → Prop} {m : zM} {x : UInt64} {s : Bool} {c : Nat} {q : Int} (hx : V64 x s c q) (hq : -400 ≤ q ∧ q ≤ -13) (H : ∀ s' c' q', FP.Core.val64 (FP.drem x 4609434218613702656) = .fin s' c' q' → Q (FP.drem x 4609434218613702656).toInt64 m) : cL (d + 1) 179 [.double x] w m Q := by
  have h0 := hx.cmp_0
  refine S_T_restBits ?_
  rw [h0]
  cases s with
  | false =>
    rw [if_neg (by simp), cv_gt, cv_gt]
    have g0 : (0 : Int32) ≤ J 1 := by rw [show (0 : Int32) = J 0 from rfl, J_le (by unfold r32; omega) (by unfold r32; omega)]; omega
    refine ⟨fun _ => ⟨fun _ => S_T_restBits_14 ?_, fun y => absurd g0 y⟩, fun y => absurd y (by decide)⟩
    rw [h0, if_neg (by simp), cv_gt]
    refine ⟨fun _ => ?_, fun y => absurd g0 y⟩
    have := c_rest22 (d := d) (w := w) hx hx hq H
    rw [if_neg (by simp)] at this
    exact this
  | true =>
    rw [if_pos rfl, cv_lt, cv_lt]
    have g0 : ¬ (0 : Int32) ≤ J (-1) := by rw [show (0 : Int32) = J 0 from rfl, J_le (by unfold r32; omega) (by unfold r32; omega)]; omega
    refine ⟨fun _ => ⟨fun y => absurd y g0, fun _ => S_T_restBits_14 ?_⟩, fun y => absurd y (by decide)⟩
    rw [h0, if_pos rfl, cv_lt]
    refine ⟨fun y => absurd y g0, fun _ => ?_⟩
    have := c_rest22 (d := d) (w := w) hx hx.neg hq H
    rw [if_pos rfl] at this
    exact this
theorem drem_0 {x : UInt64} (h : FP.Core.val64 x = .fin false 0 (-1074)) : FP.Core.val64 (FP.drem x 4609434218613702656) = .fin false 0 (-1074) := by
  have e : FP.Core.exactRemainder (.fin false 0 (-1074)) (.fin false 6755399441055744 (-52)) = .fin false 0 (-1074) := by
    unfold FP.Core.exactRemainder FP.Core.inUnits
    dsimp only
    rw [if_neg (by decide), Nat.zero_mul, Nat.zero_mod, show min (-1074 : Int) (-52) = -1074 by omega]
  show FP.Core.val64 (FP.Core.drem x 4609434218613702656) = _
  rw [FP.Core.val64_drem, h, c_1h, e]
  unfold FP.Core.round FP.Core.roundRatio
  dsimp only
  rw [if_pos rfl, q64.1]
theorem c_restBits0 {Q : Int64 → zM → Prop} {m : zM} {x : UInt64} (h : FP.Core.val64 x = .fin false 0 (-1074)) (H : Q (FP.drem x 4609434218613702656).toInt64 m) : cL (d + 1) 179 [.double x] w m Q := by
  have hb := bits0 (drem_0 h)
  have e : (FP.drem x 4609434218613702656).toInt64 = (0 : Int64) := UI64_ext (by rw [hb]; decide)
  rw [e] at H
  refine S_T_restBits ?_
  have hc : FP.dcmp x FP.dconst0 = some .eq := by
    show FP.Core.order (FP.Core.val64 x) (FP.Core.val64 FP.dconst0) = _
    rw [h, c_d0]
    decide
  rw [hc, cv_eq]
  exact ⟨fun y => absurd rfl y, fun _ => H⟩
theorem rest_x (h : TR C mv b N) {t g : Int} (t0 : 0 ≤ t) (t1 : t < Zn N) : (∃ s c q, FP.Core.val64 (FP.ddiv (FP.l2d (JL (lwA (mov N g t) (mun N g t)))) (FP.l2d (JL (lwB (mov N g t) (mun N g t))))) = .fin s c q ∧ ((s = false ∧ c = 0 ∧ q = -1074) ∨ V64 (FP.ddiv (FP.l2d (JL (lwA (mov N g t) (mun N g t)))) (FP.l2d (JL (lwB (mov N g t) (mun N g t))))) s c q ∧ -150 ≤ q ∧ q ≤ -13)) ∧ FP.dcmp (FP.l2d (JL (lwB (mov N g t) (mun N g t)))) FP.dconst0 = some .gt := by
  have rg := lw_rg h g t0 t1
  have p37 : (2 : Nat) ^ 37 = 137438953472 := by decide
  generalize lwA (mov N g t) (mun N g t) = A at *
  generalize lwB (mov N g t) (mun N g t) = B at *
  obtain ⟨e, r, hy, y1, y2⟩ := l2d_V (a := B) (by omega) (by rw [p37]; omega)
  rw [show decide (B < 0) = false from decide_eq_false (by omega)] at hy
  have h0 := hy.cmp_0
  rw [if_neg (by simp)] at h0
  refine ⟨?_, h0⟩
  by_cases z : A = 0
  · rw [z]
    exact ⟨false, 0, -1074, ddiv_0 l2d_0 hy, Or.inl ⟨rfl, rfl, rfl⟩⟩
  · obtain ⟨c, q, hx, x1, x2⟩ := l2d_V (a := A) z (by rw [p37]; omega)
    obtain ⟨c', q', hv, v1, v2⟩ := ddiv_V hx hy ⟨x1, x2⟩ ⟨y1, y2⟩
    exact ⟨_, c', q', hv.1, Or.inr ⟨hv, v1, v2⟩⟩
theorem p_rest {P : Int64 → Int64 → zM → Prop} {m : zM} {t g : Int} (rt : r32 t) (rg : r32 g) (hI : IV C w m) (H : ∀ v m', IV C w m' → P v v m') : cL (d + 10) 135 [.ref 3, .int (J t), .int (J g)] w m (fun x m1 => cL (d + 10) 260 [.ref 261, .int (J t), .int (J g)] w m1 (fun y m2 => P x y m2)) := by
  obtain ⟨N, hI⟩ := hI
  refine S_T_rest (c_dweighed (d := d) rt rg hI (fun m1 hI1 hin e7 e8 => ?_) (fun m1 hI1 hn => ?_))
  · obtain ⟨⟨s, c, q, hv, hc⟩, h0⟩ := rest_x (g := g) hI1.2.2.2.2.1 hin.1 hin.2.1
    have ref : ∀ (Q : Int64 → zM → Prop) s' c' q', FP.Core.val64 (FP.drem (FP.ddiv (FP.l2d (JL (lwA (mov N g t) (mun N g t)))) (FP.l2d (JL (lwB (mov N g t) (mun N g t))))) 4609434218613702656) = .fin s' c' q' → (∀ m2, IVN C w m2 N → Q (FP.drem (FP.ddiv (FP.l2d (JL (lwA (mov N g t) (mun N g t)))) (FP.l2d (JL (lwB (mov N g t) (mun N g t))))) 4609434218613702656).toInt64 m2) → cL (d + 10) 260 [.ref 261, .int (J t), .int (J g)] w m1 Q := by
      intro Q s' c' q' hv' HQ
      refine S_M_rest (c_Mweigh (d := d + 3) (Q := fun _ _ _ => True) rt rg hI1 (fun m2 hI2 _ e1 e2 => ?_) (fun m2 hI2 hn => absurd hin hn))
      rw [jl_rd, jl_rd, j_nc47, j_nc48, e1, e2]
      exact ⟨nn64 (by rw [hv]; simp), nn64 (by rw [hv']; simp), c_dToLongBits (d := d + 8) hv' (HQ m2 hI2)⟩
    simp (disch := first | (unfold r32; omega) | omega) only [j_lit, j_ops, J_eq]
    rw [jl_rd, jl_rd, j_nc.2.2.2.2.2.2.2.1, j_nc.2.2.2.2.2.2.2.2.1, e7, e8, h0, cv_gt]
    refine ⟨fun _ => ⟨fun y => absurd y (by rw [J_le (by unfold r32; omega) (by unfold r32; omega)]; omega), fun _ => ⟨nn64 (by rw [hv]; simp), ?_⟩⟩, fun y => by omega⟩
    rcases hc with ⟨s0, c0, q0⟩ | ⟨hV, q1, q2⟩
    · rw [s0, c0, q0] at hv
      exact c_restBits0 (d := d + 8) hv (ref _ _ _ _ (drem_0 hv) (fun m2 hI2 => H _ m2 ⟨N, hI2⟩))
    · exact c_restBits (d := d + 8) hV (by omega) (fun s' c' q' hv' => ref _ _ _ _ hv' (fun m2 hI2 => H _ m2 ⟨N, hI2⟩))
  · simp (disch := first | (unfold r32; omega) | omega) only [j_lit, j_ops, J_eq]
    refine ⟨fun y => absurd trivial y, fun _ => ?_⟩
    refine S_M_rest (c_Mweigh (d := d + 3) (Q := fun _ _ _ => True) rt rg hI1 (fun m2 hI2 hin _ _ => absurd hin hn) (fun m2 hI2 _ => ?_))
    exact H _ m2 ⟨N, hI2⟩
end RST
