/-! rounding, bits
-/
theorem rr_norm {f : FP.Core.Fmt} (hf : FP.Core.Good f) (s : Bool) {A B : Nat} {e : Int} (hA : 0 < A) (hB : 0 < B) (h1 : f.qmin ≤ FP.Core.leading A B + e - ((f.p : Int) - 1)) (h2 : FP.Core.leading A B + e - ((f.p : Int) - 1) + 1 ≤ f.qmax) : ∃ c q, FP.Core.roundRatio f s A B e = .fin s c q ∧ f.tails ≤ c ∧ c < 2 ^ f.p ∧ FP.Core.leading A B + e - ((f.p : Int) - 1) ≤ q ∧ q ≤ FP.Core.leading A B + e - ((f.p : Int) - 1) + 1 := by
  have hp := hf.2
  have hQ : FP.Core.quantum f A B e = FP.Core.leading A B + e - ((f.p : Int) - 1) := by unfold FP.Core.quantum; omega
  have hle := FP.Core.nearest_units_le (f := f) hA hB e
  have hub := FP.Core.units_below A B e (FP.Core.leading A B + e - ((f.p : Int) - 1)) (f.p - 1)
  have hsp := (FP.Core.leading_spec hA hB).1
  rw [show FP.Core.leading A B + e - ((f.p : Int) - 1) - e + ((f.p - 1 : Nat) : Int) = FP.Core.leading A B by omega] at hub
  have hge : f.tails ≤ FP.Core.nearest (FP.Core.unitsNum A e (FP.Core.leading A B + e - ((f.p : Int) - 1))) (FP.Core.unitsDen B e (FP.Core.leading A B + e - ((f.p : Int) - 1))) := by
    refine FP.Core.nearest_ge (FP.Core.unitsDen_pos hB _ _) ?_
    have : ¬ FP.Core.unitsNum A e (FP.Core.leading A B + e - ((f.p : Int) - 1)) < 2 ^ (f.p - 1) * FP.Core.unitsDen B e (FP.Core.leading A B + e - ((f.p : Int) - 1)) := fun y => hsp (hub.mp y)
    unfold FP.Core.Fmt.tails
    omega
  have htt := FP.Core.two_tails hf
  have htp := FP.Core.tails_pos f
  rw [hQ] at hle
  unfold FP.Core.roundRatio
  rw [if_neg (by omega), hQ]
  unfold FP.Core.roundAt FP.Core.settle FP.Core.bound
  generalize FP.Core.nearest (FP.Core.unitsNum A e (FP.Core.leading A B + e - ((f.p : Int) - 1))) (FP.Core.unitsDen B e (FP.Core.leading A B + e - ((f.p : Int) - 1))) = n at *
  generalize FP.Core.leading A B + e - ((f.p : Int) - 1) = Q at *
  by_cases g : n < 2 ^ f.p
  · rw [if_pos g, if_pos (by omega)]
    exact ⟨n, Q, rfl, hge, g, by omega, by omega⟩
  · rw [if_neg g, if_pos (by omega)]
    exact ⟨f.tails, Q + 1, rfl, Nat.le_refl _, by omega, by omega, by omega⟩
theorem lead_b {A B a b a0 b0 : Nat} (hA : A ≠ 0) (hB : B ≠ 0) (h1 : A < 2 ^ a) (h2 : B < 2 ^ b) (h3 : 2 ^ a0 ≤ A) (h4 : 2 ^ b0 ≤ B) : (a0 : Int) - b ≤ FP.Core.leading A B ∧ FP.Core.leading A B ≤ (a : Int) - 1 - b0 := by
  have l1 := (Nat.log2_lt hA).mpr h1
  have l2 := (Nat.log2_lt hB).mpr h2
  have l3 := (Nat.le_log2 hA).mpr h3
  have l4 := (Nat.le_log2 hB).mpr h4
  unfold FP.Core.leading
  dsimp only
  split <;> omega
theorem l2d_V {a : Int} (ha : a ≠ 0) (h1 : a.natAbs < 2 ^ 37) : ∃ c q, V64 (FP.l2d (JL a)) (decide (a < 0)) c q ∧ -53 ≤ q ∧ q ≤ -15 := by
  have p37 : (2 : Nat) ^ 37 = 137438953472 := by decide
  obtain ⟨e1, e2, e3, e4, _⟩ := q64
  have ep : (FP.Core.b64.p : Int) = 53 := by decide
  have lb := lead_b (A := a.natAbs) (B := 1) (a := 37) (b := 1) (a0 := 0) (b0 := 0) (by omega) (by omega) h1 (by decide) (by simp; omega) (by decide)
  obtain ⟨c, q, r1, r2, r3, r4, r5⟩ := rr_norm FP.Core.good_b64 (decide (a < 0)) (A := a.natAbs) (B := 1) (e := 0) (by omega) (by omega) (by rw [e1, ep]; omega) (by rw [e2, ep]; omega)
  rw [e3] at r2
  rw [e4] at r3
  rw [ep] at r4 r5
  refine ⟨c, q, ⟨?_, r2, r3, by omega, by omega⟩, by omega, by omega⟩
  show FP.Core.val64 (FP.Core.l2d (JL a)) = _
  rw [FP.Core.val64_l2d, JL_toInt (by unfold r64; omega)]
  exact r1
theorem l2f_V {a : Int} (ha : a ≠ 0) (h1 : a.natAbs < 2 ^ 37) : ∃ c q, V32 (FP.l2f (JL a)) (decide (a < 0)) c q ∧ -24 ≤ q ∧ q ≤ 14 := by
  have p37 : (2 : Nat) ^ 37 = 137438953472 := by decide
  obtain ⟨e1, e2, e3, e4, _⟩ := q32
  have ep : (FP.Core.b32.p : Int) = 24 := by decide
  have lb := lead_b (A := a.natAbs) (B := 1) (a := 37) (b := 1) (a0 := 0) (b0 := 0) (by omega) (by omega) h1 (by decide) (by simp; omega) (by decide)
  obtain ⟨c, q, r1, r2, r3, r4, r5⟩ := rr_norm FP.Core.good_b32 (decide (a < 0)) (A := a.natAbs) (B := 1) (e := 0) (by omega) (by omega) (by rw [e1, ep]; omega) (by rw [e2, ep]; omega)
  rw [e3] at r2
  rw [e4] at r3
  rw [ep] at r4 r5
  refine ⟨c, q, ⟨?_, r2, r3, by omega, by omega⟩, by omega, by omega⟩
  show FP.Core.val32 (FP.Core.l2f (JL a)) = _
  rw [FP.Core.val32_l2f, JL_toInt (by unfold r64; omega)]
  exact r1
theorem ddiv_V {x y : UInt64} {s : Bool} {c e : Nat} {q r : Int} (hx : V64 x s c q) (hy : V64 y false e r) (h1 : -53 ≤ q ∧ q ≤ -15) (h2 : -53 ≤ r ∧ r ≤ -15) : ∃ c' q', V64 (FP.ddiv x y) s c' q' ∧ -150 ≤ q' ∧ q' ≤ -13 := by
  obtain ⟨e1, e2, e3, e4, _⟩ := q64
  have ep : (FP.Core.b64.p : Int) = 53 := by decide
  have p52' : (2 : Nat) ^ 52 = 4503599627370496 := by decide
  have p53' : (2 : Nat) ^ 53 = 9007199254740992 := by decide
  obtain ⟨x1, x2, x3, x4, x5⟩ := hx
  obtain ⟨y1, y2, y3, y4, y5⟩ := hy
  have lb := lead_b (A := c) (B := e) (a := 53) (b := 53) (a0 := 52) (b0 := 52) (by omega) (by omega) (by omega) (by omega) (by omega) (by omega)
  obtain ⟨c', q', r1, r2, r3, r4, r5⟩ := rr_norm FP.Core.good_b64 (s != false) (A := c) (B := e) (e := q - r) (by omega) (by omega) (by rw [e1, ep]; omega) (by rw [e2, ep]; omega)
  rw [e3] at r2
  rw [e4] at r3
  rw [ep] at r4 r5
  rw [sff] at r1
  refine ⟨c', q', ⟨?_, r2, r3, by omega, by omega⟩, by omega, by omega⟩
  show FP.Core.val64 (FP.Core.ddiv x y) = _
  rw [FP.Core.val64_ddiv, x1, y1]
  show (if e = 0 then (if c = 0 then FP.Core.Datum.nan else FP.Core.Datum.inf (s != false)) else FP.Core.roundRatio FP.Core.b64 (s != false) c e (q - r)) = _
  rw [if_neg (by omega), sff]
  exact r1
theorem fdiv_V {x y : UInt32} {s : Bool} {c e : Nat} {q r : Int} (hx : V32 x s c q) (hy : V32 y false e r) (h1 : -24 ≤ q ∧ q ≤ 14) (h2 : -24 ≤ r ∧ r ≤ 14) : ∃ c' q', V32 (FP.fdiv x y) s c' q' ∧ -80 ≤ q' ∧ q' ≤ 30 := by
  obtain ⟨e1, e2, e3, e4, _⟩ := q32
  have ep : (FP.Core.b32.p : Int) = 24 := by decide
  have p52' : (2 : Nat) ^ 23 = 8388608 := by decide
  have p53' : (2 : Nat) ^ 24 = 16777216 := by decide
  obtain ⟨x1, x2, x3, x4, x5⟩ := hx
  obtain ⟨y1, y2, y3, y4, y5⟩ := hy
  have lb := lead_b (A := c) (B := e) (a := 24) (b := 24) (a0 := 23) (b0 := 23) (by omega) (by omega) (by omega) (by omega) (by omega) (by omega)
  obtain ⟨c', q', r1, r2, r3, r4, r5⟩ := rr_norm FP.Core.good_b32 (s != false) (A := c) (B := e) (e := q - r) (by omega) (by omega) (by rw [e1, ep]; omega) (by rw [e2, ep]; omega)
  rw [e3] at r2
  rw [e4] at r3
  rw [ep] at r4 r5
  rw [sff] at r1
  refine ⟨c', q', ⟨?_, r2, r3, by omega, by omega⟩, by omega, by omega⟩
  show FP.Core.val32 (FP.Core.fdiv x y) = _
  rw [FP.Core.val32_fdiv, x1, y1]
  show (if e = 0 then (if c = 0 then FP.Core.Datum.nan else FP.Core.Datum.inf (s != false)) else FP.Core.roundRatio FP.Core.b32 (s != false) c e (q - r)) = _
  rw [if_neg (by omega), sff]
  exact r1
/-- nothing by something -/
theorem l2d_0 : FP.Core.val64 (FP.l2d (JL 0)) = .fin false 0 (-1074) := by decide +kernel
theorem l2f_0 : FP.Core.val32 (FP.l2f (JL 0)) = .fin false 0 (-149) := by decide +kernel
theorem ddiv_0 {x y : UInt64} {e : Nat} {r : Int} (hx : FP.Core.val64 x = .fin false 0 (-1074)) (hy : V64 y false e r) : FP.Core.val64 (FP.ddiv x y) = .fin false 0 (-1074) := by
  obtain ⟨y1, y2, y3, y4, y5⟩ := hy
  show FP.Core.val64 (FP.Core.ddiv x y) = _
  rw [FP.Core.val64_ddiv, hx, y1]
  show (if e = 0 then (if (0 : Nat) = 0 then FP.Core.Datum.nan else FP.Core.Datum.inf (false != false)) else FP.Core.roundRatio FP.Core.b64 (false != false) 0 e (-1074 - r)) = _
  rw [if_neg (by omega)]
  unfold FP.Core.roundRatio
  rw [if_pos rfl, q64.1]
  rfl
theorem fdiv_0 {x y : UInt32} {e : Nat} {r : Int} (hx : FP.Core.val32 x = .fin false 0 (-149)) (hy : V32 y false e r) : FP.Core.val32 (FP.fdiv x y) = .fin false 0 (-149) := by
  obtain ⟨y1, y2, y3, y4, y5⟩ := hy
  show FP.Core.val32 (FP.Core.fdiv x y) = _
  rw [FP.Core.val32_fdiv, hx, y1]
  show (if e = 0 then (if (0 : Nat) = 0 then FP.Core.Datum.nan else FP.Core.Datum.inf (false != false)) else FP.Core.roundRatio FP.Core.b32 (false != false) 0 e (-149 - r)) = _
  rw [if_neg (by omega)]
  unfold FP.Core.roundRatio
  rw [if_pos rfl, q32.1]
  rfl
/-- the bits -/
theorem bits64 {x : UInt64} {s : Bool} {c : Nat} {q : Int} (h1 : FP.Core.val64 x = .fin s c q) (h2 : 4503599627370496 ≤ c) (h3 : c < 9007199254740992) (h4 : -1074 ≤ q) (h5 : q ≤ 971) : x.toNat = s.toNat * 2 ^ 63 + ((q + 1075).toNat * 2 ^ 52 + (c - 4503599627370496)) := by
  obtain ⟨e1, e2, e3, e4, e5⟩ := q64
  have hx := FP.Core.of64_val64 (a := x) (by rw [h1]; simp)
  rw [h1] at hx
  have ht := FP.Core.toNat_of64 (ft64 (s := s) h2 h3 h4 h5)
  rw [hx] at ht
  rw [ht]
  unfold FP.Core.encode
  dsimp only
  rw [e3, if_neg (by omega)]
  unfold FP.Core.assemble
  rw [e1, e3, e5, show (q - -1074).toNat + 1 = (q + 1075).toNat by omega]
  have a1 : (2 : Nat) ^ 63 = 9223372036854775808 := by decide
  have a2 : (2 : Nat) ^ 52 = 4503599627370496 := by decide
  rw [a1, a2]
  omega
theorem bits32 {x : UInt32} {s : Bool} {c : Nat} {q : Int} (h1 : FP.Core.val32 x = .fin s c q) (h2 : 8388608 ≤ c) (h3 : c < 16777216) (h4 : -149 ≤ q) (h5 : q ≤ 104) : x.toNat = s.toNat * 2 ^ 31 + ((q + 150).toNat * 2 ^ 23 + (c - 8388608)) := by
  obtain ⟨e1, e2, e3, e4, e5⟩ := q32
  have hx := FP.Core.of32_val32 (a := x) (by rw [h1]; simp)
  rw [h1] at hx
  have ht := FP.Core.toNat_of32 (ft32 (s := s) h2 h3 h4 h5)
  rw [hx] at ht
  rw [ht]
  unfold FP.Core.encode
  dsimp only
  rw [e3, if_neg (by omega)]
  unfold FP.Core.assemble
  rw [e1, e3, e5, show (q - -149).toNat + 1 = (q + 150).toNat by omega]
  have a1 : (2 : Nat) ^ 31 = 2147483648 := by decide
  have a2 : (2 : Nat) ^ 23 = 8388608 := by decide
  rw [a1, a2]
  omega
theorem bits0 {x : UInt64} {s : Bool} (h1 : FP.Core.val64 x = .fin s 0 (-1074)) : x.toNat = s.toNat * 2 ^ 63 := by
  obtain ⟨e1, e2, e3, e4, e5⟩ := q64
  have hx := FP.Core.of64_val64 (a := x) (by rw [h1]; simp)
  rw [h1] at hx
  have hf : FP.Core.fits FP.Core.b64 (.fin s 0 (-1074)) := ⟨by rw [e4]; omega, by rw [e1]; omega, by rw [e2]; omega, Or.inl e1.symm⟩
  have ht := FP.Core.toNat_of64 hf
  rw [hx] at ht
  rw [ht]
  unfold FP.Core.encode
  dsimp only
  rw [e3, if_pos (by omega)]
  unfold FP.Core.assemble
  rw [e3, e5]
  have a1 : (2 : Nat) ^ 63 = 9223372036854775808 := by decide
  rw [a1]
  omega
theorem bits0f {x : UInt32} {s : Bool} (h1 : FP.Core.val32 x = .fin s 0 (-149)) : x.toNat = s.toNat * 2 ^ 31 := by
  obtain ⟨e1, e2, e3, e4, e5⟩ := q32
  have hx := FP.Core.of32_val32 (a := x) (by rw [h1]; simp)
  rw [h1] at hx
  have hf : FP.Core.fits FP.Core.b32 (.fin s 0 (-149)) := ⟨by rw [e4]; omega, by rw [e1]; omega, by rw [e2]; omega, Or.inl e1.symm⟩
  have ht := FP.Core.toNat_of32 hf
  rw [hx] at ht
  rw [ht]
  unfold FP.Core.encode
  dsimp only
  rw [e3, if_pos (by omega)]
  unfold FP.Core.assemble
  rw [e3, e5]
  have a1 : (2 : Nat) ^ 31 = 2147483648 := by decide
  rw [a1]
  omega
theorem bor (S : Bool) {k y : Nat} (h : y < 2 ^ k) : S.toNat * 2 ^ k ||| y = S.toNat * 2 ^ k + y := b_or_add h
/-- a long put together -/
theorem mk64 (s : Bool) {z u : Nat} (hz : z < 2048) (hu : 4503599627370496 ≤ u) (hu2 : u < 9007199254740992) : (((if s = true then (-9223372036854775808 : Int64) else 0) ||| (JL ((z * 2 ^ 52 : Nat) : Int))) ||| JL ((u % 2 ^ 52 : Nat) : Int)).toBitVec.toNat = s.toNat * 2 ^ 63 + (z * 2 ^ 52 + (u - 4503599627370496)) := by
  have a1 : (2 : Nat) ^ 63 = 9223372036854775808 := by decide
  have a2 : (2 : Nat) ^ 52 = 4503599627370496 := by decide
  have e0 : (if s = true then (-9223372036854775808 : Int64) else 0).toBitVec.toNat = s.toNat * 2 ^ 63 := by cases s <;> decide
  show (((if s = true then (-9223372036854775808 : Int64) else 0).toBitVec ||| (JL ((z * 2 ^ 52 : Nat) : Int)).toBitVec) ||| (JL ((u % 2 ^ 52 : Nat) : Int)).toBitVec).toNat = _
  rw [BitVec.toNat_or, BitVec.toNat_or, e0, JL_tn (by omega) (by rw [a2]; omega), JL_tn (by omega) (by rw [a2]; omega), Int.toNat_natCast, Int.toNat_natCast, Nat.or_assoc, b_or_add (a := z) (b := u % 2 ^ 52) (k := 52) (by rw [a2]; omega), bor s (k := 63) (by rw [a1, a2]; omega)]
  rw [a1, a2]
  omega
theorem mk32 {z c : Nat} (hz : z < 256) (hu : 8388608 ≤ c) (hu2 : c < 16777216) : (J ((z * 2 ^ 23 : Nat) : Int) ||| J ((c % 2 ^ 23 : Nat) : Int)).toBitVec.toNat = z * 2 ^ 23 + (c - 8388608) := by
  have a2 : (2 : Nat) ^ 23 = 8388608 := by decide
  show ((J ((z * 2 ^ 23 : Nat) : Int)).toBitVec ||| (J ((c % 2 ^ 23 : Nat) : Int)).toBitVec).toNat = _
  rw [BitVec.toNat_or, J_tn (by omega) (by rw [a2]; omega), J_tn (by omega) (by rw [a2]; omega), Int.toNat_natCast, Int.toNat_natCast, b_or_add (by rw [a2]; omega)]
  rw [a2]
  omega
theorem mk32n {x : Int32} (h : x.toBitVec.toNat < 2 ^ 31) : (x ||| (-2147483648 : Int32)).toBitVec.toNat = 2 ^ 31 + x.toBitVec.toNat := by
  show (x.toBitVec ||| (-2147483648 : Int32).toBitVec).toNat = _
  have e0 : (-2147483648 : Int32).toBitVec.toNat = true.toNat * 2 ^ 31 := by decide
  rw [BitVec.toNat_or, e0, Nat.or_comm, bor true h]
  simp
