/-! bits -/
theorem b_sh32 : ∀ k : Fin 32, (J (k.val : Int) &&& 31).toBitVec.smod 32 = BitVec.ofNat 32 k.val := by decide
theorem b_sh64 : ∀ k : Fin 64, ((J (k.val : Int)).toInt64 &&& 63).toBitVec.smod 64 = BitVec.ofNat 64 k.val := by decide
theorem b_us32 : ∀ k : Fin 32, ((J (k.val : Int)).toUInt32 &&& Int32.toUInt32 31).toBitVec % 32 = BitVec.ofNat 32 k.val := by decide
theorem b_us64 : ∀ k : Fin 64, ((J (k.val : Int)).toInt64.toUInt64 &&& Int64.toUInt64 63).toBitVec % 64 = BitVec.ofNat 64 k.val := by decide
theorem J_bv (z : Int) : (J z).toBitVec = BitVec.ofInt 32 z := Int32.toBitVec_ofInt z
theorem JL_bv (z : Int) : (JL z).toBitVec = BitVec.ofInt 64 z := Int64.toBitVec_ofInt z
theorem J_tn {z : Int} (h : 0 ≤ z) (h2 : z < 4294967296) : (J z).toBitVec.toNat = z.toNat := by
  rw [J_bv, BitVec.toNat_ofInt]
  congr 1
  exact Int.emod_eq_of_lt h (by simpa using h2)
theorem JL_tn {z : Int} (h : 0 ≤ z) (h2 : z < 18446744073709551616) : (JL z).toBitVec.toNat = z.toNat := by
  rw [JL_bv, BitVec.toNat_ofInt]
  congr 1
  exact Int.emod_eq_of_lt h (by simpa using h2)
theorem J_ext {x y : Int32} (h : x.toBitVec.toNat = y.toBitVec.toNat) : x = y := Int32.toBitVec_inj.mp (BitVec.eq_of_toNat_eq h)
theorem JL_ext {x y : Int64} (h : x.toBitVec.toNat = y.toBitVec.toNat) : x = y := Int64.toBitVec_inj.mp (BitVec.eq_of_toNat_eq h)
theorem b_fin {s : Int} {n : Nat} (h0 : 0 ≤ s) (h1 : s < n) : ∃ k : Fin n, s = (k.val : Int) := ⟨⟨s.toNat, by omega⟩, by simp; omega⟩
theorem b_ofInt (n : Nat) (w : Nat) : BitVec.ofNat w n = BitVec.ofInt w (n : Int) := (BitVec.ofInt_natCast w n).symm
theorem J_shl (a : Int) {s : Int} (h0 : 0 ≤ s) (h1 : s < 32) : J a <<< (J s &&& 31) = J (a * 2 ^ s.toNat) := by
  obtain ⟨k, rfl⟩ := b_fin (n := 32) h0 h1
  refine Int32.toBitVec_inj.mp ?_
  rw [Int32.toBitVec_shiftLeft, b_sh32, J_bv, J_bv, BitVec.shiftLeft_eq', BitVec.shiftLeft_eq_mul_twoPow, BitVec.ofInt_mul]
  congr 1
  rw [BitVec.toNat_ofNat, Nat.mod_eq_of_lt (by omega), Int.toNat_natCast]
  rw [show ((2 : Int) ^ k.val) = ((2 ^ k.val : Nat) : Int) by simp, BitVec.ofInt_natCast]
  exact BitVec.eq_of_toNat_eq (by rw [BitVec.toNat_twoPow, BitVec.toNat_ofNat])
theorem JL_shl (a : Int) {s : Int} (h0 : 0 ≤ s) (h1 : s < 64) : JL a <<< ((J s).toInt64 &&& 63) = JL (a * 2 ^ s.toNat) := by
  obtain ⟨k, rfl⟩ := b_fin (n := 64) h0 h1
  refine Int64.toBitVec_inj.mp ?_
  rw [Int64.toBitVec_shiftLeft, b_sh64, JL_bv, JL_bv, BitVec.shiftLeft_eq', BitVec.shiftLeft_eq_mul_twoPow, BitVec.ofInt_mul]
  congr 1
  rw [BitVec.toNat_ofNat, Nat.mod_eq_of_lt (by omega), Int.toNat_natCast]
  rw [show ((2 : Int) ^ k.val) = ((2 ^ k.val : Nat) : Int) by simp, BitVec.ofInt_natCast]
  exact BitVec.eq_of_toNat_eq (by rw [BitVec.toNat_twoPow, BitVec.toNat_ofNat])
theorem J_ushr {a : Int} (ha : 0 ≤ a) (hb : a < 2147483648) {s : Int} (h0 : 0 ≤ s) (h1 : s < 32) : ((J a).toUInt32 >>> ((J s).toUInt32 &&& Int32.toUInt32 31)).toInt32 = J (a / 2 ^ s.toNat) := by
  obtain ⟨k, rfl⟩ := b_fin (n := 32) h0 h1
  refine J_ext ?_
  have e : (((J a).toUInt32 >>> ((J (k.val : Int)).toUInt32 &&& Int32.toUInt32 31)).toInt32).toBitVec = (J a).toBitVec >>> (((J (k.val : Int)).toUInt32 &&& Int32.toUInt32 31).toBitVec % 32) := UInt32.toBitVec_shiftRight _ _
  rw [e, b_us32, BitVec.ushiftRight_eq', BitVec.toNat_ushiftRight, J_tn ha (by omega), BitVec.toNat_ofNat, Nat.mod_eq_of_lt (a := k.val) (by omega), Nat.shiftRight_eq_div_pow, Int.toNat_natCast]
  have hp : (0 : Int) < 2 ^ k.val := Int.pow_pos (by decide)
  have hd : a / 2 ^ k.val ≤ a := Int.ediv_le_self _ ha
  rw [J_tn (Int.ediv_nonneg ha (by omega)) (by omega)]
  obtain ⟨n, rfl⟩ := Int.eq_ofNat_of_zero_le ha
  rw [show ((2 : Int) ^ k.val) = ((2 ^ k.val : Nat) : Int) by simp, ← Int.natCast_ediv, Int.toNat_natCast, Int.toNat_natCast]
theorem JL_ushr {a : Int} (ha : 0 ≤ a) (hb : a < 9223372036854775808) {s : Int} (h0 : 0 ≤ s) (h1 : s < 64) : ((JL a).toUInt64 >>> ((J s).toInt64.toUInt64 &&& Int64.toUInt64 63)).toInt64 = JL (a / 2 ^ s.toNat) := by
  obtain ⟨k, rfl⟩ := b_fin (n := 64) h0 h1
  refine JL_ext ?_
  have e : (((JL a).toUInt64 >>> ((J (k.val : Int)).toInt64.toUInt64 &&& Int64.toUInt64 63)).toInt64).toBitVec = (JL a).toBitVec >>> (((J (k.val : Int)).toInt64.toUInt64 &&& Int64.toUInt64 63).toBitVec % 64) := UInt64.toBitVec_shiftRight _ _
  rw [e, b_us64, BitVec.ushiftRight_eq', BitVec.toNat_ushiftRight, JL_tn ha (by omega), BitVec.toNat_ofNat, Nat.mod_eq_of_lt (a := k.val) (by omega), Nat.shiftRight_eq_div_pow, Int.toNat_natCast]
  have hp : (0 : Int) < 2 ^ k.val := Int.pow_pos (by decide)
  have hd : a / 2 ^ k.val ≤ a := Int.ediv_le_self _ ha
  rw [JL_tn (Int.ediv_nonneg ha (by omega)) (by omega)]
  obtain ⟨n, rfl⟩ := Int.eq_ofNat_of_zero_le ha
  rw [show ((2 : Int) ^ k.val) = ((2 ^ k.val : Nat) : Int) by simp, ← Int.natCast_ediv, Int.toNat_natCast, Int.toNat_natCast]
theorem J_shr {a : Int} (ha : 0 ≤ a) (hb : a < 2147483648) {s : Int} (h0 : 0 ≤ s) (h1 : s < 32) : J a >>> (J s &&& 31) = J (a / 2 ^ s.toNat) := by
  rw [← J_ushr ha hb h0 h1]
  obtain ⟨k, rfl⟩ := b_fin (n := 32) h0 h1
  refine J_ext ?_
  have e : (((J a).toUInt32 >>> ((J (k.val : Int)).toUInt32 &&& Int32.toUInt32 31)).toInt32).toBitVec = (J a).toBitVec >>> (((J (k.val : Int)).toUInt32 &&& Int32.toUInt32 31).toBitVec % 32) := UInt32.toBitVec_shiftRight _ _
  rw [e, b_us32, Int32.toBitVec_shiftRight, b_sh32, BitVec.ushiftRight_eq', BitVec.sshiftRight_eq']
  rw [BitVec.sshiftRight_eq_of_msb_false]
  rw [BitVec.msb_eq_decide, J_tn ha (by omega)]
  simp
  omega
theorem JL_shr {a : Int} (ha : 0 ≤ a) (hb : a < 9223372036854775808) {s : Int} (h0 : 0 ≤ s) (h1 : s < 64) : JL a >>> ((J s).toInt64 &&& 63) = JL (a / 2 ^ s.toNat) := by
  rw [← JL_ushr ha hb h0 h1]
  obtain ⟨k, rfl⟩ := b_fin (n := 64) h0 h1
  refine JL_ext ?_
  have e : (((JL a).toUInt64 >>> ((J (k.val : Int)).toInt64.toUInt64 &&& Int64.toUInt64 63)).toInt64).toBitVec = (JL a).toBitVec >>> (((J (k.val : Int)).toInt64.toUInt64 &&& Int64.toUInt64 63).toBitVec % 64) := UInt64.toBitVec_shiftRight _ _
  rw [e, b_us64, Int64.toBitVec_shiftRight, b_sh64, BitVec.ushiftRight_eq', BitVec.sshiftRight_eq']
  rw [BitVec.sshiftRight_eq_of_msb_false]
  rw [BitVec.msb_eq_decide, JL_tn ha (by omega)]
  simp
  omega
theorem J_or {a b : Nat} (ha : a < 2147483648) (hb : b < 2147483648) : J a ||| J b = J ((a ||| b : Nat) : Int) := by
  have h : a ||| b < 2 ^ 31 := Nat.or_lt_two_pow ha hb
  refine J_ext ?_
  rw [Int32.toBitVec_or, BitVec.toNat_or, J_tn (by omega) (by omega), J_tn (by omega) (by omega), J_tn (by omega) (by omega), Int.toNat_natCast, Int.toNat_natCast, Int.toNat_natCast]
theorem J_and {a b : Nat} (ha : a < 2147483648) (hb : b < 2147483648) : J a &&& J b = J ((a &&& b : Nat) : Int) := by
  have h : a &&& b < 2 ^ 31 := Nat.and_lt_two_pow _ hb
  refine J_ext ?_
  rw [Int32.toBitVec_and, BitVec.toNat_and, J_tn (by omega) (by omega), J_tn (by omega) (by omega), J_tn (by omega) (by omega), Int.toNat_natCast, Int.toNat_natCast, Int.toNat_natCast]
theorem JL_or {a b : Nat} (ha : a < 9223372036854775808) (hb : b < 9223372036854775808) : JL a ||| JL b = JL ((a ||| b : Nat) : Int) := by
  have h : a ||| b < 2 ^ 63 := Nat.or_lt_two_pow ha hb
  refine JL_ext ?_
  rw [Int64.toBitVec_or, BitVec.toNat_or, JL_tn (by omega) (by omega), JL_tn (by omega) (by omega), JL_tn (by omega) (by omega), Int.toNat_natCast, Int.toNat_natCast, Int.toNat_natCast]
theorem JL_and {a b : Nat} (ha : a < 9223372036854775808) (hb : b < 9223372036854775808) : JL a &&& JL b = JL ((a &&& b : Nat) : Int) := by
  have h : a &&& b < 2 ^ 63 := Nat.and_lt_two_pow _ hb
  refine JL_ext ?_
  rw [Int64.toBitVec_and, BitVec.toNat_and, JL_tn (by omega) (by omega), JL_tn (by omega) (by omega), JL_tn (by omega) (by omega), Int.toNat_natCast, Int.toNat_natCast, Int.toNat_natCast]
/-- the lowest k bits -/
theorem J_mask (z : Int) {k : Nat} (hk : k ≤ 31) : J z &&& J (2 ^ k - 1) = J (z % 2 ^ k) := by
  have hp : (0 : Int) < 2 ^ k := Int.pow_pos (by decide)
  have hp2 : (2 : Int) ^ k ≤ 2147483648 := by
    have : (2 : Nat) ^ k ≤ 2 ^ 31 := Nat.pow_le_pow_right (by decide) hk
    have h2 : ((2 ^ k : Nat) : Int) ≤ ((2 ^ 31 : Nat) : Int) := by exact_mod_cast this
    simpa using h2
  have h1 := Int.emod_nonneg z (b := 2 ^ k) (by omega)
  have h2 := Int.emod_lt_of_pos z hp
  refine J_ext ?_
  rw [Int32.toBitVec_and, BitVec.toNat_and, J_tn (z := 2 ^ k - 1) (by omega) (by omega), J_tn h1 (by omega), J_bv, BitVec.toNat_ofInt]
  have e : ((2 : Int) ^ k - 1).toNat = 2 ^ k - 1 := by
    rw [show ((2 : Int) ^ k) = ((2 ^ k : Nat) : Int) by simp]
    omega
  rw [e, Nat.and_two_pow_sub_one_eq_mod]
  apply Int.ofNat.inj
  show (((z % ((2 ^ 32 : Nat) : Int)).toNat % 2 ^ k : Nat) : Int) = ((z % 2 ^ k).toNat : Int)
  have g : 0 ≤ z % ((2 ^ 32 : Nat) : Int) := Int.emod_nonneg z (by decide)
  rw [Int.natCast_emod, Int.toNat_of_nonneg g, Int.toNat_of_nonneg h1]
  rw [show ((2 ^ k : Nat) : Int) = (2 : Int) ^ k by simp]
  refine Int.emod_emod_of_dvd z ?_
  refine ⟨2 ^ (32 - k), ?_⟩
  rw [← Int.pow_add, show k + (32 - k) = 32 by omega]
  rfl
theorem JL_mask (z : Int) {k : Nat} (hk : k ≤ 63) : JL z &&& JL (2 ^ k - 1) = JL (z % 2 ^ k) := by
  have hp : (0 : Int) < 2 ^ k := Int.pow_pos (by decide)
  have hp2 : (2 : Int) ^ k ≤ 9223372036854775808 := by
    have : (2 : Nat) ^ k ≤ 2 ^ 63 := Nat.pow_le_pow_right (by decide) hk
    have h2 : ((2 ^ k : Nat) : Int) ≤ ((2 ^ 63 : Nat) : Int) := by exact_mod_cast this
    simpa using h2
  have h1 := Int.emod_nonneg z (b := 2 ^ k) (by omega)
  have h2 := Int.emod_lt_of_pos z hp
  refine JL_ext ?_
  rw [Int64.toBitVec_and, BitVec.toNat_and, JL_tn (z := 2 ^ k - 1) (by omega) (by omega), JL_tn h1 (by omega), JL_bv, BitVec.toNat_ofInt]
  have e : ((2 : Int) ^ k - 1).toNat = 2 ^ k - 1 := by
    rw [show ((2 : Int) ^ k) = ((2 ^ k : Nat) : Int) by simp]
    omega
  rw [e, Nat.and_two_pow_sub_one_eq_mod]
  apply Int.ofNat.inj
  show (((z % ((2 ^ 64 : Nat) : Int)).toNat % 2 ^ k : Nat) : Int) = ((z % 2 ^ k).toNat : Int)
  have g : 0 ≤ z % ((2 ^ 64 : Nat) : Int) := Int.emod_nonneg z (by decide)
  rw [Int.natCast_emod, Int.toNat_of_nonneg g, Int.toNat_of_nonneg h1]
  rw [show ((2 ^ k : Nat) : Int) = (2 : Int) ^ k by simp]
  refine Int.emod_emod_of_dvd z ?_
  refine ⟨2 ^ (64 - k), ?_⟩
  rw [← Int.pow_add, show k + (64 - k) = 64 by omega]
  rfl
/-- bits that are apart -/
theorem b_or_add {a b k : Nat} (h : b < 2 ^ k) : a * 2 ^ k ||| b = a * 2 ^ k + b := by
  rw [Nat.mul_comm, Nat.two_pow_add_eq_or_of_lt h]
theorem JL_oradd {a b : Int} {k : Nat} (ha : 0 ≤ a) (hb : 0 ≤ b) (hbk : b < 2 ^ k) (h : a * 2 ^ k + b < 9223372036854775808) : JL (a * 2 ^ k) ||| JL b = JL (a * 2 ^ k + b) := by
  obtain ⟨x, rfl⟩ := Int.eq_ofNat_of_zero_le ha
  obtain ⟨y, rfl⟩ := Int.eq_ofNat_of_zero_le hb
  rw [show ((2 : Int) ^ k) = ((2 ^ k : Nat) : Int) by simp] at *
  have e1 : ((x : Int) * ((2 ^ k : Nat) : Int)) = ((x * 2 ^ k : Nat) : Int) := by simp
  rw [e1] at *
  have hbk : y < 2 ^ k := by omega
  rw [JL_or (by omega) (by omega), b_or_add hbk]
  simp
theorem J_bsmall : (∀ z, J z &&& J 255 = J (z % 256)) ∧ (∀ z, J z &&& J 31 = J (z % 32)) ∧ (∀ z, J z &&& J 1 = J (z % 2)) ∧ (∀ z, J z &&& J 4095 = J (z % 4096)) := ⟨fun z => J_mask z (k := 8) (by decide), fun z => J_mask z (k := 5) (by decide), fun z => J_mask z (k := 1) (by decide), fun z => J_mask z (k := 12) (by decide)⟩
