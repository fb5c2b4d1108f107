/-! whole numbers for the machine's ints and longs -/
def J (z : Int) : Int32 := Int32.ofInt z
def JL (z : Int) : Int64 := Int64.ofInt z
def r32 (z : Int) : Prop := -2147483648 ≤ z ∧ z < 2147483648
def r64 (z : Int) : Prop := -9223372036854775808 ≤ z ∧ z < 9223372036854775808
theorem j_lit : (-2147483648 : Int32) = J (-2147483648) ∧ (-8 : Int32) = J (-8) ∧ (-3 : Int32) = J (-3) ∧ (-2 : Int32) = J (-2) ∧ (-1 : Int32) = J (-1) ∧ (0 : Int32) = J (0) ∧ (1 : Int32) = J (1) ∧ (2 : Int32) = J (2) ∧ (3 : Int32) = J (3) ∧ (4 : Int32) = J (4) ∧ (5 : Int32) = J (5) ∧ (6 : Int32) = J (6) ∧ (7 : Int32) = J (7) ∧ (8 : Int32) = J (8) ∧ (9 : Int32) = J (9) ∧ (10 : Int32) = J (10) ∧ (12 : Int32) = J (12) ∧ (16 : Int32) = J (16) ∧ (20 : Int32) = J (20) ∧ (23 : Int32) = J (23) ∧ (24 : Int32) = J (24) ∧ (29 : Int32) = J (29) ∧ (31 : Int32) = J (31) ∧ (32 : Int32) = J (32) ∧ (40 : Int32) = J (40) ∧ (41 : Int32) = J (41) ∧ (42 : Int32) = J (42) ∧ (43 : Int32) = J (43) ∧ (46 : Int32) = J (46) ∧ (51 : Int32) = J (51) ∧ (52 : Int32) = J (52) ∧ (58 : Int32) = J (58) ∧ (59 : Int32) = J (59) ∧ (61 : Int32) = J (61) ∧ (63 : Int32) = J (63) ∧ (80 : Int32) = J (80) ∧ (81 : Int32) = J (81) ∧ (96 : Int32) = J (96) ∧ (97 : Int32) = J (97) ∧ (98 : Int32) = J (98) ∧ (99 : Int32) = J (99) ∧ (100 : Int32) = J (100) ∧ (101 : Int32) = J (101) ∧ (102 : Int32) = J (102) ∧ (103 : Int32) = J (103) ∧ (104 : Int32) = J (104) ∧ (105 : Int32) = J (105) ∧ (106 : Int32) = J (106) ∧ (107 : Int32) = J (107) ∧ (108 : Int32) = J (108) ∧ (109 : Int32) = J (109) ∧ (110 : Int32) = J (110) ∧ (111 : Int32) = J (111) ∧ (112 : Int32) = J (112) ∧ (113 : Int32) = J (113) ∧ (114 : Int32) = J (114) ∧ (115 : Int32) = J (115) ∧ (116 : Int32) = J (116) ∧ (117 : Int32) = J (117) ∧ (118 : Int32) = J (118) ∧ (119 : Int32) = J (119) ∧ (120 : Int32) = J (120) ∧ (122 : Int32) = J (122) ∧ (124 : Int32) = J (124) ∧ (127 : Int32) = J (127) ∧ (161 : Int32) = J (161) ∧ (162 : Int32) = J (162) ∧ (170 : Int32) = J (170) ∧ (178 : Int32) = J (178) ∧ (179 : Int32) = J (179) ∧ (200 : Int32) = J (200) ∧ (219 : Int32) = J (219) ∧ (240 : Int32) = J (240) ∧ (255 : Int32) = J (255) ∧ (259 : Int32) = J (259) ∧ (260 : Int32) = J (260) ∧ (269 : Int32) = J (269) ∧ (580 : Int32) = J (580) ∧ (600 : Int32) = J (600) ∧ (601 : Int32) = J (601) ∧ (669 : Int32) = J (669) ∧ (1023 : Int32) = J (1023) ∧ (1069 : Int32) = J (1069) ∧ (1070 : Int32) = J (1070) ∧ (1200 : Int32) = J (1200) ∧ (1470 : Int32) = J (1470) ∧ (1870 : Int32) = J (1870) ∧ (1871 : Int32) = J (1871) ∧ (1883 : Int32) = J (1883) ∧ (1895 : Int32) = J (1895) ∧ (1896 : Int32) = J (1896) ∧ (1897 : Int32) = J (1897) ∧ (1898 : Int32) = J (1898) ∧ (1899 : Int32) = J (1899) ∧ (1900 : Int32) = J (1900) ∧ (1906 : Int32) = J (1906) ∧ (2000 : Int32) = J (2000) ∧ (2400 : Int32) = J (2400) ∧ (4095 : Int32) = J (4095) ∧ (13342 : Int32) = J (13342) ∧ (15248 : Int32) = J (15248) := ⟨rfl, rfl, rfl, rfl, rfl, rfl, rfl, rfl, rfl, rfl, rfl, rfl, rfl, rfl, rfl, rfl, rfl, rfl, rfl, rfl, rfl, rfl, rfl, rfl, rfl, rfl, rfl, rfl, rfl, rfl, rfl, rfl, rfl, rfl, rfl, rfl, rfl, rfl, rfl, rfl, rfl, rfl, rfl, rfl, rfl, rfl, rfl, rfl, rfl, rfl, rfl, rfl, rfl, rfl, rfl, rfl, rfl, rfl, rfl, rfl, rfl, rfl, rfl, rfl, rfl, rfl, rfl, rfl, rfl, rfl, rfl, rfl, rfl, rfl, rfl, rfl, rfl, rfl, rfl, rfl, rfl, rfl, rfl, rfl, rfl, rfl, rfl, rfl, rfl, rfl, rfl, rfl, rfl, rfl, rfl, rfl, rfl, rfl, rfl, rfl, rfl⟩
theorem j_ofn : Int32.ofNat 6 = J 6 ∧ Int32.ofNat 8 = J 8 ∧ Int32.ofNat 10 = J 10 ∧ Int32.ofNat 12 = J 12 ∧ Int32.ofNat 40 = J 40 ∧ Int32.ofNat 54 = J 54 ∧ Int32.ofNat 80 = J 80 ∧ Int32.ofNat 240 = J 240 ∧ Int32.ofNat 600 = J 600 ∧ Int32.ofNat 1200 = J 1200 ∧ Int32.ofNat 1906 = J 1906 ∧ Int32.ofNat 2000 = J 2000 ∧ Int32.ofNat 2400 = J 2400 ∧ Int32.ofNat 400 = J 400 ∧ Int32.ofNat 64 = J 64 ∧ Int32.ofNat 8400 = J 8400 ∧ Int32.ofNat 15248 = J 15248 := ⟨rfl, rfl, rfl, rfl, rfl, rfl, rfl, rfl, rfl, rfl, rfl, rfl, rfl, rfl, rfl, rfl, rfl⟩
theorem jl_lit : (-9223372036854775808 : Int64) = JL (-9223372036854775808) ∧ (-1 : Int64) = JL (-1) ∧ (0 : Int64) = JL (0) ∧ (1 : Int64) = JL (1) ∧ (3 : Int64) = JL (3) ∧ (4 : Int64) = JL (4) ∧ (5 : Int64) = JL (5) ∧ (6 : Int64) = JL (6) ∧ (7 : Int64) = JL (7) ∧ (8 : Int64) = JL (8) ∧ (9 : Int64) = JL (9) ∧ (10 : Int64) = JL (10) ∧ (27 : Int64) = JL (27) ∧ (40 : Int64) = JL (40) ∧ (80 : Int64) = JL (80) ∧ (97 : Int64) = JL (97) ∧ (122 : Int64) = JL (122) ∧ (255 : Int64) = JL (255) ∧ (1099511627775 : Int64) = JL (1099511627775) ∧ (205891132094649 : Int64) = JL (205891132094649) := ⟨rfl, rfl, rfl, rfl, rfl, rfl, rfl, rfl, rfl, rfl, rfl, rfl, rfl, rfl, rfl, rfl, rfl, rfl, rfl, rfl⟩
theorem j_nc : ((0 : Nat) : Int) = 0 ∧ ((1 : Nat) : Int) = 1 ∧ ((2 : Nat) : Int) = 2 ∧ ((3 : Nat) : Int) = 3 ∧ ((4 : Nat) : Int) = 4 ∧ ((5 : Nat) : Int) = 5 ∧ ((6 : Nat) : Int) = 6 ∧ ((7 : Nat) : Int) = 7 ∧ ((8 : Nat) : Int) = 8 ∧ ((9 : Nat) : Int) = 9 ∧ ((10 : Nat) : Int) = 10 ∧ ((11 : Nat) : Int) = 11 ∧ ((12 : Nat) : Int) = 12 ∧ ((13 : Nat) : Int) = 13 ∧ ((14 : Nat) : Int) = 14 ∧ ((15 : Nat) : Int) = 15 ∧ ((16 : Nat) : Int) = 16 ∧ ((17 : Nat) : Int) = 17 ∧ ((18 : Nat) : Int) = 18 ∧ ((19 : Nat) : Int) = 19 ∧ ((20 : Nat) : Int) = 20 ∧ ((21 : Nat) : Int) = 21 ∧ ((22 : Nat) : Int) = 22 ∧ ((23 : Nat) : Int) = 23 ∧ ((24 : Nat) : Int) = 24 ∧ ((25 : Nat) : Int) = 25 ∧ ((26 : Nat) : Int) = 26 ∧ ((27 : Nat) : Int) = 27 ∧ ((28 : Nat) : Int) = 28 ∧ ((29 : Nat) : Int) = 29 ∧ ((30 : Nat) : Int) = 30 ∧ ((31 : Nat) : Int) = 31 ∧ ((32 : Nat) : Int) = 32 ∧ ((33 : Nat) : Int) = 33 ∧ ((34 : Nat) : Int) = 34 ∧ ((35 : Nat) : Int) = 35 ∧ ((36 : Nat) : Int) = 36 ∧ ((37 : Nat) : Int) = 37 ∧ ((38 : Nat) : Int) = 38 ∧ ((39 : Nat) : Int) = 39 ∧ ((40 : Nat) : Int) = 40 ∧ ((41 : Nat) : Int) = 41 ∧ ((42 : Nat) : Int) = 42 ∧ ((43 : Nat) : Int) = 43 ∧ ((44 : Nat) : Int) = 44 ∧ ((45 : Nat) : Int) = 45 ∧ ((46 : Nat) : Int) = 46 ∧ ((47 : Nat) : Int) = 47 ∧ ((48 : Nat) : Int) = 48 ∧ ((49 : Nat) : Int) = 49 ∧ ((50 : Nat) : Int) = 50 ∧ ((51 : Nat) : Int) = 51 ∧ ((52 : Nat) : Int) = 52 ∧ ((53 : Nat) : Int) = 53 ∧ ((54 : Nat) : Int) = 54 ∧ ((55 : Nat) : Int) = 55 ∧ ((56 : Nat) : Int) = 56 ∧ ((57 : Nat) : Int) = 57 ∧ ((58 : Nat) : Int) = 58 ∧ ((59 : Nat) : Int) = 59 ∧ ((60 : Nat) : Int) = 60 ∧ ((61 : Nat) : Int) = 61 ∧ ((62 : Nat) : Int) = 62 ∧ ((63 : Nat) : Int) = 63 ∧ ((64 : Nat) : Int) = 64 ∧ ((80 : Nat) : Int) = 80 ∧ ((240 : Nat) : Int) = 240 ∧ ((400 : Nat) : Int) = 400 ∧ ((600 : Nat) : Int) = 600 ∧ ((1200 : Nat) : Int) = 1200 ∧ ((1906 : Nat) : Int) = 1906 ∧ ((2000 : Nat) : Int) = 2000 ∧ ((2400 : Nat) : Int) = 2400 ∧ ((8400 : Nat) : Int) = 8400 ∧ ((15248 : Nat) : Int) = 15248 := ⟨rfl, rfl, rfl, rfl, rfl, rfl, rfl, rfl, rfl, rfl, rfl, rfl, rfl, rfl, rfl, rfl, rfl, rfl, rfl, rfl, rfl, rfl, rfl, rfl, rfl, rfl, rfl, rfl, rfl, rfl, rfl, rfl, rfl, rfl, rfl, rfl, rfl, rfl, rfl, rfl, rfl, rfl, rfl, rfl, rfl, rfl, rfl, rfl, rfl, rfl, rfl, rfl, rfl, rfl, rfl, rfl, rfl, rfl, rfl, rfl, rfl, rfl, rfl, rfl, rfl, rfl, rfl, rfl, rfl, rfl, rfl, rfl, rfl, rfl, rfl⟩
theorem J_toInt {z : Int} (h : r32 z) : (J z).toInt = z := by
  unfold r32 at h
  unfold J
  rw [Int32.toInt_ofInt]
  exact Int.bmod_eq_of_le (by simp; omega) (by simp; omega)
theorem JL_toInt {z : Int} (h : r64 z) : (JL z).toInt = z := by
  unfold r64 at h
  unfold JL
  rw [Int64.toInt_ofInt]
  exact Int.bmod_eq_of_le (by simp; omega) (by simp; omega)
theorem J_of (x : Int32) : J x.toInt = x := Int32.ofInt_toInt x
theorem JL_of (x : Int64) : JL x.toInt = x := Int64.ofInt_toInt x
theorem r32_of (x : Int32) : r32 x.toInt := ⟨Int32.le_toInt x, Int32.toInt_lt x⟩
theorem r64_of (x : Int64) : r64 x.toInt := ⟨Int64.le_toInt x, Int64.toInt_lt x⟩
theorem J_ex (x : Int32) : ∃ z, r32 z ∧ x = J z := ⟨x.toInt, r32_of x, (J_of x).symm⟩
theorem JL_ex (x : Int64) : ∃ z, r64 z ∧ x = JL z := ⟨x.toInt, r64_of x, (JL_of x).symm⟩
theorem j_ops : (∀ a b, J a + J b = J (a + b)) ∧ (∀ a b, J a - J b = J (a - b)) ∧ (∀ a b, J a * J b = J (a * b)) ∧ (∀ a, -J a = J (-a)) :=
  ⟨fun a b => (Int32.ofInt_add a b).symm, fun a b => (Int32.ofInt_sub a b).symm, fun a b => (Int32.ofInt_mul a b).symm, fun a => (Int32.ofInt_neg a).symm⟩
theorem jl_ops : (∀ a b, JL a + JL b = JL (a + b)) ∧ (∀ a b, JL a - JL b = JL (a - b)) ∧ (∀ a b, JL a * JL b = JL (a * b)) ∧ (∀ a, -JL a = JL (-a)) :=
  ⟨fun a b => (Int64.ofInt_add a b).symm, fun a b => (Int64.ofInt_sub a b).symm, fun a b => (Int64.ofInt_mul a b).symm, fun a => (Int64.ofInt_neg a).symm⟩
theorem J_lt {a b : Int} (ha : r32 a) (hb : r32 b) : (J a < J b) = (a < b) := by rw [Int32.lt_iff_toInt_lt, J_toInt ha, J_toInt hb]
theorem J_le {a b : Int} (ha : r32 a) (hb : r32 b) : (J a ≤ J b) = (a ≤ b) := by rw [Int32.le_iff_toInt_le, J_toInt ha, J_toInt hb]
theorem J_eq {a b : Int} (ha : r32 a) (hb : r32 b) : (J a = J b) = (a = b) := by rw [← Int32.toInt_inj, J_toInt ha, J_toInt hb]
theorem JL_lt {a b : Int} (ha : r64 a) (hb : r64 b) : (JL a < JL b) = (a < b) := by rw [Int64.lt_iff_toInt_lt, JL_toInt ha, JL_toInt hb]
theorem JL_le {a b : Int} (ha : r64 a) (hb : r64 b) : (JL a ≤ JL b) = (a ≤ b) := by rw [Int64.le_iff_toInt_le, JL_toInt ha, JL_toInt hb]
theorem JL_eq {a b : Int} (ha : r64 a) (hb : r64 b) : (JL a = JL b) = (a = b) := by rw [← Int64.toInt_inj, JL_toInt ha, JL_toInt hb]
theorem J_cl {a : Int} (ha : r32 a) : (J a).toNatClampNeg = a.toNat := by
  show (J a).toInt.toNat = a.toNat
  rw [J_toInt ha]
theorem J_64 {a : Int} (ha : r32 a) : (J a).toInt64 = JL a := by
  unfold r32 at ha
  rw [← Int64.toInt_inj, JL_toInt ⟨by omega, by omega⟩, Int32.toInt_toInt64, J_toInt ha]
theorem JL_32 (a : Int) : (JL a).toInt32 = J a := by
  unfold JL J
  rw [Int64.toInt32_ofInt]
/-- what stands in a cell -/
def iq (m : zM) (a : Nat) (z : Int) : Int := (m.1 a z.toNat).toInt
def lq (m : zM) (a : Nat) (z : Int) : Int := (m.2 a z.toNat).toInt
def sq (m : zM) (a : Nat) (z v : Int) : zM := zI m a z.toNat (J v)
def sl (m : zM) (a : Nat) (z v : Int) : zM := zL m a z.toNat (JL v)
theorem iq_r (m : zM) (a : Nat) (z : Int) : r32 (iq m a z) := r32_of _
theorem lq_r (m : zM) (a : Nat) (z : Int) : r64 (lq m a z) := r64_of _
theorem j_rd (m : zM) (a k : Nat) : m.1 a k = J (iq m a (k : Int)) := by unfold iq; rw [Int.toNat_natCast, J_of]
theorem jl_rd (m : zM) (a k : Nat) : m.2 a k = JL (lq m a (k : Int)) := by unfold lq; rw [Int.toNat_natCast, JL_of]
theorem j_wr (m : zM) (a k : Nat) (v : Int) : zI m a k (J v) = sq m a (k : Int) v := by unfold sq; rw [Int.toNat_natCast]
theorem jl_wr (m : zM) (a k : Nat) (v : Int) : zL m a k (JL v) = sl m a (k : Int) v := by unfold sl; rw [Int.toNat_natCast]
theorem iq_tn (m : zM) (a : Nat) (z : Int) : iq m a ((z.toNat : Nat) : Int) = iq m a z := by unfold iq; rw [Int.toNat_natCast]
theorem lq_tn (m : zM) (a : Nat) (z : Int) : lq m a ((z.toNat : Nat) : Int) = lq m a z := by unfold lq; rw [Int.toNat_natCast]
theorem sq_tn (m : zM) (a : Nat) (z v : Int) : sq m a ((z.toNat : Nat) : Int) v = sq m a z v := by unfold sq; rw [Int.toNat_natCast]
theorem sl_tn (m : zM) (a : Nat) (z v : Int) : sl m a ((z.toNat : Nat) : Int) v = sl m a z v := by unfold sl; rw [Int.toNat_natCast]
theorem iq_sq {m : zM} {a b : Nat} {z y v : Int} (hz : 0 ≤ z) (hy : 0 ≤ y) (hv : r32 v) : iq (sq m a z v) b y = if b = a ∧ y = z then v else iq m b y := by
  unfold iq sq zI
  dsimp only
  by_cases h : b = a ∧ y = z
  · rw [if_pos h, if_pos ⟨h.1, by rw [h.2]⟩, J_toInt hv]
  · rw [if_neg h, if_neg]
    intro q
    exact h ⟨q.1, by omega⟩
theorem iq_sl (m : zM) (a b : Nat) (z y v : Int) : iq (sl m a z v) b y = iq m b y := rfl
theorem lq_sq (m : zM) (a b : Nat) (z y v : Int) : lq (sq m a z v) b y = lq m b y := rfl
theorem lq_sl {m : zM} {a b : Nat} {z y v : Int} (hz : 0 ≤ z) (hy : 0 ≤ y) (hv : r64 v) : lq (sl m a z v) b y = if b = a ∧ y = z then v else lq m b y := by
  unfold lq sl zL
  dsimp only
  by_cases h : b = a ∧ y = z
  · rw [if_pos h, if_pos ⟨h.1, by rw [h.2]⟩, JL_toInt hv]
  · rw [if_neg h, if_neg]
    intro q
    exact h ⟨q.1, by omega⟩
theorem vp_J {z : Int} {n : Nat} (h : r32 z) : vp_in (J z) n = (0 ≤ z ∧ z < n) := by
  unfold vp_in
  rw [J_cl h, show (J z < 0) = (z < 0) from J_lt (b := 0) h ⟨by decide, by decide⟩]
  unfold r32 at h
  apply propext
  omega
theorem ofn_J (n : Nat) : Int32.ofNat n = J (n : Int) := (Int32.ofInt_eq_ofNat).symm
