/-! rows that grow by bytes at their end: the tape, the slate -/
theorem sq_cast (m : zM) (a : Nat) (v : Int) : (∀ z : Nat, zI m a z (J v) = sq m a z v) := fun z => j_wr m a z v
/-- one more, x: in row ar, its length in field f of ob -/
def sy (ar ob : Nat) (f : Int) (m : zM) (x : Int) : zM := sq (sq m ar (iq m ob f) x) ob f (iq m ob f + 1)
def sys (ar ob : Nat) (f : Int) (m : zM) (l : List Int) : zM := l.foldl (sy ar ob f) m
theorem sys_facts {ar ob : Nat} {f : Int} (hf : 0 ≤ f) (hao : ar ≠ ob) : ∀ (l : List Int) (m : zM) (n : Nat), iq m ob f = n → n + l.length < 100000 → (∀ x ∈ l, r32 x) →
    iq (sys ar ob f m l) ob f = n + l.length ∧ (∀ y : Int, 0 ≤ y → y ≠ f → iq (sys ar ob f m l) ob y = iq m ob y) ∧ (∀ i : Nat, i < l.length → iq (sys ar ob f m l) ar (n + i) = l.getD i 0) ∧ (∀ y : Int, 0 ≤ y → y < n → iq (sys ar ob f m l) ar y = iq m ar y) ∧ (∀ b, b ≠ ar → b ≠ ob → (sys ar ob f m l).1 b = m.1 b) ∧ (sys ar ob f m l).2 = m.2 := by
  intro l
  induction l with
  | nil =>
    intro m n h1 h2 h3
    exact ⟨by simpa [sys] using h1, fun _ _ _ => rfl, fun i hi => by simp at hi, fun _ _ _ => rfl, fun _ _ _ => rfl, rfl⟩
  | cons x r ih =>
    intro m n h1 h2 h3
    simp only [List.length_cons] at h2
    have hx := h3 x List.mem_cons_self
    have e0 : ∀ y, 0 ≤ y → iq (sy ar ob f m x) ob y = if y = f then (n : Int) + 1 else iq m ob y := by
      intro y hy
      unfold sy
      rw [h1, iq_sq hf hy (by unfold r32; omega)]
      by_cases q : y = f
      · rw [if_pos ⟨rfl, q⟩, if_pos q]
      · rw [if_neg (fun z => q z.2), if_neg q, iq_sq (by omega) hy hx, if_neg (fun z => hao z.1.symm)]
    have e1 : ∀ y, 0 ≤ y → iq (sy ar ob f m x) ar y = if y = (n : Int) then x else iq m ar y := by
      intro y hy
      unfold sy
      rw [h1, iq_sq hf hy (by unfold r32; omega), if_neg (fun z => hao z.1), iq_sq (by omega) hy hx]
      by_cases q : y = (n : Int)
      · rw [if_pos ⟨rfl, q⟩, if_pos q]
      · rw [if_neg (fun z => q z.2), if_neg q]
    have e2 : ∀ b, b ≠ ar → b ≠ ob → (sy ar ob f m x).1 b = m.1 b := by
      intro b h4 h5
      funext k
      show (if b = ob ∧ k = f.toNat then _ else (if b = ar ∧ k = _ then _ else m.1 b k)) = m.1 b k
      rw [if_neg (fun z => h5 z.1), if_neg (fun z => h4 z.1)]
    obtain ⟨i1, i2, i3, i4, i5, i6⟩ := ih (sy ar ob f m x) (n + 1) (by rw [e0 f hf, if_pos rfl]; simp) (by omega) (fun y hy => h3 y (List.mem_cons_of_mem _ hy))
    refine ⟨?_, ?_, ?_, ?_, ?_, ?_⟩
    · show iq (sys ar ob f (sy ar ob f m x) r) ob f = _
      rw [i1]
      simp only [List.length_cons]
      omega
    · intro y hy hyf
      show iq (sys ar ob f (sy ar ob f m x) r) ob y = _
      rw [i2 y hy hyf, e0 y hy, if_neg hyf]
    · intro i hi
      show iq (sys ar ob f (sy ar ob f m x) r) ar _ = _
      cases i with
      | zero =>
        rw [i4 ((n : Int) + ((0 : Nat) : Int)) (by omega) (by omega), e1 _ (by omega), if_pos (by omega)]
        rfl
      | succ i =>
        simp only [List.length_cons] at hi
        have := i3 i (by omega)
        rw [show ((n : Int) + ((i + 1 : Nat) : Int)) = ((n + 1 : Nat) : Int) + (i : Int) by omega, this]
        rfl
    · intro y h4 h5
      show iq (sys ar ob f (sy ar ob f m x) r) ar y = _
      rw [i4 y h4 (by omega), e1 y h4, if_neg (by omega)]
    · intro b h4 h5
      show (sys ar ob f (sy ar ob f m x) r).1 b = _
      rw [i5 b h4 h5, e2 b h4 h5]
    · exact i6
theorem J_sar {a : Int} (ha : r32 a) {s : Int} (h0 : 0 ≤ s) (h1 : s < 32) : J a >>> (J s &&& 31) = J (a / 2 ^ s.toNat) := by
  obtain ⟨k, rfl⟩ := b_fin (n := 32) h0 h1
  have hk : ((J (k.val : Int) &&& 31).toBitVec.smod 32).toNat = k.val := by
    rw [b_sh32, BitVec.toNat_ofNat]
    exact Nat.mod_eq_of_lt (by omega)
  have hp : (0 : Int) < 2 ^ k.val := Int.pow_pos (by decide)
  have h2 := pk_shr (J a) _ k.val hk
  rw [J_toInt ha, Int.shiftRight_eq_div_pow] at h2
  rw [← J_of (J a >>> (J (k.val : Int) &&& 31)), h2, Int.toNat_natCast]
  simp
theorem J_usr {a : Int} {s k : Nat} (hs : s < 32) (hs8 : 8 ≤ s) : ((J a).toUInt32 >>> ((J (s : Int)).toUInt32 &&& Int32.toUInt32 31)).toInt32 = J ((a % 4294967296) / 2 ^ s) := by
  refine J_ext ?_
  have e := b_us32 ⟨s, hs⟩
  have e1 : (((J a).toUInt32 >>> ((J (s : Int)).toUInt32 &&& Int32.toUInt32 31)).toInt32).toBitVec = (J a).toBitVec >>> (((J (s : Int)).toUInt32 &&& Int32.toUInt32 31).toBitVec % 32) := UInt32.toBitVec_shiftRight _ _
  rw [e1]
  rw [show ((J (s : Int)).toUInt32 &&& Int32.toUInt32 31).toBitVec % 32 = BitVec.ofNat 32 s from e, BitVec.ushiftRight_eq', BitVec.toNat_ushiftRight, J_bv, BitVec.toNat_ofInt, BitVec.toNat_ofNat, Nat.mod_eq_of_lt (a := s) (by omega), Nat.shiftRight_eq_div_pow]
  have hp : (0 : Int) < 2 ^ s := Int.pow_pos (by decide)
  have g0 : 0 ≤ a % 4294967296 := Int.emod_nonneg a (by decide)
  have g1 : a % 4294967296 < 4294967296 := Int.emod_lt_of_pos a (by decide)
  have hd : a % 4294967296 / 2 ^ s ≤ a % 4294967296 := Int.ediv_le_self _ g0
  rw [J_tn (Int.ediv_nonneg g0 (by omega)) (by omega)]
  show (a % 4294967296).toNat / 2 ^ s = _
  obtain ⟨n, hn⟩ := Int.eq_ofNat_of_zero_le g0
  rw [hn, show ((2 : Int) ^ s) = ((2 ^ s : Nat) : Int) by simp, ← Int.natCast_ediv, Int.toNat_natCast, Int.toNat_natCast]
theorem J_shl' (a : Int) {s : Int} (h0 : 0 ≤ s) (h1 : s < 32) : J a <<< (J s &&& J 31) = J (a * 2 ^ s.toNat) := J_shl a h0 h1
theorem J_ushr' {a : Int} (ha : 0 ≤ a) (hb : a < 2147483648) {s : Int} (h0 : 0 ≤ s) (h1 : s < 32) : ((J a).toUInt32 >>> ((J s).toUInt32 &&& Int32.toUInt32 (J 31))).toInt32 = J (a / 2 ^ s.toNat) := J_ushr ha hb h0 h1
theorem J_sar' {a : Int} (ha : r32 a) {s : Int} (h0 : 0 ≤ s) (h1 : s < 32) : J a >>> (J s &&& J 31) = J (a / 2 ^ s.toNat) := J_sar ha h0 h1
theorem J_usr' {a : Int} {s : Nat} (hs : s < 32) (hs8 : 8 ≤ s) : ((J a).toUInt32 >>> ((J (s : Int)).toUInt32 &&& Int32.toUInt32 (J 31))).toInt32 = J ((a % 4294967296) / 2 ^ s) := J_usr (k := 0) hs hs8
/-- the four bytes of a number, the highest first -/
def b4 (x : Int) : List Int := [x / 16777216 % 256, x / 65536 % 256, x / 256 % 256, x % 256]
section TAPE
variable {d : Nat} {w : Nat × Nat × Nat} {m : zM} {a n : Nat}
theorem c_add {Q : zM → Prop} {x : Int} (ha : zBy w a n) (hn : n < 100000) (h : 0 ≤ iq m a 1 ∧ iq m a 1 < n) (H : Q (sy (a + 1) a 1 m (x % 256))) : cV (d + 1) 4 [.ref a, .int (J x)] w m Q := by
  refine S_Bytes_add ha ?_
  simp (disch := first | (unfold r32; omega) | omega) only [ofn_J, j_rd, J_le, j_lit, J_bsmall, j_nc, j_ops, j_wr]
  refine ⟨fun q => by omega, fun q => ?_⟩
  refine c_put (n := n) ha.2.2 hn (iq_r _ _ _) h ?_
  have e : iq (sq m (a + 1) (iq m a 1) (x % 256)) a 1 = iq m a 1 := by rw [iq_sq h.1 (by omega) (by unfold r32; omega), if_neg (by omega)]
  unfold sy at H
  rw [← e] at H
  rw [e] at H
  simp only [e]
  exact H
theorem c_addNumber {Q : zM → Prop} {x : Int} (ha : zBy w a n) (hn : n < 100000) (h : 0 ≤ iq m a 1 ∧ iq m a 1 + 4 ≤ n) (H : Q (sys (a + 1) a 1 m (b4 x))) : cV (d + 2) 5 [.ref a, .int (J x)] w m Q := by
  refine S_Bytes_addNumber ha ?_
  have e : ∀ (m : zM) (x : Int), 0 ≤ iq m a 1 → iq m a 1 < n → iq (sy (a + 1) a 1 m x) a 1 = iq m a 1 + 1 := fun m x h1 h2 => by
    unfold sy
    rw [iq_sq (by omega) (by omega) (by unfold r32; omega), if_pos ⟨rfl, rfl⟩]
  simp only [j_lit]
  rw [show (J 24) = J ((24 : Nat) : Int) from rfl, show (J 16) = J ((16 : Nat) : Int) from rfl, show (J 8) = J ((8 : Nat) : Int) from rfl, J_usr' (s := 24) (by decide) (by decide), J_usr' (s := 16) (by decide) (by decide), J_usr' (s := 8) (by decide) (by decide)]
  refine c_add ha hn (by omega) (c_add ha hn (by rw [e _ _ (by omega) (by omega)]; omega) (c_add ha hn (by rw [e _ _ (by rw [e _ _ (by omega) (by omega)]; omega) (by rw [e _ _ (by omega) (by omega)]; omega), e _ _ (by omega) (by omega)]; omega) (c_add ha hn (by rw [e _ _ (by rw [e _ _ (by rw [e _ _ (by omega) (by omega)]; omega) (by rw [e _ _ (by omega) (by omega)]; omega), e _ _ (by omega) (by omega)]; omega) (by rw [e _ _ (by rw [e _ _ (by omega) (by omega)]; omega) (by rw [e _ _ (by omega) (by omega)]; omega), e _ _ (by omega) (by omega)]; omega), e _ _ (by rw [e _ _ (by omega) (by omega)]; omega) (by rw [e _ _ (by omega) (by omega)]; omega), e _ _ (by omega) (by omega)]; omega) ?_)))
  have h1 : x % 4294967296 / 2 ^ 24 % 256 = x / 16777216 % 256 := by show x % 4294967296 / 16777216 % 256 = _; omega
  have h2 : x % 4294967296 / 2 ^ 16 % 256 = x / 65536 % 256 := by show x % 4294967296 / 65536 % 256 = _; omega
  have h3 : x % 4294967296 / 2 ^ 8 % 256 = x / 256 % 256 := by show x % 4294967296 / 256 % 256 = _; omega
  rw [h1, h2, h3]
  exact H
theorem c_four {Q : zM → Prop} {x : Int} (hx : r32 x) (h : 0 ≤ iq m 261 5 ∧ iq m 261 5 + 4 ≤ 600) (H : Q (sys 265 261 5 m (b4 x))) : cV d 197 [.ref 261, .int (J x)] w m Q := by
  have e : ∀ (m : zM) (x : Int), 0 ≤ iq m 261 5 → iq m 261 5 < 600 → iq (sy 265 261 5 m x) 261 5 = iq m 261 5 + 1 := fun m x h1 h2 => by
    unfold sy
    rw [iq_sq (by omega) (by omega) (by unfold r32; omega), if_pos ⟨rfl, rfl⟩]
  have st : ∀ (m : zM) (s : Int), 0 ≤ s → s < 32 → 0 ≤ iq m 261 5 → iq m 261 5 < 600 → W_M_four_2 d (J x) (J (s + -8)) w (sy 265 261 5 m (x / 2 ^ s.toNat % 256)) Q → W_M_four_2 d (J x) (J s) w m Q := by
    intro m s h1 h2 h3 h4 h5
    refine S_M_four_2 ?_
    simp (disch := first | exact iq_r _ _ _ | (unfold r32; omega) | omega) only [j_lit, j_rd, j_nc, J_lt, vp_J, J_sar' hx h1 h2, J_bsmall.1, J_cl, j_wr, sq_tn, iq_tn, j_ops]
    refine ⟨fun q => by omega, fun _ => ⟨by omega, ?_⟩⟩
    exact h5
  refine S_M_four ?_
  simp only [j_lit]
  refine st _ 24 (by decide) (by decide) (by omega) (by omega) (st _ 16 (by decide) (by decide) ?_ ?_ (st _ 8 (by decide) (by decide) ?_ ?_ (st _ 0 (by decide) (by decide) ?_ ?_ ?_)))
  · rw [e _ _ (by omega) (by omega)]; omega
  · rw [e _ _ (by omega) (by omega)]; omega
  · rw [e _ _ (by rw [e _ _ (by omega) (by omega)]; omega) (by rw [e _ _ (by omega) (by omega)]; omega), e _ _ (by omega) (by omega)]; omega
  · rw [e _ _ (by rw [e _ _ (by omega) (by omega)]; omega) (by rw [e _ _ (by omega) (by omega)]; omega), e _ _ (by omega) (by omega)]; omega
  · rw [e _ _ (by rw [e _ _ (by rw [e _ _ (by omega) (by omega)]; omega) (by rw [e _ _ (by omega) (by omega)]; omega), e _ _ (by omega) (by omega)]; omega) (by rw [e _ _ (by rw [e _ _ (by omega) (by omega)]; omega) (by rw [e _ _ (by omega) (by omega)]; omega), e _ _ (by omega) (by omega)]; omega), e _ _ (by rw [e _ _ (by omega) (by omega)]; omega) (by rw [e _ _ (by omega) (by omega)]; omega), e _ _ (by omega) (by omega)]; omega
  · rw [e _ _ (by rw [e _ _ (by rw [e _ _ (by omega) (by omega)]; omega) (by rw [e _ _ (by omega) (by omega)]; omega), e _ _ (by omega) (by omega)]; omega) (by rw [e _ _ (by rw [e _ _ (by omega) (by omega)]; omega) (by rw [e _ _ (by omega) (by omega)]; omega), e _ _ (by omega) (by omega)]; omega), e _ _ (by rw [e _ _ (by omega) (by omega)]; omega) (by rw [e _ _ (by omega) (by omega)]; omega), e _ _ (by omega) (by omega)]; omega
  · refine S_M_four_2 ?_
    simp (disch := first | (unfold r32; omega) | omega) only [j_lit, J_lt]
    refine ⟨fun _ => ?_, fun q => by omega⟩
    have h0 : x / 2 ^ (0 : Int).toNat % 256 = x % 256 := by show x / 1 % 256 = _; omega
    rw [h0]
    exact H
end TAPE
