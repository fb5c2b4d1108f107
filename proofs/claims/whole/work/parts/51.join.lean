/-! one part behind another, in the class; what may follow, in the reference -/
theorem pp_e2 {a b : Nat} (ha : a < 2) (hb : b < 2) : a &&& b < 2 := Nat.lt_of_le_of_lt Nat.and_le_right hb
theorem pp_jand {f l e : Nat} (hf : f < 4096) (hl : l < 4096) (he : e < 2) : J ((ppk f l e : Nat) : Int) &&& J 16777216 = J (16777216 * (e : Int)) := by
  have hlt := pp_pk_lt hf hl he
  have := J_and (a := ppk f l e) (b := 16777216) (by omega) (by omega)
  rw [pp_pk_e hf hl he] at this
  rw [show ((16777216 * e : Nat) : Int) = 16777216 * (e : Int) by omega] at this
  exact this
theorem pp_join {x y u v f1 l1 e1 f2 l2 e2 : Nat} (hx : x < 4096) (hy : y < 4096) (hu : u < 4096) (hv : v < 4096) (h1 : f1 < 4096) (h2 : l1 < 4096) (h3 : e1 < 2) (h4 : f2 < 4096) (h5 : l2 < 4096) (h6 : e2 < 2) :
    ((J (x : Int) ||| J (y : Int)) ||| ((J (u : Int) ||| J (v : Int)) <<< (J 12 &&& J 31))) ||| ((J ((ppk f1 l1 e1 : Nat) : Int) &&& J ((ppk f2 l2 e2 : Nat) : Int)) &&& J 16777216) = J ((ppk (x ||| y) (u ||| v) (e1 &&& e2) : Nat) : Int) := by
  have k1 := pp_pk_lt h1 h2 h3
  have k2 := pp_pk_lt h4 h5 h6
  have k3 := pp_e2 h3 h6
  have oxy := pp_or_lt hx hy
  have ouv := pp_or_lt hu hv
  rw [J_or (by omega) (by omega), J_or (by omega) (by omega), J_shl' _ (by omega) (by omega), J_and (by omega) (by omega), pp_pk_and h1 h2 h4 h5, pp_jand (pp_and_lt h4) (pp_and_lt h5) k3]
  generalize x ||| y = a at *
  generalize u ||| v = b at *
  generalize e1 &&& e2 = e at *
  have c1 : ((b : Int) * 2 ^ (12 : Int).toNat) = ((ppk 0 b 0 : Nat) : Int) := by
    show (b : Int) * 4096 = ((ppk 0 b 0 : Nat) : Int)
    unfold ppk
    omega
  have c2 : (a : Int) = ((ppk a 0 0 : Nat) : Int) := by
    unfold ppk
    omega
  have c3 : 16777216 * (e : Int) = ((ppk 0 0 e : Nat) : Int) := by
    unfold ppk
    omega
  have d1 := pp_pk_lt (f := 0) (l := b) (e := 0) (by omega) ouv (by omega)
  have d2 := pp_pk_lt (f := a) (l := 0) (e := 0) oxy (by omega) (by omega)
  have d3 := pp_pk_lt (f := 0) (l := 0) (e := e) (by omega) (by omega) k3
  have d4 := pp_pk_lt (f := a) (l := b) (e := 0) oxy ouv (by omega)
  rw [c1, c2, c3, J_or (by omega) (by omega), pp_pk_or oxy (by omega) (by omega) ouv]
  rw [show ppk (a ||| 0) (0 ||| b) (0 ||| 0) = ppk a b 0 by rw [Nat.or_zero, Nat.zero_or, Nat.or_zero]]
  rw [J_or (by omega) (by omega), pp_pk_or oxy ouv (by omega) (by omega), Nat.or_zero, Nat.or_zero, Nat.zero_or]
section JN
variable {d : Nat} {w : Nat × Nat × Nat} {a : Nat}
theorem c_joined {Q : Int32 → zM → Prop} {m : zM} {f1 l1 e1 f2 l2 e2 z : Nat} {F : Nat → Nat} (ha : zPt w a) (h1 : f1 < 4096) (h2 : l1 < 4096) (h3 : e1 < 2) (h4 : f2 < 4096) (h5 : l2 < 4096) (h6 : e2 < 2) (hm : iq m a 2 = z) (hz : z ≤ 12) (hF : ∀ k, k < z → F k < 4096) (hI : ∀ i : Nat, i < z → iq m (a + 2) (i : Int) = (F i : Nat))
    (H : ∀ m', fr [a + 2] m m' → m'.2 = m.2 → (∀ i : Nat, i < z → iq m' (a + 2) (i : Int) = (pp_lnk F z l1 f2 i : Nat)) → Q (J ((ppk (f1 ||| (if e1 = 0 then 0 else f2)) (l2 ||| (if e2 = 0 then 0 else l1)) (e1 &&& e2) : Nat) : Int)) m') : cI (d + 2) 49 [.ref a, .int (J ((ppk f1 l1 e1 : Nat) : Int)), .int (J ((ppk f2 l2 e2 : Nat) : Int))] w m Q := by
  refine S_Pattern_joined ha (c_link ha h4 h5 h6 h1 h2 h3 hm hz hF hI (fun m1 f1' f2' f3' => ?_))
  have H := H m1 f1' f2' f3'
  refine c_firstOf h1 h2 h3 ?_
  have j24 : (16777216 : Int32) = J 16777216 := rfl
  simp only [j_lit, j24]
  rw [pp_jand h1 h2 h3, pp_jand h4 h5 h6]
  simp (disch := first | (unfold r32; omega) | omega) only [J_eq]
  have j0 : J 0 = J (((0 : Nat) : Nat) : Int) := rfl
  refine ⟨fun q => ?_, fun q => ?_⟩
  · refine c_lastOf h4 h5 h6 ?_
    rw [if_pos (show e1 = 0 by omega)] at H
    refine ⟨fun q2 => ?_, fun q2 => ?_⟩
    · rw [if_pos (show e2 = 0 by omega)] at H
      rw [j0, pp_join h1 (by omega) h5 (by omega) h1 h2 h3 h4 h5 h6]
      exact H
    · rw [if_neg (show ¬ e2 = 0 by omega)] at H
      refine c_lastOf h1 h2 h3 ?_
      rw [j0, pp_join h1 (by omega) h5 h2 h1 h2 h3 h4 h5 h6]
      exact H
  · rw [if_neg (show ¬ e1 = 0 by omega)] at H
    refine c_firstOf h4 h5 h6 (c_lastOf h4 h5 h6 ?_)
    refine ⟨fun q2 => ?_, fun q2 => ?_⟩
    · rw [if_pos (show e2 = 0 by omega)] at H
      rw [j0, pp_join h1 h4 h5 (by omega) h1 h2 h3 h4 h5 h6]
      exact H
    · rw [if_neg (show ¬ e2 = 0 by omega)] at H
      refine c_lastOf h1 h2 h3 ?_
      rw [pp_join h1 h4 h5 h2 h1 h2 h3 h4 h5 h6]
      exact H
/-- the reference's masks -/
theorem c_has {Q : Int32 → zM → Prop} {m : zM} {l k : Nat} (hl : l < 4096) (hk : k < 32) (H : (l.testBit k = true → Q (J 1) m) ∧ (l.testBit k ≠ true → Q (J 0) m)) : cI d 183 [.long (JL (l : Int)), .int (J (k : Int))] w m Q := by
  have ht := pp_tb_div l k
  have e1 := JL_shr (a := (l : Int)) (by omega) (by omega) (s := (k : Int)) (by omega) (by omega)
  have hpw : ((l : Int) / 2 ^ (k : Int).toNat) = ((l / 2 ^ k : Nat) : Int) := by
    rw [Int.toNat_natCast, Int.natCast_ediv, Int.natCast_pow]
    rfl
  have e2 := JL_mask ((l / 2 ^ k : Nat) : Int) (k := 1) (by decide)
  have e3 : ((l / 2 ^ k : Nat) : Int) % 2 ^ 1 = ((l / 2 ^ k % 2 : Nat) : Int) := by
    show ((l / 2 ^ k : Nat) : Int) % 2 = ((l / 2 ^ k % 2 : Nat) : Int)
    omega
  have e4 : JL ((l / 2 ^ k : Nat) : Int) &&& JL 1 = JL ((l / 2 ^ k % 2 : Nat) : Int) := by
    rw [← e3, ← e2]
    rfl
  refine S_M_has ?_
  rw [e1, hpw]
  simp only [jl_lit]
  rw [e4]
  have hy : l / 2 ^ k % 2 < 2 := Nat.mod_lt _ (by decide)
  generalize l / 2 ^ k % 2 = y at *
  have e5 : (JL ((y : Nat) : Int) = JL 1) = (y = 1) := by
    rw [JL_eq (by unfold r64; omega) (by unfold r64; omega)]
    exact propext ⟨fun z => by omega, fun z => by omega⟩
  rw [e5]
  refine ⟨fun q => H.2 (fun z => q (ht.mpr z)), fun q => H.1 (ht.mp q)⟩
end JN
