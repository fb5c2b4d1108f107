/-! the pattern's parts: where they may begin, where they may end, if they may be empty -/
def ppk (f l e : Nat) : Nat := 16777216 * e + (4096 * l + f)
theorem pp_pk_tb {f l e : Nat} (hf : f < 4096) (hl : l < 4096) (j : Nat) : (ppk f l e).testBit j = if j < 24 then (if j < 12 then f.testBit j else l.testBit (j - 12)) else e.testBit (j - 24) := by
  have h1 : 4096 * l + f < 2 ^ 24 := by omega
  have a := Nat.testBit_two_pow_mul_add e h1 j
  have b := Nat.testBit_two_pow_mul_add l (show f < 2 ^ 12 by omega) j
  have c : ppk f l e = 2 ^ 24 * e + (4096 * l + f) := rfl
  rw [c, a]
  split
  · exact b
  · rfl
theorem pp_or_lt {a b : Nat} (ha : a < 4096) (hb : b < 4096) : a ||| b < 4096 := Nat.or_lt_two_pow (n := 12) ha hb
theorem pp_and_lt {a b : Nat} (hb : b < 4096) : a &&& b < 4096 := Nat.lt_of_le_of_lt Nat.and_le_right hb
theorem pp_pk_or {f l e f' l' e' : Nat} (hf : f < 4096) (hl : l < 4096) (hf' : f' < 4096) (hl' : l' < 4096) : ppk f l e ||| ppk f' l' e' = ppk (f ||| f') (l ||| l') (e ||| e') := by
  apply Nat.eq_of_testBit_eq
  intro j
  rw [Nat.testBit_or, pp_pk_tb hf hl, pp_pk_tb hf' hl', pp_pk_tb (pp_or_lt hf hf') (pp_or_lt hl hl')]
  split
  · split <;> rw [Nat.testBit_or]
  · rw [Nat.testBit_or]
theorem pp_pk_and {f l e f' l' e' : Nat} (hf : f < 4096) (hl : l < 4096) (hf' : f' < 4096) (hl' : l' < 4096) : ppk f l e &&& ppk f' l' e' = ppk (f &&& f') (l &&& l') (e &&& e') := by
  apply Nat.eq_of_testBit_eq
  intro j
  rw [Nat.testBit_and, pp_pk_tb hf hl, pp_pk_tb hf' hl', pp_pk_tb (pp_and_lt hf') (pp_and_lt hl')]
  split
  · split <;> rw [Nat.testBit_and]
  · rw [Nat.testBit_and]
/-- the bit of emptiness -/
theorem pp_pk_e {f l e : Nat} (hf : f < 4096) (hl : l < 4096) (he : e < 2) : ppk f l e &&& 16777216 = 16777216 * e := by
  show ppk f l e &&& ppk 0 0 1 = 16777216 * e
  rw [pp_pk_and hf hl (by omega) (by omega), Nat.and_zero, Nat.and_zero]
  have : e &&& 1 = e := by
    rcases (show e = 0 ∨ e = 1 by omega) with rfl | rfl <;> rfl
  rw [this]
  unfold ppk
  omega
theorem pp_tb_div (l k : Nat) : (l / 2 ^ k % 2 = 1) ↔ l.testBit k = true := by
  rw [Nat.testBit_eq_decide_div_mod_eq]
  simp
def pp_lnk (F : Nat → Nat) (z l f : Nat) : Nat → Nat := fun k => if k < z ∧ l.testBit k = true then F k ||| f else F k
section PK
variable {d : Nat} {w : Nat × Nat × Nat} {a : Nat}
theorem pp_pk_lt {f l e : Nat} (hf : f < 4096) (hl : l < 4096) (he : e < 2) : ppk f l e < 33554432 := by unfold ppk; omega
theorem c_firstOf {Q : Int32 → zM → Prop} {m : zM} {f l e : Nat} (hf : f < 4096) (hl : l < 4096) (he : e < 2) (H : Q (J (f : Int)) m) : cI d 46 [.int (J ((ppk f l e : Nat) : Int))] w m Q := by
  refine S_Pattern_firstOf ?_
  have := J_bsmall.2.2.2 ((ppk f l e : Nat) : Int)
  simp only [j_lit]
  rw [this, show ((ppk f l e : Nat) : Int) % 4096 = (f : Int) by unfold ppk; omega]
  exact H
theorem c_lastOf {Q : Int32 → zM → Prop} {m : zM} {f l e : Nat} (hf : f < 4096) (hl : l < 4096) (he : e < 2) (H : Q (J (l : Int)) m) : cI d 47 [.int (J ((ppk f l e : Nat) : Int))] w m Q := by
  have hlt := pp_pk_lt hf hl he
  refine S_Pattern_lastOf ?_
  have e1 := J_ushr' (a := ((ppk f l e : Nat) : Int)) (by omega) (by omega) (s := 12) (by omega) (by omega)
  simp only [j_lit]
  rw [e1, J_bsmall.2.2.2]
  rw [show ((ppk f l e : Nat) : Int) / 2 ^ (12 : Int).toNat % 4096 = (l : Int) by
    show ((ppk f l e : Nat) : Int) / 4096 % 4096 = (l : Int)
    unfold ppk; omega]
  exact H
theorem c_link_l {Q : zM → Prop} {f lx l e : Nat} {z : Nat} {F : Nat → Nat} (ha : zPt w a) (hf : f < 4096) (hlx : lx < 4096) (hl : l < 4096) (he : e < 2) (hz : z ≤ 12) (hF : ∀ k, k < z → F k < 4096) : ∀ (j k : Nat) (m : zM), iq m a 2 = z → k + j = z → (∀ i : Nat, i < z → iq m (a + 2) (i : Int) = (if i < k then pp_lnk F z l f i else F i : Nat)) →
    (∀ m', fr [a + 2] m m' → m'.2 = m.2 → (∀ i : Nat, i < z → iq m' (a + 2) (i : Int) = (pp_lnk F z l f i : Nat)) → Q m') → W_Pattern_link_5 d a (J ((ppk f lx e : Nat) : Int)) (J (l : Int)) (J (k : Int)) w m Q := by
  intro j
  induction j with
  | zero =>
    intro k m hm hk hI H
    refine S_Pattern_link_5 ha ?_
    simp (disch := first | (unfold r32; omega) | omega) only [j_lit, J_le, j_rd, j_nc, hm]
    refine ⟨fun _ => H m (fr.rf _ m) rfl (fun i hi => ?_), fun q => by omega⟩
    rw [hI i hi, if_pos (by omega)]
  | succ j ih =>
    intro k m hm hk hI H
    have e1 := J_ushr (a := (l : Int)) (by omega) (by omega) (s := (k : Int)) (by omega) (by omega)
    have hpw : ((l : Int) / 2 ^ (k : Int).toNat) = ((l / 2 ^ k : Nat) : Int) := by
      rw [Int.toNat_natCast, Int.natCast_ediv, Int.natCast_pow]
      rfl
    have hd : (l / 2 ^ k) % 2 = 0 ∨ (l / 2 ^ k) % 2 = 1 := by omega
    have ht := pp_tb_div l k
    refine S_Pattern_link_5 ha ?_
    rw [e1, hpw]
    simp (disch := first | (unfold r32; omega) | omega) only [j_lit, J_le, j_rd, j_nc, hm, j_ops]
    have e2 := J_bsmall.2.2.1 ((l / 2 ^ k : Nat) : Int)
    rw [e2]
    have e3 : ((l / 2 ^ k : Nat) : Int) % 2 = ((l / 2 ^ k % 2 : Nat) : Int) := by omega
    rw [e3]
    generalize hb : l / 2 ^ k % 2 = y at *
    simp (disch := first | (unfold r32; omega) | omega) only [J_eq]
    refine ⟨fun q => by omega, fun _ => ⟨fun q => by omega, fun _ => ⟨fun q => ?_, fun q => ?_⟩⟩⟩
    · have hno : l.testBit k ≠ true := fun z => by have := ht.mpr z; omega
      have := ih (k + 1) m hm (by omega) (fun i hi => ?_) H
      · rw [show (((k + 1 : Nat) : Nat) : Int) = (k : Int) + 1 by omega] at this
        exact this
      · rw [hI i hi]
        by_cases x : i = k
        · rw [x, if_neg (by omega), if_pos (by omega)]
          unfold pp_lnk
          rw [if_neg (fun z => hno z.2)]
        · by_cases x2 : i < k
          · rw [if_pos x2, if_pos (by omega)]
          · rw [if_neg x2, if_neg (by omega)]
    · have hyes : l.testBit k = true := ht.mp (by omega)
      refine c_at ha.2.2.2.2 (by decide) (by unfold r32; omega) (by omega) ?_
      refine c_firstOf hf hlx he ?_
      have hv := hI k (by omega)
      rw [if_neg (by omega)] at hv
      have hFk := hF k (by omega)
      have hor := pp_or_lt hFk hf
      rw [hv, J_or (by omega) (by omega)]
      refine c_put ha.2.2.2.2 (by decide) (by unfold r32; omega) (by omega) ?_
      have f1 : fr [a + 2] m (sq m (a + 2) (k : Int) ((F k ||| f : Nat) : Int)) := (fr.rf _ m).si (by simp) _ _
      have := ih (k + 1) (sq m (a + 2) (k : Int) ((F k ||| f : Nat) : Int)) (by rw [iq_sq (by omega) (by omega) (by unfold r32; omega), if_neg (by omega)]; exact hm) (by omega) (fun i hi => ?_) (fun m' g1 g2 g3 => H m' (f1.tr g1) g2 g3)
      · rw [show (((k + 1 : Nat) : Nat) : Int) = (k : Int) + 1 by omega] at this
        exact this
      · rw [iq_sq (by omega) (by omega) (by unfold r32; omega)]
        by_cases x : i = k
        · rw [x, if_pos ⟨rfl, rfl⟩, if_pos (by omega)]
          unfold pp_lnk
          rw [if_pos ⟨by omega, hyes⟩]
        · rw [if_neg (by omega), hI i hi]
          by_cases x2 : i < k
          · rw [if_pos x2, if_pos (by omega)]
          · rw [if_neg x2, if_neg (by omega)]
theorem c_link {Q : zM → Prop} {m : zM} {f l e f0 l0 e0 z : Nat} {F : Nat → Nat} (ha : zPt w a) (hf : f < 4096) (hl : l < 4096) (he : e < 2) (hf0 : f0 < 4096) (hl0 : l0 < 4096) (he0 : e0 < 2) (hm : iq m a 2 = z) (hz : z ≤ 12) (hF : ∀ k, k < z → F k < 4096) (hI : ∀ i : Nat, i < z → iq m (a + 2) (i : Int) = (F i : Nat))
    (H : ∀ m', fr [a + 2] m m' → m'.2 = m.2 → (∀ i : Nat, i < z → iq m' (a + 2) (i : Int) = (pp_lnk F z l0 f i : Nat)) → Q m') : cV (d + 1) 48 [.ref a, .int (J ((ppk f0 l0 e0 : Nat) : Int)), .int (J ((ppk f l e : Nat) : Int))] w m Q := by
  refine S_Pattern_link (c_lastOf hf0 hl0 he0 ?_)
  simp only [j_lit]
  exact c_link_l ha hf hl hl0 he hz hF z 0 m hm (by omega) (fun i hi => by rw [if_neg (by omega)]; exact hI i hi) H
end PK
