/-! what the methods of words answer -/
theorem JL_div {a b : Int} (ha : 0 ≤ a) (ha2 : r64 a) (hb : 0 < b) (hb2 : r64 b) : JL a / JL b = JL (a / b) := by
  have h1 : a / b ≤ a := Int.ediv_le_self _ ha
  have h2 : 0 ≤ a / b := Int.ediv_nonneg ha (by omega)
  unfold r64 at *
  rw [← Int64.toInt_inj, JL_toInt ⟨by omega, by omega⟩, Int64.toInt_div_of_ne_right, JL_toInt ⟨by omega, by omega⟩, JL_toInt ⟨by omega, by omega⟩, Int.tdiv_eq_ediv_of_nonneg ha]
  intro h
  have := congrArg Int64.toInt h
  rw [JL_toInt ⟨by omega, by omega⟩] at this
  have h3 : (-1 : Int64).toInt = -1 := by decide
  omega
theorem JL_mod {a b : Int} (ha : 0 ≤ a) (ha2 : r64 a) (hb : 0 < b) (hb2 : r64 b) : JL a - JL a / JL b * JL b = JL (a % b) := by
  rw [JL_div ha ha2 hb hb2, jl_ops.2.2.1, jl_ops.2.1, Int.emod_def, Int.mul_comm]
theorem p32 (k : Nat) : (2 : Int) ^ (5 * k) = 32 ^ k := by rw [Int.pow_mul]; rfl
section WM
variable {d : Nat} {w : Nat × Nat × Nat} {m : zM} {l : List Int}
theorem c_letterShift {Q : Int32 → zM → Prop} {z : Int} (H : Q (J (5 * (9 - z))) m) : cI d 166 [.int (J z)] w m Q := by
  refine S_T_letterShift ?_
  simp only [j_lit, j_ops]
  exact H
theorem getD_bd (h : wd l) (i : Nat) : 0 ≤ l.getD i 0 ∧ l.getD i 0 ≤ 26 := by
  rw [List.getD_eq_getElem?_getD]
  cases e : l[i]? with
  | none => simp
  | some x =>
    have := h.2 x (List.mem_of_getElem? e)
    simp
    omega
theorem c_letterAt {Q : Int32 → zM → Prop} {z : Int} (hl : wd l) (h0 : 0 ≤ z) (h1 : r32 z) (H : Q (J (l.getD z.toNat 0)) m) : cI (d + 1) 167 [.long (JL (eC l)), .int (J z)] w m Q := by
  refine S_T_letterAt ?_
  unfold r32 at h1
  obtain ⟨b1, b2⟩ := eC_bd hl
  simp (disch := first | (unfold r32; omega) | omega) only [j_lit, J_lt]
  refine ⟨fun q => by omega, fun _ => ⟨fun q => c_letterShift ?_, fun q => ?_⟩⟩
  · rw [JL_ushr b1 (by omega) (by omega) (by omega), JL_32, J_bsmall.2.1]
    have e1 : (5 * (9 - z)).toNat = 5 * (10 - 1 - z.toNat) := by omega
    rw [e1, p32, en_dig (by decide) (by omega) (wd_b hl (by decide))]
    exact H
  · have : l.getD z.toNat 0 = 0 := by
      rw [List.getD_eq_getElem?_getD, List.getElem?_eq_none (by have := hl.1; omega)]
      rfl
    rw [← this]
    exact H
theorem c_lettersOf_l {Q : Int32 → zM → Prop} (hl : wd l) (H : Q (J l.length) m) : ∀ (k : Nat) (z : Int), 0 ≤ z → z + k = l.length → W_T_lettersOf_2 (d + 1) (JL (eC l)) (J z) w m Q := by
  have h10 := hl.1
  intro k
  induction k with
  | zero =>
    intro z hz hk
    refine S_T_lettersOf_2 ?_
    simp (disch := first | (unfold r32; omega) | omega) only [j_lit, J_le]
    have e : z = (l.length : Int) := by omega
    refine ⟨fun q => by rw [e]; exact H, fun q => c_letterAt hl hz (by unfold r32; omega) ⟨fun q => by rw [e]; exact H, fun q => ?_⟩⟩
    refine absurd ?_ q
    rw [List.getD_eq_getElem?_getD, List.getElem?_eq_none (by omega)]
    rfl
  | succ k ih =>
    intro z hz hk
    refine S_T_lettersOf_2 ?_
    simp (disch := first | (unfold r32; omega) | omega) only [j_lit, J_le, j_ops]
    refine ⟨fun q => by omega, fun q => c_letterAt hl hz (by unfold r32; omega) ⟨fun q => ?_, fun q => ih (z + 1) (by omega) (by omega)⟩⟩
    have hi : z.toNat < l.length := by omega
    have := hl.2 _ (List.getElem_mem hi)
    rw [List.getD_eq_getElem?_getD, List.getElem?_eq_getElem hi, J_eq (by unfold r32; simp; omega) (by unfold r32; omega)] at q
    simp at q
    omega
theorem c_lettersOf {Q : Int32 → zM → Prop} (hl : wd l) (H : Q (J l.length) m) : cI (d + 2) 168 [.long (JL (eC l))] w m Q := by
  refine S_T_lettersOf ?_
  have := c_lettersOf_l (d := d) (w := w) hl H l.length 0 (by omega) (by omega)
  exact this
theorem c_isLetter {Q : Int32 → zM → Prop} {z : Int} (h : r32 z) (H : Q (J (if 97 ≤ z ∧ z ≤ 122 then 1 else 0)) m) : cI d 169 [.int (J z)] w m Q := by
  refine S_T_isLetter ?_
  simp (disch := first | exact h | (unfold r32; omega) | omega) only [j_lit, J_lt]
  refine ⟨fun q => ?_, fun q => ⟨fun q2 => ?_, fun q2 => ?_⟩⟩
  · rw [if_neg (by omega)] at H; exact H
  · rw [if_neg (by omega)] at H; exact H
  · rw [if_pos (by omega)] at H; exact H
/-- the word with another ending in place of one -/
def rep (l e b : List Int) : Option (List Int) := if l.length < e.length + 2 ∨ 10 < l.length - e.length + b.length ∨ l.drop (l.length - e.length) ≠ e then none else some (l.take (l.length - e.length) ++ b)
theorem rep_wd {l e b r : List Int} (hl : wd l) (hb : wd b) (h : rep l e b = some r) : wd r ∧ r ≠ [] := by
  unfold rep at h
  split at h
  · cases h
  · rename_i q
    have h := Option.some.inj h
    subst h
    have : (l.take (l.length - e.length)).length = l.length - e.length := by rw [List.length_take]; omega
    refine ⟨⟨by rw [List.length_append]; omega, fun x hx => ?_⟩, fun q2 => ?_⟩
    · rcases List.mem_append.mp hx with hx | hx
      · exact hl.2 x (List.mem_of_mem_take hx)
      · exact hb.2 x hx
    · have := congrArg List.length q2
      rw [List.length_append] at this
      simp at this
      omega
theorem c_replaced {Q : Int64 → zM → Prop} {e b : List Int} (hl : wd l) (he : wd e) (hb : wd b) (H : Q (JL (match rep l e b with | some r => eC r | none => 0)) m) : cL (d + 3) 170 [.long (JL (eC l)), .long (JL (eC e)), .long (JL (eC b))] w m Q := by
  refine S_T_replaced ?_
  refine c_lettersOf hl (c_lettersOf he ?_)
  obtain ⟨l1, l2⟩ := eC_bd hl
  obtain ⟨e1, e2⟩ := eC_bd he
  obtain ⟨b1, b2⟩ := eC_bd hb
  have hl10 := hl.1
  have he10 := he.1
  have hb10 := hb.1
  simp (disch := first | (unfold r32; omega) | omega) only [j_lit, jl_lit, J_lt, j_ops]
  refine ⟨fun q => ?_, fun q => ?_⟩
  · unfold rep at H
    rw [if_pos (Or.inl (by omega))] at H
    exact H
  refine c_lettersOf hb ?_
  obtain ⟨s, hs⟩ : ∃ s : Nat, (l.length : Int) - e.length = s := ⟨l.length - e.length, by omega⟩
  have hs2 : l.length - e.length = s := by omega
  have hs10 : s ≤ 10 := by omega
  simp (disch := first | (unfold r32; omega) | omega) only [j_lit, jl_lit, J_le, j_ops, hs]
  refine ⟨fun q2 => ?_, fun q2 => ?_⟩
  · have k1 : JL (eC l) &&& (JL 1 <<< ((J (5 * (10 - (s : Int)))).toInt64 &&& 63) - JL 1) = JL (en 32 (10 - s) (l.drop s)) := by
      rw [JL_shl _ (by omega) (by omega), jl_ops.2.1, Int.one_mul, JL_mask _ (by omega)]
      have e1 : (5 * (10 - (s : Int))).toNat = 5 * (10 - s) := by omega
      rw [e1, p32, en_mod (by decide) hs10 (wd_b hl (by decide))]
    have k2 : ∀ {x : List Int}, wd x → ((JL (eC x)).toUInt64 >>> ((J (5 * (s : Int))).toInt64.toUInt64 &&& Int64.toUInt64 63)).toInt64 = JL (en 32 (10 - s) (x.take (10 - s))) := by
      intro x hx
      obtain ⟨x1, x2⟩ := eC_bd hx
      rw [JL_ushr x1 (by omega) (by omega) (by omega)]
      have e1 : (5 * (s : Int)).toNat = 5 * (10 - (10 - s)) := by omega
      rw [e1, p32, en_div (by decide) (by omega) (wd_b hx (by decide))]
    rw [k1, k2 he, k2 hb]
    have te : e.take (10 - s) = e := List.take_of_length_le (by omega)
    have tb : b.take (10 - s) = b := List.take_of_length_le (by omega)
    rw [te, tb]
    have bd : ∀ x : List Int, wd x → 0 ≤ en 32 (10 - s) x ∧ en 32 (10 - s) x < 32 ^ (10 - s) := fun x hx => en_bd (by decide) _ _ (wd_b hx (by decide))
    have wdr : wd (l.drop s) := ⟨by rw [List.length_drop]; omega, fun x hx => hl.2 x (List.mem_of_mem_drop hx)⟩
    have hp : (32 : Int) ^ (10 - s) ≤ 32 ^ 10 := by
      have : (32 : Nat) ^ (10 - s) ≤ 32 ^ 10 := Nat.pow_le_pow_right (by decide) (by omega)
      exact_mod_cast this
    have hp2 : (32 : Int) ^ 10 = 1125899906842624 := by decide
    have g1 := bd _ wdr
    have g2 := bd _ he
    have g3 := bd _ hb
    have heq : (JL (en 32 (10 - s) (l.drop s)) = JL (en 32 (10 - s) e)) = (l.drop s = e) := by
      rw [JL_eq (by unfold r64; omega) (by unfold r64; omega)]
      apply propext
      exact (en_cmp (B := 32) (C := 32) (by decide) (by decide) (10 - s) _ _ wdr.2 he.2 (by rw [List.length_drop]; omega) (by omega)).2
    rw [heq]
    refine ⟨fun q3 => ?_, fun q3 => ?_⟩
    · unfold rep at H
      rw [if_neg (by rw [hs2]; exact fun z => z.elim (fun z => by omega) (fun z => z.elim (fun z => by omega) (fun z => z q3)))] at H
      rw [jl_ops.2.1]
      have hsp := en_split (B := 32) (k := 10) l hs10
      have e3 : eC l - en 32 (10 - s) (l.drop s) = en 32 s (l.take s) * 2 ^ (5 * (10 - s)) := by
        show en 32 10 l - _ = _
        rw [p32]
        omega
      have hts : (l.take s).length ≤ s := by rw [List.length_take]; omega
      have e4 : en 32 s (l.take s) * 2 ^ (5 * (10 - s)) + en 32 (10 - s) b = eC (l.take s ++ b) := by
        show _ = en 32 10 (l.take s ++ b)
        have hlt : (l.take s).length = s := by rw [List.length_take]; omega
        rw [en_app 32 10 _ _ (by omega), hlt, p32, ← en_scale 32 (10 - s) s _ hts, show s + (10 - s) = 10 by omega]
      have wr : wd (l.take s ++ b) := ⟨by rw [List.length_append]; omega, fun x hx => by
        rcases List.mem_append.mp hx with hx | hx
        · exact hl.2 x (List.mem_of_mem_take hx)
        · exact hb.2 x hx⟩
      have wrb := eC_bd wr
      rw [e3, JL_oradd (en_bd (by decide) _ _ (fun x hx => wd_b hl (by decide) x (List.mem_of_mem_take hx))).1 g3.1 (by rw [p32]; exact g3.2) (by rw [e4]; omega), e4]
      rw [hs2] at H
      exact H
    · unfold rep at H
      rw [if_pos (Or.inr (Or.inr (by rw [hs2]; exact q3)))] at H
      exact H
  · unfold rep at H
    rw [if_pos (Or.inr (Or.inl (by omega)))] at H
    exact H
theorem c_power_l {Q : Int64 → zM → Prop} {n : Nat} (hn : n < 100) (H : Q (JL (27 ^ n)) m) : ∀ (k z : Nat), z + k = n → W_M_power_4 d (J n) (JL (27 ^ z)) (J z) w m Q := by
  intro k
  induction k with
  | zero =>
    intro z hk
    refine S_M_power_4 ?_
    have e : z = n := by omega
    subst e
    simp (disch := first | (unfold r32; omega) | omega) only [J_le]
    exact ⟨fun _ => H, fun q => absurd (Int.le_refl _) q⟩
  | succ k ih =>
    intro z hk
    refine S_M_power_4 ?_
    simp (disch := first | (unfold r32; omega) | omega) only [J_le, j_lit, jl_lit, j_ops, jl_ops]
    refine ⟨fun q => by omega, fun _ => ?_⟩
    have := ih (z + 1) (by omega)
    rw [Int.pow_succ] at this
    exact this
theorem c_power {Q : Int64 → zM → Prop} {n : Nat} (hn : n < 100) (H : Q (JL (27 ^ n)) m) : cL d 187 [.int (J n)] w m Q :=
  S_M_power (c_power_l (w := w) hn H n 0 (by omega))
theorem eM_cons (x : Int) (r : List Int) : eM (x :: r) = x * 7625597484987 + en 27 9 r := rfl
theorem eM_shift {x : Int} {r : List Int} (h : wd (x :: r)) : eM (x :: r) * 27 % 205891132094649 = eM r ∧ eM (x :: r) / 7625597484987 = x ∧ wd r := by
  have hr : wd r := ⟨by have := h.1; simp at this; omega, fun y hy => h.2 y (List.mem_cons_of_mem _ hy)⟩
  have h9 : r.length ≤ 9 := by have := h.1; simp at this; omega
  have e := en_scale 27 1 9 r h9
  have g := en_bd (B := 27) (by decide) 9 r (wd_b hr (by decide))
  have e2 : eM r = en 27 9 r * 27 := by
    show en 27 (9 + 1) r = _
    rw [e]
    rfl
  have g2 : en 27 9 r < 7625597484987 := by simpa using g.2
  rw [eM_cons, e2]
  refine ⟨by omega, by omega, hr⟩
theorem c_M_lettersOf_l {Q : Int32 → zM → Prop} : ∀ (r : List Int) (z : Nat), wd r → z + r.length < 100 → Q (J ((z + r.length : Nat) : Int)) m → W_M_lettersOf_4 d (J z) (JL (eM r)) w m Q := by
  intro r
  induction r with
  | nil =>
    intro z hr hz H
    refine S_M_lettersOf_4 ⟨fun _ => H, fun q => absurd rfl q⟩
  | cons x r ih =>
    intro z hr hz H
    obtain ⟨s1, s2, s3⟩ := eM_shift hr
    have hp := eM_pos hr (by simp)
    have hb := eM_bd hr
    refine S_M_lettersOf_4 ?_
    simp (disch := first | (unfold r64; omega) | omega) only [j_lit, jl_lit, j_ops, jl_ops.1, jl_ops.2.2.1, JL_eq, JL_mod, s1]
    refine ⟨fun q => by omega, fun q => ⟨by first | decide | omega, ?_⟩⟩
    have := ih (z + 1) s3 (by simp at hz; omega) (by rw [show z + 1 + r.length = z + (x :: r).length by simp; omega]; exact H)
    exact this
theorem c_M_lettersOf {Q : Int32 → zM → Prop} (hl : wd l) (H : Q (J l.length) m) : cI d 188 [.long (JL (eM l))] w m Q := by
  refine S_M_lettersOf ?_
  have := c_M_lettersOf_l (d := d) (w := w) (m := m) (Q := Q) l 0 hl (by have := hl.1; omega) (by rw [Nat.zero_add]; exact H)
  exact this
theorem p27 {n : Nat} (h : n ≤ 10) : (1 : Int) ≤ 27 ^ n ∧ (27 : Int) ^ n ≤ 205891132094649 := by
  refine ⟨Int.pow_pos (by decide), ?_⟩
  have : (27 : Nat) ^ n ≤ 27 ^ 10 := Nat.pow_le_pow_right (by decide) h
  have h2 : (27 : Int) ^ n ≤ 27 ^ 10 := by exact_mod_cast this
  have h3 : (27 : Int) ^ 10 = 205891132094649 := by decide
  omega
/-- the first letters; what stands behind them -/
theorem c_M_head {Q : Int64 → zM → Prop} {n : Nat} (hl : wd l) (hn : n ≤ 10) (H : Q (JL (eM (l.take n))) m) : cL (d + 1) 189 [.long (JL (eM l)), .int (J n)] w m Q := by
  refine S_M_head ?_
  have hb := eM_bd hl
  have hp := p27 (n := 10 - n) (by omega)
  rw [j_lit.2.2.2.2.2.2.2.2.2.2.2.2.2.2.2.1, j_ops.2.1, show (10 : Int) - (n : Int) = ((10 - n : Nat) : Int) by omega]
  refine c_power (by omega) ⟨?_, ?_⟩
  · rw [jl_lit.2.2.1, JL_eq (by unfold r64; omega) (by unfold r64; omega)]
    omega
  · rw [JL_div hb.1 (by unfold r64; omega) (by omega) (by unfold r64; omega), jl_ops.2.2.1, en_div (by decide) hn (wd_b hl (by decide)), ← en_scale 27 (10 - n) n _ (by rw [List.length_take]; omega), show n + (10 - n) = 10 by omega]
    exact H
theorem c_M_tail {Q : Int64 → zM → Prop} {n : Nat} (hl : wd l) (hn : n ≤ 10) (H : Q (JL (eM (l.drop n))) m) : cL (d + 1) 190 [.long (JL (eM l)), .int (J n)] w m Q := by
  refine S_M_tail ?_
  have hb := eM_bd hl
  have hp := p27 (n := 10 - n) (by omega)
  rw [j_lit.2.2.2.2.2.2.2.2.2.2.2.2.2.2.2.1, j_ops.2.1, show (10 : Int) - (n : Int) = ((10 - n : Nat) : Int) by omega]
  refine c_power (by omega) ⟨?_, ?_⟩
  · rw [jl_lit.2.2.1, JL_eq (by unfold r64; omega) (by unfold r64; omega)]
    omega
  · refine c_power (by omega) ?_
    rw [JL_mod hb.1 (by unfold r64; omega) (by omega) (by unfold r64; omega), jl_ops.2.2.1, en_mod (by decide) hn (wd_b hl (by decide)), ← en_scale 27 n (10 - n) _ (by rw [List.length_drop]; have := hl.1; omega), show 10 - n + n = 10 by omega]
    exact H
end WM
