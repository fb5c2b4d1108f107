/-! the lexicon as it is told: what follows from a place, and the class's reading of it -/
/-- a word's kind told, in the reference's row -/
def lset (N : Int → Int) (r k : Int) : Option (Int → Int) :=
  if 0 ≤ fi (fun j => N (1 + j)) (N 0).toNat r then some (fun z => if z = 81 + fi (fun j => N (1 + j)) (N 0).toNat r then k else N z)
  else if N 0 = 80 then none else some (fun z => if z = 81 + N 0 then k else if z = 1 + N 0 then r else if z = 0 then N 0 + 1 else N z)
/-- from the place p with the row N: the fault (0: none), where, the row at the end; between lines, or among a line's words -/
def LXr (T : Int → Int) (n : Int) (R : Option Int → Int → (Int → Int) → Int → Int → (Int → Int) → Prop) : Prop :=
  (∀ {p : Int} {N : Int → Int}, tS T n p = -1 → R none p N 0 (-1) N) ∧
  (∀ {p : Int} {N : Int → Int}, tS T n p ≠ -1 → (tS T n p = -2 → kn (tL T n p) = -1) → R none p N 1 (tP T n p) N) ∧
  (∀ {p : Int} {N : Int → Int}, tS T n p = -2 → kn (tL T n p) ≠ -1 → tS T n (tB T n p) ≠ 58 → R none p N 1 (tP T n (tB T n p)) N) ∧
  (∀ {p : Int} {N N' : Int → Int} {x y : Int}, tS T n p = -2 → kn (tL T n p) ≠ -1 → tS T n (tB T n p) = 58 → R (some (kn (tL T n p))) (tB T n (tB T n p)) N x y N' → R none p N x y N') ∧
  (∀ {k p : Int} {N : Int → Int}, tS T n p ≠ -2 → R (some k) p N 1 (tP T n p) N) ∧
  (∀ {k p : Int} {N : Int → Int}, tS T n p = -2 → lset N (eM (tL T n p)) k = none → R (some k) p N 2 (tP T n p) N) ∧
  (∀ {k p : Int} {N N1 N' : Int → Int} {x y : Int}, tS T n p = -2 → lset N (eM (tL T n p)) k = some N1 → tS T n (tB T n p) ≠ 59 → R (some k) (tB T n p) N1 x y N' → R (some k) p N x y N') ∧
  (∀ {k p : Int} {N N1 N' : Int → Int} {x y : Int}, tS T n p = -2 → lset N (eM (tL T n p)) k = some N1 → tS T n (tB T n p) = 59 → R none (tB T n (tB T n p)) N1 x y N' → R (some k) p N x y N')
def LX (T : Int → Int) (n : Int) (o : Option Int) (p : Int) (N : Int → Int) (x y : Int) (N' : Int → Int) : Prop := ∀ R, LXr T n R → R o p N x y N'
section LI
variable {T : Int → Int} {n : Int}
theorem LX.fin {p : Int} {N : Int → Int} (h0 : tS T n p = -1) : LX T n none p N 0 (-1) N := fun R hR => hR.1 h0
theorem LX.nokind {p : Int} {N : Int → Int} (h0 : tS T n p ≠ -1) (h1 : (tS T n p = -2 → kn (tL T n p) = -1)) : LX T n none p N 1 (tP T n p) N := fun R hR => hR.2.1 h0 h1
theorem LX.nocolon {p : Int} {N : Int → Int} (h0 : tS T n p = -2) (h1 : kn (tL T n p) ≠ -1) (h2 : tS T n (tB T n p) ≠ 58) : LX T n none p N 1 (tP T n (tB T n p)) N := fun R hR => hR.2.2.1 h0 h1 h2
theorem LX.line {p : Int} {N N' : Int → Int} {x y : Int} (h0 : tS T n p = -2) (h1 : kn (tL T n p) ≠ -1) (h2 : tS T n (tB T n p) = 58) (hi : LX T n (some (kn (tL T n p))) (tB T n (tB T n p)) N x y N') : LX T n none p N x y N' := fun R hR => hR.2.2.2.1 h0 h1 h2 (hi R hR)
theorem LX.noword {k p : Int} {N : Int → Int} (h0 : tS T n p ≠ -2) : LX T n (some k) p N 1 (tP T n p) N := fun R hR => hR.2.2.2.2.1 h0
theorem LX.full {k p : Int} {N : Int → Int} (h0 : tS T n p = -2) (h1 : lset N (eM (tL T n p)) k = none) : LX T n (some k) p N 2 (tP T n p) N := fun R hR => hR.2.2.2.2.2.1 h0 h1
theorem LX.word {k p : Int} {N N1 N' : Int → Int} {x y : Int} (h0 : tS T n p = -2) (h1 : lset N (eM (tL T n p)) k = some N1) (h2 : tS T n (tB T n p) ≠ 59) (hi : LX T n (some k) (tB T n p) N1 x y N') : LX T n (some k) p N x y N' := fun R hR => hR.2.2.2.2.2.2.1 h0 h1 h2 (hi R hR)
theorem LX.semi {k p : Int} {N N1 N' : Int → Int} {x y : Int} (h0 : tS T n p = -2) (h1 : lset N (eM (tL T n p)) k = some N1) (h2 : tS T n (tB T n p) = 59) (hi : LX T n none (tB T n (tB T n p)) N1 x y N') : LX T n (some k) p N x y N' := fun R hR => hR.2.2.2.2.2.2.2 h0 h1 h2 (hi R hR)
end LI
theorem fi_ww {f g : Int → Int} {c r : Int} (hc : ww c r) : ∀ n : Nat, (∀ k : Int, 0 ≤ k → k < n → ww (f k) (g k)) → fi f n c = fi g n r := by
  intro n
  induction n with
  | zero => intro _; rfl
  | succ n ih =>
    intro h
    rw [fi_s, fi_s, ih (fun k h1 h2 => h k h1 (by omega))]
    have e := (ww_cmp (h n (by omega) (by omega)) hc).2
    by_cases a : f n = c
    · rw [if_pos a, if_pos (e.mp a)]
    · rw [if_neg a, if_neg (fun z => a (e.mpr z))]
theorem ww_r {c r : Int} (h : ww c r) : 0 < c ∧ c < 1125899906842624 ∧ 0 < r ∧ r < 205891132094649 := by
  obtain ⟨l, h1, h2, rfl, rfl⟩ := h
  have a := eC_bd h1
  have b := eM_bd h1
  exact ⟨eC_pos h1 h2, a.2, eM_pos h1 h2, b.2⟩
theorem kr_r {c r : Int} (h : kr c r) : 97 ≤ c ∧ c ≤ 118 ∧ 0 ≤ r ∧ r ≤ 5 := by
  unfold kr at h
  omega
section LS
variable {m : zM} {b : Nat} {N : Int → Int} {c r kc k : Int}
theorem lset_fi (h : trL m b N) (hw : ww c r) : fi (lq m (b + 2)) (N 0).toNat c = fi (fun j => N (1 + j)) (N 0).toNat r :=
  fi_ww hw _ (fun k h1 h2 => (h.2.2.2 k h1 (by have := h.1; omega)).1)
theorem lset_old (h : trL m b N) (hw : ww c r) (hk : kr kc k) (h0 : 0 ≤ fi (lq m (b + 2)) (N 0).toNat c) : ∃ N', lset N r k = some N' ∧ trL (sl m (b + 3) (fi (lq m (b + 2)) (N 0).toNat c) kc) b N' ∧ ∀ z, 161 ≤ z → N' z = N z := by
  have e := lset_fi h hw
  have hk2 := kr_r hk
  obtain ⟨h1, h2, h3, h4⟩ := h
  rcases fi_r (f := lq m (b + 2)) (x := c) h1 with hf | hf
  · unfold lset
    rw [← e, if_pos h0]
    generalize fi (lq m (b + 2)) (N 0).toNat c = i at *
    refine ⟨_, rfl, ⟨?_, ?_, ?_, fun y g1 g2 => ?_⟩, fun z hz => ?_⟩
    · show 0 ≤ if (0 : Int) = 81 + i then k else N 0
      rw [if_neg (by omega)]; exact h1
    · show (if (0 : Int) = 81 + i then k else N 0) ≤ 80
      rw [if_neg (by omega)]; exact h2
    · show iq m (b + 1) 2 = if (0 : Int) = 81 + i then k else N 0
      rw [if_neg (by omega)]; exact h3
    · have g2 : y < N 0 := by
        have g3 : y < if (0 : Int) = 81 + i then k else N 0 := g2
        rw [if_neg (by omega)] at g3; exact g3
      show ww (lq (sl m (b + 3) i kc) (b + 2) y) (if 1 + y = 81 + i then k else N (1 + y)) ∧ kr (lq (sl m (b + 3) i kc) (b + 3) y) (if 81 + y = 81 + i then k else N (81 + y))
      rw [lq_sl (by omega) g1 (by unfold r64; omega), if_neg (by omega), if_neg (by omega), lq_sl (by omega) g1 (by unfold r64; omega)]
      refine ⟨(h4 y g1 g2).1, ?_⟩
      by_cases z : y = i
      · rw [if_pos ⟨rfl, z⟩, if_pos (by omega)]; exact hk
      · rw [if_neg (fun q => z q.2), if_neg (by omega)]; exact (h4 y g1 g2).2
    · show (if z = 81 + i then k else N z) = N z
      rw [if_neg (by omega)]
  · omega
theorem lset_new (h : trL m b N) (hw : ww c r) (hk : kr kc k) (h0 : fi (lq m (b + 2)) (N 0).toNat c = -1) (h80 : N 0 < 80) : ∃ N', lset N r k = some N' ∧ trL (pad (b + 1) m (N 0) c kc) b N' ∧ ∀ z, 161 ≤ z → N' z = N z := by
  have e := lset_fi h hw
  have hk2 := kr_r hk
  have hc2 := ww_r hw
  obtain ⟨h1, h2, h3, h4⟩ := h
  unfold lset
  rw [← e, h0, if_neg (by omega), if_neg (by omega)]
  refine ⟨_, rfl, ⟨?_, ?_, ?_, fun y g1 g2 => ?_⟩, fun z hz => ?_⟩
  · show 0 ≤ if (0 : Int) = 81 + N 0 then k else if (0 : Int) = 1 + N 0 then r else if (0 : Int) = 0 then N 0 + 1 else N 0
    rw [if_neg (by omega), if_neg (by omega), if_pos rfl]; omega
  · show (if (0 : Int) = 81 + N 0 then k else if (0 : Int) = 1 + N 0 then r else if (0 : Int) = 0 then N 0 + 1 else N 0) ≤ 80
    rw [if_neg (by omega), if_neg (by omega), if_pos rfl]; omega
  · show iq (pad (b + 1) m (N 0) c kc) (b + 1) 2 = if (0 : Int) = 81 + N 0 then k else if (0 : Int) = 1 + N 0 then r else if (0 : Int) = 0 then N 0 + 1 else N 0
    rw [if_neg (by omega), if_neg (by omega), if_pos rfl, pad_sz (by unfold r32; omega)]
  · have g2 : y < N 0 + 1 := by
      have g3 : y < if (0 : Int) = 81 + N 0 then k else if (0 : Int) = 1 + N 0 then r else if (0 : Int) = 0 then N 0 + 1 else N 0 := g2
      rw [if_neg (by omega), if_neg (by omega), if_pos rfl] at g3; exact g3
    show ww (lq (pad (b + 1) m (N 0) c kc) (b + 1 + 1) y) (if 1 + y = 81 + N 0 then k else if 1 + y = 1 + N 0 then r else if 1 + y = 0 then N 0 + 1 else N (1 + y)) ∧ kr (lq (pad (b + 1) m (N 0) c kc) (b + 1 + 2) y) (if 81 + y = 81 + N 0 then k else if 81 + y = 1 + N 0 then r else if 81 + y = 0 then N 0 + 1 else N (81 + y))
    obtain ⟨p1, p2⟩ := pad_l (a := b + 1) (m := m) (s := N 0) (x := c) (y := kc) h1 (by unfold r64; omega) (by unfold r64; omega) y g1
    rw [p1, p2, if_neg (show ¬ 1 + y = 81 + N 0 by omega)]
    by_cases z : y = N 0
    · rw [if_pos z, if_pos z, if_pos (by omega), if_pos (by omega)]
      exact ⟨hw, hk⟩
    · rw [if_neg z, if_neg z, if_neg (by omega), if_neg (by omega), if_neg (by omega), if_neg (by omega), if_neg (by omega)]
      exact h4 y g1 (by omega)
  · show (if z = 81 + N 0 then k else if z = 1 + N 0 then r else if z = 0 then N 0 + 1 else N z) = N z
    rw [if_neg (by omega), if_neg (by omega), if_neg (by omega)]
theorem lset_no (h : trL m b N) (hw : ww c r) (h0 : fi (lq m (b + 2)) (N 0).toNat c = -1) (h80 : ¬ N 0 < 80) : lset N r k = none := by
  have e := lset_fi h hw
  have h2 := h.2.1
  unfold lset
  rw [← e, h0, if_neg (by omega), if_pos (by omega)]
end LS
