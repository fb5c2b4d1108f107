/-! pairs in the class; the lexicon in the reference -/
section PA
variable {d : Nat} {w : Nat × Nat × Nat} {a n : Nat}
theorem c_indexOf_l {Q : Int32 → zM → Prop} {m : zM} {x s : Int} (ha : zPa w a n) (hn : n < 100000) (hs : iq m a 2 = s) (h0 : 0 ≤ s ∧ s ≤ n) (hx : r64 x) (H : Q (J (fi (lq m (a + 1)) s.toNat x)) m) : ∀ (k : Nat) (z : Int), 0 ≤ z → z + k = s → (∀ y, 0 ≤ y → y < z → lq m (a + 1) y ≠ x) → W_Pairs_indexOf_2 d a (JL x) (J z) w m Q := by
  intro k
  induction k with
  | zero =>
    intro z hz hk hb
    refine S_Pairs_indexOf_2 ha ?_
    simp (disch := first | (unfold r32; omega) | omega) only [j_lit, J_le, j_rd, j_nc, hs]
    refine ⟨fun _ => ?_, fun q => by omega⟩
    rw [fi_no (fun k h1 h2 => hb k h1 (by omega))] at H
    exact H
  | succ k ih =>
    intro z hz hk hb
    refine S_Pairs_indexOf_2 ha ?_
    simp (disch := first | (unfold r32; omega) | omega) only [j_lit, J_le, j_rd, j_nc, hs]
    refine ⟨fun q => by omega, fun _ => c_atl ha.2.2.2.1 hn (by unfold r32; omega) (by omega) ?_⟩
    simp (disch := first | exact hx | exact lq_r _ _ _ | (unfold r32; omega) | omega) only [JL_eq, j_ops]
    refine ⟨fun q => ih (z + 1) (by omega) (by omega) (fun y h1 h2 => ?_), fun q => ?_⟩
    · by_cases e : y = z
      · rw [e]; exact q
      · exact hb y h1 (by omega)
    · rw [fi_at hz (by omega) q hb] at H
      exact H
theorem c_indexOf {Q : Int32 → zM → Prop} {m : zM} {x s : Int} (ha : zPa w a n) (hn : n < 100000) (hs : iq m a 2 = s) (h0 : 0 ≤ s ∧ s ≤ n) (hx : r64 x) (H : Q (J (fi (lq m (a + 1)) s.toNat x)) m) : cI (d + 1) 36 [.ref a, .long (JL x)] w m Q :=
  S_Pairs_indexOf (c_indexOf_l ha hn hs h0 hx H s.toNat 0 (by omega) (by omega) (fun y h1 h2 => by omega))
/-- a pair behind the others -/
def pad (a : Nat) (m : zM) (s x y : Int) : zM := sq (sl (sl m (a + 1) s x) (a + 2) s y) a 2 (s + 1)
theorem c_padd {Q : Int32 → zM → Prop} {m : zM} {x y s : Int} (ha : zPa w a n) (hn : n < 100000) (hs : iq m a 2 = s) (h0 : 0 ≤ s ∧ s ≤ n) (H : s < n → Q (J 1) (pad a m s x y)) (H2 : ¬ s < n → Q (J 0) m) : cI (d + 1) 35 [.ref a, .long (JL x), .long (JL y)] w m Q := by
  refine S_Pairs_add ha ?_
  simp (disch := first | (unfold r32; omega) | omega) only [j_lit, ofn_J, J_lt, j_rd, j_nc, hs]
  refine ⟨fun q => c_putl ha.2.2.2.1 hn (by unfold r32; omega) (by omega) ?_, H2⟩
  rw [iq_sl, hs]
  refine c_putl ha.2.2.2.2 hn (by unfold r32; omega) (by omega) ?_
  rw [iq_sl, iq_sl, hs, j_ops.1]
  exact H q
theorem fi_r {f : Int → Int} {s : Int} {x : Int} (h0 : 0 ≤ s) : -1 ≤ fi f s.toNat x ∧ fi f s.toNat x < s ∨ fi f s.toNat x = -1 := by
  rcases fi_o f x s.toNat with ⟨h, _⟩ | ⟨h1, h2, _⟩
  · exact Or.inr h
  · exact Or.inl ⟨by omega, by omega⟩
theorem c_pset {Q : Int32 → zM → Prop} {m : zM} {x y s : Int} (ha : zPa w a n) (hn : n < 100000) (hs : iq m a 2 = s) (h0 : 0 ≤ s ∧ s ≤ n) (hx : r64 x) (H0 : 0 ≤ fi (lq m (a + 1)) s.toNat x → Q (J 1) (sl m (a + 2) (fi (lq m (a + 1)) s.toNat x) y)) (H1 : fi (lq m (a + 1)) s.toNat x = -1 → s < n → Q (J 1) (pad a m s x y)) (H2 : fi (lq m (a + 1)) s.toNat x = -1 → ¬ s < n → Q (J 0) m) : cI (d + 2) 37 [.ref a, .long (JL x), .long (JL y)] w m Q := by
  have hf := fi_r (f := lq m (a + 1)) (x := x) h0.1
  refine S_Pairs_set ha (c_indexOf ha hn hs h0 hx ?_)
  generalize fi (lq m (a + 1)) s.toNat x = i at *
  simp (disch := first | (unfold r32; omega) | omega) only [j_lit, J_le]
  refine ⟨fun q => c_putl ha.2.2.2.2 hn (by unfold r32; omega) (by omega) (H0 q), fun q => ?_⟩
  refine c_padd ha hn hs h0 (fun z => ⟨by simp [j_lit], H1 (by omega) z⟩) (fun z => ⟨by simp [j_lit], H2 (by omega) z⟩)
theorem pad_sz {m : zM} {s x y : Int} (h : r32 (s + 1)) : iq (pad a m s x y) a 2 = s + 1 := by
  unfold pad
  rw [iq_sq (by omega) (by omega) h, if_pos ⟨rfl, rfl⟩]
theorem pad_l {m : zM} {s x y : Int} (hs : 0 ≤ s) (hx : r64 x) (hy : r64 y) (k : Int) (hk : 0 ≤ k) : lq (pad a m s x y) (a + 1) k = (if k = s then x else lq m (a + 1) k) ∧ lq (pad a m s x y) (a + 2) k = (if k = s then y else lq m (a + 2) k) := by
  unfold pad
  rw [lq_sq, lq_sq, lq_sl hs hk hy, lq_sl hs hk hx, lq_sl hs hk hy, lq_sl hs hk hx, if_neg (by omega)]
  constructor
  · by_cases e : k = s
    · rw [if_pos ⟨rfl, e⟩, if_pos e]
    · rw [if_neg (fun z => e z.2), if_neg e]
  · by_cases e : k = s
    · rw [if_pos ⟨rfl, e⟩, if_pos e]
    · rw [if_neg (fun z => e z.2), if_neg e, if_neg (by omega)]
theorem pad_fr {m : zM} (s x y : Int) : fr [a, a + 1, a + 2] m (pad a m s x y) :=
  (((fr.rf _ m).sll (by simp) s x).sll (by simp) s y).si (by simp) 2 (s + 1)
end PA
section LX
variable {d : Nat} {w : Nat × Nat × Nat}
theorem c_lexiconOf_l {Q : Int32 → zM → Prop} {m : zM} {x s : Int} (hs : lq m 262 0 = s) (h0 : 0 ≤ s ∧ s ≤ 80) (hx : r64 x) (H : Q (J (fi (fun k => lq m 262 (1 + k)) s.toNat x)) m) : ∀ (k : Nat) (z : Int), 0 ≤ z → z + k = s → (∀ y, 0 ≤ y → y < z → lq m 262 (1 + y) ≠ x) → W_M_lexiconOf_2 d (JL x) (J z) w m Q := by
  intro k
  induction k with
  | zero =>
    intro z hz hk hb
    refine S_M_lexiconOf_2 ?_
    simp (disch := first | (unfold r32; omega) | (unfold r64; omega) | omega) only [j_lit, vp_J, J_cl, jl_rd, lq_tn, hs, J_64, JL_le]
    refine ⟨by omega, fun _ => ?_, fun q => by omega⟩
    rw [fi_no (fun k h1 h2 => hb k h1 (by omega))] at H
    exact H
  | succ k ih =>
    intro z hz hk hb
    refine S_M_lexiconOf_2 ?_
    simp (disch := first | exact hx | exact lq_r _ _ _ | (unfold r32; omega) | (unfold r64; omega) | omega) only [j_lit, j_ops, vp_J, J_cl, jl_rd, lq_tn, hs, J_64, JL_le, JL_eq]
    refine ⟨by omega, fun q => by omega, fun _ => ⟨by omega, fun q => ih (z + 1) (by omega) (by omega) (fun y h1 h2 => ?_), fun q => ?_⟩⟩
    · by_cases e : y = z
      · rw [e]; exact q
      · exact hb y h1 (by omega)
    · rw [fi_at (f := fun k => lq m 262 (1 + k)) hz (by omega) q hb] at H
      exact H
theorem c_lexiconOf {Q : Int32 → zM → Prop} {m : zM} {x s : Int} (hs : lq m 262 0 = s) (h0 : 0 ≤ s ∧ s ≤ 80) (hx : r64 x) (H : Q (J (fi (fun k => lq m 262 (1 + k)) s.toNat x)) m) : cI d 191 [.ref 261, .long (JL x)] w m Q :=
  S_M_lexiconOf (c_lexiconOf_l hs h0 hx H s.toNat 0 (by omega) (by omega) (fun y h1 h2 => by omega))
theorem c_kindBy {Q : Int32 → zM → Prop} {m : zM} {c : Int} (hc : r32 c) (H : Q (J (kb c)) m) : cI d 195 [.int (J c)] w m Q := by
  refine S_M_kindBy ?_
  unfold kb at H
  simp (disch := first | exact hc | (unfold r32; omega) | omega) only [j_lit, J_eq, j_ops]
  refine ⟨fun q => ?_, fun q1 => ⟨fun q => ?_, fun q2 => ⟨fun q => ?_, fun q3 => ⟨fun q => ?_, fun q4 => ⟨fun q => ?_, fun q5 => ⟨fun q => ?_, fun q6 => ?_⟩⟩⟩⟩⟩⟩
  · rw [if_pos q] at H; exact H
  · rw [if_neg q1, if_pos q] at H; exact H
  · rw [if_neg q1, if_neg q2, if_pos q] at H; exact H
  · rw [if_neg q1, if_neg q2, if_neg q3, if_pos q] at H; exact H
  · rw [if_neg q1, if_neg q2, if_neg q3, if_neg q4, if_pos q] at H; exact H
  · rw [if_neg q1, if_neg q2, if_neg q3, if_neg q4, if_neg q5, if_pos q] at H; exact H
  · rw [if_neg q1, if_neg q2, if_neg q3, if_neg q4, if_neg q5, if_neg q6] at H; exact H
end LX
