/-! rows that rise: the place of a value, putting it there -/
def inc (f : Int → Int) (s : Int) : Prop := ∀ i j, 0 ≤ i → i < j → j < s → f i < f j
/-- the first place that is not less -/
def lw (f : Int → Int) (s x p : Int) : Prop := 0 ≤ p ∧ p ≤ s ∧ (∀ i, 0 ≤ i → i < p → f i < x) ∧ ∀ i, p ≤ i → i < s → x ≤ f i
theorem inc.le {f : Int → Int} {s : Int} (h : inc f s) {i j : Int} (h0 : 0 ≤ i) (h1 : i ≤ j) (h2 : j < s) : f i ≤ f j := by
  by_cases e : i = j
  · rw [e]; omega
  · have := h i j h0 (by omega) h2; omega
theorem e21 : (2 : Int) ^ (1 : Int).toNat = 2 := rfl
section LW
variable {d : Nat} {w : Nat × Nat × Nat} {a n : Nat} {s x : Int}
theorem c_lowest_l {Q : Int32 → zM → Prop} {m : zM} (ha : zAr w a 13 n) (hn : n < 100000) (hs : 0 ≤ s ∧ s ≤ n) (hi : inc (lq m a) s) (hx : r64 x) (H : ∀ p, lw (lq m a) s x p → Q (J p) m) :
    ∀ (k : Nat) (lo hi t : Int), 0 ≤ lo → lo ≤ hi → hi ≤ s → hi - lo < 2 ^ k → t + k = 32 → 0 ≤ t → (∀ i, 0 ≤ i → i < lo → lq m a i < x) → (∀ i, hi ≤ i → i < s → x ≤ lq m a i) → W_T_lowest_6 d a (JL x) (J lo) (J hi) (J t) w m Q := by
  intro k
  induction k with
  | zero =>
    intro lo hh t h0 h1 h2 h3 h4 h5 g1 g2
    have e0 : (2 : Int) ^ 0 = 1 := rfl
    rw [e0] at h3
    refine S_T_lowest_6 ?_
    simp (disch := first | (unfold r32; omega) | omega) only [j_lit, J_le]
    exact ⟨fun _ => H lo ⟨h0, by omega, g1, fun i q1 q2 => g2 i (by omega) q2⟩, fun q => by omega⟩
  | succ k ih =>
    intro lo hh t h0 h1 h2 h3 h4 h5 g1 g2
    have e1 : (2 : Int) ^ (k + 1) = 2 ^ k * 2 := Int.pow_succ 2 k
    rw [e1] at h3
    refine S_T_lowest_6 ?_
    simp (disch := first | exact hx | (unfold r32; omega) | omega) only [j_lit, J_le, j_ops, J_ushr', e21]
    refine ⟨fun q => by omega, fun _ => ⟨fun q => H lo ⟨h0, by omega, g1, fun i q1 q2 => g2 i (by omega) q2⟩, fun q => ?_⟩⟩
    have hm : lo ≤ (lo + hh) / 2 ∧ (lo + hh) / 2 < hh := by omega
    refine c_atl ha hn (by unfold r32; omega) (by omega) ?_
    have hl := lq_r m a ((lo + hh) / 2)
    simp (disch := first | exact hx | exact hl | (unfold r32; omega) | omega) only [JL_le]
    refine ⟨fun q1 => ?_, fun q1 => ?_⟩
    · exact ih lo ((lo + hh) / 2) (t + 1) h0 (by omega) (by omega) (by omega) (by omega) (by omega) g1 (fun i q2 q3 => by have := hi.le (i := (lo + hh) / 2) (j := i) (by omega) q2 q3; omega)
    · exact ih ((lo + hh) / 2 + 1) hh (t + 1) (by omega) (by omega) (by omega) (by omega) (by omega) (by omega) (fun i q2 q3 => by have := hi.le (i := i) (j := (lo + hh) / 2) q2 (by omega) (by omega); omega) g2
theorem c_lowest {Q : Int32 → zM → Prop} {m : zM} (ha : zAr w a 13 n) (hn : n < 100000) (hs : 0 ≤ s ∧ s ≤ n) (hi : inc (lq m a) s) (hx : r64 x) (H : ∀ p, lw (lq m a) s x p → Q (J p) m) : cI (d + 1) 163 [.ref a, .int (J s), .long (JL x)] w m Q := by
  refine S_T_lowest ?_
  simp only [j_lit]
  have e : (2 : Int) ^ 32 = 4294967296 := rfl
  exact c_lowest_l ha hn hs hi hx H 32 0 s 0 (by omega) hs.1 (by omega) (by omega) (by omega) (by omega) (fun i q1 q2 => by omega) (fun i q1 q2 => by omega)
theorem c_exact {Q : Int32 → zM → Prop} {m : zM} (ha : zAr w a 13 n) (hn : n < 100000) (hs : 0 ≤ s ∧ s ≤ n) (hi : inc (lq m a) s) (hx : r64 x) (H0 : (∀ i, 0 ≤ i → i < s → lq m a i ≠ x) → Q (J (-1)) m) (H1 : ∀ i, 0 ≤ i → i < s → lq m a i = x → Q (J i) m) : cI (d + 2) 165 [.ref a, .int (J s), .long (JL x)] w m Q := by
  refine S_T_exact (c_lowest ha hn hs hi hx (fun p hp => ?_))
  obtain ⟨p0, p1, p2, p3⟩ := hp
  simp (disch := first | (unfold r32; omega) | omega) only [j_lit, J_le, j_ops]
  refine ⟨fun q => H0 (fun i i0 i1 => by have := p2 i i0 (by omega); omega), fun q => c_atl ha hn (by unfold r32; omega) (by omega) ?_⟩
  have hl := lq_r m a p
  simp (disch := first | exact hx | exact hl) only [JL_eq]
  refine ⟨fun q2 => H0 (fun i i0 i1 => ?_), fun q2 => H1 p p0 (by omega) q2⟩
  rcases Int.lt_trichotomy i p with g | g | g
  · have := p2 i i0 g; omega
  · rw [g]; exact q2
  · have := p3 p (by omega) (by omega)
    have := hi p i p0 g i1
    omega
/-- all from p on moved up by one, x put there -/
theorem c_insert_l {Q : Int32 → zM → Prop} {m0 : zM} {p : Int} (ha : zAr w a 13 n) (hn : n < 100000) (hs : 0 ≤ s ∧ s < n) (hp : 0 ≤ p ∧ p ≤ s) (hx : r64 x) (H : ∀ m', fr [a] m0 m' → m'.1 = m0.1 → (∀ i, 0 ≤ i → i < s + 1 → lq m' a i = if i < p then lq m0 a i else if i = p then x else lq m0 a (i - 1)) → Q (J (s + 1)) m') :
    ∀ (k : Nat) (z : Int) (m : zM), z = p + k → z ≤ s → fr [a] m0 m → m.1 = m0.1 → (∀ i, 0 ≤ i → i < s + 1 → lq m a i = if i ≤ z then (if i = s then lq m a i else lq m0 a i) else lq m0 a (i - 1)) → W_T_insert_21 d a (J s) (JL x) (J p) (J z) w m Q := by
  intro k
  induction k with
  | zero =>
    intro z m hz hzs f e hI
    refine S_T_insert_21 ?_
    simp (disch := first | (unfold r32; omega) | omega) only [j_lit, J_le, j_ops]
    refine ⟨fun _ => c_putl ha hn (by unfold r32; omega) (by omega) (H _ (f.sll (by simp) _ _) e (fun i i0 i1 => ?_)), fun q => by omega⟩
    by_cases q : i = p
    · rw [q, lq_eq hx, if_neg (by omega), if_pos rfl]
    · rw [lq_ne (Or.inr q) (by omega) i0, if_neg q, hI i i0 i1]
      by_cases q2 : i < p
      · rw [if_pos (by omega), if_neg (by omega), if_pos q2]
      · rw [if_neg (by omega), if_neg q2]
  | succ k ih =>
    intro z m hz hzs f e hI
    refine S_T_insert_21 ?_
    simp (disch := first | (unfold r32; omega) | omega) only [j_lit, J_le, j_ops]
    refine ⟨fun q => by omega, fun _ => c_atl ha hn (by unfold r32; omega) (by omega) (c_putl ha hn (by unfold r32; omega) (by omega) ?_)⟩
    have hl := lq_r m a (z - 1)
    rw [show z + -1 = z - 1 by omega]
    refine ih (z - 1) _ (by omega) (by omega) (f.sll (by simp) _ _) e (fun i i0 i1 => ?_)
    have e1 := hI (z - 1) (by omega) (by omega)
    rw [if_pos (by omega), if_neg (by omega)] at e1
    by_cases q : i = z
    · rw [q, lq_eq hl, if_neg (by omega), e1]
    · rw [lq_ne (Or.inr q) (by omega) i0]
      have := hI i i0 i1
      by_cases q2 : i ≤ z - 1
      · rw [if_pos q2, if_neg (by omega)]
        rw [if_pos (by omega), if_neg (by omega)] at this
        exact this
      · rw [if_neg q2]
        rw [if_neg (by omega)] at this
        exact this
theorem c_insert {Q : Int32 → zM → Prop} {m : zM} (ha : zAr w a 13 n) (hn : n < 100000) (hs : 0 ≤ s ∧ s < n) (hi : inc (lq m a) s) (hx : r64 x) (H0 : ∀ i, 0 ≤ i → i < s → lq m a i = x → Q (J s) m)
    (H1 : ∀ m' p, 0 ≤ p → p ≤ s → (∀ i, 0 ≤ i → i < p → lq m a i < x) → (∀ i, p ≤ i → i < s → x < lq m a i) → fr [a] m m' → m'.1 = m.1 → (∀ i, 0 ≤ i → i < s + 1 → lq m' a i = if i < p then lq m a i else if i = p then x else lq m a (i - 1)) → Q (J (s + 1)) m') : cI (d + 2) 164 [.ref a, .int (J s), .long (JL x)] w m Q := by
  refine S_T_insert ha (c_lowest ha hn ⟨hs.1, by omega⟩ hi hx (fun p hp => ?_))
  obtain ⟨p0, p1, p2, p3⟩ := hp
  have go : (∀ i, p ≤ i → i < s → x < lq m a i) → W_T_insert_21 (d + 1) a (J s) (JL x) (J p) (J s) w m Q := fun g =>
    c_insert_l ha hn hs ⟨p0, p1⟩ hx (fun m' f e hI => H1 m' p p0 p1 p2 g f e hI) (s - p).toNat s m (by omega) (by omega) (fr.rf _ _) rfl (fun i i0 i1 => by rw [if_pos (by omega)]; split <;> rfl)
  simp (disch := first | (unfold r32; omega) | omega) only [j_lit, ofn_J, J_le, j_ops]
  refine ⟨fun q => by omega, fun _ => ⟨fun q => go (fun i i0 i1 => by omega), fun q => c_atl ha hn (by unfold r32; omega) (by omega) ?_⟩⟩
  have hl := lq_r m a p
  simp (disch := first | exact hx | exact hl) only [JL_eq]
  refine ⟨fun q2 => go (fun i i0 i1 => ?_), fun q2 => H0 p p0 (by omega) q2⟩
  have h3 := p3 p (by omega) (by omega)
  by_cases e : i = p
  · rw [e]; omega
  · have := hi p i p0 (by omega) i1
    omega
end LW
section MBP
variable {d : Nat} {w : Nat × Nat × Nat} {s x : Int}
theorem c_basePlace_l {Q : Int32 → zM → Prop} {m : zM} (hs : 0 ≤ s ∧ s ≤ 400) (hi : inc (lq m 286) s) (hx : r64 x) (H : ∀ p, lw (lq m 286) s x p → Q (J p) m) :
    ∀ (k : Nat) (lo hi : Int), 0 ≤ lo → lo ≤ hi → hi ≤ s → hi - lo ≤ k → (∀ i, 0 ≤ i → i < lo → lq m 286 i < x) → (∀ i, hi ≤ i → i < s → x ≤ lq m 286 i) → W_M_basePlace_5 d (JL x) (J lo) (J hi) w m Q := by
  intro k
  induction k with
  | zero =>
    intro lo hh h0 h1 h2 h3 g1 g2
    refine S_M_basePlace_5 ?_
    simp (disch := first | (unfold r32; omega) | omega) only [j_lit, J_le]
    exact ⟨fun _ => H lo ⟨h0, by omega, g1, fun i q1 q2 => g2 i (by omega) q2⟩, fun q => by omega⟩
  | succ k ih =>
    intro lo hh h0 h1 h2 h3 g1 g2
    refine S_M_basePlace_5 ?_
    simp (disch := first | exact hx | exact lq_r _ _ _ | (unfold r32; omega) | omega) only [j_lit, J_le, j_ops, J_sar', e21, vp_J, J_cl, jl_rd, lq_tn, JL_le]
    refine ⟨fun q => H lo ⟨h0, by omega, g1, fun i q1 q2 => g2 i (by omega) q2⟩, fun q => ⟨by omega, fun q1 => ?_, fun q1 => ?_⟩⟩
    · exact ih lo ((lo + hh) / 2) h0 (by omega) (by omega) (by omega) g1 (fun i q2 q3 => by have := hi.le (i := (lo + hh) / 2) (j := i) (by omega) q2 q3; omega)
    · exact ih ((lo + hh) / 2 + 1) hh (by omega) (by omega) (by omega) (by omega) (fun i q2 q3 => by have := hi.le (i := i) (j := (lo + hh) / 2) q2 (by omega) (by omega); omega) g2
theorem c_basePlace {Q : Int32 → zM → Prop} {m : zM} (h43 : iq m 261 43 = s) (hs : 0 ≤ s ∧ s ≤ 400) (hi : inc (lq m 286) s) (hx : r64 x) (H : ∀ p, lw (lq m 286) s x p → Q (J p) m) : cI d 238 [.ref 261, .long (JL x)] w m Q := by
  refine S_M_basePlace ?_
  simp only [j_lit, j_rd, j_nc, h43]
  exact c_basePlace_l hs hi hx H s.toNat 0 s (by omega) hs.1 (by omega) (by omega) (fun i q1 q2 => by omega) (fun i q1 q2 => by omega)
end MBP
