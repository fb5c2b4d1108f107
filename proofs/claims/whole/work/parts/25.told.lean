/-! what is told, in the class (cell b) and in the reference (its row N) -/
/-- the first place below n of x; -1 -/
def fi (f : Int → Int) (n : Nat) (x : Int) : Int := Nat.rec (-1) (fun k r => if 0 ≤ r then r else if f k = x then k else -1) n
theorem fi_s (f : Int → Int) (n : Nat) (x : Int) : fi f (n + 1) x = if 0 ≤ fi f n x then fi f n x else if f n = x then (n : Int) else -1 := rfl
theorem fi_o (f : Int → Int) (x : Int) : ∀ n : Nat, (fi f n x = -1 ∧ ∀ k : Int, 0 ≤ k → k < n → f k ≠ x) ∨ (0 ≤ fi f n x ∧ fi f n x < n ∧ f (fi f n x) = x ∧ ∀ k : Int, 0 ≤ k → k < fi f n x → f k ≠ x) := by
  intro n
  induction n with
  | zero => exact Or.inl ⟨rfl, fun k h1 h2 => by omega⟩
  | succ n ih =>
    rw [fi_s]
    rcases ih with ⟨h1, h2⟩ | ⟨h1, h2, h3, h4⟩
    · rw [h1, if_neg (by omega)]
      by_cases q : f n = x
      · rw [if_pos q]
        exact Or.inr ⟨by omega, by omega, q, fun k g1 g2 => h2 k g1 g2⟩
      · rw [if_neg q]
        refine Or.inl ⟨rfl, fun k g1 g2 => ?_⟩
        by_cases e : k = n
        · rw [e]; exact q
        · exact h2 k g1 (by omega)
    · rw [if_pos h1]
      exact Or.inr ⟨h1, by omega, h3, h4⟩
theorem fi_congr {f g : Int → Int} {x : Int} : ∀ n : Nat, (∀ k : Int, 0 ≤ k → k < n → f k = g k) → fi f n x = fi g n x := by
  intro n
  induction n with
  | zero => intro _; rfl
  | succ n ih =>
    intro h
    rw [fi_s, fi_s, ih (fun k h1 h2 => h k h1 (by omega)), h n (by omega) (by omega)]
/-- it is where it is found first -/
theorem fi_at {f : Int → Int} {n : Nat} {x z : Int} (h0 : 0 ≤ z) (h1 : z < n) (h2 : f z = x) (h3 : ∀ k : Int, 0 ≤ k → k < z → f k ≠ x) : fi f n x = z := by
  rcases fi_o f x n with ⟨_, g⟩ | ⟨g1, g2, g3, g4⟩
  · exact absurd h2 (g z h0 h1)
  · rcases Int.lt_trichotomy (fi f n x) z with q | q | q
    · exact absurd g3 (h3 _ g1 q)
    · exact q
    · exact absurd h2 (g4 z h0 q)
theorem fi_no {f : Int → Int} {n : Nat} {x : Int} (h : ∀ k : Int, 0 ≤ k → k < n → f k ≠ x) : fi f n x = -1 := by
  rcases fi_o f x n with ⟨g, _⟩ | ⟨g1, g2, g3, _⟩
  · exact g
  · exact absurd g3 (h _ g1 g2)
/-- what the reference's row says a word is the same as -/
def rs (N : Int → Int) (n : Nat) (r : Int) : Option Int := Nat.rec none (fun k o => match o with | some v => some v | none => if N (179 + k) = r ∧ N (219 + k) ≠ 0 ∧ N (219 + k) ≠ r then some (N (219 + k)) else none) n
theorem rs_s (N : Int → Int) (n : Nat) (r : Int) : rs N (n + 1) r = match rs N n r with | some v => some v | none => if N (179 + n) = r ∧ N (219 + n) ≠ 0 ∧ N (219 + n) ≠ r then some (N (219 + n)) else none := rfl
theorem rs_congr {N N' : Int → Int} {r : Int} : ∀ n : Nat, (∀ k : Int, 0 ≤ k → k < n → N (179 + k) = N' (179 + k) ∧ N (219 + k) = N' (219 + k)) → rs N n r = rs N' n r := by
  intro n
  induction n with
  | zero => intro _; rfl
  | succ n ih =>
    intro h
    rw [rs_s, rs_s, ih (fun k h1 h2 => h k h1 (by omega)), (h n (by omega) (by omega)).1, (h n (by omega) (by omega)).2]
def kr (c r : Int) : Prop := (r = 0 ∧ c = 110) ∨ (r = 1 ∧ c = 97) ∨ (r = 2 ∧ c = 118) ∨ (r = 3 ∧ c = 112) ∨ (r = 4 ∧ c = 100) ∨ (r = 5 ∧ c = 111)
def pkr (c r : Int) : Prop := kr c r ∨ (r = 6 ∧ c = 120) ∨ (r = 7 ∧ c = 46)
def ww0 (c r : Int) : Prop := ∃ l, wd l ∧ c = eC l ∧ r = eM l
def SL (f g : Int → Int) (n : Nat) (N : Int → Int) (k : Nat) (c r : Int) : Prop := (fi f n c = -1 ∧ rs N k r = none) ∨ (0 ≤ fi f n c ∧ ∃ v, rs N k r = some v ∧ v ≠ r ∧ ww (g (fi f n c)) v)
def sd (N : Int → Int) (i j : Int) : Prop := ∀ d, 0 ≤ d → d ≤ N 259 → (N (260 + d) ≤ i ↔ N (260 + d) ≤ j)
def trL (m : zM) (b : Nat) (N : Int → Int) : Prop := 0 ≤ N 0 ∧ N 0 ≤ 80 ∧ iq m (b + 1) 2 = N 0 ∧ ∀ k, 0 ≤ k → k < N 0 → ww (lq m (b + 2) k) (N (1 + k)) ∧ kr (lq m (b + 3) k) (N (81 + k))
def trE (m : zM) (b : Nat) (N : Int → Int) : Prop := 0 ≤ N 161 ∧ N 161 ≤ 8 ∧ iq m (b + 4) 2 = N 161 ∧ ∀ k, 0 ≤ k → k < N 161 → ww (lq m (b + 5) k) (N (162 + k)) ∧ ww0 (lq m (b + 6) k) (N (170 + k))
def trS (m : zM) (b : Nat) (N : Int → Int) : Prop := 0 ≤ N 178 ∧ N 178 ≤ 40 ∧ iq m b 8 = N 178 ∧ 0 ≤ iq m (b + 7) 2 ∧ iq m (b + 7) 2 ≤ N 178 ∧ ∀ c r, ww c r → SL (lq m (b + 8)) (lq m (b + 9)) (iq m (b + 7) 2).toNat N (N 178).toNat c r
def trD (C : Int) (m : zM) (b : Nat) (N : Int → Int) : Prop := 0 ≤ N 259 ∧ N 259 ≤ 8 ∧ iq m b 9 = N 259 ∧ N 260 = 0 ∧ (∀ d, 0 ≤ d → d < N 259 → N (260 + d) ≤ N (261 + d) ∧ iq m (b + 13) d = N (261 + d)) ∧ N (260 + N 259) ≤ 240 ∧ iq m (b + 10) 2 = N (260 + N 259) ∧
  (∀ k, 0 ≤ k → k < N (260 + N 259) → ww (lq m (b + 11) k) (N (269 + k)) ∧ 0 ≤ iq m (b + 12) k ∧ iq m (b + 12) k ≤ C ∧ 0 ≤ N (669 + k) ∧ N (669 + k) ≤ 600) ∧ (∀ i j, 0 ≤ i → i ≤ j → j < N (260 + N 259) → iq m (b + 12) i ≤ iq m (b + 12) j ∧ (iq m (b + 12) i = iq m (b + 12) j ↔ N (669 + i) = N (669 + j) ∧ sd N i j))
def trG (m : zM) (b : Nat) (N : Int → Int) : Prop := 0 ≤ N 1069 ∧ N 1069 ≤ 240 ∧ iq m (b + 14) 2 = N 1069 ∧ (∀ k, 0 ≤ k → k < N 1069 → ww (lq m (b + 15) k) (N (1070 + k)) ∧ iq m (b + 16) k = N (1470 + k) ∧ 0 ≤ N (1470 + k) ∧ N (1470 + k) ≤ 600) ∧ ∀ i j, 0 ≤ i → i ≤ j → j < N 1069 → N (1470 + i) ≤ N (1470 + j)
def trP (m : zM) (b : Nat) (N : Int → Int) : Prop := 0 ≤ N 1870 ∧ N 1870 ≤ 12 ∧ iq m (b + 17) 2 = N 1870 ∧ iq m (b + 17) 3 = N 1895 ∧ iq m (b + 17) 4 = N 1896 ∧ 0 ≤ N 1895 ∧ N 1895 < 4096 ∧ 0 ≤ N 1896 ∧ N 1896 < 4096 ∧ ∀ k, 0 ≤ k → k < N 1870 → pkr (iq m (b + 18) k) (N (1871 + k)) ∧ iq m (b + 19) k = N (1883 + k) ∧ 0 ≤ N (1883 + k) ∧ N (1883 + k) < 4096
def trW (m : zM) (b : Nat) (N : Int → Int) : Prop := (∀ k, 1 ≤ k → k ≤ 5 → iq m (b + 20) k = N (1900 + k) ∧ 0 ≤ N (1900 + k) ∧ N (1900 + k) ≤ 9) ∧ iq m b 10 = N 1898 ∧ iq m b 11 = N 1899 ∧ iq m b 12 = N 1900 ∧ 1 ≤ N 1898 ∧ N 1898 ≤ N 1899 ∧ N 1899 ≤ 5 ∧ 0 ≤ N 1900 ∧ N 1900 ≤ 3
def TR (C : Int) (m : zM) (b : Nat) (N : Int → Int) : Prop := trL m b N ∧ trE m b N ∧ trS m b N ∧ trD C m b N ∧ trG m b N ∧ trP m b N ∧ trW m b N
/-- the same is told -/
def TV (m : zM) (b : Nat) (m' : zM) (b' : Nat) : Prop :=
  (iq m' (b' + 1) 2 = iq m (b + 1) 2 ∧ ∀ k, 0 ≤ k → k < iq m (b + 1) 2 → lq m' (b' + 2) k = lq m (b + 2) k ∧ lq m' (b' + 3) k = lq m (b + 3) k) ∧
  (iq m' (b' + 4) 2 = iq m (b + 4) 2 ∧ ∀ k, 0 ≤ k → k < iq m (b + 4) 2 → lq m' (b' + 5) k = lq m (b + 5) k ∧ lq m' (b' + 6) k = lq m (b + 6) k) ∧
  (iq m' b' 8 = iq m b 8 ∧ iq m' (b' + 7) 2 = iq m (b + 7) 2 ∧ ∀ k, 0 ≤ k → k < iq m (b + 7) 2 → lq m' (b' + 8) k = lq m (b + 8) k ∧ lq m' (b' + 9) k = lq m (b + 9) k) ∧
  (iq m' b' 9 = iq m b 9 ∧ (∀ d, 0 ≤ d → d < 8 → iq m' (b' + 13) d = iq m (b + 13) d) ∧ iq m' (b' + 10) 2 = iq m (b + 10) 2 ∧ ∀ k, 0 ≤ k → k < iq m (b + 10) 2 → lq m' (b' + 11) k = lq m (b + 11) k ∧ iq m' (b' + 12) k = iq m (b + 12) k) ∧
  (iq m' (b' + 14) 2 = iq m (b + 14) 2 ∧ ∀ k, 0 ≤ k → k < iq m (b + 14) 2 → lq m' (b' + 15) k = lq m (b + 15) k ∧ iq m' (b' + 16) k = iq m (b + 16) k) ∧
  (iq m' (b' + 17) 2 = iq m (b + 17) 2 ∧ iq m' (b' + 17) 3 = iq m (b + 17) 3 ∧ iq m' (b' + 17) 4 = iq m (b + 17) 4 ∧ ∀ k, 0 ≤ k → k < iq m (b + 17) 2 → iq m' (b' + 18) k = iq m (b + 18) k ∧ iq m' (b' + 19) k = iq m (b + 19) k) ∧
  ((∀ k, 1 ≤ k → k ≤ 5 → iq m' (b' + 20) k = iq m (b + 20) k) ∧ iq m' b' 10 = iq m b 10 ∧ iq m' b' 11 = iq m b 11 ∧ iq m' b' 12 = iq m b 12)
theorem TR.view {C : Int} {m m' : zM} {b b' : Nat} {N : Int → Int} (h : TR C m b N) (v : TV m b m' b') : TR C m' b' N := by
  obtain ⟨⟨l1, l2, l3, l4⟩, ⟨e1, e2, e3, e4⟩, ⟨s1, s2, s3, s4, s5, s6⟩, ⟨d1, d2, d3, d4, d5, d6, d7, d8, d9⟩, ⟨g1, g2, g3, g4, g5⟩, ⟨p1, p2, p3, p4, p5, p6, p7, p8, p9, p10⟩, ⟨w1, w2, w3, w4, w5⟩⟩ := h
  obtain ⟨⟨vl1, vl2⟩, ⟨ve1, ve2⟩, ⟨vs1, vs2, vs3⟩, ⟨vd1, vd2, vd3, vd4⟩, ⟨vg1, vg2⟩, ⟨vp1, vp2, vp3, vp4⟩, ⟨vw1, vw2, vw3, vw4⟩⟩ := v
  refine ⟨⟨l1, l2, vl1.trans l3, fun k h0 h1 => ?_⟩, ⟨e1, e2, ve1.trans e3, fun k h0 h1 => ?_⟩, ⟨s1, s2, vs1.trans s3, by rw [vs2]; exact s4, by rw [vs2]; exact s5, fun c r hc => ?_⟩, ⟨d1, d2, vd1.trans d3, d4, fun d h0 h1 => ⟨(d5 d h0 h1).1, (vd2 d h0 (by omega)).trans (d5 d h0 h1).2⟩, d6, vd3.trans d7, fun k h0 h1 => ?_, fun i j h0 h1 h2 => ?_⟩, ⟨g1, g2, vg1.trans g3, fun k h0 h1 => ?_, g5⟩, ⟨p1, p2, vp1.trans p3, vp2.trans p4, vp3.trans p5, p6, p7, p8, p9, fun k h0 h1 => ?_⟩, ⟨fun k h0 h1 => ⟨(vw1 k h0 h1).trans (w1 k h0 h1).1, (w1 k h0 h1).2⟩, vw2.trans w2, vw3.trans w3, vw4.trans w4, w5⟩⟩
  · rw [(vl2 k h0 (by omega)).1, (vl2 k h0 (by omega)).2]; exact l4 k h0 h1
  · rw [(ve2 k h0 (by omega)).1, (ve2 k h0 (by omega)).2]; exact e4 k h0 h1
  · have := s6 c r hc
    unfold SL at this ⊢
    rw [vs2, fi_congr (g := lq m (b + 8)) _ (fun k h0 h1 => (vs3 k h0 (by omega)).1)]
    rcases this with q | ⟨q1, v, q2, q3, q4⟩
    · exact Or.inl q
    · refine Or.inr ⟨q1, v, q2, q3, ?_⟩
      have hb := fi_o (lq m (b + 8)) c (iq m (b + 7) 2).toNat
      rw [(vs3 _ q1 (by omega)).2]
      exact q4
  · rw [(vd4 k h0 (by omega)).1, (vd4 k h0 (by omega)).2]; exact d8 k h0 h1
  · rw [(vd4 i h0 (by omega)).2, (vd4 j (by omega) (by omega)).2]; exact d9 i j h0 h1 h2
  · rw [(vg2 k h0 (by omega)).1, (vg2 k h0 (by omega)).2]; exact g4 k h0 h1
  · rw [(vp4 k h0 (by omega)).1, (vp4 k h0 (by omega)).2]; exact p10 k h0 h1
theorem TR.row {C : Int} {m : zM} {b : Nat} {N N' : Int → Int} (h : TR C m b N) (e : ∀ k, 0 ≤ k → k < 1906 → N' k = N k) : TR C m b N' := by
  obtain ⟨⟨l1, l2, l3, l4⟩, ⟨e1, e2, e3, e4⟩, ⟨s1, s2, s3, s4, s5, s6⟩, ⟨d1, d2, d3, d4, d5, d6, d7, d8, d9⟩, ⟨g1, g2, g3, g4, g5⟩, ⟨p1, p2, p3, p4, p5, p6, p7, p8, p9, p10⟩, ⟨w1, w2, w3, w4, w5⟩⟩ := h
  have f0 := e 0 (by decide) (by decide)
  have f1 := e 161 (by decide) (by decide)
  have f2 := e 178 (by decide) (by decide)
  have f3 := e 259 (by decide) (by decide)
  have f4 := e 260 (by decide) (by decide)
  have f5 := e 1069 (by decide) (by decide)
  have f6 := e 1870 (by decide) (by decide)
  have f7 := e 1895 (by decide) (by decide)
  have f8 := e 1896 (by decide) (by decide)
  have f9 := e 1898 (by decide) (by decide)
  have f10 := e 1899 (by decide) (by decide)
  have f11 := e 1900 (by decide) (by decide)
  have fD : N' (260 + N 259) = N (260 + N 259) := e _ (by omega) (by omega)
  have sde : ∀ i j, sd N' i j ↔ sd N i j := by
    intro i j
    unfold sd
    rw [f3]
    constructor
    · intro q d h0 h1
      have := q d h0 h1
      rwa [e _ (by omega) (by omega)] at this
    · intro q d h0 h1
      rw [e _ (by omega) (by omega)]
      exact q d h0 h1
  refine ⟨⟨by omega, by omega, by omega, fun k h0 h1 => ?_⟩, ⟨by omega, by omega, by omega, fun k h0 h1 => ?_⟩, ⟨by omega, by omega, by omega, s4, by omega, fun c r hc => ?_⟩, ⟨by omega, by omega, by omega, by omega, fun d h0 h1 => ?_, by rw [f3, fD]; exact d6, by rw [f3, fD]; exact d7, fun k h0 h1 => ?_, fun i j h0 h1 h2 => ?_⟩, ⟨by omega, by omega, by omega, fun k h0 h1 => ?_, fun i j h0 h1 h2 => ?_⟩, ⟨by omega, by omega, by omega, by omega, by omega, by omega, by omega, by omega, by omega, fun k h0 h1 => ?_⟩, ⟨fun k h0 h1 => ?_, by omega, by omega, by omega, by omega, by omega, by omega, by omega, by omega⟩⟩
  · rw [e _ (by omega) (by omega), e (81 + k) (by omega) (by omega)]; exact l4 k h0 (by omega)
  · rw [e _ (by omega) (by omega), e (170 + k) (by omega) (by omega)]; exact e4 k h0 (by omega)
  · have := s6 c r hc
    unfold SL at this ⊢
    rw [f2, rs_congr (N := N') (N' := N) (r := r) _ (fun k h0 h1 => ⟨e _ (by omega) (by omega), e _ (by omega) (by omega)⟩)]
    exact this
  · rw [e _ (by omega) (by omega), e (261 + d) (by omega) (by omega)]; exact d5 d h0 (by omega)
  · rw [f3, fD] at h1
    rw [e _ (by omega) (by omega), e (669 + k) (by omega) (by omega)]; exact d8 k h0 h1
  · rw [f3, fD] at h2
    rw [e _ (by omega) (by omega), e (669 + j) (by omega) (by omega), sde]; exact d9 i j h0 h1 h2
  · rw [e _ (by omega) (by omega), e (1470 + k) (by omega) (by omega)]; exact g4 k h0 (by omega)
  · rw [e _ (by omega) (by omega), e (1470 + j) (by omega) (by omega)]; exact g5 i j h0 h1 (by omega)
  · rw [e _ (by omega) (by omega), e (1883 + k) (by omega) (by omega)]; exact p10 k h0 (by omega)
  · rw [e _ (by omega) (by omega)]; exact w1 k h0 h1
theorem TR.grow {C C' : Int} {m : zM} {b : Nat} {N : Int → Int} (h : TR C m b N) (hC : C ≤ C') : TR C' m b N := by
  obtain ⟨a1, a2, a3, ⟨d1, d2, d3, d4, d5, d6, d7, d8, d9⟩, a5⟩ := h
  refine ⟨a1, a2, a3, ⟨d1, d2, d3, d4, d5, d6, d7, fun k h0 h1 => ?_, d9⟩, a5⟩
  obtain ⟨q1, q2, q3, q4⟩ := d8 k h0 h1
  exact ⟨q1, q2, by omega, q4⟩
