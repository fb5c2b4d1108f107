/-! what is told, by its parts; a change kept by both -/
section PA
variable {C C' : Int} {m m' : zM} {b b' : Nat} {N N' : Int → Int}
/-- rows b + i .. b + j are the same -/
def sr (m m' : zM) (b i j : Nat) : Prop := ∀ c, b + i ≤ c → c ≤ b + j → m'.1 c = m.1 c ∧ m'.2 c = m.2 c
theorem sr.i {i j : Nat} (h : sr m m' b i j) {c : Nat} (h1 : b + i ≤ c) (h2 : c ≤ b + j) (z : Int) : iq m' c z = iq m c z := by unfold iq; rw [(h c h1 h2).1]
theorem sr.l {i j : Nat} (h : sr m m' b i j) {c : Nat} (h1 : b + i ≤ c) (h2 : c ≤ b + j) (z : Int) : lq m' c z = lq m c z := by unfold lq; rw [(h c h1 h2).2]
theorem trL_c (h : trL m b N) (s : sr m m' b 1 3) (e : ∀ k, 0 ≤ k → k < 161 → N' k = N k) : trL m' b N' := by
  obtain ⟨l1, l2, l3, l4⟩ := h
  have f0 := e 0 (by decide) (by decide)
  refine ⟨by omega, by omega, by rw [s.i (by omega) (by omega)]; omega, fun k h0 h1 => ?_⟩
  rw [s.l (by omega) (by omega), s.l (by omega) (by omega), e _ (by omega) (by omega), e (81 + k) (by omega) (by omega)]
  exact l4 k h0 (by omega)
theorem trE_c (h : trE m b N) (s : sr m m' b 4 6) (e : ∀ k, 161 ≤ k → k < 178 → N' k = N k) : trE m' b N' := by
  obtain ⟨l1, l2, l3, l4⟩ := h
  have f0 := e 161 (by decide) (by decide)
  refine ⟨by omega, by omega, by rw [s.i (by omega) (by omega)]; omega, fun k h0 h1 => ?_⟩
  rw [s.l (by omega) (by omega), s.l (by omega) (by omega), e _ (by omega) (by omega), e (170 + k) (by omega) (by omega)]
  exact l4 k h0 (by omega)
theorem trS_c (h : trS m b N) (s : sr m m' b 7 9) (s8 : iq m' b 8 = iq m b 8) (e : ∀ k, 178 ≤ k → k < 259 → N' k = N k) : trS m' b N' := by
  obtain ⟨s1, s2, s3, s4, s5, s6⟩ := h
  have f0 := e 178 (by decide) (by decide)
  refine ⟨by omega, by omega, by omega, by rw [s.i (by omega) (by omega)]; exact s4, by rw [s.i (by omega) (by omega)]; omega, fun c r hc => ?_⟩
  have := s6 c r hc
  unfold SL at this ⊢
  rw [s.i (by omega) (by omega), f0, rs_congr (N := N') (N' := N) (r := r) _ (fun k h0 h1 => ⟨e _ (by omega) (by omega), e _ (by omega) (by omega)⟩), fi_congr (f := lq m' (b + 8)) (g := lq m (b + 8)) _ (fun k _ _ => s.l (by omega) (by omega) k), s.l (c := b + 9) (by omega) (by omega)]
  exact this
theorem trD_c (h : trD C m b N) (hC : C ≤ C') (s : sr m m' b 10 13) (s9 : iq m' b 9 = iq m b 9) (e : ∀ k, 259 ≤ k → k < 1069 → N' k = N k) : trD C' m' b N' := by
  obtain ⟨d1, d2, d3, d4, d5, d6, d7, d8, d9⟩ := h
  have f3 := e 259 (by decide) (by decide)
  have f4 := e 260 (by decide) (by decide)
  have fD : N' (260 + N 259) = N (260 + N 259) := e _ (by omega) (by omega)
  have sde : ∀ i j, sd N' i j ↔ sd N i j := by
    intro i j
    unfold sd
    rw [f3]
    constructor
    · intro q d h0 h1
      have := q d h0 h1
      rwa [e _ (by omega) (by omega)] at this
    · intro q d h0 h1
      rw [e _ (by omega) (by omega)]
      exact q d h0 h1
  refine ⟨by omega, by omega, by omega, by omega, fun d h0 h1 => ?_, by rw [f3, fD]; exact d6, by rw [f3, fD, s.i (by omega) (by omega)]; exact d7, fun k h0 h1 => ?_, fun i j h0 h1 h2 => ?_⟩
  · rw [e _ (by omega) (by omega), e (261 + d) (by omega) (by omega), s.i (by omega) (by omega)]; exact d5 d h0 (by omega)
  · rw [f3, fD] at h1
    rw [e _ (by omega) (by omega), e (669 + k) (by omega) (by omega), s.l (by omega) (by omega), s.i (by omega) (by omega)]
    obtain ⟨q1, q2, q3, q4⟩ := d8 k h0 h1
    exact ⟨q1, q2, by omega, q4⟩
  · rw [f3, fD] at h2
    rw [e _ (by omega) (by omega), e (669 + j) (by omega) (by omega), sde, s.i (by omega) (by omega), s.i (by omega) (by omega)]; exact d9 i j h0 h1 h2
theorem trG_c (h : trG m b N) (s : sr m m' b 14 16) (e : ∀ k, 1069 ≤ k → k < 1870 → N' k = N k) : trG m' b N' := by
  obtain ⟨g1, g2, g3, g4, g5⟩ := h
  have f5 := e 1069 (by decide) (by decide)
  refine ⟨by omega, by omega, by rw [s.i (by omega) (by omega)]; omega, fun k h0 h1 => ?_, fun i j h0 h1 h2 => ?_⟩
  · rw [e _ (by omega) (by omega), e (1470 + k) (by omega) (by omega), s.l (by omega) (by omega), s.i (by omega) (by omega)]; exact g4 k h0 (by omega)
  · rw [e _ (by omega) (by omega), e (1470 + j) (by omega) (by omega)]; exact g5 i j h0 h1 (by omega)
theorem trP_c (h : trP m b N) (s : sr m m' b 17 19) (e : ∀ k, 1870 ≤ k → k < 1898 → N' k = N k) : trP m' b N' := by
  obtain ⟨p1, p2, p3, p4, p5, p6, p7, p8, p9, p10⟩ := h
  have f6 := e 1870 (by decide) (by decide)
  have f7 := e 1895 (by decide) (by decide)
  have f8 := e 1896 (by decide) (by decide)
  refine ⟨by omega, by omega, by rw [s.i (by omega) (by omega)]; omega, by rw [s.i (by omega) (by omega)]; omega, by rw [s.i (by omega) (by omega)]; omega, by omega, by omega, by omega, by omega, fun k h0 h1 => ?_⟩
  rw [e _ (by omega) (by omega), e (1883 + k) (by omega) (by omega), s.i (by omega) (by omega), s.i (by omega) (by omega)]; exact p10 k h0 (by omega)
theorem trW_c (h : trW m b N) (s : sr m m' b 20 20) (s10 : iq m' b 10 = iq m b 10) (s11 : iq m' b 11 = iq m b 11) (s12 : iq m' b 12 = iq m b 12) (e : ∀ k, 1898 ≤ k → k < 1906 → N' k = N k) : trW m' b N' := by
  obtain ⟨w1, w2, w3, w4, w5, w6, w7, w8, w9⟩ := h
  have f9 := e 1898 (by decide) (by decide)
  have f10 := e 1899 (by decide) (by decide)
  have f11 := e 1900 (by decide) (by decide)
  refine ⟨fun k h0 h1 => ?_, by omega, by omega, by omega, by omega, by omega, by omega, by omega, by omega⟩
  rw [e _ (by omega) (by omega), s.i (by omega) (by omega)]; exact w1 k h0 h1
/-- a change that both have kept -/
theorem RG.keep {w : Nat × Nat × Nat} {v : Int} {x : Nat} (h : RG C w m) (hC : C ≤ C') (hx : x = tb ((iq m 3 10 + 1) % 10)) (hv : v = if iq m 3 11 + 1 ≤ 8 then iq m 3 11 + 1 else 8) (e1 : iq m' 3 10 = (iq m 3 10 + 1) % 10) (e2 : iq m' 3 11 = v) (e3 : iq m' 261 2 = v)
    (hs : ∀ c, 9 ≤ c → c < 220 → c < x ∨ x + 21 ≤ c → m'.1 c = m.1 c ∧ m'.2 c = m.2 c) (p1 : ∀ y, 0 ≤ y → y < 1906 → lq m' 263 (1906 * (v - 1) + y) = lq m 262 y) (p2 : ∀ y, 0 ≤ y → y < 1906 * (v - 1) → lq m' 263 y = lq m 263 (y + 1906 * (iq m 3 11 + 1 - v))) (hT : TR C' m' x (lq m' 262)) : RG C' (w.1, x, x) m' := by
  obtain ⟨h1, h2, h3, h4, h5, h6, h7, h8⟩ := h
  have hv2 : (v = iq m 3 11 + 1 ∧ iq m 3 11 ≤ 7) ∨ (v = 8 ∧ iq m 3 11 = 8) := by
    rw [hv]
    split
    · exact Or.inl ⟨rfl, by omega⟩
    · exact Or.inr ⟨rfl, by omega⟩
  have ap : ∀ i, 0 ≤ i → i < 10 → i ≠ (iq m 3 10 + 1) % 10 → TV m (tb i) m' (tb i) := by
    intro i g0 g1 g2
    refine TV.rows (fun c g3 g4 => ?_)
    have b1 := tb_bd g0 g1
    refine hs c (by omega) (by omega) ?_
    have := tb_ap g0 g1 (j := (iq m 3 10 + 1) % 10) (by omega) (by omega) g2
    omega
  refine ⟨by omega, by omega, by omega, by omega, by omega, by rw [e1]; exact hx, hT, fun j g0 g1 => ?_⟩
  rw [e2] at g1 ⊢
  rw [e1]
  by_cases hj : j = 0
  · subst hj
    have e4 : ((iq m 3 10 + 1) % 10 - 1 - 0) % 10 = iq m 3 10 := by omega
    rw [e4]
    rw [h6] at h7
    refine ((h7.view (ap _ h1 h2 (by omega))).row (fun k k0 k1 => ?_)).grow hC
    show lq m' 263 (1906 * (v - 1 - 0) + k) = lq m 262 k
    rw [show v - 1 - 0 = v - 1 by omega]
    exact p1 k k0 k1
  · have e4 : ((iq m 3 10 + 1) % 10 - 1 - j) % 10 = (iq m 3 10 - 1 - (j - 1)) % 10 := by omega
    rw [e4]
    refine (((h8 (j - 1) (by omega) (by omega)).view (ap _ (by omega) (by omega) (by omega))).row (fun k k0 k1 => ?_)).grow hC
    show lq m' 263 (1906 * (v - 1 - j) + k) = lq m 263 (1906 * (iq m 3 11 - 1 - (j - 1)) + k)
    rw [p2 _ (by omega) (by omega)]
    congr 1
    omega
end PA
