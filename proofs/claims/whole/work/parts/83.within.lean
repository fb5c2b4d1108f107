/-! which matches are within longer ones: the class -/
def wi (N : Int → Int) (k n : Int) : Prop := ∃ a l, mt N a l ∧ n < l ∧ a ≤ k ∧ k + n ≤ a + l
section WIT
variable {d : Nat} {w : Nat × Nat × Nat} {b : Nat} {C : Int} {N : Int → Int} {mv : zM}
theorem mk_lt (h : TR C mv b N) {i j : Int} (h0 : 0 ≤ i) (hij : i < j) (hj : j < Mn N) : 6 * mk N i + ml N i < 6 * mk N j + ml N j := by
  have e1 := (mkl h h0 (show i < Mn N by omega)).2
  have e2 := (mkl h (show 0 ≤ j by omega) hj).2
  have := (e_spec (KS_b h)).2.1 i j h0 hij hj
  omega
theorem mk_ex (h : TR C mv b N) {k n : Int} (hm : mt N k n) : ∃ i, 0 ≤ i ∧ i < Mn N ∧ mk N i = k ∧ ml N i = n := by
  obtain ⟨i, i0, i1, e⟩ := (e_spec (KS_b h)).2.2.2 (6 * k + n) ⟨k, n, hm, rfl⟩
  have hb := mt_b h hm
  refine ⟨i, i0, i1, ?_, ?_⟩
  · unfold mk; rw [e]; omega
  · unfold ml; rw [e]; omega
theorem mk_bd (h : TR C mv b N) {i : Int} (h0 : 0 ≤ i) (h1 : i < Mn N) : 0 ≤ mk N i ∧ 1 ≤ ml N i ∧ ml N i ≤ 5 ∧ mk N i + ml N i ≤ wW N ∧ wW N ≤ 240 := mt_b h (mkl h h0 h1).1
theorem Mn_b (h : TR C mv b N) : 0 ≤ Mn N ∧ Mn N ≤ 1200 := by
  refine ⟨eK_0 (KS_b h), ?_⟩
  have key : ∀ j : Nat, (j : Int) < Mn N → (j : Int) ≤ 5 * mk N j + ml N j - 1 := by
    intro j
    induction j with
    | zero => intro q; have := mk_bd h (show (0 : Int) ≤ ((0 : Nat) : Int) by omega) q; omega
    | succ j ih =>
      intro q
      have := ih (by omega)
      have l := mk_lt h (i := (j : Int)) (j := ((j + 1 : Nat) : Int)) (by omega) (by omega) q
      have b1 := mk_bd h (i := (j : Int)) (by omega) (by omega)
      have b2 := mk_bd h (i := ((j + 1 : Nat) : Int)) (by omega) q
      omega
  rcases Int.lt_or_le 0 (Mn N) with g | g
  · have := key (Mn N - 1).toNat (by omega)
    have b1 := mk_bd h (i := (((Mn N - 1).toNat : Nat) : Int)) (by omega) (by omega)
    omega
  · omega
theorem wi_iff (h : TR C mv b N) {m r : Int} (h0 : 0 ≤ m) (h1 : m < Mn N) (r1 : ∀ i, 0 ≤ i → i < m → mk N i < mk N m → mk N i + ml N i ≤ r) (r2 : r = 0 ∨ ∃ i, 0 ≤ i ∧ i < m ∧ mk N i < mk N m ∧ mk N i + ml N i = r) :
    wi N (mk N m) (ml N m) ↔ (m + 1 < Mn N ∧ mk N (m + 1) = mk N m) ∨ mk N m + ml N m ≤ r := by
  have hm := mk_bd h h0 h1
  constructor
  · intro ⟨a, l, hmt, hl, ha, hr⟩
    obtain ⟨i, i0, i1, e1, e2⟩ := mk_ex h hmt
    have hb := mt_b h hmt
    by_cases q : a = mk N m
    · have him : m < i := by
        rcases Int.lt_trichotomy i m with g | g | g
        · have := mk_lt h i0 g h1; omega
        · rw [g] at e2; omega
        · exact g
      have hb1 := mk_bd h (show 0 ≤ m + 1 by omega) (show m + 1 < Mn N by omega)
      have l1 := mk_lt h h0 (show m < m + 1 by omega) (show m + 1 < Mn N by omega)
      have l2 : 6 * mk N (m + 1) + ml N (m + 1) ≤ 6 * mk N i + ml N i := by
        by_cases g : i = m + 1
        · rw [g]; omega
        · have := mk_lt h (show 0 ≤ m + 1 by omega) (show m + 1 < i by omega) i1; omega
      exact Or.inl ⟨by omega, by omega⟩
    · have him : i < m := by
        rcases Int.lt_trichotomy i m with g | g | g
        · exact g
        · rw [g] at e1; omega
        · have := mk_lt h h0 g i1; omega
      have := r1 i i0 him (by omega)
      exact Or.inr (by omega)
  · intro g
    rcases g with ⟨g1, g2⟩ | g
    · have l1 := mk_lt h h0 (show m < m + 1 by omega) g1
      exact ⟨mk N (m + 1), ml N (m + 1), (mkl h (by omega) g1).1, by omega, by omega, by omega⟩
    · rcases r2 with r2 | ⟨i, i0, i1, e1, e2⟩
      · omega
      · exact ⟨mk N i, ml N i, (mkl h i0 (by omega)).1, by omega, by omega, by omega⟩
def MWp (N : Int → Int) (m : zM) (z : Int) : Prop := ∀ i, 0 ≤ i → i < z → iq m 234 i = bi (wi N (mk N i) (ml N i))
theorem MF.frm {S : List Nat} {m m' : zM} (h : MF N m) (f : fr S m m') (h1 : 228 ∉ S) (h2 : 231 ∉ S) (h3 : 232 ∉ S) (h4 : 235 ∉ S) (h5 : 236 ∉ S) : MF N m' :=
  ⟨by rw [f.i h1]; exact h.1, fun i i0 i1 => by rw [f.i h2, f.i h3, f.l h4, f.l h5]; exact h.2 i i0 i1⟩
theorem c_max {Q : Int32 → zM → Prop} {m : zM} {a b : Int} (ha : r32 a) (hb : r32 b) (H : Q (J (if a < b then b else a)) m) : cI d 291 [.int (J a), .int (J b)] w m Q := by
  refine S_JM_max ?_
  simp (disch := first | exact ha | exact hb) only [J_lt]
  refine ⟨fun q => ?_, fun q => ?_⟩
  · rw [if_pos q] at H; exact H
  · rw [if_neg q] at H; exact H
theorem c_within_l {Q : zM → Prop} {m0 : zM} (hV : TR C mv b N) (hM : Mn N ≤ 1200) (hF : MF N m0) (H : ∀ m, fr [234] m0 m → MWp N m (Mn N) → Q m) :
    ∀ (j : Nat) (z r h : Int) (m : zM), 0 ≤ z → z + j = Mn N → fr [234] m0 m → MWp N m z → 0 ≤ r ∧ r ≤ 240 → (z = 0 → r = 0) → (0 < z → h = mk N (z - 1) + ml N (z - 1) ∧ (∀ i, 0 ≤ i → i < z → mk N i < mk N (z - 1) → mk N i + ml N i ≤ r) ∧ (r = 0 ∨ ∃ i, 0 ≤ i ∧ i < z ∧ mk N i < mk N (z - 1) ∧ mk N i + ml N i = r)) → W_Matches_markWithin_6 d (J r) (J h) (J z) w m Q := by
  intro j
  induction j with
  | zero =>
    intro z r h m hz hj f hI hr hr0 hI2
    have e8 : iq m 228 8 = Mn N := (f.i (by simp) 8).trans hF.1
    refine S_Matches_markWithin_6 ?_
    simp (disch := first | (unfold r32; omega) | omega) only [j_lit, J_le, j_rd, j_nc, e8]
    rw [show z = Mn N by omega] at hI
    exact ⟨fun _ => H m f hI, fun q => by omega⟩
  | succ j ih =>
    intro z r h m hz hj f hI hr hr0 hI2
    have hFm := hF.frm f (by simp) (by simp) (by simp) (by simp) (by simp)
    have e8 := hFm.1
    obtain ⟨f1, f2, _, _⟩ := hFm.2 z hz (by omega)
    have hzb := mk_bd hV hz (show z < Mn N by omega)
    -- with the reach of all earlier first words
    have go : ∀ r', 0 ≤ r' ∧ r' ≤ 240 → (∀ i, 0 ≤ i → i < z → mk N i < mk N z → mk N i + ml N i ≤ r') → (r' = 0 ∨ ∃ i, 0 ≤ i ∧ i < z ∧ mk N i < mk N z ∧ mk N i + ml N i = r') → W_Matches_markWithin_27 d (J r') (J z) w m Q := by
      intro r' hr' q1 q2
      have hw := wi_iff hV hz (by omega) q1 q2
      have put : ∀ v, v = bi (wi N (mk N z) (ml N z)) → W_Matches_markWithin_69 d (J r') (J (mk N z + ml N z)) (J z) (J z) (J v) w m Q := by
        intro v hv
        have hvb := bi_b (wi N (mk N z) (ml N z))
        refine S_Matches_markWithin_69 (c_put (n := 1200) rfl (by decide) (by unfold r32; omega) (by omega) ?_)
        simp only [j_lit, j_ops]
        refine ih (z + 1) r' _ _ (by omega) (by omega) (f.si (by simp) _ _) (fun i i0 i1 => ?_) hr' (fun q => by omega) (fun _ => ?_)
        · by_cases e : i = z
          · rw [e, iq_eq (by unfold r32; omega), hv]
          · rw [iq_ne (Or.inr e) (by omega) i0]
            exact hI i i0 (by omega)
        · rw [show z + 1 - 1 = z by omega]
          refine ⟨rfl, fun i i0 i1 i2 => ?_, ?_⟩
          · by_cases e : i = z
            · rw [e] at i2; omega
            · exact q1 i i0 (by omega) i2
          · rcases q2 with q2 | ⟨i, i0, i1, i2, i3⟩
            · exact Or.inl q2
            · exact Or.inr ⟨i, i0, by omega, i2, i3⟩
      have s57 : ∀ v, (v = 1 → (z + 1 < Mn N ∧ mk N (z + 1) = mk N z)) → (v = 0 → ¬ (z + 1 < Mn N ∧ mk N (z + 1) = mk N z)) → (v = 0 ∨ v = 1) → W_Matches_markWithin_57 d (J r') (J (mk N z + ml N z)) (J z) (J v) w m Q := by
        intro v v1 v0 v01
        refine S_Matches_markWithin_57 ?_
        simp (disch := first | (unfold r32; omega) | omega) only [j_lit, J_eq, J_lt]
        refine ⟨fun q => put 1 (bi_1 (hw.mpr (Or.inl (v1 (by omega))))).symm, fun q => ⟨fun q5 => put 0 (bi_0 (fun g => ?_)).symm, fun q5 => put 1 (bi_1 (hw.mpr (Or.inr (by omega)))).symm⟩⟩
        rcases hw.mp g with g | g
        · exact v0 q g
        · omega
      refine S_Matches_markWithin_27 (c_at (n := 1200) rfl (by decide) (by unfold r32; omega) (by omega) (c_at (n := 1200) rfl (by decide) (by unfold r32; omega) (by omega) ?_))
      simp (disch := first | (unfold r32; omega) | omega) only [j_lit, J_le, j_rd, j_nc, e8, f1, f2, j_ops]
      refine ⟨fun q => s57 0 (fun y => by omega) (fun _ y => by omega) (Or.inl rfl), fun q => ?_⟩
      have f3 := (hFm.2 (z + 1) (by omega) (by omega)).1
      have hb1 := mk_bd hV (show 0 ≤ z + 1 by omega) (show z + 1 < Mn N by omega)
      refine c_at (n := 1200) rfl (by decide) (by unfold r32; omega) (by omega) (c_at (n := 1200) rfl (by decide) (by unfold r32; omega) (by omega) ?_)
      rw [f1, f3]
      simp (disch := first | (unfold r32; omega) | omega) only [J_eq]
      exact ⟨fun y => s57 0 (fun y => by omega) (fun _ g => y g.2) (Or.inl rfl), fun y => s57 1 (fun _ => ⟨by omega, y⟩) (fun y => by omega) (Or.inr rfl)⟩
    refine S_Matches_markWithin_6 ?_
    simp (disch := first | (unfold r32; omega) | omega) only [j_lit, J_le, j_rd, j_nc, e8, j_ops]
    refine ⟨fun q => by omega, fun _ => ⟨fun q => go r hr (fun i i0 i1 => by omega) (Or.inl (hr0 (by omega))), fun q => ?_⟩⟩
    obtain ⟨hh, g1, g2⟩ := hI2 (by omega)
    have f3 := (hFm.2 (z - 1) (by omega) (by omega)).1
    have hzb1 := mk_bd hV (show 0 ≤ z - 1 by omega) (show z - 1 < Mn N by omega)
    have hlt := mk_lt hV (show 0 ≤ z - 1 by omega) (show z - 1 < z by omega) (show z < Mn N by omega)
    refine c_at (n := 1200) rfl (by decide) (by unfold r32; omega) (by omega) (c_at (n := 1200) rfl (by decide) (by unfold r32; omega) (by omega) ?_)
    rw [f1, f3]
    simp (disch := first | (unfold r32; omega) | omega) only [J_eq]
    refine ⟨fun y => go r hr (by rw [y]; exact g1) (by rw [y]; exact g2), fun y => c_max (by unfold r32; omega) (by unfold r32; omega) ?_⟩
    have cover : ∀ i, 0 ≤ i → i < z → mk N i < mk N z → mk N i + ml N i ≤ r ∨ mk N i + ml N i ≤ h := fun i i0 i1 i2 => by
      by_cases e : mk N i < mk N (z - 1)
      · exact Or.inl (g1 i i0 i1 e)
      · right
        by_cases e2 : i = z - 1
        · rw [e2]; omega
        · have := mk_lt hV i0 (show i < z - 1 by omega) (show z - 1 < Mn N by omega)
          have := mk_bd hV i0 (show i < Mn N by omega)
          omega
    by_cases e : r < h
    · rw [if_pos e]
      refine go h (by omega) (fun i i0 i1 i2 => by have := cover i i0 i1 i2; omega) (Or.inr ⟨z - 1, by omega, by omega, by omega, by omega⟩)
    · rw [if_neg e]
      refine go r hr (fun i i0 i1 i2 => by have := cover i i0 i1 i2; omega) ?_
      rcases g2 with g2 | ⟨i, i0, i1, i2, i3⟩
      · exact Or.inl g2
      · exact Or.inr ⟨i, i0, i1, by omega, i3⟩
theorem c_within {Q : zM → Prop} {m : zM} (hV : TR C mv b N) (hM : Mn N ≤ 1200) (hF : MF N m) (H : ∀ m', fr [234] m m' → MWp N m' (Mn N) → Q m') : cV (d + 1) 13 [.ref 228] w m Q := by
  refine S_Matches_markWithin ?_
  simp only [j_lit]
  exact c_within_l hV hM hF H (Mn N).toNat 0 0 0 m (by omega) (by have := eK_0 (KS_b hV); unfold Mn at *; omega) (fr.rf _ _) (fun i _ _ => by omega) (by omega) (fun _ => rfl) (fun q => by omega)
end WIT
