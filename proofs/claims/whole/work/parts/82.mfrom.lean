/-! the class finds the matches -/
section MFR
variable {d : Nat} {w : Nat × Nat × Nat} {b : Nat} {C : Int} {N : Int → Int}
theorem DB.frm {S : List Nat} {m m' : zM} (h : DB m N) (f : fr S m m') (hs : ∀ c ∈ S8, c ∉ S) : DB m' N := by
  obtain ⟨a1, a2, a3, a4⟩ := h
  refine ⟨by rw [f.i (hs _ (by simp))]; exact a1, fun i i0 i1 => ?_, fun t t0 t1 => by rw [f.l (hs _ (by simp))]; exact a3 t t0 t1, fun i i0 i1 => by rw [f.i (hs _ (by simp))]; exact a4 i i0 i1⟩
  rw [f.l (hs 221 (by simp)), f.i (hs 222 (by simp)), f.i (hs 223 (by simp)), f.i (hs 224 (by simp))]
  exact a2 i i0 i1
/-- what the matches write -/
abbrev S5 : List Nat := [228, 231, 232, 235, 236]
theorem S5_8 : ∀ c ∈ S8, c ∉ S5 := by decide
theorem S5_b : ∀ c ∈ S5, 220 ≤ c := by intro c hc; simp at hc; omega
theorem MA.more {m : zM} {s k n : Int} (h : MA N m s (6 * k + n)) (hs : ∀ j, n ≤ j → ¬ mt N k j) (h0 : 0 ≤ n) (hb : ∀ k n, mt N k n → 1 ≤ n ∧ n ≤ 5) : ∀ (j : Nat), n + j ≤ 7 → MA N m s (6 * k + n + j) := by
  intro j
  induction j with
  | zero => intro _; rw [show 6 * k + n + ((0 : Nat) : Int) = 6 * k + n by omega]; exact h
  | succ j ih =>
    intro hj
    have := (ih (by omega)).no (fun ⟨k', n', hm, e⟩ => by
      have := hb _ _ hm
      by_cases q : k' = k
      · rw [q] at hm
        exact hs n' (by omega) hm
      · omega)
    rw [show 6 * k + n + ((j + 1 : Nat) : Int) = 6 * k + n + j + 1 by omega]
    exact this
theorem c_from_l {Q : zM → Prop} {m0 : zM} {k : Int} (hb : zT b) (hN : TR C m0 b N) (hB : DB m0 N) (hk : 0 ≤ k ∧ k < wW N) (H : ∀ m s, fr S5 m0 m → MA N m s (6 * (k + 1) + 1) → s ≤ 5 * (k + 1) → Q m) :
    ∀ (j : Nat) (n : Int) (set : Nat) (s : Int) (m : zM), 0 ≤ n → n + j = 6 → n ≤ 5 → fr S5 m0 m → MA N m s (6 * k + (n + 1)) → s ≤ 5 * k + n → sOK N k n → n ≤ N 1899 → (1 ≤ n → set = hr N k (n - 1).toNat) → set < 4096 → W_Matches_addFrom_8 (d + 4) b (J k) (JL (pk N k n)) (JL (pf N k n)) (J (set : Int)) (J n) w m Q := by
  have hbb := zT_b hb
  obtain ⟨w1, w2, w3, w4⟩ := hN.words
  have hW7 := hN.2.2.2.2.2.2
  have b1 := hW7.2.2.2.2.1
  have b2 := hW7.2.2.2.2.2.1
  have b3 := hW7.2.2.2.2.2.2.1
  have hmtb : ∀ k n, mt N k n → 1 ≤ n ∧ n ≤ 5 := fun k n h => by have := mt_b hN h; omega
  intro j
  induction j with
  | zero => intro n set s m h0 hj h5; omega
  | succ j ih =>
    intro n set s m h0 hj h5 f hA hs hok hMo hset hset2
    have hNm := hN.frm f hb S5_b
    have hBm := hB.frm f S5_8
    have e10 := hNm.2.2.2.2.2.2.2.1
    have e11 := hNm.2.2.2.2.2.2.2.2.1
    have stop : (∀ j, n + 1 ≤ j → ¬ mt N k j) → Q m := fun g => by
      have := hA.more g (by omega) hmtb (6 - n).toNat (by omega)
      rw [show 6 * k + (n + 1) + (((6 - n).toNat : Nat) : Int) = 6 * (k + 1) + 1 by omega] at this
      exact H m s f this (by omega)
    refine S_Matches_addFrom_8 hb ?_
    simp (disch := first | (unfold r32; omega) | omega) only [j_lit, J_le, j_rd, j_nc, e11, j_ops]
    refine ⟨fun q => stop (fun i hi z => ?_), fun q => ⟨fun q2 => stop (fun i hi z => ?_), fun q2 => ?_⟩⟩
    · have := z.2.2.1; omega
    · have := hmtb _ _ z; omega
    refine c_one1 (d := d + 3) hb hNm (by unfold r32; omega) (by unfold r32; omega) (by omega) (fun z0 z1 z2 => ?_) (fun z => ?_)
    · have hok1 : sOK N k (n + 1) := ⟨hk.1, by omega, fun i i0 i1 => by
        by_cases e : i = n
        · rw [e]; exact z2
        · exact hok.2.2 i i0 (by omega)⟩
      simp (disch := first | (unfold r32; omega) | omega) only [J_eq]
      refine ⟨fun _ => c_at (n := 240) rfl (by decide) (by unfold r32; omega) (by omega) ?_, fun y => by omega⟩
      obtain ⟨d1, d2, d3, d4⟩ := hBm.2.1 (k + n) (by omega) z1
      have k7 : kd N (k + n) ≠ 7 := by
        have hw' := hN.words.2.2.2 (k + n) (by omega) z1
        intro e
        unfold kd kdR at e
        split at e
        · have := (hN.1.2.2.2 _ ‹_› (by
            have := fi_r (f := fun j => N (1 + j)) (x := N (269 + (k + n))) hN.1.1
            omega)).2
          have := kr_r this
          omega
        · split at e
          · have := (hN.1.2.2.2 _ ‹_› (by
              have := fi_r (f := fun j => N (1 + j)) (x := bsR N (N (269 + (k + n)))) hN.1.1
              omega)).2
            have := kr_r this
            omega
          · omega
      have kr' := iq_r m 222 (k + n)
      -- with its set the word is put down
      have next : W_Matches_addFrom_43 (d + 4) b (J k) (JL (pk N k n)) (JL (pf N k n)) (J n) (J (k + n)) (J ((hr N k n.toNat : Nat) : Int)) w m Q := by
        have hh := hN.2.2.2.2.2.1.hr k n.toNat
        have ok1 := okd_id hN (k := k) (n := n + 1) hk.1 (by omega)
        have okf := okd_f hN (k := k) (n := n + 1) hk.1 (by omega)
        have o1 := pk_or ok1 h0 (by omega)
        have o2 := pk_or okf h0 (by omega)
        have pb1 := pkf_bd ok1
        have pb2 := pkf_bd okf
        have hi1 := ok1 n h0 (by omega)
        have hi2 := okf n h0 (by omega)
        refine S_Matches_addFrom_43 hb (c_at (n := 240) rfl (by decide) (by unfold r32; omega) (by omega) ?_)
        rw [d3]
        refine c_cell ⟨by omega, by omega⟩ ⟨h0, by omega⟩ (c_at (n := 240) rfl (by decide) (by unfold r32; omega) (by omega) ?_)
        rw [d4]
        refine c_cell ⟨by omega, by omega⟩ ⟨h0, by omega⟩ ?_
        have o1' : JL (pk N k n) ||| JL ((idb N (k + n) + 1) * 256 ^ (4 - n.toNat)) = JL (pk N k (n + 1)) := o1
        have o2' : JL (pf N k n) ||| JL ((fid N (k + n) + 1) * 256 ^ (4 - n.toNat)) = JL (pf N k (n + 1)) := o2
        rw [o1', o2']
        have set1 : 1 ≤ n + 1 → hr N k n.toNat = hr N k (n + 1 - 1).toNat := fun _ => by rw [show n + 1 - 1 = n by omega]
        have goOn : ∀ m' s', fr S5 m m' → MA N m' s' (6 * k + (n + 1) + 1) → s' ≤ 5 * k + (n + 1) → W_Matches_addFrom_8 (d + 4) b (J k) (JL (pk N k (n + 1))) (JL (pf N k (n + 1))) (J ((hr N k n.toNat : Nat) : Int)) (J (n + 1)) w m' Q := by
          intro m' s' f' hA' hs'
          by_cases h6 : n + 1 ≤ 5
          · exact ih (n + 1) (hr N k n.toNat) s' m' (by omega) (by omega) h6 (f.tr f') (by rw [← Int.add_assoc (6 * k) (n + 1) 1]; exact hA') hs' hok1 (by omega) set1 hh
          · omega
        simp (disch := first | (unfold r32; omega) | omega) only [j_lit, J_lt, j_rd, j_nc, e10, j_ops]
        refine ⟨fun y => goOn m s (fr.rf _ m) (hA.no (fun ⟨k', n', hm, e⟩ => ?_)) (by omega), fun y => c_endsWith hb hNm.2.2.2.2.2.1 hh ?_⟩
        · have := hmtb _ _ hm
          have e1 : k' = k := by omega
          have e2 : n' = n + 1 := by omega
          rw [e1, e2] at hm
          have := hm.2.1
          omega
        · by_cases he : hr N k n.toNat &&& (N 1896).toNat = 0
          · rw [if_pos he]
            refine ⟨fun _ => goOn m s (fr.rf _ m) (hA.no (fun ⟨k', n', hm, e⟩ => ?_)) (by omega), fun z => absurd rfl z⟩
            have := hmtb _ _ hm
            have e1 : k' = k := by omega
            have e2 : n' = n + 1 := by omega
            rw [e1, e2] at hm
            have := hm.2.2.2.2
            rw [show n + 1 - 1 = n by omega] at this
            exact this he
          · rw [if_neg he]
            have hmt : mt N k (n + 1) := ⟨by omega, by omega, by omega, hok1, by rw [show n + 1 - 1 = n by omega]; exact he⟩
            refine ⟨fun z => absurd z (by decide), fun _ => c_madd (d := d + 3) (by omega) hA hmt (by omega) (by unfold pk r64; omega) (by unfold pf r64; omega) (fun m' f' hA' => goOn m' (s + 1) f' hA' (by omega))⟩
      refine ⟨fun y => ?_, fun y => ?_⟩
      · have e := hset (by omega)
        refine c_goOn (d := d + 2) hb hNm.2.2.2.2.2.1 hset2 d2 k7 kr' ?_
        rw [e]
        have e2 : tk N (fw N (hr N k (n - 1).toNat)) (kd N (k + n)) = hr N k n.toNat := by
          have := hr_s N k (n - 1).toNat
          rw [show (n - 1).toNat + 1 = n.toNat by omega, show (((n - 1).toNat : Nat) : Int) + 1 = n by omega] at this
          exact this.symm
        rw [e2]
        exact next
      · refine c_startBy (d := d + 2) hb hNm.2.2.2.2.2.1 d2 k7 kr' ?_
        have e2 : tk N (N 1895).toNat (kd N (k + n)) = hr N k n.toNat := by rw [y, Int.add_zero]; rfl
        rw [e2]
        exact next
    · refine ⟨fun y => absurd rfl y, fun _ => stop (fun i hi g => z ⟨hk.1, ?_, ?_⟩)⟩
      · have := (mt_b hN g).2.2.2.1; omega
      · exact g.2.2.2.1.2.2 n h0 (by omega)
theorem c_from {Q : zM → Prop} {m : zM} {k s : Int} (hb : zT b) (hN : TR C m b N) (hB : DB m N) (hk : 0 ≤ k ∧ k < wW N) (hA : MA N m s (6 * k + 1)) (hs : s ≤ 5 * k) (H : ∀ m' s', fr S5 m m' → MA N m' s' (6 * (k + 1) + 1) → s' ≤ 5 * (k + 1) → Q m') : cV (d + 5) 11 [.ref 228, .ref b, .ref 220, .int (J k)] w m Q := by
  obtain ⟨w1, w2, w3, w4⟩ := hN.words
  have hW7 := hN.2.2.2.2.2.2
  have b1 := hW7.2.2.2.2.1
  have b2 := hW7.2.2.2.2.2.1
  refine S_Matches_addFrom ?_
  simp only [j_lit, jl_lit]
  have := c_from_l (d := d) (w := w) (Q := Q) hb hN hB hk H 6 0 0 s m (by omega) (by omega) (by omega) (fr.rf _ m) (by rw [Int.zero_add]; exact hA) (by omega) ⟨hk.1, by omega, fun j _ _ => by omega⟩ (by omega) (fun z => by omega) (by decide)
  have e1 : pk N k 0 = 0 := pkf_0 _ _
  have e2 : pf N k 0 = 0 := pkf_0 _ _
  rw [e1, e2] at this
  exact this
/-- the matches are all there -/
def MF (N : Int → Int) (m : zM) : Prop := iq m 228 8 = Mn N ∧ ∀ i, 0 ≤ i → i < Mn N → iq m 231 i = mk N i ∧ iq m 232 i = ml N i ∧ lq m 235 i = pkm N i ∧ lq m 236 i = pfm N i
theorem MA.fin {m : zM} {s : Int} (hN : ∃ C m b, TR C m b N) (h : MA N m s (6 * wW N + 1)) : MF N m := by
  obtain ⟨C, mv, b, hN⟩ := hN
  obtain ⟨a1, a2, a3, a4⟩ := h
  have e : enm (fun i => 6 * iq m 231 i + iq m 232 i) s (KS N) := a2.ext (fun x => ⟨fun g => g.1, fun g => ⟨g, by
    obtain ⟨k, n, hm, e⟩ := g
    have := mt_b hN hm
    omega⟩⟩)
  have u := mkl_u hN e (fun i i0 i1 => by have := mt_b hN (a4 i i0 i1).1; omega)
  refine ⟨by rw [a1]; exact u.1, fun i i0 i1 => ?_⟩
  obtain ⟨u1, u2⟩ := u.2 i i0 (by omega)
  obtain ⟨c1, c2, c3⟩ := a4 i i0 (by omega)
  rw [u1, u2] at c2 c3
  exact ⟨u1, u2, c2, c3⟩
theorem c_mbuild {Q : zM → Prop} {m0 : zM} (hb : zT b) (hN : TR C m0 b N) (hB : DB m0 N) (H : ∀ m, fr S5 m0 m → MF N m → cV (d + 6) 13 [.ref 228] w m (fun m1 => cV (d + 6) 31 [.ref 228, .int (m1.1 228 8)] w m1 (fun m2 => Q m2))) :
    ∀ (j : Nat) (k s : Int) (m : zM), 0 ≤ k → k + j = wW N → fr S5 m0 m → MA N m s (6 * k + 1) → s ≤ 5 * k → W_Matches_build_5 (d + 6) b (J k) w m Q := by
  obtain ⟨w1, w2, w3, w4⟩ := hN.words
  intro j
  induction j with
  | zero =>
    intro k s m hk hj f hA hs
    have e2 := (hN.frm f hb S5_b).words.1
    refine S_Matches_build_5 hb ?_
    simp (disch := first | (unfold r32; omega) | omega) only [j_lit, J_le, j_rd, j_nc, e2]
    rw [show k = wW N by omega] at hA
    have := H m f (hA.fin ⟨C, m0, b, hN⟩)
    simp only [j_rd, j_nc] at this
    exact ⟨fun _ => this, fun q => by omega⟩
  | succ j ih =>
    intro k s m hk hj f hA hs
    have hNm := hN.frm f hb S5_b
    have e2 := hNm.words.1
    refine S_Matches_build_5 hb ?_
    simp (disch := first | (unfold r32; omega) | omega) only [j_lit, J_le, j_rd, j_nc, e2, j_ops]
    refine ⟨fun q => by omega, fun _ => c_from (d := d + 1) hb hNm (hB.frm f S5_8) ⟨hk, by omega⟩ hA hs (fun m' s' f' hA' hs' => ih (k + 1) s' m' (by omega) (by omega) (f.tr f') hA' hs')⟩
end MFR
