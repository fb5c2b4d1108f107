/-! the forms of a term: the reference -/
theorem pos_ex {u : Int → Int} {x : Int} : ∀ k : Nat, (∀ i j, 0 ≤ i → i < j → j < (k : Int) → u i < u j) → (∀ i, 0 ≤ i → i < (k : Int) → u i ≠ x) → ∃ p, 0 ≤ p ∧ p ≤ (k : Int) ∧ (∀ i, 0 ≤ i → i < p → u i < x) ∧ ∀ i, p ≤ i → i < (k : Int) → x < u i := by
  intro k
  induction k with
  | zero => intro _ _; exact ⟨0, by omega, by omega, fun i _ _ => by omega, fun i _ _ => by omega⟩
  | succ k ih =>
    intro hI hN
    by_cases g : u k < x
    · refine ⟨(k : Int) + 1, by omega, by omega, fun i i0 i1 => ?_, fun i i0 i1 => by omega⟩
      by_cases q : i = k
      · rw [q]; exact g
      · have := hI i k i0 (by omega) (by omega); omega
    · obtain ⟨p, p0, p1, p2, p3⟩ := ih (fun i j a c e => hI i j a c (by omega)) (fun i a c => hN i a (by omega))
      refine ⟨p, p0, by omega, p2, fun i i0 i1 => ?_⟩
      by_cases q : i = k
      · rw [q]; have := hN k (by omega) (by omega); omega
      · exact p3 i i0 (by omega)
theorem enm_add {u : Int → Int} {k x : Int} {S : Int → Prop} (h : enm u k S) (hx : ¬ S x) : ∃ u', enm u' (k + 1) (fun y => S y ∨ y = x) := by
  obtain ⟨a0, a1, a2, a3⟩ := id h
  have ek : ((k.toNat : Nat) : Int) = k := by omega
  obtain ⟨p, p0, p1, p2, p3⟩ := pos_ex (u := u) (x := x) k.toNat (fun i j i0 i1 i2 => a1 i j i0 i1 (by omega)) (fun i i0 i1 e => hx (by rw [← e]; exact a2 i i0 (by omega)))
  exact ⟨fun i => if i < p then u i else if i = p then x else u (i - 1), h.ins ⟨p0, by omega⟩ p2 (fun i i0 i1 => p3 i i0 (by omega)) (fun i _ _ => rfl)⟩
section FRM
variable {d : Nat} {w : Nat × Nat × Nat} {C : Int} {N : Int → Int} {mv : zM} {b : Nat}
theorem fid_wr (h : TR C mv b N) {i j : Int} (i0 : 0 ≤ i) (i1 : i < wW N) (j0 : 0 ≤ j) (j1 : j < wW N) : (fid N i = fid N j ↔ wr N i = wr N j) ∧ (fid N i < fid N j ↔ wr N i < wr N j) :=
  ⟨ei_inj (FO_b h) ⟨i, i0, i1, rfl⟩ ⟨j, j0, j1, rfl⟩, ei_lt (FO_b h) ⟨i, i0, i1, rfl⟩ ⟨j, j0, j1, rfl⟩⟩
theorem pfm_iff (h : TR C mv b N) {i o : Int} (hi : 0 ≤ i ∧ i < Mn N) (ho : 0 ≤ o ∧ o < Mn N) (e : ml N i = ml N o) : pfm N i = pfm N o ↔ ∀ x, 0 ≤ x → x < ml N i → wr N (mk N i + x) = wr N (mk N o + x) := by
  have b1 := mk_bd h hi.1 hi.2
  have b2 := mk_bd h ho.1 ho.2
  have k := pkf_inj (okd_f h (k := mk N i) (n := ml N i) b1.1 b1.2.2.2.1) (okd_f h (k := mk N o) (n := ml N o) b2.1 b2.2.2.2.1) (by omega) (by omega) b1.2.2.1 b2.2.2.1
  refine k.trans ⟨fun ⟨_, q⟩ x x0 x1 => ?_, fun q => ⟨e, fun x x0 x1 => ?_⟩⟩
  · exact (fid_wr h (by omega) (by omega) (by omega) (by omega)).1.mp (q x x0 x1)
  · exact (fid_wr h (by omega) (by omega) (by omega) (by omega)).1.mpr (q x x0 x1)
theorem pfm_lt (h : TR C mv b N) {i o x : Int} (hi : 0 ≤ i ∧ i < Mn N) (ho : 0 ≤ o ∧ o < Mn N) (e : ml N i = ml N o) (x0 : 0 ≤ x) (x1 : x < ml N i) (hq : ∀ y, 0 ≤ y → y < x → wr N (mk N i + y) = wr N (mk N o + y)) (hl : wr N (mk N i + x) < wr N (mk N o + x)) : pfm N i < pfm N o := by
  have b1 := mk_bd h hi.1 hi.2
  have b2 := mk_bd h ho.1 ho.2
  refine pkf_lt1 (okd_f h (k := mk N i) (n := ml N i) b1.1 b1.2.2.2.1) (okd_f h (k := mk N o) (n := ml N o) b2.1 b2.2.2.2.1) x0 x1 (by omega) b1.2.2.1 b2.2.2.1 (fun y y0 y1 => ?_) ?_
  · exact (fid_wr h (by omega) (by omega) (by omega) (by omega)).1.mpr (hq y y0 y1)
  · exact (fid_wr h (by omega) (by omega) (by omega) (by omega)).2.mpr hl
theorem wr_r (h : TR C mv b N) {i : Int} (i0 : 0 ≤ i) (i1 : i < wW N) : 0 ≤ N (269 + i) ∧ N (269 + i) < 205891132094649 := by
  have := ww_r (h.words.2.2.2 i i0 i1)
  unfold wr at this
  omega
theorem c_isForm {Q : Int32 → zM → Prop} {m0 : zM} {i o : Int} (h : TR C mv b N) (hR : rowM m0 N) (hM : MRF N m0) (hi : 0 ≤ i ∧ i < Mn N) (ho : 0 ≤ o ∧ o < Mn N) (e : ml N i = ml N o) (H1 : pfm N i = pfm N o → Q (J 1) m0) (H0 : pfm N i ≠ pfm N o → Q (J 0) m0) : cI d 271 [.ref 261, .int (J i), .int (J o)] w m0 Q := by
  have hMb := Mn_b h
  have b1 := mk_bd h hi.1 hi.2
  have b2 := mk_bd h ho.1 ho.2
  obtain ⟨f1, f2⟩ := hM.2.2.1 i hi.1 hi.2
  obtain ⟨f3, f4⟩ := hM.2.2.1 o ho.1 ho.2
  refine S_M_isForm ?_
  simp only [j_lit]
  have key : ∀ (z : Nat) (x : Int), 0 ≤ x → x + z = ml N i → (∀ y, 0 ≤ y → y < x → wr N (mk N i + y) = wr N (mk N o + y)) → W_M_isForm_2 d (J i) (J o) (J x) w m0 Q := by
    intro z
    induction z with
    | zero =>
      intro x x0 hz hy
      refine S_M_isForm_2 ?_
      simp (disch := first | (unfold r32; omega) | omega) only [j_lit, j_ops, vp_J, J_cl, iq_tn, j_rd, j_nc, f2, J_le]
      exact ⟨by omega, fun _ => H1 ((pfm_iff h hi ho e).mpr (fun y y0 y1 => hy y y0 (by omega))), fun q => by omega⟩
    | succ z ih =>
      intro x x0 hz hy
      have r1 := hR (269 + mk N i + x) (by omega) (by omega)
      have r2 := hR (269 + mk N o + x) (by omega) (by omega)
      have w1 := wr_r h (i := mk N i + x) (by omega) (by omega)
      have w2 := wr_r h (i := mk N o + x) (by omega) (by omega)
      rw [← Int.add_assoc] at w1 w2
      refine S_M_isForm_2 ?_
      simp (disch := first | (unfold r32; omega) | (unfold r64; omega) | omega) only [j_lit, j_ops, vp_J, J_cl, iq_tn, j_rd, j_nc, f1, f2, f3, J_le, jl_rd, lq_tn, r1, r2, JL_eq]
      refine ⟨by omega, fun q => by omega, fun _ => ⟨by omega, by omega, by omega, by omega, fun q => ?_, fun q => ?_⟩⟩
      · refine ih (x + 1) (by omega) (by omega) (fun y y0 y1 => ?_)
        by_cases g : y = x
        · rw [g]; unfold wr; rw [← Int.add_assoc, ← Int.add_assoc]; exact q
        · exact hy y y0 (by omega)
      · refine H0 (fun g => q ?_)
        have := (pfm_iff h hi ho e).mp g x x0 (by omega)
        unfold wr at this
        rw [← Int.add_assoc, ← Int.add_assoc] at this
        exact this
  exact key (ml N i).toNat 0 (by omega) (by omega) (fun y _ _ => by omega)
theorem c_isFormAhead {Q : Int32 → zM → Prop} {m0 : zM} {i o : Int} (h : TR C mv b N) (hR : rowM m0 N) (hM : MRF N m0) (hi : 0 ≤ i ∧ i < Mn N) (ho : 0 ≤ o ∧ o < Mn N) (e : ml N i = ml N o) (H1 : pfm N i < pfm N o → Q (J 1) m0) (H0 : pfm N o ≤ pfm N i → Q (J 0) m0) : cI d 272 [.ref 261, .int (J i), .int (J o)] w m0 Q := by
  have hMb := Mn_b h
  have b1 := mk_bd h hi.1 hi.2
  have b2 := mk_bd h ho.1 ho.2
  obtain ⟨f1, f2⟩ := hM.2.2.1 i hi.1 hi.2
  obtain ⟨f3, f4⟩ := hM.2.2.1 o ho.1 ho.2
  refine S_M_isFormAhead ?_
  simp only [j_lit]
  have key : ∀ (z : Nat) (x : Int), 0 ≤ x → x + z = ml N i → (∀ y, 0 ≤ y → y < x → wr N (mk N i + y) = wr N (mk N o + y)) → W_M_isFormAhead_2 d (J i) (J o) (J x) w m0 Q := by
    intro z
    induction z with
    | zero =>
      intro x x0 hz hy
      refine S_M_isFormAhead_2 ?_
      simp (disch := first | (unfold r32; omega) | omega) only [j_lit, j_ops, vp_J, J_cl, iq_tn, j_rd, j_nc, f2, J_le]
      refine ⟨by omega, fun _ => H0 ?_, fun q => by omega⟩
      have := (pfm_iff h hi ho e).mpr (fun y y0 y1 => hy y y0 (by omega))
      omega
    | succ z ih =>
      intro x x0 hz hy
      have r1 := hR (269 + mk N i + x) (by omega) (by omega)
      have r2 := hR (269 + mk N o + x) (by omega) (by omega)
      have w1 := wr_r h (i := mk N i + x) (by omega) (by omega)
      have w2 := wr_r h (i := mk N o + x) (by omega) (by omega)
      have a1 : wr N (mk N i + x) = N (269 + mk N i + x) := by unfold wr; rw [← Int.add_assoc]
      have a2 : wr N (mk N o + x) = N (269 + mk N o + x) := by unfold wr; rw [← Int.add_assoc]
      rw [← Int.add_assoc] at w1 w2
      refine S_M_isFormAhead_2 ?_
      simp (disch := first | (unfold r32; omega) | (unfold r64; omega) | omega) only [j_lit, jl_lit, j_ops, jl_ops, vp_J, J_cl, iq_tn, j_rd, j_nc, f1, f2, f3, J_le, jl_rd, lq_tn, r1, r2, JL_eq, JL_le]
      refine ⟨by omega, fun q => by omega, fun _ => ⟨by omega, by omega, by omega, by omega, fun q => ?_, fun q => ⟨fun q2 => H0 ?_, fun q2 => H1 ?_⟩⟩⟩
      · refine ih (x + 1) (by omega) (by omega) (fun y y0 y1 => ?_)
        by_cases g : y = x
        · rw [g, a1, a2]; omega
        · exact hy y y0 (by omega)
      · have := pfm_lt h ho hi e.symm x0 (by omega) (fun y y0 y1 => (hy y y0 y1).symm) (by rw [a1, a2]; omega)
        omega
      · exact pfm_lt h hi ho e x0 (by omega) hy (by rw [a1, a2]; omega)
  exact key (ml N i).toNat 0 (by omega) (by omega) (fun y _ _ => by omega)
/-- forms found among the matches before i -/
def FI (N : Int → Int) (m : zM) (t s i : Int) : Prop := 0 ≤ s ∧ s ≤ cnt (fun y => pkm N y = tr N t) i.toNat ∧ iq m 261 55 = s ∧ (∃ u, enm u s (fun x => ∃ y, 0 ≤ y ∧ y < i ∧ pkm N y = tr N t ∧ pfm N y = x)) ∧ (∀ j, 0 ≤ j → j < s → 0 ≤ iq m 295 j ∧ iq m 295 j < i ∧ pkm N (iq m 295 j) = tr N t ∧ iq m 296 j = cnt (fun y => pkm N y = tr N t ∧ pfm N y = pfm N (iq m 295 j)) i.toNat) ∧ (∀ j k, 0 ≤ j → j < k → k < s → pfm N (iq m 295 j) ≠ pfm N (iq m 295 k)) ∧ ∀ y, 0 ≤ y → y < i → pkm N y = tr N t → ∃ j, 0 ≤ j ∧ j < s ∧ pfm N (iq m 295 j) = pfm N y
/-- what looking for forms changes -/
def FF (m m' : zM) : Prop := fr [261, 295, 296] m m' ∧ (∀ z, 0 ≤ z → z ≠ 55 → z ≠ 56 → iq m' 261 z = iq m 261 z) ∧ m'.2 = m.2
theorem FI.skip {m : zM} {t s i : Int} (h : FI N m t s i) (i0 : 0 ≤ i) (hn : pkm N i ≠ tr N t) : FI N m t s (i + 1) := by
  obtain ⟨a0, a1, a2, ⟨u, a3⟩, a4, a5, a6⟩ := h
  refine ⟨a0, by rw [cnt_z _ i0, bi_0 hn]; omega, a2, ⟨u, a3.ext (fun x => ⟨fun ⟨y, y0, y1, y2, y3⟩ => ⟨y, y0, by omega, y2, y3⟩, fun ⟨y, y0, y1, y2, y3⟩ => ⟨y, y0, ?_, y2, y3⟩⟩)⟩, fun j j0 j1 => ?_, a5, fun y y0 y1 e => a6 y y0 ?_ e⟩
  · by_cases g : y = i
    · rw [g] at y2; exact absurd y2 hn
    · omega
  · obtain ⟨b0, b1, b2, b3⟩ := a4 j j0 j1
    refine ⟨b0, by omega, b2, ?_⟩
    rw [cnt_z _ i0, bi_0 (fun g => hn g.1)]
    omega
  · by_cases g : y = i
    · rw [g] at e; exact absurd e hn
    · omega
theorem FI.again {m m' : zM} {t s i k : Int} (h : FI N m t s i) (i0 : 0 ≤ i) (hi : pkm N i = tr N t) (k0 : 0 ≤ k) (k1 : k < s) (e : pfm N i = pfm N (iq m 295 k)) (e55 : iq m' 261 55 = iq m 261 55) (e95 : ∀ j, 0 ≤ j → iq m' 295 j = iq m 295 j) (e96 : ∀ j, 0 ≤ j → iq m' 296 j = if j = k then iq m 296 j + 1 else iq m 296 j) : FI N m' t s (i + 1) := by
  obtain ⟨a0, a1, a2, ⟨u, a3⟩, a4, a5, a6⟩ := h
  obtain ⟨c0, c1, c2, c3⟩ := a4 k k0 k1
  refine ⟨a0, by rw [cnt_z _ i0, bi_1 hi]; omega, e55.trans a2, ⟨u, a3.ext (fun x => ⟨fun ⟨y, y0, y1, y2, y3⟩ => ⟨y, y0, by omega, y2, y3⟩, fun ⟨y, y0, y1, y2, y3⟩ => ?_⟩)⟩, fun j j0 j1 => ?_, fun j l j0 jl l1 => by rw [e95 j j0, e95 l (by omega)]; exact a5 j l j0 jl l1, fun y y0 y1 q => ?_⟩
  · by_cases g : y = i
    · exact ⟨iq m 295 k, c0, c1, c2, by rw [← e, ← g]; exact y3⟩
    · exact ⟨y, y0, by omega, y2, y3⟩
  · obtain ⟨b0, b1, b2, b3⟩ := a4 j j0 j1
    rw [e95 j j0, e96 j j0]
    refine ⟨b0, by omega, b2, ?_⟩
    rw [cnt_z _ i0]
    by_cases g : j = k
    · rw [if_pos g, g, bi_1 ⟨hi, e⟩, ← c3]
    · rw [if_neg g, bi_0 (fun q => ?_), ← b3]
      · omega
      · have q2 := q.2.symm.trans e
        rcases Int.lt_or_gt_of_ne g with l | l
        · exact a5 j k j0 l k1 q2
        · exact a5 k j k0 l j1 q2.symm
  · by_cases g : y = i
    · exact ⟨k, k0, k1, by rw [e95 k k0, g, e]⟩
    · obtain ⟨j, j0, j1, j2⟩ := a6 y y0 (by omega) q
      exact ⟨j, j0, j1, by rw [e95 j j0]; exact j2⟩
theorem FI.more {m m' : zM} {t s i : Int} (h : FI N m t s i) (i0 : 0 ≤ i) (hi : pkm N i = tr N t) (hne : ∀ j, 0 ≤ j → j < s → pfm N i ≠ pfm N (iq m 295 j)) (e55 : iq m' 261 55 = s + 1) (e95 : ∀ j, 0 ≤ j → iq m' 295 j = if j = s then i else iq m 295 j) (e96 : ∀ j, 0 ≤ j → iq m' 296 j = if j = s then 1 else iq m 296 j) : FI N m' t (s + 1) (i + 1) := by
  obtain ⟨a0, a1, a2, ⟨u, a3⟩, a4, a5, a6⟩ := h
  have new : ∀ y, 0 ≤ y → y < i → pkm N y = tr N t → pfm N y ≠ pfm N i := fun y y0 y1 y2 q => by
    obtain ⟨j, j0, j1, j2⟩ := a6 y y0 y1 y2
    exact hne j j0 j1 (q.symm.trans j2.symm)
  obtain ⟨u', hu'⟩ := enm_add a3 (x := pfm N i) (fun ⟨y, y0, y1, y2, y3⟩ => new y y0 y1 y2 y3)
  refine ⟨by omega, by rw [cnt_z _ i0, bi_1 hi]; omega, e55, ⟨u', hu'.ext (fun x => ⟨fun q => ?_, fun ⟨y, y0, y1, y2, y3⟩ => ?_⟩)⟩, fun j j0 j1 => ?_, fun j l j0 jl l1 => ?_, fun y y0 y1 q => ?_⟩
  · rcases q with ⟨y, y0, y1, y2, y3⟩ | q
    · exact ⟨y, y0, by omega, y2, y3⟩
    · exact ⟨i, i0, by omega, hi, q.symm⟩
  · by_cases g : y = i
    · rw [g] at y3; exact Or.inr y3.symm
    · exact Or.inl ⟨y, y0, by omega, y2, y3⟩
  · rw [e95 j j0, e96 j j0, cnt_z _ i0]
    by_cases g : j = s
    · rw [if_pos g, if_pos g, bi_1 ⟨hi, rfl⟩]
      refine ⟨i0, by omega, hi, ?_⟩
      rw [cnt_no i.toNat (fun y y0 y1 q => new y y0 (by omega) q.1 q.2)]
      rfl
    · rw [if_neg g, if_neg g]
      obtain ⟨b0, b1, b2, b3⟩ := a4 j j0 (by omega)
      refine ⟨b0, by omega, b2, ?_⟩
      rw [bi_0 (fun q => hne j j0 (by omega) q.2), ← b3]
      omega
  · rw [e95 j j0, e95 l (by omega), if_neg (by omega : ¬ j = s)]
    by_cases g : l = s
    · rw [if_pos g]; exact fun q => hne j j0 (by omega) q.symm
    · rw [if_neg g]; exact a5 j l j0 jl (by omega)
  · by_cases g : y = i
    · exact ⟨s, a0, by omega, by rw [e95 s a0, if_pos rfl, g]⟩
    · obtain ⟨j, j0, j1, j2⟩ := a6 y y0 (by omega) q
      exact ⟨j, j0, by omega, by rw [e95 j j0, if_neg (by omega)]; exact j2⟩
end FRM
