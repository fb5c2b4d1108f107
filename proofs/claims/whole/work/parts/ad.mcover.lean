/-! cover: the reference, and both -/
section CVM
variable {d : Nat} {w : Nat × Nat × Nat} {C : Int} {N : Int → Int} {mv : zM} {b : Nat}
/-- what cover changes in the reference -/
def MC (m m' : zM) : Prop := fr [301, 302] m m'
theorem MC.dm {m m' : zM} {N : Int → Int} (f : MC m m') (h : DM m N) : DM m' N := h.mvd f (by intro c hc; simp at hc; omega) (fun z _ => fr.i f (by simp) z)
theorem IVN.mc {m m' : zM} (h : IVN C w m N) (f : MC m m') : IVN C w m' N :=
  h.gx f (by intro c hc; simp at hc; omega) (fun z _ _ _ => fr.i f (by simp) z) (fun _ g => g.frm f (by simp) (by simp))
/-- in a top term's match before x -/
def CVM (N o : Int → Int) (n x j : Int) : Prop := ∃ y, 0 ≤ y ∧ y < x ∧ (∃ r, 0 ≤ r ∧ r < n ∧ o r = tn N y) ∧ inM N y j
theorem c_cv100 {Q : Int32 → zM → Prop} {m : zM} {S : Int → Prop} (h : TR C mv b N) (hd : DM m N) (hS : ∀ j, 0 ≤ j → j < wW N → iq m 301 j = bi (S j)) (H : Q (J (cnt S (wW N).toNat)) m) : ∀ (z : Nat) (j : Int), 0 ≤ j → j + z = wW N → W_M_cover_100 d (J (cnt S j.toNat)) (J j) w m Q := by
  have hW := h.words
  have e21 := hd.1.1
  intro z
  induction z with
  | zero =>
    intro j j0 hz
    refine S_M_cover_100 ?_
    simp (disch := first | (unfold r32; omega) | omega) only [j_lit, J_le, j_rd, j_nc, e21]
    refine ⟨fun _ => ?_, fun q => by omega⟩
    rw [show j = wW N by omega]
    exact H
  | succ z ih =>
    intro j j0 hz
    have e01 := hS j j0 (by omega)
    have bb := bi_b (S j)
    refine S_M_cover_100 ?_
    simp (disch := first | (unfold r32; omega) | omega) only [j_lit, j_ops, J_le, vp_J, J_cl, iq_tn, j_rd, j_nc, e21, e01]
    refine ⟨fun q => by omega, fun _ => ⟨by omega, c_one01 (by omega) ?_⟩⟩
    have := ih (j + 1) (by omega) (by omega)
    rw [cnt_z _ j0] at this
    rw [j_ops.1]
    exact this
theorem c_cv68 {Q : Int32 → zM → Prop} {m0 : zM} {o : Int → Int} {n x : Int} (h : TR C mv b N) (hx : 0 ≤ x ∧ x < Mn N) (hd0 : DM m0 N) (hTop : ∀ t, 0 ≤ t → t < Zn N → iq m0 302 t = bi (∃ r, 0 ≤ r ∧ r < n ∧ o r = t)) (H : ∀ m, fr [301] m0 m → (∀ j, 0 ≤ j → j < wW N → iq m 301 j = bi (CVM N o n (x + 1) j)) → W_M_cover_62 d (J (x + 1)) w m Q) : ∀ (z : Nat) (k : Int) (m : zM), 0 ≤ k → k + z = ml N x → fr [301] m0 m → (∀ j, 0 ≤ j → j < wW N → iq m 301 j = bi (CVM N o n x j ∨ ((∃ r, 0 ≤ r ∧ r < n ∧ o r = tn N x) ∧ mk N x ≤ j ∧ j < mk N x + k))) → W_M_cover_68 d (J x) (J k) w m Q := by
  have hM := Mn_b h
  have hZ := Zn_b h
  have bd := mk_bd h hx.1 hx.2
  have tb := tn_in h hx.1 hx.2
  have stop : ∀ (m : zM) (S : Int → Prop), fr [301] m0 m → (∀ j, 0 ≤ j → j < wW N → iq m 301 j = bi (S j)) → (∀ j, S j ↔ CVM N o n (x + 1) j) → W_M_cover_62 d (J (x + 1)) w m Q := fun m S f hI e => H m f (fun j j0 j1 => by rw [hI j j0 j1]; exact bi_congr (e j))
  intro z
  induction z with
  | zero =>
    intro k m k0 hz f hI
    have f' : MC m0 m := f.mo (by simp)
    have hd := f'.dm hd0
    have e73 := (hd.2.1.2.2.1 x hx.1 hx.2).2
    refine S_M_cover_68 ?_
    simp (disch := first | (unfold r32; omega) | omega) only [j_lit, j_ops, J_le, vp_J, J_cl, iq_tn, j_rd, e73]
    refine ⟨by omega, fun _ => stop m _ f hI (fun j => ?_), fun q => by omega⟩
    constructor
    · intro y
      rcases y with ⟨y, y0, y1, y2⟩ | ⟨t, y1, y2⟩
      · exact ⟨y, y0, by omega, y2⟩
      · exact ⟨x, hx.1, by omega, t, y1, by omega⟩
    · intro ⟨y, y0, y1, y2, y3⟩
      by_cases q : y = x
      · rw [q] at y2 y3
        exact Or.inr ⟨y2, y3.1, by have := y3.2; omega⟩
      · exact Or.inl ⟨y, y0, by omega, y2, y3⟩
  | succ z ih =>
    intro k m k0 hz f hI
    have f' : MC m0 m := f.mo (by simp)
    have hd := f'.dm hd0
    obtain ⟨e72, e73⟩ := hd.2.1.2.2.1 x hx.1 hx.2
    have e74 := (hd.2.2.1.1 x hx.1 hx.2).1
    have e02 : iq m 302 (tn N x) = bi (∃ r, 0 ≤ r ∧ r < n ∧ o r = tn N x) := (f.i (by simp) _).trans (hTop _ tb.1 tb.2.1)
    have bb := bi_b (∃ r, 0 ≤ r ∧ r < n ∧ o r = tn N x)
    refine S_M_cover_68 ?_
    simp (disch := first | (unfold r32; omega) | omega) only [j_lit, j_ops, J_le, J_eq, vp_J, J_cl, iq_tn, sq_tn, j_wr, j_rd, e72, e73, e74, e02]
    refine ⟨by omega, fun q => by omega, fun _ => ⟨by omega, by omega, fun q => ?_, fun q => ⟨by omega, by omega, ?_⟩⟩⟩
    · have nt : ¬ ∃ r, 0 ≤ r ∧ r < n ∧ o r = tn N x := fun y => by rw [bi_1 y] at q; omega
      refine stop m _ f hI (fun j => ?_)
      constructor
      · intro y
        rcases y with ⟨y, y0, y1, y2⟩ | ⟨t, _⟩
        · exact ⟨y, y0, by omega, y2⟩
        · exact absurd t nt
      · intro ⟨y, y0, y1, y2, y3⟩
        by_cases q : y = x
        · rw [q] at y2; exact absurd y2 nt
        · exact Or.inl ⟨y, y0, by omega, y2, y3⟩
    · have yt : ∃ r, 0 ≤ r ∧ r < n ∧ o r = tn N x := by
        by_cases y : ∃ r, 0 ≤ r ∧ r < n ∧ o r = tn N x
        · exact y
        · rw [bi_0 y] at q; exact absurd rfl q
      refine ih (k + 1) _ (by omega) (by omega) (f.si (by simp) _ _) (fun j j0 j1 => ?_)
      by_cases g : j = mk N x + k
      · rw [g, iq_eq (by unfold r32; omega), bi_1 (Or.inr ⟨yt, by omega, by omega⟩)]
      · rw [iq_ne (Or.inr g) (by omega) j0, hI j j0 j1]
        refine bi_congr ⟨fun y => ?_, fun y => ?_⟩
        · rcases y with y | ⟨t, y1, y2⟩
          · exact Or.inl y
          · exact Or.inr ⟨t, y1, by omega⟩
        · rcases y with y | ⟨t, y1, y2⟩
          · exact Or.inl y
          · exact Or.inr ⟨t, y1, by omega⟩
theorem c_cv62 {Q : Int32 → zM → Prop} {m0 : zM} {o : Int → Int} {n : Int} (h : TR C mv b N) (hd0 : DM m0 N) (hTop : ∀ t, 0 ≤ t → t < Zn N → iq m0 302 t = bi (∃ r, 0 ≤ r ∧ r < n ∧ o r = t)) (H : ∀ m, fr [301] m0 m → Q (J (cnt (CVM N o n (Mn N)) (wW N).toNat)) m) : ∀ (z : Nat) (x : Int) (m : zM), 0 ≤ x → x + z = Mn N → fr [301] m0 m → (∀ j, 0 ≤ j → j < wW N → iq m 301 j = bi (CVM N o n x j)) → W_M_cover_62 d (J x) w m Q := by
  have hM := Mn_b h
  have hW := h.words
  intro z
  induction z with
  | zero =>
    intro x m x0 hz f hI
    have f' : MC m0 m := f.mo (by simp)
    have hd := f'.dm hd0
    have e26 := hd.2.1.1
    obtain rfl : x = Mn N := by omega
    refine S_M_cover_62 ?_
    simp (disch := first | (unfold r32; omega) | omega) only [j_lit, J_le, j_rd, j_nc, e26]
    refine ⟨fun _ => ?_, fun q => by omega⟩
    exact c_cv100 (S := CVM N o n (Mn N)) h hd hI (H m f) (wW N).toNat 0 (by omega) (by omega)
  | succ z ih =>
    intro x m x0 hz f hI
    have f' : MC m0 m := f.mo (by simp)
    have hd := f'.dm hd0
    have e26 := hd.2.1.1
    have bd := mk_bd h x0 (show x < Mn N by omega)
    refine S_M_cover_62 ?_
    simp (disch := first | (unfold r32; omega) | omega) only [j_lit, J_le, j_rd, j_nc, e26]
    refine ⟨fun q => by omega, fun _ => c_cv68 (m0 := m) h ⟨x0, by omega⟩ hd (fun t t0 t1 => (f.i (by simp) t).trans (hTop t t0 t1)) (fun m1 f1 h1 => ih (x + 1) m1 (by omega) (by omega) (f.tr f1) h1) (ml N x).toNat 0 m (by omega) (by omega) (fr.rf _ _) (fun j j0 j1 => ?_)⟩
    rw [hI j j0 j1]
    refine bi_congr ⟨Or.inl, fun y => ?_⟩
    rcases y with y | ⟨_, y1, y2⟩
    · exact y
    · omega
theorem c_M_cover {Q : Int32 → zM → Prop} {m : zM} {g n : Int} (rg : r32 g) (rn : r32 n) (hI : IVN C w m N) (H : ∀ m' v, IVN C w m' N → CVQ N g n v → Q (J v) m') : cI (d + 7) 282 [.ref 261, .int (J g), .int (J n)] w m Q := by
  refine S_M_cover (c_Llays (d := d + 1) hI (fun m1 hI1 _ hd1 _ => ?_))
  have hT := hI1.2.2.2.2.1
  have hM := Mn_b hT
  have hZ := Zn_b hT
  have hW := hT.words
  have e32 := hd1.2.1.2.1
  have no : ¬ (0 ≤ g ∧ g < 7 ∧ 0 ≤ n ∧ n ≤ Zn N) → Q (J (-1)) m1 := fun q => H m1 _ hI1 (by unfold CVQ; rw [if_neg q])
  refine c_M_isMeasure (d := d + 5) rg (fun hg => ?_) (fun hg => ?_)
  · simp (disch := first | exact rn | (unfold r32; omega) | omega) only [j_lit, jl_lit, j_ops, J_eq, j_rd, j_nc, e32, J_64]
    refine ⟨fun y => by omega, fun _ => c_isIn (r64_32 rn) (by unfold r64; omega) (by unfold r64; omega) ?_⟩
    by_cases hr : 0 ≤ n ∧ n ≤ Zn N
    · rw [if_pos hr]
      simp (disch := first | (unfold r32; omega) | omega) only [j_lit, j_ops, J_eq]
      refine ⟨fun _ => c_ranks (d := d) hg hI1 (fun m2 hI2 hd2 hS => ?_), fun y => by omega⟩
      -- the words, cleared
      have k49 : ∀ (z : Nat) (j : Int) (m3 : zM), MC m2 m3 → (∀ t, 0 ≤ t → t < Zn N → iq m3 302 t = bi (∃ r, 0 ≤ r ∧ r < n ∧ iq m2 292 r = t)) → 0 ≤ j → j + z = wW N → (∀ i, 0 ≤ i → i < j → iq m3 301 i = 0) → W_M_cover_49 (d + 6) (J j) w m3 Q := by
        intro z
        induction z with
        | zero =>
          intro j m3 f3 hTop j0 hz hI3
          have hd3 := f3.dm hd2
          have e21 := hd3.1.1
          refine S_M_cover_49 ?_
          simp (disch := first | (unfold r32; omega) | omega) only [j_lit, J_le, j_rd, j_nc, e21]
          refine ⟨fun _ => ?_, fun q => by omega⟩
          refine c_cv62 (m0 := m3) (o := iq m2 292) (n := n) hT hd3 hTop (fun m4 f4 => ?_) (Mn N).toNat 0 m3 (by omega) (by omega) (fr.rf _ _) (fun i i0 i1 => ?_)
          · refine H m4 _ (hI2.mc (fr.tr f3 (f4.mo (by simp)))) ?_
            unfold CVQ
            rw [if_pos (by omega)]
            refine ⟨_, hS, cnt_congr _ (fun i _ _ => ?_)⟩
            constructor
            · intro ⟨y, y0, y1, ⟨r, r0, r1, r2⟩, y3⟩
              exact ⟨r, r0, r1, y, y0, y1, by rw [r2]; exact (tn_in hT y0 y1).2.2.symm, y3⟩
            · intro ⟨r, r0, r1, y, y0, y1, y2, y3⟩
              have br := hS.2 r r0 (by omega)
              exact ⟨y, y0, y1, ⟨r, r0, r1, ((tn_is hT y0 y1 br.1 br.2).mpr y2).symm⟩, y3⟩
          · rw [hI3 i i0 (by omega), bi_0 (fun ⟨y, y0, y1, _⟩ => by omega)]
        | succ z ih =>
          intro j m3 f3 hTop j0 hz hI3
          have hd3 := f3.dm hd2
          have e21 := hd3.1.1
          refine S_M_cover_49 ?_
          simp (disch := first | (unfold r32; omega) | omega) only [j_lit, j_ops, J_le, vp_J, J_cl, sq_tn, j_wr, j_rd, j_nc, e21]
          refine ⟨fun q => by omega, fun _ => ⟨by omega, ih (j + 1) _ (f3.si (by simp) _ _) (fun t t0 t1 => ?_) (by omega) (by omega) (fun i i0 i1 => ?_)⟩⟩
          · rw [iq_ne (by omega) (by omega) t0]; exact hTop t t0 t1
          · by_cases y : i = j
            · rw [y, iq_eq (by unfold r32; omega)]
            · rw [iq_ne (Or.inr y) (by omega) i0]; exact hI3 i i0 (by omega)
      have k34 : ∀ (z : Nat) (r : Int) (m3 : zM), MC m2 m3 → 0 ≤ r → r + z = n → (∀ t, 0 ≤ t → t < Zn N → iq m3 302 t = bi (∃ r', 0 ≤ r' ∧ r' < r ∧ iq m2 292 r' = t)) → W_M_cover_34 (d + 6) (J n) (J r) w m3 Q := by
        intro z
        induction z with
        | zero =>
          intro r m3 f3 r0 hz hTop
          refine S_M_cover_34 ?_
          simp (disch := first | (unfold r32; omega) | omega) only [j_lit, J_le]
          refine ⟨fun _ => k49 (wW N).toNat 0 m3 f3 ?_ (by omega) (by omega) (fun i _ _ => by omega), fun q => by omega⟩
          rw [show n = r by omega]
          exact hTop
        | succ z ih =>
          intro r m3 f3 r0 hz hTop
          have e92 : iq m3 292 r = iq m2 292 r := fr.i f3 (by simp) r
          have bo := hS.2 r r0 (by omega)
          refine S_M_cover_34 ?_
          simp (disch := first | (unfold r32; omega) | omega) only [j_lit, j_ops, J_le, vp_J, J_cl, iq_tn, sq_tn, j_wr, j_rd, e92]
          refine ⟨fun q => by omega, fun _ => ⟨by omega, by omega, ih (r + 1) _ (f3.si (by simp) _ _) (by omega) (by omega) (fun t t0 t1 => ?_)⟩⟩
          by_cases y : t = iq m2 292 r
          · rw [y, iq_eq (by unfold r32; omega), bi_1 ⟨r, r0, by omega, rfl⟩]
          · rw [iq_ne (Or.inr y) (by omega) t0, hTop t t0 t1]
            refine bi_congr ⟨fun ⟨r', a0, a1, a2⟩ => ⟨r', a0, by omega, a2⟩, fun ⟨r', a0, a1, a2⟩ => ⟨r', a0, ?_, a2⟩⟩
            by_cases z : r' = r
            · rw [z] at a2; exact absurd a2.symm y
            · omega
      have k21 : ∀ (z : Nat) (t : Int) (m3 : zM), MC m2 m3 → 0 ≤ t → t + z = Zn N → (∀ s, 0 ≤ s → s < t → iq m3 302 s = 0) → W_M_cover_21 (d + 6) (J n) (J t) w m3 Q := by
        intro z
        induction z with
        | zero =>
          intro t m3 f3 t0 hz hI3
          have e32' := (f3.dm hd2).2.1.2.1
          refine S_M_cover_21 ?_
          simp (disch := first | (unfold r32; omega) | omega) only [j_lit, J_le, j_rd, j_nc, e32']
          refine ⟨fun _ => k34 n.toNat 0 m3 f3 (by omega) (by omega) (fun s s0 s1 => ?_), fun q => by omega⟩
          rw [hI3 s s0 (by omega), bi_0 (fun ⟨r', a0, a1, _⟩ => by omega)]
        | succ z ih =>
          intro t m3 f3 t0 hz hI3
          have e32' := (f3.dm hd2).2.1.2.1
          refine S_M_cover_21 ?_
          simp (disch := first | (unfold r32; omega) | omega) only [j_lit, j_ops, J_le, vp_J, J_cl, sq_tn, j_wr, j_rd, j_nc, e32']
          refine ⟨fun q => by omega, fun _ => ⟨by omega, ih (t + 1) _ (f3.si (by simp) _ _) (by omega) (by omega) (fun i i0 i1 => ?_)⟩⟩
          by_cases y : i = t
          · rw [y, iq_eq (by unfold r32; omega)]
          · rw [iq_ne (Or.inr y) (by omega) i0]; exact hI3 i i0 (by omega)
      exact k21 (Zn N).toNat 0 m2 (fr.rf _ _) (by omega) (by omega) (fun s _ _ => by omega)
    · rw [if_neg hr]
      simp (disch := first | (unfold r32; omega) | omega) only [j_lit, j_ops, J_eq]
      exact ⟨fun y => absurd trivial y, fun _ => no (by omega)⟩
  · simp (disch := first | (unfold r32; omega) | omega) only [j_lit, j_ops, J_eq]
    exact ⟨fun _ => no (by omega), fun y => absurd trivial y⟩
theorem p_cover {P : Int32 → Int32 → zM → Prop} {m : zM} {g n : Int} (rg : r32 g) (rn : r32 n) (hI : IV C w m) (H : ∀ v m', IV C w m' → P v v m') : cI (d + 9) 142 [.ref 3, .int (J g), .int (J n)] w m (fun x m1 => cI (d + 9) 282 [.ref 261, .int (J g), .int (J n)] w m1 (fun y m2 => P x y m2)) := by
  obtain ⟨N, hI⟩ := hI
  refine c_coverQ rg rn hI (fun m1 v hI1 hv => c_M_cover (d := d + 2) rg rn hI1 (fun m2 v' hI2 hv' => ?_))
  rw [hv'.uniq hI1.2.2.2.2.1 hv]
  exact H _ m2 ⟨N, hI2⟩
end CVM
