/-! bases, kinds, numbers of the words: pure; and the class's -/
def wW (N : Int → Int) : Int := N (260 + N 259)
def wr (N : Int → Int) (i : Int) : Int := N (269 + i)
noncomputable def bs (N : Int → Int) (i : Int) : Int := bsR N (N (269 + i))
noncomputable def kd (N : Int → Int) (i : Int) : Int := kdR N (N (269 + i))
noncomputable def gb (N : Int → Int) (i : Int) : Int := bsR N (N (1070 + i))
def img (h : Int → Int) (n : Int) : Int → Prop := fun x => ∃ i, 0 ≤ i ∧ i < n ∧ h i = x
noncomputable def BS (N : Int → Int) : Int → Prop := img (bs N) (wW N)
def FO (N : Int → Int) : Int → Prop := img (wr N) (wW N)
noncomputable def idb (N : Int → Int) (i : Int) : Int := ei (BS N) (bs N i)
noncomputable def fid (N : Int → Int) (i : Int) : Int := ei (FO N) (wr N i)
noncomputable def gid (N : Int → Int) (i : Int) : Int := ei (BS N) (gb N i)
theorem ww_bnd {g h : Int → Int} {n : Int} (hw : ∀ i, 0 ≤ i → i < n → ww (g i) (h i)) : bnd (img h n) := ⟨205891132094649, fun x hx => by
  obtain ⟨i, a, b, c⟩ := hx
  have := ww_r (hw i a b)
  rw [← c]
  omega⟩
theorem ww_enm {f g h : Int → Int} {k n : Int} (he : enm f k (img g n)) (hw : ∀ i, 0 ≤ i → i < n → ww (g i) (h i)) : k = eK (img h n) ∧ (∀ t, 0 ≤ t → t < k → ww (f t) (eU (img h n) t)) ∧ ∀ i t, 0 ≤ i → i < n → 0 ≤ t → t < k → f t = g i → ei (img h n) (h i) = t := by
  have hb := ww_bnd hw
  have ex : ∀ t, 0 ≤ t → t < k → ∃ r, ww (f t) r ∧ img h n r := fun t t0 t1 => by
    obtain ⟨i, a, b, c⟩ := he.2.2.1 t t0 t1
    exact ⟨h i, by rw [← c]; exact hw i a b, i, a, b, rfl⟩
  have sp : ∀ t, 0 ≤ t → t < k → ww (f t) (Classical.epsilon (fun r => ww (f t) r ∧ img h n r)) ∧ img h n (Classical.epsilon (fun r => ww (f t) r ∧ img h n r)) := fun t t0 t1 => Classical.epsilon_spec (p := fun r => ww (f t) r ∧ img h n r) (ex t t0 t1)
  have hu : enm (fun t => Classical.epsilon (fun r => ww (f t) r ∧ img h n r)) k (img h n) := by
    refine ⟨he.1, fun i j a b c => ?_, fun i a b => (sp i a b).2, fun x hx => ?_⟩
    · exact (ww_cmp (sp i a (by omega)).1 (sp j (by omega) c).1).1.mp (he.2.1 i j a b c)
    · obtain ⟨i, a, b, c⟩ := hx
      obtain ⟨t, t0, t1, t2⟩ := he.2.2.2 (g i) ⟨i, a, b, rfl⟩
      refine ⟨t, t0, t1, ?_⟩
      rw [← c]
      exact (ww_cmp (sp t t0 t1).1 (hw i a b)).2.mp t2
  obtain ⟨e1, e2⟩ := e_uniq hb hu
  refine ⟨e1, fun t t0 t1 => by rw [← e2 t t0 t1]; exact (sp t t0 t1).1, fun i t a b t0 t1 e => ?_⟩
  refine ei_is hb t0 (by omega) ?_
  rw [← e2 t t0 t1]
  exact (ww_cmp (sp t t0 t1).1 (hw i a b)).2.mp e
theorem zT_b {b : Nat} (h : zT b) : 9 ≤ b ∧ b + 21 ≤ 220 := by rcases h with rfl | rfl | rfl | rfl | rfl | rfl | rfl | rfl | rfl | rfl <;> decide
theorem TR.frm {C : Int} {S : List Nat} {m m' : zM} {b : Nat} {N : Int → Int} (h : TR C m b N) (f : fr S m m') (hb : zT b) (hs : ∀ c ∈ S, 220 ≤ c) : TR C m' b N := by
  have := zT_b hb
  exact h.view (TV.rows (b := b) (m := m) (m' := m') (fun c a1 a2 => f c (fun q => by have := hs c q; omega)))
/-- what the class has of its words -/
def DB (m : zM) (N : Int → Int) : Prop := iq m 220 7 = eK (BS N) ∧ (∀ i, 0 ≤ i → i < wW N → ww (lq m 221 i) (bs N i) ∧ pkr (iq m 222 i) (kd N i) ∧ iq m 223 i = idb N i ∧ iq m 224 i = fid N i) ∧ (∀ t, 0 ≤ t → t < eK (BS N) → ww (lq m 226 t) (eU (BS N) t)) ∧ ∀ i, 0 ≤ i → i < N 1069 → iq m 225 i = gid N i
abbrev S8 : List Nat := [220, 221, 222, 223, 224, 225, 226, 227]
theorem S8_b : ∀ c ∈ S8, 220 ≤ c := by intro c hc; simp at hc; omega
section BB
variable {d : Nat} {w : Nat × Nat × Nat} {b : Nat} {C : Int} {N : Int → Int}
theorem c_insE {Q : Int32 → zM → Prop} {m : zM} {a n : Nat} {s x : Int} {S : Int → Prop} (ha : zAr w a 13 n) (hn : n < 100000) (hs : s < n) (he : enm (lq m a) s S) (hx : r64 x) (H : ∀ m' s', fr [a] m m' → m'.1 = m.1 → enm (lq m' a) s' (fun y => S y ∨ y = x) → s' ≤ s + 1 → Q (J s') m') : cI (d + 2) 164 [.ref a, .int (J s), .long (JL x)] w m Q := by
  refine c_insert ha hn ⟨he.1, hs⟩ he.2.1 hx (fun i i0 i1 e => H m s (fr.rf _ m) rfl (he.ext (fun y => ⟨fun q => Or.inl q, fun q => ?_⟩)) (by omega)) (fun m' p p0 p1 p2 p3 f e hI => H m' (s + 1) f e (he.ins ⟨p0, p1⟩ p2 p3 hI) (by omega))
  rcases q with q | q
  · exact q
  · rw [q, ← e]; exact he.2.2.1 i i0 i1
theorem TR.words {m : zM} (h : TR C m b N) : iq m (b + 10) 2 = wW N ∧ 0 ≤ wW N ∧ wW N ≤ 240 ∧ ∀ i, 0 ≤ i → i < wW N → ww (lq m (b + 11) i) (wr N i) := by
  obtain ⟨t1, t2, t3, t4, t5, t6, t7⟩ := h
  have := trD_r t4 (dc := N 259) t4.1 (Int.le_refl _)
  exact ⟨t4.2.2.2.2.2.2.1, this.1, this.2.2, fun i a c => (t4.2.2.2.2.2.2.2.1 i a c).1⟩
theorem TR.bs {m : zM} (h : TR C m b N) {i : Int} (h0 : 0 ≤ i) (h1 : i < wW N) : ∃ c, ww c (bs N i) := bsR_ww h (h.words.2.2.2 i h0 h1)
theorem BS_b {m : zM} (h : TR C m b N) : bnd (BS N) := ⟨205891132094649, fun x hx => by
  obtain ⟨i, i0, i1, e⟩ := hx
  obtain ⟨c, hc⟩ := h.bs i0 i1
  have := ww_r hc
  rw [← e]
  omega⟩
theorem FO_b {m : zM} (h : TR C m b N) : bnd (FO N) := ww_bnd h.words.2.2.2
theorem c_wordAt {Q : Int64 → zM → Prop} {m : zM} {z : Int} (hb : zT b) (h : 0 ≤ z ∧ z < 240) (H : Q (JL (lq m (b + 11) z)) m) : cL (d + 1) 57 [.ref (b + 10), .int (J z)] w m Q :=
  S_Prose_wordAt (zT_pr hb) (c_atl (zT_pr hb).2.2.2.1 (by decide) (by unfold r32; omega) (by omega) H)
theorem c_wordAtG {Q : Int64 → zM → Prop} {m : zM} {z : Int} (hb : zT b) (h : 0 ≤ z ∧ z < 240) (H : Q (JL (lq m (b + 15) z)) m) : cL (d + 1) 57 [.ref (b + 14), .int (J z)] w m Q :=
  S_Prose_wordAt (zT_ge hb) (c_atl (zT_ge hb).2.2.2.1 (by decide) (by unfold r32; omega) (by omega) H)
/-- how far the first loop is -/
def BI1 (m0 : zM) (b : Nat) (N : Int → Int) (m : zM) (z F : Int) : Prop := fr S8 m0 m ∧ (∀ i, 0 ≤ i → i < z → ww (lq m 221 i) (bs N i) ∧ pkr (iq m 222 i) (kd N i)) ∧ enm (lq m 226) (iq m 220 7) (img (lq m 221) z) ∧ iq m 220 7 ≤ z ∧ enm (lq m 227) F (img (lq m0 (b + 11)) z) ∧ F ≤ z
theorem img_s (h : Int → Int) {z : Int} (hz : 0 ≤ z) (x : Int) : img h (z + 1) x ↔ img h z x ∨ x = h z := by
  constructor
  · intro q
    obtain ⟨i, a, c, e⟩ := q
    by_cases g : i = z
    · rw [g] at e; exact Or.inr e.symm
    · exact Or.inl ⟨i, a, by omega, e⟩
  · intro q
    rcases q with ⟨i, a, c, e⟩ | q
    · exact ⟨i, a, by omega, e⟩
    · exact ⟨z, hz, by omega, q.symm⟩
theorem img_c {h g : Int → Int} {z : Int} (e : ∀ i, 0 ≤ i → i < z → h i = g i) (x : Int) : img h z x ↔ img g z x := by
  constructor
  · intro ⟨i, a, c, q⟩; exact ⟨i, a, c, by rw [← e i a c]; exact q⟩
  · intro ⟨i, a, c, q⟩; exact ⟨i, a, c, by rw [e i a c]; exact q⟩
theorem c_bb1 {Q : zM → Prop} {m0 : zM} (hb : zT b) (hN : TR C m0 b N) (H : ∀ m F, BI1 m0 b N m (wW N) F → W_Bases_build_52 (d + 5) b (J F) (J 0) w m Q) : ∀ (k : Nat) (z F : Int) (m : zM), 0 ≤ z → z + k = wW N → BI1 m0 b N m z F → W_Bases_build_7 (d + 5) b (J F) (J z) w m Q := by
  have hbb := zT_b hb
  obtain ⟨w1, w2, w3, w4⟩ := hN.words
  intro k
  induction k with
  | zero =>
    intro z F m hz hk hI
    have hNm := hN.frm hI.1 hb S8_b
    have e2 := hNm.words.1
    refine S_Bases_build_7 hb ?_
    simp (disch := first | (unfold r32; omega) | omega) only [j_lit, J_le, j_rd, j_nc, e2]
    rw [show z = wW N by omega] at hI ⊢
    exact ⟨fun _ => H m F hI, fun q => by omega⟩
  | succ k ih =>
    intro z F m hz hk hI
    obtain ⟨i1, i2, i3, i4, i5, i6⟩ := hI
    have hNm := hN.frm i1 hb S8_b
    have e2 := hNm.words.1
    have hww := hNm.words.2.2.2 z hz (by omega)
    have e11 : ∀ i, lq m (b + 11) i = lq m0 (b + 11) i := i1.l (by simp <;> omega)
    refine S_Bases_build_7 hb ?_
    simp (disch := first | (unfold r32; omega) | omega) only [j_lit, J_le, j_rd, j_nc, e2, j_ops]
    refine ⟨fun q => by omega, fun _ => c_wordAt hb ⟨hz, by omega⟩ (c_baseOf (d := d + 1) hb hNm hww (fun cb hcb => ?_))⟩
    refine c_putl (n := 240) rfl (by decide) (by unfold r32; omega) (by omega) ?_
    have g1 : fr S8 m0 (sl m 221 z cb) := i1.sll (by simp) _ _
    refine c_kindOf (d := d + 1) hb (hN.frm g1 hb S8_b) hww hcb (fun kc hkc hkr => ?_)
    refine c_put (n := 240) rfl (by decide) (by unfold r32; omega) (by omega) ?_
    have g2 : fr S8 m0 (sq (sl m 221 z cb) 222 z kc) := g1.si (by simp) _ _
    have hcbr := ww_r hcb
    have e7 : iq (sq (sl m 221 z cb) 222 z kc) 220 7 = iq m 220 7 := by rw [iq_ne (by omega) (by omega) (by omega)]; rfl
    have l221 : ∀ i, 0 ≤ i → lq (sq (sl m 221 z cb) 222 z kc) 221 i = if i = z then cb else lq m 221 i := fun i i0 => by
      show lq (sl m 221 z cb) 221 i = _
      by_cases q : i = z
      · rw [if_pos q, q, lq_eq (by unfold r64; omega)]
      · rw [if_neg q, lq_ne (Or.inr q) (by omega) i0]
    have k222 : ∀ i, 0 ≤ i → iq (sq (sl m 221 z cb) 222 z kc) 222 i = if i = z then kc else iq m 222 i := fun i i0 => by
      by_cases q : i = z
      · rw [if_pos q, q, iq_eq hkr]
      · rw [if_neg q, iq_ne (Or.inr q) (by omega) i0]; rfl
    have s226 : ∀ i, lq (sq (sl m 221 z cb) 222 z kc) 226 i = lq m 226 i := fun i => by
      show lq (sl m 221 z cb) 226 i = lq m 226 i
      exact ((fr.rf [221] m).sll (by simp) z cb).l (by simp) i
    have s227 : ∀ i, lq (sq (sl m 221 z cb) 222 z kc) 227 i = lq m 227 i := fun i => by
      show lq (sl m 221 z cb) 227 i = lq m 227 i
      exact ((fr.rf [221] m).sll (by simp) z cb).l (by simp) i
    have s11 : ∀ i, lq (sq (sl m 221 z cb) 222 z kc) (b + 11) i = lq m (b + 11) i := fun i => by
      show lq (sl m 221 z cb) (b + 11) i = lq m (b + 11) i
      exact ((fr.rf [221] m).sll (by simp) z cb).l (by simp <;> omega) i
    generalize sq (sl m 221 z cb) 222 z kc = m2 at *
    simp only [j_rd, j_nc, e7]
    have hE : enm (lq m2 226) (iq m 220 7) (img (lq m 221) z) := i3.fn (fun i _ _ => s226 i)
    refine c_insE (d := d + 3) (n := 240) rfl (by decide) (by omega) hE (by unfold r64; omega) (fun m3 B' f3 e3 hE3 hB => ?_)
    have hE3' := hE3.1
    have e3' : zI m3 220 7 (J B') = sq m3 220 7 B' := j_wr m3 220 7 B'
    rw [e3']
    have f4 : fr [220] m3 (sq m3 220 7 B') := (fr.rf _ m3).si (by simp) _ _
    have fE : enm (lq (sq m3 220 7 B') 227) F (img (lq m0 (b + 11)) z) := i5.fn (fun i _ _ => by
      rw [show lq (sq m3 220 7 B') 227 i = lq m3 227 i from rfl, f3.l (by simp), s227])
    have hwr := ww_r hww
    refine c_insE (d := d + 3) (n := 240) rfl (by decide) (by omega) fE (by unfold r64; omega) (fun m5 F' f5 e5 hE5 hF => ?_)
    have fr5 : fr S8 m0 m5 := ((g2.tr (f3.mo (by simp))).tr (f4.mo (by simp))).tr (f5.mo (by simp))
    have x221 : ∀ i, lq m5 221 i = lq m2 221 i := fun i => by rw [f5.l (by simp), show lq (sq m3 220 7 B') 221 i = lq m3 221 i from rfl, f3.l (by simp)]
    have x222 : ∀ i, iq m5 222 i = iq m2 222 i := fun i => by rw [f5.i (by simp), f4.i (by simp), f3.i (by simp)]
    have x226 : ∀ i, lq m5 226 i = lq m3 226 i := fun i => by rw [f5.l (by simp)]; rfl
    have x7 : iq m5 220 7 = B' := by rw [f5.i (by simp), iq_eq (by unfold r32; omega)]
    refine ih (z + 1) F' m5 (by omega) (by omega) ⟨fr5, fun i a0 a1 => ?_, ?_, by omega, ?_, by omega⟩
    · rw [x221, x222, l221 i a0, k222 i a0]
      by_cases q : i = z
      · rw [if_pos q, if_pos q, q]
        exact ⟨hcb, hkc⟩
      · rw [if_neg q, if_neg q]
        exact i2 i a0 (by omega)
    · rw [x7]
      refine (hE3.fn (fun i _ _ => x226 i)).ext (fun x => ?_)
      rw [img_s _ hz, x221, l221 z hz, if_pos rfl]
      have e : img (lq m 221) z x ↔ img (lq m5 221) z x := img_c (fun i a0 a1 => by rw [x221, l221 i a0, if_neg (by omega)]) x
      rw [e]
    · refine hE5.ext (fun x => ?_)
      rw [img_s _ hz, ← e11 z]
/-- the numbers -/
theorem c_bb2 {Q : zM → Prop} {m0 : zM} {F : Int} (hb : zT b) (hN : TR C m0 b N) (H : ∀ m, fr S8 m0 m → (∀ i, 0 ≤ i → i < wW N → ww (lq m 221 i) (bs N i) ∧ pkr (iq m 222 i) (kd N i) ∧ iq m 223 i = idb N i ∧ iq m 224 i = fid N i) → enm (lq m 226) (iq m 220 7) (img (lq m 221) (wW N)) → iq m 220 7 ≤ wW N → W_Bases_build_83 (d + 5) b (J 0) w m Q) :
    ∀ (k : Nat) (z : Int) (m : zM), 0 ≤ z → z + k = wW N → BI1 m0 b N m (wW N) F → (∀ i, 0 ≤ i → i < z → iq m 223 i = idb N i ∧ iq m 224 i = fid N i) → W_Bases_build_52 (d + 5) b (J F) (J z) w m Q := by
  have hbb := zT_b hb
  obtain ⟨w1, w2, w3, w4⟩ := hN.words
  intro k
  induction k with
  | zero =>
    intro z m hz hk hI hd
    obtain ⟨i1, i2, i3, i4, i5, i6⟩ := id hI
    have e2 := (hN.frm i1 hb S8_b).words.1
    refine S_Bases_build_52 hb ?_
    simp (disch := first | (unfold r32; omega) | omega) only [j_lit, J_le, j_rd, j_nc, e2]
    exact ⟨fun _ => H m i1 (fun i a0 a1 => ⟨(i2 i a0 a1).1, (i2 i a0 a1).2, hd i a0 (by omega)⟩) i3 i4, fun q => by omega⟩
  | succ k ih =>
    intro z m hz hk hI hd
    obtain ⟨i1, i2, i3, i4, i5, i6⟩ := id hI
    have hNm := hN.frm i1 hb S8_b
    have e2 := hNm.words.1
    have hww := hNm.words.2.2.2 z hz (by omega)
    have e11 : ∀ i, lq m (b + 11) i = lq m0 (b + 11) i := i1.l (by simp <;> omega)
    have hwb := (i2 z hz (by omega)).1
    have hwbr := ww_r hwb
    have hwr := ww_r hww
    obtain ⟨q1, q2, q3⟩ := ww_enm i3 (h := bs N) (fun i a0 a1 => (i2 i a0 a1).1)
    obtain ⟨p1, p2, p3⟩ := ww_enm i5 (h := wr N) w4
    refine S_Bases_build_52 hb ?_
    simp (disch := first | (unfold r32; omega) | omega) only [j_lit, J_le, j_rd, j_nc, e2, j_ops]
    refine ⟨fun q => by omega, fun _ => c_atl (n := 240) rfl (by decide) (by unfold r32; omega) (by omega) (S_Bases_idOf ?_)⟩
    simp only [j_rd, j_nc]
    refine c_exact (d := d + 2) (n := 240) rfl (by decide) ⟨i3.1, by omega⟩ i3.2.1 (by unfold r64; omega) (fun g => ?_) (fun t t0 t1 te => ?_)
    · obtain ⟨t, t0, t1, te⟩ := i3.2.2.2 _ ⟨z, hz, by omega, rfl⟩
      exact absurd te (g t t0 t1)
    have ht := q3 z t hz (by omega) t0 t1 te
    refine c_put (n := 240) rfl (by decide) (by unfold r32; omega) (by omega) (c_wordAt hb ⟨hz, by omega⟩ ?_)
    have s11 : lq (sq m 223 z t) (b + 11) z = lq m (b + 11) z := rfl
    rw [s11]
    have s27 : ∀ i, lq (sq m 223 z t) 227 i = lq m 227 i := fun _ => rfl
    refine c_exact (d := d + 3) (n := 240) rfl (by decide) ⟨i5.1, by omega⟩ i5.2.1 (by unfold r64; omega) (fun g => ?_) (fun u u0 u1 ue => ?_)
    · obtain ⟨t, t0, t1, te⟩ := i5.2.2.2 _ ⟨z, hz, by omega, rfl⟩
      rw [← e11] at te
      exact absurd te (g t t0 t1)
    have ue' : lq m 227 u = lq m0 (b + 11) z := by rw [← e11]; exact ue
    have hu := p3 z u hz (by omega) u0 u1 ue'
    refine c_put (n := 240) rfl (by decide) (by unfold r32; omega) (by omega) ?_
    have f2 : fr [223, 224] m (sq (sq m 223 z t) 224 z u) := ((fr.rf _ m).si (by simp) _ _).si (by simp) _ _
    refine ih (z + 1) _ (by omega) (by omega) ⟨i1.tr (f2.mo (by simp)), fun i a0 a1 => ?_, ?_, ?_, ?_, i6⟩ (fun i a0 a1 => ?_)
    · rw [f2.i (by simp)]
      exact i2 i a0 a1
    · rw [f2.i (by simp)]
      exact i3
    · rw [f2.i (by simp)]
      exact i4
    · exact i5
    · by_cases q : i = z
      · rw [q, iq_ne (by omega) (by omega) (by omega), iq_eq (by unfold r32; omega), iq_eq (by unfold r32; omega)]
        exact ⟨ht.symm, hu.symm⟩
      · rw [iq_ne (by omega) (by omega) (by omega), iq_ne (by omega) (by omega) (by omega), iq_ne (by omega) (by omega) (by omega), iq_ne (by omega) (by omega) (by omega)]
        exact hd i a0 (by omega)
theorem c_bb3 {Q : zM → Prop} {m0 : zM} (hb : zT b) (hN : TR C m0 b N) (H : ∀ m, fr S8 m0 m → DB m N → Q m) :
    ∀ (k : Nat) (z : Int) (m : zM), 0 ≤ z → z + k = N 1069 → fr S8 m0 m → (iq m 220 7 = eK (BS N) ∧ (∀ i, 0 ≤ i → i < wW N → ww (lq m 221 i) (bs N i) ∧ pkr (iq m 222 i) (kd N i) ∧ iq m 223 i = idb N i ∧ iq m 224 i = fid N i) ∧ (∀ t, 0 ≤ t → t < eK (BS N) → ww (lq m 226 t) (eU (BS N) t)) ∧ enm (lq m 226) (iq m 220 7) (img (lq m 221) (wW N)) ∧ iq m 220 7 ≤ wW N ∧ ∀ i, 0 ≤ i → i < z → iq m 225 i = gid N i) → W_Bases_build_83 (d + 5) b (J z) w m Q := by
  have hbb := zT_b hb
  obtain ⟨w1, w2, w3, w4⟩ := hN.words
  have hG := hN.2.2.2.2.1
  have hG1 := hG.1
  have hG2 := hG.2.1
  intro k
  induction k with
  | zero =>
    intro z m hz hk f hI
    have e2 := (hN.frm f hb S8_b).2.2.2.2.1.2.2.1
    refine S_Bases_build_83 hb ?_
    simp (disch := first | (unfold r32; omega) | omega) only [j_lit, J_le, j_rd, j_nc, e2]
    exact ⟨fun _ => H m f ⟨hI.1, hI.2.1, hI.2.2.1, fun i a0 a1 => hI.2.2.2.2.2 i a0 (by omega)⟩, fun q => by omega⟩
  | succ k ih =>
    intro z m hz hk f hI
    obtain ⟨i1, i2, i3, i4, i6, i5⟩ := id hI
    have hNm := hN.frm f hb S8_b
    have hGm := hNm.2.2.2.2.1
    have e2 := hGm.2.2.1
    have hww := (hGm.2.2.2.1 z hz (by omega)).1
    have hBb := BS_b hN
    refine S_Bases_build_83 hb ?_
    simp (disch := first | (unfold r32; omega) | omega) only [j_lit, J_le, j_rd, j_nc, e2, j_ops]
    refine ⟨fun q => by omega, fun _ => c_wordAtG hb ⟨hz, by omega⟩ (c_baseOf (d := d + 1) hb hNm hww (fun cg hcg => S_Bases_idOf ?_))⟩
    have hcr := ww_r hcg
    simp only [j_rd, j_nc]
    have put' : ∀ t, t = gid N z → r32 t → cV (d + 5) 158 [.ref 225, .int (J z), .int (J t)] w m (fun m4 => W_Bases_build_83 (d + 5) b (J (z + 1)) w m4 Q) := by
      intro t ht htr
      refine c_put (n := 240) rfl (by decide) (by unfold r32; omega) (by omega) ?_
      have f2 : fr [225] m (sq m 225 z t) := (fr.rf _ m).si (by simp) _ _
      refine ih (z + 1) _ (by omega) (by omega) (f.tr (f2.mo (by simp))) ⟨by rw [f2.i (by simp)]; exact i1, fun i a0 a1 => by rw [f2.i (by simp), f2.i (by simp), f2.i (by simp)]; exact i2 i a0 a1, i3, by rw [f2.i (by simp)]; exact i4, by rw [f2.i (by simp)]; exact i6, fun i a0 a1 => ?_⟩
      by_cases q : i = z
      · rw [q, iq_eq htr, ht]
      · rw [iq_ne (Or.inr q) (by omega) a0]
        exact i5 i a0 (by omega)
    refine c_exact (d := d + 2) (n := 240) rfl (by decide) ⟨i4.1, by omega⟩ i4.2.1 (by unfold r64; omega) (fun g => put' (-1) ?_ (by unfold r32; omega)) (fun t t0 t1 te => put' t ?_ (by unfold r32; omega))
    · symm
      refine ei_no hBb (fun hx => ?_)
      have hin := ei_in hBb hx
      have := i3 _ hin.1 hin.2.1
      rw [hin.2.2] at this
      refine g (ei (BS N) (gb N z)) hin.1 (by omega) ?_
      exact (ww_cmp this hcg).2.mpr rfl
    · symm
      refine ei_is hBb t0 (by omega) ?_
      have := i3 t t0 (by omega)
      exact (ww_cmp this hcg).2.mp te
theorem c_basesBuild {Q : zM → Prop} {m : zM} (hb : zT b) (hN : TR C m b N) (H : ∀ m', fr S8 m m' → DB m' N → Q m') : cV (d + 6) 1 [.ref 220, .ref b] w m Q := by
  obtain ⟨w1, w2, w3, w4⟩ := hN.words
  have hG := hN.2.2.2.2.1
  refine S_Bases_build ?_
  simp only [j_lit, j_wr, j_nc]
  have f0 : fr S8 m (sq m 220 7 0) := (fr.rf _ m).si (by simp) _ _
  have hN0 := hN.frm f0 hb S8_b
  have e0 : iq (sq m 220 7 0) 220 7 = 0 := iq_eq (by unfold r32; omega)
  have nil : ∀ f g : Int → Int, enm f 0 (img g 0) := fun f g => ⟨by omega, fun i j _ _ _ => by omega, fun i _ _ => by omega, fun x ⟨i, a, b, _⟩ => by omega⟩
  refine c_bb1 hb hN0 (fun m1 F hI => ?_) (wW N).toNat 0 0 _ (by omega) (by omega) ⟨fr.rf _ _, fun i _ _ => by omega, by rw [e0]; exact nil _ _, by rw [e0]; omega, nil _ _, by omega⟩
  refine c_bb2 hb hN0 (fun m2 f2 h2 h3 h4 => ?_) (wW N).toNat 0 m1 (by omega) (by omega) hI (fun i _ _ => by omega)
  obtain ⟨q1, q2, q3⟩ := ww_enm h3 (h := bs N) (fun i a0 a1 => (h2 i a0 a1).1)
  refine c_bb3 hb hN0 (fun m3 f3 h3 => H m3 (f0.tr f3) h3) (N 1069).toNat 0 m2 (by omega) (by have := hG.1; omega) f2 ⟨q1, h2, fun t t0 t1 => q2 t t0 (by rw [q1]; exact t1), h3, h4, fun i _ _ => by omega⟩
end BB
