/-! the longer terms: the class -/
def hol (N : Int → Int) (u t : Int) : Prop := tl N u < tl N t ∧ ∃ f, 0 ≤ f ∧ f + tl N u ≤ tl N t ∧ prt (tr N t) f (tl N u) = tr N u
noncomputable def lo (N : Int → Int) (u : Int) : Int := cnt (fun t => hol N u t) (Zn N).toNat
noncomputable def tkn (N : Int → Int) (u : Int) : Int := sm (fun t => bi (hol N u t) * ct N t) (Zn N).toNat
def Dp (N : Int → Int) (t w0 f0 u : Int) : Prop := ∃ wd f, 1 ≤ wd ∧ wd < tl N t ∧ 0 ≤ f ∧ f + wd ≤ tl N t ∧ (wd < w0 ∨ (wd = w0 ∧ f < f0)) ∧ prt (tr N t) f wd = tr N u
def LI (N : Int → Int) (m0 m : zM) (t w0 f0 : Int) : Prop := fr [242, 243, 251] m0 m ∧ ∀ u, 0 ≤ u → u < Zn N → iq m 242 u = cnt (fun t => hol N u t) t.toNat + bi (Dp N t w0 f0 u) ∧ iq m 243 u = sm (fun t => bi (hol N u t) * ct N t) t.toNat + bi (Dp N t w0 f0 u) * ct N t ∧ (Dp N t w0 f0 u → iq m 251 u = t) ∧ (¬ Dp N t w0 f0 u → iq m 251 u < t)
section LGR
variable {d : Nat} {w : Nat × Nat × Nat} {b : Nat} {C : Int} {N : Int → Int} {mv : zM}
theorem prt_cl (h : TR C mv b N) {t f wd : Int} (t0 : 0 ≤ t) (t1 : t < Zn N) (f0 : 0 ≤ f) (w0 : 0 ≤ wd) (hf : f + wd ≤ tl N t) : cl (prt (tr N t) f wd) = wd ∧ 0 ≤ prt (tr N t) f wd ∧ prt (tr N t) f wd < 1099511627776 := by
  obtain ⟨m, m0, m1, e⟩ := tr_ex h t0 t1
  have hb := mk_bd h m0 m1
  have hl := tl_m h m0 m1 e
  rw [hl] at hf
  have ok := okd_id h (k := mk N m) (n := ml N m) hb.1 hb.2.2.2.1
  have e2 : prt (tr N t) f wd = pk N (mk N m + f) wd := by
    rw [← e]
    exact pkf_prt ok hb.2.2.1 f0 w0 hf
  have bb := pkf_bd (okd_id h (k := mk N m + f) (n := wd) (by omega) (by omega))
  rw [e2]
  exact ⟨pk_len h (by omega) w0 (by omega) (by omega), bb⟩
theorem prt_tl (h : TR C mv b N) {t f wd u : Int} (t0 : 0 ≤ t) (t1 : t < Zn N) (f0 : 0 ≤ f) (w0 : 0 ≤ wd) (hf : f + wd ≤ tl N t) (e : prt (tr N t) f wd = tr N u) : tl N u = wd := by
  unfold tl
  rw [← e]
  exact (prt_cl h t0 t1 f0 w0 hf).1
theorem Dp_full (h : TR C mv b N) {t u w0 : Int} (t0 : 0 ≤ t) (t1 : t < Zn N) (u0 : 0 ≤ u) (u1 : u < Zn N) (hw : tl N t ≤ w0) : Dp N t w0 0 u ↔ hol N u t := by
  constructor
  · intro ⟨wd, f, a1, a2, a3, a4, a5, a6⟩
    have := prt_tl h t0 t1 a3 (by omega) a4 a6
    rw [← this] at a2 a4 a6
    exact ⟨a2, f, a3, a4, a6⟩
  · intro ⟨a1, f, a2, a3, a4⟩
    have := tl_b h u0 u1
    exact ⟨tl N u, f, by omega, a1, a2, a3, Or.inl (by omega), a4⟩
theorem tks_b (h : TR C mv b N) (u : Int) {t : Int} (t0 : 0 ≤ t) (t1 : t ≤ Zn N) : 0 ≤ sm (fun t => bi (hol N u t) * ct N t) t.toNat ∧ sm (fun t => bi (hol N u t) * ct N t) t.toNat ≤ t * 240 := by
  have e0 : sm (fun _ => (0 : Int)) t.toNat ≤ sm (fun t => bi (hol N u t) * ct N t) t.toNat := sm_le _ (fun k k0 k1 => by
    have a := bi_b (hol N u k)
    have c := ct_b h k0 (show k < Zn N by omega)
    exact Int.mul_nonneg a.1 (by omega))
  have e1 : sm (fun t => bi (hol N u t) * ct N t) t.toNat ≤ sm (fun _ => 240) t.toNat := sm_le _ (fun k k0 k1 => by
    have c := ct_b h k0 (show k < Zn N by omega)
    by_cases g : hol N u k
    · rw [bi_1 g]; omega
    · rw [bi_0 g]; omega)
  rw [sm_const] at e0 e1
  rw [show ((t.toNat : Nat) : Int) = t by omega] at e0 e1
  omega
theorem DT0.frm {S : List Nat} {m m' : zM} (h : DT0 m N) (f : fr S m m') (h0 : 229 ∉ S) (h1 : 233 ∉ S) (h2 : 237 ∉ S) (h3 : 238 ∉ S) (h4 : 239 ∉ S) (h5 : 240 ∉ S) (h6 : 241 ∉ S) (h7 : 244 ∉ S) (h8 : 245 ∉ S) (h9 : 246 ∉ S) (h10 : 248 ∉ S) : DT0 m' N := by
  refine ⟨by rw [f.i h2]; exact h.1, fun t t0 t1 => ?_, fun i i0 i1 => by rw [f.i h1]; exact h.2.2 i i0 i1⟩
  rw [f.l h3, f.i h4, f.i h5, f.i h6, f.i h7, f.i h8, f.i h9, f.i h10]
  obtain ⟨a1, a2, a3, a4, a5, a6, a7, a8, a9, a10⟩ := h.2.1 t t0 t1
  exact ⟨a1, a2, a3, a4, a5, a6, a7, a8, a9, fun j j0 j1 => by rw [f.i h0]; exact a10 j j0 j1⟩
theorem DT0.inc (hV : TR C mv b N) {m : zM} (h : DT0 m N) : inc (lq m 238) (Zn N) := fun i j i0 ij j1 => by
  rw [(h.2.1 i i0 (by omega)).1, (h.2.1 j (by omega) j1).1]
  exact (e_spec (TS_b hV)).2.1 i j i0 ij j1
theorem c_placeOf {Q : Int32 → zM → Prop} {m : zM} {x : Int} (hV : TR C mv b N) (h : DT0 m N) (hx : r64 x) (H0 : (∀ t, 0 ≤ t → t < Zn N → tr N t ≠ x) → Q (J (-1)) m) (H1 : ∀ t, 0 ≤ t → t < Zn N → tr N t = x → Q (J t) m) : cI (d + 3) 91 [.ref 237, .long (JL x)] w m Q := by
  have hM := Mn_b hV
  have hZ := Zn_b hV
  refine S_Terms_placeOf ?_
  simp only [j_rd, j_nc, h.1]
  refine c_exact (n := 1200) rfl (by decide) ⟨hZ.1, by omega⟩ (h.inc hV) hx (fun g => H0 (fun t t0 t1 e => g t t0 t1 (by rw [(h.2.1 t t0 t1).1]; exact e))) (fun t t0 t1 e => H1 t t0 t1 (by rw [← (h.2.1 t t0 t1).1]; exact e))
theorem c_lengthOf {Q : Int32 → zM → Prop} {m : zM} {t : Int} (hV : TR C mv b N) (h : DT0 m N) (t0 : 0 ≤ t) (t1 : t < Zn N) (H : Q (J (tl N t)) m) : cI (d + 2) 90 [.ref 237, .int (J t)] w m Q := by
  have hM := Mn_b hV
  have hZ := Zn_b hV
  refine S_Terms_lengthOf (c_atl (n := 1200) rfl (by decide) (by unfold r32; omega) (by omega) ?_)
  rw [(h.2.1 t t0 t1).1]
  exact c_cellsOf (tr_b hV t0 t1) H
theorem LI.same {m0 m : zM} {t w0 f0 w1 f1 : Int} (h : LI N m0 m t w0 f0) (e : ∀ u, 0 ≤ u → u < Zn N → (Dp N t w1 f1 u ↔ Dp N t w0 f0 u)) : LI N m0 m t w1 f1 := ⟨h.1, fun u u0 u1 => by
  rw [propext (e u u0 u1)]
  exact h.2 u u0 u1⟩
theorem c_long17 {Q : zM → Prop} {m0 : zM} {t wd : Int} (hV : TR C mv b N) (h0 : DT0 m0 N) (ht : 0 ≤ t ∧ t < Zn N) (hw : 1 ≤ wd ∧ wd < tl N t) (H : ∀ m, LI N m0 m t (wd + 1) 0 → W_Terms_countLonger_12 (d + 3) (J t) (J (tl N t)) (J (wd + 1)) w m Q) :
    ∀ (k : Nat) (f : Int) (m : zM), 0 ≤ f → f + wd + k = tl N t + 1 → LI N m0 m t wd f → W_Terms_countLonger_17 (d + 3) (J t) (J (tl N t)) (J wd) (J f) w m Q := by
  have hM := Mn_b hV
  have hZ := Zn_b hV
  have htl := tl_b hV ht.1 ht.2
  intro k
  induction k with
  | zero =>
    intro f m hf hk hI
    refine S_Terms_countLonger_17 ?_
    simp (disch := first | (unfold r32; omega) | omega) only [j_lit, J_lt, j_ops]
    refine ⟨fun _ => H m (hI.same (fun u _ _ => ?_)), fun q => by omega⟩
    constructor
    · intro ⟨wd', f', a1, a2, a3, a4, a5, a6⟩
      exact ⟨wd', f', a1, a2, a3, a4, by omega, a6⟩
    · intro ⟨wd', f', a1, a2, a3, a4, a5, a6⟩
      exact ⟨wd', f', a1, a2, a3, a4, by omega, a6⟩
  | succ k ih =>
    intro f m hf hk hI
    have hT := h0.frm hI.1 (by simp) (by simp) (by simp) (by simp) (by simp) (by simp) (by simp) (by simp) (by simp) (by simp) (by simp)
    have hr := hT.2.1 t ht.1 ht.2
    have hp := prt_cl hV ht.1 ht.2 hf (show 0 ≤ wd by omega) (show f + wd ≤ tl N t by omega)
    -- one more part
    have more : ∀ u, Dp N t wd (f + 1) u ↔ (Dp N t wd f u ∨ prt (tr N t) f wd = tr N u) := fun u => by
      constructor
      · intro ⟨wd', f', a1, a2, a3, a4, a5, a6⟩
        by_cases q : wd' = wd ∧ f' = f
        · rw [q.1, q.2] at a6; exact Or.inr a6
        · exact Or.inl ⟨wd', f', a1, a2, a3, a4, by omega, a6⟩
      · intro g
        rcases g with ⟨wd', f', a1, a2, a3, a4, a5, a6⟩ | g
        · exact ⟨wd', f', a1, a2, a3, a4, by omega, a6⟩
        · exact ⟨wd, f, hw.1, hw.2, hf, by omega, by omega, g⟩
    have go : ∀ m', LI N m0 m' t wd (f + 1) → W_Terms_countLonger_17 (d + 3) (J t) (J (tl N t)) (J wd) (J (f + 1)) w m' Q := fun m' h' => ih (f + 1) m' (by omega) (by omega) h'
    refine S_Terms_countLonger_17 ?_
    simp (disch := first | (unfold r32; omega) | omega) only [j_lit, J_lt, j_ops]
    refine ⟨fun q => by omega, fun _ => c_atl (n := 1200) rfl (by decide) (by unfold r32; omega) (by omega) ?_⟩
    rw [hr.1]
    refine c_part (tr_b hV ht.1 ht.2) ⟨hf, by omega⟩ ⟨by omega, by omega⟩ (c_placeOf (d := d) hV hT (by unfold r64; omega) (fun g => ?_) (fun u u0 u1 e => ?_))
    · simp (disch := first | (unfold r32; omega) | omega) only [J_lt]
      refine ⟨fun _ => go m (hI.same (fun u u0 u1 => (more u).trans ⟨fun y => ?_, fun y => Or.inl y⟩)), fun q => by omega⟩
      rcases y with y | y
      · exact y
      · exact absurd y.symm (g u u0 u1)
    · obtain ⟨l1, l2, l3, l4⟩ := hI.2 u u0 u1
      simp (disch := first | (unfold r32; omega) | omega) only [J_lt]
      refine ⟨fun q => by omega, fun _ => c_at (n := 1200) rfl (by decide) (by unfold r32; omega) (by omega) ?_⟩
      have s51 := iq_r m 251 u
      simp (disch := first | exact s51 | (unfold r32; omega) | omega) only [J_eq]
      refine ⟨fun q => go m (hI.same (fun v v0 v1 => (more v).trans ⟨fun y => ?_, fun y => Or.inl y⟩)), fun q => ?_⟩
      · rcases y with y | y
        · exact y
        · have : v = u := tr_inj hV v0 v1 u0 u1 (y.symm.trans e.symm)
          rw [this]
          by_cases z : Dp N t wd f u
          · exact z
          · have := l4 z; omega
      · have hD : ¬ Dp N t wd f u := fun z => q (l3 z)
        rw [bi_0 hD] at l1 l2
        have hb1 := cnt_b (fun t => hol N u t) t.toNat
        have hb2 := tks_b hV u ht.1 (show t ≤ Zn N by omega)
        have hct := ct_b hV ht.1 ht.2
        refine c_put (n := 1200) rfl (by decide) (by unfold r32; omega) (by omega) (c_at (n := 1200) rfl (by decide) (by unfold r32; omega) (by omega) ?_)
        have x1 : iq (sq m 251 u t) 242 u = iq m 242 u := iq_ne (by omega) (by omega) (by omega)
        rw [x1]
        simp only [j_lit, j_ops]
        refine c_put (n := 1200) rfl (by decide) (by unfold r32; omega) (by omega) (c_at (n := 1200) rfl (by decide) (by unfold r32; omega) (by omega) (c_at (n := 1200) rfl (by decide) (by unfold r32; omega) (by omega) ?_))
        have x2 : iq (sq (sq m 251 u t) 242 u (iq m 242 u + 1)) 243 u = iq m 243 u := by rw [iq_ne (by omega) (by omega) (by omega), iq_ne (by omega) (by omega) (by omega)]
        have x3 : iq (sq (sq m 251 u t) 242 u (iq m 242 u + 1)) 240 t = ct N t := by rw [iq_ne (by omega) (by omega) (by omega), iq_ne (by omega) (by omega) (by omega), hr.2.1]
        rw [x2, x3]
        simp only [j_ops]
        refine c_put (n := 1200) rfl (by decide) (by unfold r32; omega) (by omega) (go _ ⟨hI.1.tr ((((fr.rf _ m).si (by simp) _ _).si (by simp) _ _).si (by simp) _ _), fun v v0 v1 => ?_⟩)
        by_cases z : v = u
        · subst z
          have hy : Dp N t wd (f + 1) v := (more v).mpr (Or.inr e.symm)
          rw [bi_1 hy]
          have y1 : iq (sq (sq (sq m 251 v t) 242 v (iq m 242 v + 1)) 243 v (iq m 243 v + ct N t)) 242 v = iq m 242 v + 1 := by rw [iq_ne (by omega) (by omega) (by omega), iq_eq (by unfold r32; omega)]
          have y2 : iq (sq (sq (sq m 251 v t) 242 v (iq m 242 v + 1)) 243 v (iq m 243 v + ct N t)) 243 v = iq m 243 v + ct N t := iq_eq (by unfold r32; omega)
          have y3 : iq (sq (sq (sq m 251 v t) 242 v (iq m 242 v + 1)) 243 v (iq m 243 v + ct N t)) 251 v = t := by rw [iq_ne (by omega) (by omega) (by omega), iq_ne (by omega) (by omega) (by omega), iq_eq (by unfold r32; omega)]
          rw [y1, y2, y3]
          exact ⟨by omega, by omega, fun _ => rfl, fun q => absurd hy q⟩
        · have hy : Dp N t wd (f + 1) v ↔ Dp N t wd f v := (more v).trans ⟨fun y => by
            rcases y with y | y
            · exact y
            · exact absurd (tr_inj hV v0 v1 u0 u1 (y.symm.trans e.symm)) z, fun y => Or.inl y⟩
          rw [propext hy, iq_ne (Or.inl (by omega)) (by omega) v0, iq_ne (Or.inr z) (by omega) v0, iq_ne (Or.inl (by omega)) (by omega) v0, iq_ne (Or.inr z) (by omega) v0, iq_ne (Or.inl (by omega)) (by omega) v0, iq_ne (Or.inl (by omega)) (by omega) v0, iq_ne (Or.inl (by omega)) (by omega) v0, iq_ne (Or.inl (by omega)) (by omega) v0, iq_ne (Or.inr z) (by omega) v0]
          exact hI.2 v v0 v1
theorem c_long12 {Q : zM → Prop} {m0 : zM} {t : Int} (hV : TR C mv b N) (h0 : DT0 m0 N) (ht : 0 ≤ t ∧ t < Zn N) (H : ∀ m wd, tl N t ≤ wd → LI N m0 m t wd 0 → W_Terms_countLonger_2 (d + 3) (J (t + 1)) w m Q) :
    ∀ (k : Nat) (wd : Int) (m : zM), 1 ≤ wd → wd ≤ 5 → wd + k = 5 → LI N m0 m t wd 0 → W_Terms_countLonger_12 (d + 3) (J t) (J (tl N t)) (J wd) w m Q := by
  have hM := Mn_b hV
  have hZ := Zn_b hV
  have htl := tl_b hV ht.1 ht.2
  intro k
  induction k with
  | zero =>
    intro wd m h1 h2 hk hI
    refine S_Terms_countLonger_12 ?_
    simp (disch := first | (unfold r32; omega) | omega) only [j_lit, J_le, j_ops]
    exact ⟨fun _ => H m wd (by omega) hI, fun q => by omega⟩
  | succ k ih =>
    intro wd m h1 h2 hk hI
    refine S_Terms_countLonger_12 ?_
    simp (disch := first | (unfold r32; omega) | omega) only [j_lit, J_le, j_ops]
    refine ⟨fun q => H m wd q hI, fun q => ?_⟩
    exact c_long17 hV h0 ht ⟨h1, by omega⟩ (fun m' h' => ih (wd + 1) m' (by omega) (by omega) (by omega) h') (tl N t + 1 - wd).toNat 0 m (by omega) (by omega) hI
theorem c_longer_l {Q : zM → Prop} {m0 : zM} (hV : TR C mv b N) (h0 : DT0 m0 N) (H : ∀ m, fr [242, 243, 251] m0 m → (∀ u, 0 ≤ u → u < Zn N → iq m 242 u = lo N u ∧ iq m 243 u = tkn N u) → Q m) :
    ∀ (k : Nat) (t : Int) (m : zM), 0 ≤ t → t + k = Zn N → LI N m0 m t 1 0 → W_Terms_countLonger_2 (d + 3) (J t) w m Q := by
  have hM := Mn_b hV
  have hZ := Zn_b hV
  have no1 : ∀ t u, ¬ Dp N t 1 0 u := fun t u ⟨wd, f, a1, a2, a3, a4, a5, a6⟩ => by omega
  intro k
  induction k with
  | zero =>
    intro t m ht hk hI
    have e19 : iq m 237 19 = Zn N := (hI.1.i (by simp) 19).trans h0.1
    refine S_Terms_countLonger_2 ?_
    simp (disch := first | (unfold r32; omega) | omega) only [j_lit, J_le, j_rd, j_nc, e19]
    refine ⟨fun _ => H m hI.1 (fun u u0 u1 => ?_), fun q => by omega⟩
    obtain ⟨l1, l2, _, _⟩ := hI.2 u u0 u1
    rw [bi_0 (no1 t u), show t = Zn N by omega] at l1 l2
    unfold lo tkn
    exact ⟨by omega, by omega⟩
  | succ k ih =>
    intro t m ht hk hI
    have e19 : iq m 237 19 = Zn N := (hI.1.i (by simp) 19).trans h0.1
    have hT := h0.frm hI.1 (by simp) (by simp) (by simp) (by simp) (by simp) (by simp) (by simp) (by simp) (by simp) (by simp) (by simp)
    refine S_Terms_countLonger_2 ?_
    simp (disch := first | (unfold r32; omega) | omega) only [j_lit, J_le, j_rd, j_nc, e19]
    refine ⟨fun q => by omega, fun _ => c_lengthOf (d := d + 1) hV hT ht (by omega) ?_⟩
    refine c_long12 (d := d) hV h0 ⟨ht, by omega⟩ (fun m' wd hw h' => ih (t + 1) m' (by omega) (by omega) ⟨h'.1, fun u u0 u1 => ?_⟩) 4 1 m (by omega) (by omega) (by omega) hI
    obtain ⟨l1, l2, l3, l4⟩ := h'.2 u u0 u1
    have e := Dp_full hV (w0 := wd) ht (show t < Zn N by omega) u0 u1 hw
    rw [propext e] at l1 l2 l3 l4
    rw [bi_0 (no1 (t + 1) u), cnt_z _ ht, sm_z _ ht]
    refine ⟨by omega, by omega, fun q => absurd q (no1 _ _), fun _ => ?_⟩
    by_cases z : hol N u t
    · have := l3 z; omega
    · have := l4 z; omega
theorem c_longer {Q : zM → Prop} {m0 : zM} (hV : TR C mv b N) (h0 : DT0 m0 N) (hz : ∀ t, 0 ≤ t → t < Zn N → iq m0 242 t = 0 ∧ iq m0 243 t = 0 ∧ iq m0 251 t = -1) (H : ∀ m, fr [242, 243, 251] m0 m → (∀ u, 0 ≤ u → u < Zn N → iq m 242 u = lo N u ∧ iq m 243 u = tkn N u) → Q m) : cV (d + 4) 84 [.ref 237] w m0 Q := by
  have hZ := Zn_b hV
  have no1 : ∀ t u, ¬ Dp N t 1 0 u := fun t u ⟨wd, f, a1, a2, a3, a4, a5, a6⟩ => by omega
  refine S_Terms_countLonger ?_
  simp only [j_lit]
  refine c_longer_l hV h0 H (Zn N).toNat 0 m0 (by omega) (by omega) ⟨fr.rf _ _, fun u u0 u1 => ?_⟩
  obtain ⟨z1, z2, z3⟩ := hz u u0 u1
  rw [bi_0 (no1 0 u), z1, z2, z3]
  exact ⟨rfl, by simp [sm_0], fun q => absurd q (no1 _ _), fun _ => by omega⟩
end LGR
