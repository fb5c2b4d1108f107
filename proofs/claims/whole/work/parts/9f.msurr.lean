/-! the reference: the bases around a term -/
theorem lsm_ap2 (f : Int → Int) (l l' : List Int) : lsm f (l ++ l') = lsm f l + lsm f l' := by
  induction l with
  | nil => show lsm f l' = 0 + lsm f l'; omega
  | cons y l ih =>
    show f y + lsm f (l ++ l') = f y + lsm f l + lsm f l'
    rw [ih]; omega
/-- how often x stands in l -/
noncomputable def lct (x : Int) (l : List Int) : Int := lsm (fun y => bi (y = x)) l
theorem lct_b (x : Int) (l : List Int) : 0 ≤ lct x l ∧ lct x l ≤ l.length := by
  have := lsm_b (f := fun y => bi (y = x)) (B := 1) l (fun y _ => bi_b _)
  unfold lct
  omega
theorem lct_pos {x : Int} {l : List Int} (h : x ∈ l) : 1 ≤ lct x l := by
  induction l with
  | nil => exact absurd h (by simp)
  | cons y l ih =>
    have e : lct x (y :: l) = bi (y = x) + lct x l := rfl
    have b1 := bi_b (y = x)
    have b2 := lct_b x l
    rw [e]
    rcases List.mem_cons.mp h with z | z
    · rw [bi_1 z.symm]; omega
    · have := ih z; omega
theorem lct_no {x : Int} {l : List Int} (h : x ∉ l) : lct x l = 0 := by
  induction l with
  | nil => rfl
  | cons y l ih =>
    have e : lct x (y :: l) = bi (y = x) + lct x l := rfl
    rw [e, bi_0 (fun z => h (by simp [z])), ih (fun z => h (by simp [z]))]
    rfl
noncomputable def tmk (N : Int → Int) (t x : Int) (k : Nat) : Int := sm (fun m => bi (pkm N m = tr N t) * lct x (sds N m)) k
/-- how often x is around term t -/
noncomputable def tm (N : Int → Int) (t x : Int) : Int := tmk N t x (Mn N).toNat
theorem sm_pos {f : Int → Int} {z : Int} (hz : 0 ≤ z) (h1 : 1 ≤ f z) (n : Nat) (hn : z < n) (h0 : ∀ k : Int, 0 ≤ k → k < n → 0 ≤ f k) : 1 ≤ sm f n := by
  have e := sm_pick (f := fun k => bi (k = z)) hz n hn (fun k _ _ q => bi_0 q)
  have l := sm_le (f := fun k => bi (k = z)) (g := f) n (fun k k0 k1 => by
    show bi (k = z) ≤ f k
    by_cases q : k = z
    · rw [bi_1 q, q]; exact h1
    · rw [bi_0 q]; exact h0 k k0 k1)
  have e2 : bi (z = z) = 1 := bi_1 rfl
  rw [e] at l
  have l' : bi (z = z) ≤ sm f n := l
  omega
theorem sn_s {N : Int → Int} {i j : Int} (h : sn N i j) : sn N j i := ⟨h.1.symm, fun d d0 d1 => (h.2 d d0 d1).symm⟩
theorem sn_t {N : Int → Int} {i j k : Int} (h : sn N i j) (g : sn N j k) : sn N i k := ⟨h.1.trans g.1, fun d d0 d1 => (h.2 d d0 d1).trans (g.2 d d0 d1)⟩
def TI (N : Int → Int) (m0 m : zM) (base : Int → Int) (l : List Int) : Prop := fr [289] m0 m ∧ ∀ x, 0 ≤ x → x < eK (BS N) → iq m 289 x = base x + lct x l
section MSU
variable {d : Nat} {w : Nat × Nat × Nat} {b : Nat} {C : Int} {N : Int → Int} {mv : zM}
theorem tmk_b (h : TR C mv b N) (t x : Int) (k : Nat) : 0 ≤ tmk N t x k ∧ tmk N t x k ≤ k * 6 := by
  have key : ∀ m, 0 ≤ bi (pkm N m = tr N t) * lct x (sds N m) ∧ bi (pkm N m = tr N t) * lct x (sds N m) ≤ 6 := fun m => by
    have a := lct_b x (sds N m)
    have c := sds_len h m
    by_cases g : pkm N m = tr N t
    · rw [bi_1 g, Int.one_mul]; omega
    · rw [bi_0 g, Int.zero_mul]; omega
  have h0 : sm (fun _ => (0 : Int)) k ≤ tmk N t x k := sm_le k (fun m _ _ => (key m).1)
  have h1 : tmk N t x k ≤ sm (fun _ => (6 : Int)) k := sm_le k (fun m _ _ => (key m).2)
  rw [sm_const] at h0 h1
  omega
theorem Ar_tm (h : TR C mv b N) (t x : Int) : Ar N t x ↔ 0 < tm N t x := by
  have hM := Mn_b h
  constructor
  · intro ⟨m, m0, m1, e, hx⟩
    have : 1 ≤ tm N t x := sm_pos (f := fun m => bi (pkm N m = tr N t) * lct x (sds N m)) m0 (by rw [bi_1 e, Int.one_mul]; exact lct_pos hx) _ (by omega) (fun k _ _ => Int.mul_nonneg (bi_b _).1 (lct_b _ _).1)
    omega
  · intro g
    refine Classical.byContradiction (fun no => ?_)
    have : tm N t x = 0 := sm_zero (f := fun m => bi (pkm N m = tr N t) * lct x (sds N m)) _ (fun k k0 k1 => by
      show bi (pkm N k = tr N t) * lct x (sds N k) = 0
      by_cases e : pkm N k = tr N t
      · rw [lct_no (fun hx => no ⟨k, k0, by omega, e, hx⟩), Int.mul_zero]
      · rw [bi_0 e, Int.zero_mul])
    omega
theorem c_M_isSentence' {Q : Int32 → zM → Prop} {m : zM} {i j : Int} (h : TR C mv b N) (hR : rowM m N) (h7 : ∀ i, 0 ≤ i → i < wW N → iq m 270 i = dcN N i) (h0 : 0 ≤ i) (hij : i ≤ j) (hj : j < wW N) (H1 : sn N i j → Q (J 1) m) (H0 : ¬ sn N i j → Q (J 0) m) : cI d 231 [.ref 261, .int (J j), .int (J i)] w m Q := by
  have hW := h.words
  have hD := h.2.2.2.1
  have r1 := hR (669 + i) (by omega) (by omega)
  have r2 := hR (669 + j) (by omega) (by omega)
  have b1 := (hD.2.2.2.2.2.2.2.1 i h0 (by show i < wW N; omega)).2.2.2
  have b2 := (hD.2.2.2.2.2.2.2.1 j (by omega) (by show j < wW N; omega)).2.2.2
  have d1 := dc_ex hD h0 (by omega : i < wW N)
  have d2 := dc_ex hD (i := j) (by omega) hj
  have d8 := hD.2.1
  have q1 := d1.1
  have q2 := d1.2.1
  have q3 := d2.1
  have q4 := d2.2.1
  refine S_M_isSentence ?_
  simp (disch := first | (unfold r32; omega) | (unfold r64; omega) | omega) only [j_lit, j_ops, vp_J, J_cl, j_rd, iq_tn, h7 i h0 (by omega), h7 j (by omega) hj, jl_rd, lq_tn, r1, r2, J_eq, JL_eq]
  refine ⟨by omega, by omega, fun q => H0 (fun z => q ((sd_dc h h0 hij hj).mp z.2).symm), fun q => ⟨by omega, by omega, fun q5 => H0 (fun z => q5 z.1.symm), fun q5 => H1 ⟨q5.symm, (sd_dc h h0 hij hj).mpr q.symm⟩⟩⟩
theorem TI.up {m0 m : zM} {base : Int → Int} {l : List Int} {x : Int} (hb : ∀ x, 0 ≤ base x ∧ base x ≤ 100000) (hl : l.length ≤ 10) (hx : 0 ≤ x ∧ x < eK (BS N)) (hT : TI N m0 m base l) : TI N m0 (sq m 289 x (iq m 289 x + 1)) base (l ++ [x]) := by
  refine ⟨hT.1.si (by simp) _ _, fun y y0 y1 => ?_⟩
  have e : lct y (l ++ [x]) = lct y l + bi (x = y) := by unfold lct; rw [lsm_app]
  have b1 := hb x
  have b2 := lct_b x l
  have ex := hT.2 x hx.1 hx.2
  rw [e]
  by_cases z : y = x
  · subst z
    rw [bi_1 rfl, iq_eq (by unfold r32; omega), ex]; omega
  · rw [bi_0 (fun q => z q.symm), iq_ne (Or.inr z) (by omega) y0, hT.2 y y0 y1]; omega
theorem c_su80 {Q : zM → Prop} {m0 m : zM} {t i n e : Int} {base : Int → Int} {l : List Int} (h : TR C mv b N) (hR : rowM m0 N) (hD : DMB m0 N) (hM : MRF N m0) (hi : 0 ≤ i ∧ i < Mn N) (he : mk N i + ml N i - 1 = e) (hn : 1 ≤ n ∧ n ≤ 3) (hb : ∀ x, 0 ≤ base x ∧ base x ≤ 100000) (hl : l.length ≤ 10) (hT : TI N m0 m base l) (H : ∀ m', TI N m0 m' base (l ++ ic (okB N e n) [idb N (e + n)]) → W_M_surrounds_31 d (J t) (J i) (J (n + 1)) w m' Q) : W_M_surrounds_80 d (J t) (J i) (J n) (J (e + n)) w m Q := by
  have hMb := Mn_b h
  have hW := h.words
  have bd := mk_bd h hi.1 hi.2
  have f := hT.1
  have hDm := hD.frm f (by simp) (by simp) (by simp) (by simp) (by simp) (by simp) (by simp)
  have e72 : iq m 272 i = mk N i := (f.i (by simp) i).trans (hM.2.2.1 i hi.1 hi.2).1
  have hmt := (mkl h hi.1 hi.2).1
  have hin : sn N (mk N i) e := by
    have := hmt.2.2.2.1.2.2 (ml N i - 1) (by omega) (by omega)
    rw [show mk N i + (ml N i - 1) = e by omega] at this
    exact this
  have no : ¬ okB N e n → W_M_surrounds_103 d (J t) (J i) (J n) w m Q := fun g => by
    refine S_M_surrounds_103 ?_
    simp only [j_lit, j_ops]
    refine H m ?_
    rw [ic_0 g, List.append_nil]
    exact hT
  refine S_M_surrounds_80 ?_
  simp (disch := first | (unfold r32; omega) | omega) only [j_lit, vp_J, J_cl, j_rd, iq_tn, j_nc, hDm.1, e72, J_le]
  refine ⟨fun q => no (fun z => by have := z.1; omega), fun q => ⟨by omega, c_M_isSentence' h (hR.fr f (by simp)) (fun x x0 x1 => (hDm.2.2.1 x x0 x1).2.2.2.2.1) bd.1 (by omega) (by omega) (fun g => ?_) (fun g => ?_)⟩⟩
  · have ok : okB N e n := ⟨by omega, sn_t (sn_s hin) g⟩
    have hid := id_b h (i := e + n) (by omega) (by omega)
    have e87 := (hDm.2.2.1 (e + n) (by omega) (by omega)).2.2.2.2.2
    have hBk := BS_k h
    simp (disch := first | (unfold r32; omega) | omega) only [j_lit, vp_J, J_cl, j_rd, iq_tn, J_eq, e87, j_ops, j_wr, sq_tn]
    refine ⟨fun y => by omega, fun _ => ⟨by omega, by omega, by omega, S_M_surrounds_103 ?_⟩⟩
    simp only [j_lit, j_ops]
    refine H _ ?_
    rw [ic_1 ok]
    exact hT.up hb hl hid
  · simp (disch := first | (unfold r32; omega) | omega) only [j_lit, J_eq]
    exact ⟨fun _ => no (fun z => g (sn_t hin z.2)), fun y => absurd trivial y⟩
theorem c_su31 {Q : zM → Prop} {m0 : zM} {t i : Int} {base : Int → Int} (h : TR C mv b N) (hR : rowM m0 N) (hD : DMB m0 N) (hM : MRF N m0) (hi : 0 ≤ i ∧ i < Mn N) (hb : ∀ x, 0 ≤ base x ∧ base x ≤ 100000) (H : ∀ m', TI N m0 m' base (sds N i) → W_M_surrounds_18 d (J t) (J (i + 1)) w m' Q) :
    ∀ (j : Nat) (n : Nat) (m : zM), (n : Int) + j = N 1900 → TI N m0 m base (sdl N (mk N i) (mk N i + ml N i - 1) n) → W_M_surrounds_31 d (J t) (J i) (J ((n : Int) + 1)) w m Q := by
  have hMb := Mn_b h
  have hW := h.words
  have bd := mk_bd h hi.1 hi.2
  have hW7 := h.2.2.2.2.2.2
  have b4 := hW7.2.2.2.2.2.2.2
  intro j
  induction j with
  | zero =>
    intro n m hn hT
    have r := (hR.fr hT.1 (by simp)) 1900 (by omega) (by omega)
    refine S_M_surrounds_31 ?_
    simp (disch := first | (unfold r32; omega) | (unfold r64; omega) | omega) only [j_lit, vp_J, J_cl, jl_rd, lq_tn, r, J_64, JL_lt, j_ops]
    refine ⟨by omega, fun _ => H m ?_, fun q => by omega⟩
    unfold sds
    rw [show (N 1900).toNat = n by omega]
    exact hT
  | succ j ih =>
    intro n m hn hT
    have f := hT.1
    have hRm := hR.fr f (by simp)
    have r := hRm 1900 (by omega) (by omega)
    have hDm := hD.frm f (by simp) (by simp) (by simp) (by simp) (by simp) (by simp) (by simp)
    obtain ⟨e72, e73⟩ := hM.2.2.1 i hi.1 hi.2
    rw [← f.i (by simp)] at e72
    rw [← f.i (by simp)] at e73
    have hlen := sdl_len (N := N) (mk N i) (mk N i + ml N i - 1) n
    have goB : ∀ m', TI N m0 m' base (sdl N (mk N i) (mk N i + ml N i - 1) n ++ ic (okA N (mk N i) ((n : Int) + 1)) [idb N (mk N i - ((n : Int) + 1))]) → W_M_surrounds_80 d (J t) (J i) (J ((n : Int) + 1)) (J (mk N i + ml N i - 1 + ((n : Int) + 1))) w m' Q := fun m' hT' => by
      refine c_su80 h hR hD hM hi rfl ⟨by omega, by omega⟩ hb ?_ hT' (fun m2 hT2 => ?_)
      · rw [List.length_append]
        by_cases g : okA N (mk N i) ((n : Int) + 1)
        · rw [ic_1 g, List.length_singleton]; omega
        · rw [ic_0 g, List.length_nil]; omega
      · have := ih (n + 1) m2 (by omega) (by
          rw [sdl_s]
          unfold sd1
          rw [← List.append_assoc]
          exact hT2)
        rw [show (((n + 1 : Nat) : Nat) : Int) = (n : Int) + 1 by omega] at this
        exact this
    have noA : ¬ okA N (mk N i) ((n : Int) + 1) → W_M_surrounds_80 d (J t) (J i) (J ((n : Int) + 1)) (J (mk N i + ml N i - 1 + ((n : Int) + 1))) w m Q := fun g => goB m (by rw [ic_0 g, List.append_nil]; exact hT)
    refine S_M_surrounds_31 ?_
    simp (disch := first | (unfold r32; omega) | (unfold r64; omega) | omega) only [j_lit, vp_J, J_cl, jl_rd, lq_tn, r, J_64, JL_lt, j_ops, j_rd, iq_tn, e72, e73, J_lt]
    refine ⟨by omega, fun q => by omega, fun _ => ⟨by omega, by omega, by omega, fun q => noA (fun z => by have := z.1; omega), fun q => ⟨by omega, c_M_isSentence h hRm (fun x x0 x1 => (hDm.2.2.1 x x0 x1).2.2.2.2.1) (by omega) (by omega) (by omega) (fun g => ?_) (fun g => ?_)⟩⟩⟩
    · have ok : okA N (mk N i) ((n : Int) + 1) := ⟨by omega, g⟩
      have hid := id_b h (i := mk N i - ((n : Int) + 1)) (by omega) (by omega)
      have e87 := (hDm.2.2.1 (mk N i - ((n : Int) + 1)) (by omega) (by omega)).2.2.2.2.2
      have hBk := BS_k h
      simp (disch := first | (unfold r32; omega) | omega) only [j_lit, vp_J, J_cl, j_rd, iq_tn, J_eq, e87, j_ops, j_wr, sq_tn]
      refine ⟨fun y => by omega, fun _ => ⟨by omega, by omega, by omega, goB _ ?_⟩⟩
      rw [ic_1 ok]
      exact hT.up hb (by omega) hid
    · simp (disch := first | (unfold r32; omega) | omega) only [j_lit, J_eq]
      exact ⟨fun _ => noA (fun z => g z.2), fun y => absurd trivial y⟩
theorem c_surrounds {Q : zM → Prop} {m0 : zM} {t : Int} (h : TR C mv b N) (hR : rowM m0 N) (hD : DMB m0 N) (hM : MRF N m0) (hC : DMC N m0) (ht : 0 ≤ t ∧ t < Zn N) (H : ∀ m, fr [289] m0 m → (∀ x, 0 ≤ x → x < eK (BS N) → iq m 289 x = tm N t x) → Q m) : cV (d + 1) 243 [.ref 261, .int (J t)] w m0 Q := by
  have hMb := Mn_b h
  have hZb := Zn_b h
  have hBk := BS_k h
  have hW := h.words
  obtain ⟨g1, g2, g3, g4⟩ := (hC.2 t ht.1 ht.2).2.2.2
  refine S_M_surrounds ?_
  simp only [j_lit]
  have k18 : ∀ (j : Nat) (i : Int) (m : zM), 0 ≤ i → i + j = Mn N → fr [289] m0 m → (∀ x, 0 ≤ x → x < eK (BS N) → iq m 289 x = tmk N t x i.toNat) → W_M_surrounds_18 d (J t) (J i) w m Q := by
    intro j
    induction j with
    | zero =>
      intro i m i0 hj f hI
      have e26 : iq m 261 26 = Mn N := (f.i (by simp) 26).trans hM.1
      refine S_M_surrounds_18 ?_
      simp (disch := first | (unfold r32; omega) | omega) only [j_lit, j_rd, j_nc, e26, J_le]
      refine ⟨fun _ => H m f (fun x x0 x1 => ?_), fun q => by omega⟩
      rw [hI x x0 x1, show i = Mn N by omega]
      rfl
    | succ j ih =>
      intro i m i0 hj f hI
      have e26 : iq m 261 26 = Mn N := (f.i (by simp) 26).trans hM.1
      have e74 : iq m 274 i = tn N i := (f.i (by simp) i).trans (hC.1 i i0 (by omega)).1
      have htn := tn_in h i0 (by omega : i < Mn N)
      refine S_M_surrounds_18 ?_
      simp (disch := first | (unfold r32; omega) | omega) only [j_lit, vp_J, J_cl, iq_tn, j_rd, j_nc, e26, e74, J_le, J_eq, j_ops]
      refine ⟨fun q => by omega, fun _ => ⟨by omega, fun q => ?_, fun q => ?_⟩⟩
      · have hp := (tn_is h i0 (by omega) ht.1 ht.2).mp q
        have := c_su31 (d := d) (w := w) (Q := Q) (m0 := m0) (t := t) (i := i) (base := fun x => tmk N t x i.toNat) h hR hD hM ⟨i0, by omega⟩ (fun x => by have := tmk_b h t x i.toNat; omega) (fun m' hT' => ih (i + 1) m' (by omega) (by omega) hT'.1 (fun x x0 x1 => ?_)) (N 1900).toNat 0 m (by have := h.2.2.2.2.2.2.2.2.2.2.2.2.2; omega) ⟨f, fun x x0 x1 => by rw [hI x x0 x1]; show tmk N t x i.toNat = tmk N t x i.toNat + (0 : Int); omega⟩
        · exact this
        · rw [hT'.2 x x0 x1]
          unfold tmk
          rw [sm_z _ i0, bi_1 hp, Int.one_mul]
      · have hp : ¬ pkm N i = tr N t := fun z => q ((tn_is h i0 (by omega) ht.1 ht.2).mpr z)
        refine ih (i + 1) m (by omega) (by omega) f (fun x x0 x1 => ?_)
        rw [hI x x0 x1]
        unfold tmk
        rw [sm_z _ i0, bi_0 hp, Int.zero_mul, Int.add_zero]
  have k2 : ∀ (j : Nat) (x : Int) (m : zM), 0 ≤ x → x + j = eK (BS N) → fr [289] m0 m → (∀ y, 0 ≤ y → y < x → iq m 289 y = 0) → W_M_surrounds_2 d (J t) (J x) w m Q := by
    intro j
    induction j with
    | zero =>
      intro x m x0 hj f hI
      have e43 : iq m 261 43 = eK (BS N) := (f.i (by simp) 43).trans hD.2.1
      have e81 : iq m 281 t = iq m0 281 t := f.i (by simp) t
      refine S_M_surrounds_2 ?_
      simp (disch := first | (unfold r32; omega) | omega) only [j_lit, vp_J, J_cl, iq_tn, j_rd, j_nc, e43, e81, J_le]
      refine ⟨fun _ => ⟨by omega, k18 (Mn N - iq m0 281 t).toNat (iq m0 281 t) m g1 (by omega) f (fun y y0 y1 => ?_)⟩, fun q => by omega⟩
      rw [hI y y0 (by omega)]
      exact (sm_zero _ (fun k k0 k1 => by
        rw [bi_0 (fun z => by have := g4 k k0 (by omega) z; omega), Int.zero_mul])).symm
    | succ j ih =>
      intro x m x0 hj f hI
      have e43 : iq m 261 43 = eK (BS N) := (f.i (by simp) 43).trans hD.2.1
      refine S_M_surrounds_2 ?_
      simp (disch := first | (unfold r32; omega) | omega) only [j_lit, vp_J, J_cl, j_rd, j_nc, e43, J_le, j_ops, j_wr, sq_tn]
      refine ⟨fun q => by omega, fun _ => ⟨by omega, ih (x + 1) _ (by omega) (by omega) (f.si (by simp) _ _) (fun y y0 y1 => ?_)⟩⟩
      by_cases z : y = x
      · rw [z]; exact iq_eq (by unfold r32; omega)
      · rw [iq_ne (Or.inr z) (by omega) y0]; exact hI y y0 (by omega)
  exact k2 (eK (BS N)).toNat 0 m0 (by omega) (by have := eK_0 (BS_b h); omega) (fr.rf _ _) (fun y _ _ => by omega)
end MSU
