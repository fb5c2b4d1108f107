/-! the reference: within longer ones, the counts of its terms -/
abbrev S7 : List Nat := [274, 275, 279, 280, 281, 282]
def fsk (N : Int → Int) (t k f : Int) : Prop := 0 ≤ f ∧ f < k ∧ pkm N f = tr N t ∧ ∀ x, 0 ≤ x → x < k → pkm N x = tr N t → f ≤ x
def CI (N : Int → Int) (m0 m : zM) (k : Int) : Prop := fr S7 m0 m ∧ (∀ i, 0 ≤ i → i < k → iq m 274 i = tn N i ∧ iq m 275 i = bi (wi N (mk N i) (ml N i))) ∧ ∀ t, 0 ≤ t → t < Zn N → iq m 279 t = cnt (fun j => pkm N j = tr N t) k.toNat ∧ iq m 280 t = cnt (fun j => pkm N j = tr N t ∧ ¬ wi N (mk N j) (ml N j)) k.toNat ∧ (∃ V : Nat, iq m 282 t = V ∧ V < 256 ∧ ∀ e : Nat, V.testBit e = true ↔ ∃ j, 0 ≤ j ∧ j < k ∧ pkm N j = tr N t ∧ dcN N (mk N j) = e) ∧ ((∃ j, 0 ≤ j ∧ j < k ∧ pkm N j = tr N t) → fsk N t k (iq m 281 t))
/-- what the counts are -/
def DMC (N : Int → Int) (m : zM) : Prop := (∀ i, 0 ≤ i → i < Mn N → iq m 274 i = tn N i ∧ iq m 275 i = bi (wi N (mk N i) (ml N i))) ∧ ∀ t, 0 ≤ t → t < Zn N → iq m 279 t = ct N t ∧ iq m 280 t = fe N t ∧ dsP N t (iq m 282 t) ∧ fsP N t (iq m 281 t)
section MCT
variable {d : Nat} {w : Nat × Nat × Nat} {b : Nat} {C : Int} {N : Int → Int} {mv : zM}
theorem ks_mt (h : TR C mv b N) {a l : Int} (l0 : 1 ≤ l) (l5 : l ≤ 5) : KS N (6 * a + l) ↔ mt N a l := by
  constructor
  · intro ⟨k, n, hm, e⟩
    have := mt_b h hm
    rw [show a = k by omega, show l = n by omega]
    exact hm
  · intro hm
    exact ⟨a, l, hm, rfl⟩
theorem c_inL15 {Q : Int32 → zM → Prop} {m : zM} {k n l : Int} (h : TR C mv b N) (hK : ∀ y, 0 ≤ y → y < 2400 → iq m 276 y = bi (KS N y)) (hk : 0 ≤ k ∧ k < 240) (hl : 1 ≤ n ∧ n < l ∧ l ≤ 5) (H1 : wi N k n → Q (J 1) m) (H : (∀ a, a ≤ k → k + n ≤ a + l → ¬ mt N a l) → W_M_isInLonger_4 d (J k) (J n) (J (l + 1)) w m Q) :
    ∀ (j : Nat) (x : Int), 0 ≤ x → x + j = k + 1 → k + n ≤ x + l → (∀ a, a ≤ k → k + n ≤ a + l → mt N a l → x ≤ a) → W_M_isInLonger_15 d (J k) (J n) (J l) (J x) w m Q := by
  intro j
  induction j with
  | zero =>
    intro x x0 hj hx hI
    refine S_M_isInLonger_15 ?_
    simp (disch := first | (unfold r32; omega) | omega) only [j_lit, J_lt, j_ops]
    exact ⟨fun _ => H (fun a a0 a1 hm => by have := hI a a0 a1 hm; omega), fun q => by omega⟩
  | succ j ih =>
    intro x x0 hj hx hI
    have e := hK (6 * x + l) (by omega) (by omega)
    have eb := bi_b (KS N (6 * x + l))
    refine S_M_isInLonger_15 ?_
    simp (disch := first | (unfold r32; omega) | omega) only [j_lit, J_lt, j_ops, vp_J, J_cl, j_rd, iq_tn, e, J_eq]
    refine ⟨fun q => by omega, fun _ => ⟨by omega, fun q => ih (x + 1) (by omega) (by omega) (by omega) (fun a a0 a1 hm => ?_), fun q => H1 ?_⟩⟩
    · have := hI a a0 a1 hm
      by_cases z : a = x
      · rw [z] at hm
        rw [bi_1 ((ks_mt h (by omega) (by omega)).mpr hm)] at q
        omega
      · omega
    · by_cases z : KS N (6 * x + l)
      · exact ⟨x, l, (ks_mt h (by omega) (by omega)).mp z, hl.2.1, by omega, hx⟩
      · rw [bi_0 z] at q; exact absurd rfl q
theorem c_inL4 {Q : Int32 → zM → Prop} {m : zM} {k n : Int} (h : TR C mv b N) (hK : ∀ y, 0 ≤ y → y < 2400 → iq m 276 y = bi (KS N y)) (hk : 0 ≤ k ∧ k < 240) (hn : 1 ≤ n ∧ n ≤ 5) (H1 : wi N k n → Q (J 1) m) (H0 : ¬ wi N k n → Q (J 0) m) :
    ∀ (j : Nat) (l : Int), n < l → l + j = 6 → (∀ a y, mt N a y → n < y → a ≤ k → k + n ≤ a + y → l ≤ y) → W_M_isInLonger_4 d (J k) (J n) (J l) w m Q := by
  intro j
  induction j with
  | zero =>
    intro l l0 hj hI
    refine S_M_isInLonger_4 ?_
    simp (disch := first | (unfold r32; omega) | omega) only [j_lit, J_lt]
    exact ⟨fun _ => H0 (fun ⟨a, y, hm, y1, y2, y3⟩ => by have := hI a y hm y1 y2 y3; have := mt_b h hm; omega), fun q => by omega⟩
  | succ j ih =>
    intro l l0 hj hI
    refine S_M_isInLonger_4 ?_
    simp (disch := first | (unfold r32; omega) | omega) only [j_lit, J_lt, j_ops]
    refine ⟨fun q => by omega, fun _ => c_max (by unfold r32; omega) (by unfold r32; omega) ?_⟩
    have nx : (∀ a, a ≤ k → k + n ≤ a + l → ¬ mt N a l) → W_M_isInLonger_4 d (J k) (J n) (J (l + 1)) w m Q := fun g => ih (l + 1) (by omega) (by omega) (fun a y hm y1 y2 y3 => by
      have := hI a y hm y1 y2 y3
      by_cases z : y = l
      · rw [z] at hm y3; exact absurd hm (g a y2 y3)
      · omega)
    by_cases g : 0 < k + n - l
    · rw [if_pos g]
      exact c_inL15 h hK hk ⟨hn.1, l0, by omega⟩ H1 nx (l - n + 1).toNat (k + n - l) (by omega) (by omega) (by omega) (fun a a0 a1 hm => by omega)
    · rw [if_neg g]
      exact c_inL15 h hK hk ⟨hn.1, l0, by omega⟩ H1 nx (k + 1).toNat 0 (by omega) (by omega) (by omega) (fun a a0 a1 hm => by have := mt_b h hm; omega)
theorem c_inL {Q : Int32 → zM → Prop} {m : zM} {k n : Int} (h : TR C mv b N) (hK : ∀ y, 0 ≤ y → y < 2400 → iq m 276 y = bi (KS N y)) (hk : 0 ≤ k ∧ k < 240) (hn : 1 ≤ n ∧ n ≤ 5) (H1 : wi N k n → Q (J 1) m) (H0 : ¬ wi N k n → Q (J 0) m) : cI (d + 1) 236 [.ref 261, .int (J k), .int (J n)] w m Q := by
  refine S_M_isInLonger ?_
  simp only [j_lit, j_ops]
  exact c_inL4 h hK hk hn H1 H0 (5 - n).toNat (n + 1) (by omega) (by omega) (fun a y hm y1 y2 y3 => by omega)
theorem CI.step {m0 m m' : zM} {k t : Int} {wv v V : Nat} (h : TR C mv b N) (hk : 0 ≤ k ∧ k < Mn N) (hI : CI N m0 m k) (ht : tn N k = t) (hw : bi (wi N (mk N k) (ml N k)) = (wv : Int)) (hd : dcN N (mk N k) = (v : Int)) (hv : v < 8) (hV : iq m 282 t = (V : Int)) (hV2 : V < 256)
    (f : fr S7 m m') (r274 : ∀ i, 0 ≤ i → iq m' 274 i = if i = k then t else iq m 274 i) (r275 : ∀ i, 0 ≤ i → iq m' 275 i = if i = k then (wv : Int) else iq m 275 i) (r279 : ∀ s, 0 ≤ s → iq m' 279 s = if s = t then iq m 279 t + 1 else iq m 279 s) (r280 : ∀ s, 0 ≤ s → iq m' 280 s = if s = t then iq m 280 t + (1 - (wv : Int)) else iq m 280 s) (r282 : ∀ s, 0 ≤ s → iq m' 282 s = if s = t then ((V ||| 2 ^ v : Nat) : Int) else iq m 282 s) (r281 : ∀ s, 0 ≤ s → iq m' 281 s = if s = t ∧ iq m 279 t = 0 then k else iq m 281 s) : CI N m0 m' (k + 1) := by
  obtain ⟨f0, g1, g2⟩ := hI
  have htn := tn_in h hk.1 hk.2
  rw [ht] at htn
  have is : ∀ s, 0 ≤ s → s < Zn N → (pkm N k = tr N s ↔ s = t) := fun s s0 s1 => by rw [← tn_is h hk.1 hk.2 s0 s1, ht]; exact eq_comm
  refine ⟨f0.tr f, fun i i0 i1 => ?_, fun s s0 s1 => ?_⟩
  · rw [r274 i i0, r275 i i0]
    by_cases z : i = k
    · rw [if_pos z, if_pos z, z]; exact ⟨ht.symm, hw.symm⟩
    · rw [if_neg z, if_neg z]; exact g1 i i0 (by omega)
  · obtain ⟨a1, a2, ⟨V', a3, a4, a5⟩, a6⟩ := g2 s s0 s1
    rw [r279 s s0, r280 s s0, r282 s s0, r281 s s0, cnt_z _ hk.1, cnt_z _ hk.1]
    by_cases z : s = t
    · have hp := (is s s0 s1).mpr z
      have eV : V' = V := by rw [z, hV] at a3; omega
      rw [if_pos z, if_pos z, if_pos z, bi_1 hp, ← z]
      refine ⟨by rw [a1], ?_, ⟨V ||| 2 ^ v, rfl, Nat.or_lt_two_pow (n := 8) hV2 (Nat.pow_lt_pow_right (a := 2) (by decide) hv), fun e => ?_⟩, fun _ => ?_⟩
      · rw [a2]
        by_cases y : wi N (mk N k) (ml N k)
        · rw [bi_1 y] at hw
          rw [bi_0 (fun q => q.2 y)]; omega
        · rw [bi_0 y] at hw
          rw [bi_1 ⟨hp, y⟩]; omega
      · rw [Nat.testBit_or, Bool.or_eq_true, bit_e, ← eV, a5 e]
        constructor
        · intro q
          rcases q with ⟨j, j0, j1, j2, j3⟩ | q
          · exact ⟨j, j0, by omega, j2, j3⟩
          · exact ⟨k, hk.1, by omega, hp, by rw [hd, q]⟩
        · intro ⟨j, j0, j1, j2, j3⟩
          by_cases y : j = k
          · rw [y, hd] at j3; exact Or.inr (by omega)
          · exact Or.inl ⟨j, j0, by omega, j2, j3⟩
      · by_cases y : iq m 279 s = 0
        · rw [if_pos ⟨rfl, y⟩]
          refine ⟨hk.1, by omega, hp, fun x x0 x1 e => ?_⟩
          by_cases q : x = k
          · omega
          · have := cnt_pos (P := fun j => pkm N j = tr N s) x0 e k.toNat (by omega)
            omega
        · rw [if_neg (fun q => y q.2)]
          have ex : ∃ j, 0 ≤ j ∧ j < k ∧ pkm N j = tr N s := by
            refine Classical.byContradiction (fun no => y ?_)
            rw [a1]
            exact cnt_no _ (fun j j0 j1 e => no ⟨j, j0, by omega, e⟩)
          obtain ⟨f1, f2, f3, f4⟩ := a6 ex
          exact ⟨f1, by omega, f3, fun x x0 x1 e => by
            by_cases q : x = k
            · omega
            · exact f4 x x0 (by omega) e⟩
    · have hp : ¬ pkm N k = tr N s := fun q => z ((is s s0 s1).mp q)
      rw [if_neg z, if_neg z, if_neg z, if_neg (fun q => z q.1), bi_0 hp, bi_0 (fun q => hp q.1)]
      have low : ∀ j, j < k + 1 → pkm N j = tr N s → j < k := fun j j1 e => by
        by_cases q : j = k
        · rw [q] at e; exact absurd e hp
        · omega
      refine ⟨by omega, by omega, ⟨V', a3, a4, fun e => (a5 e).trans ⟨fun ⟨j, j0, j1, j2, j3⟩ => ⟨j, j0, by omega, j2, j3⟩, fun ⟨j, j0, j1, j2, j3⟩ => ⟨j, j0, low j j1 j2, j2, j3⟩⟩⟩, fun ⟨j, j0, j1, j2⟩ => ?_⟩
      obtain ⟨f1, f2, f3, f4⟩ := a6 ⟨j, j0, low j j1 j2, j2⟩
      exact ⟨f1, by omega, f3, fun x x0 x1 e => f4 x x0 (low x x1 e) e⟩
theorem CI.fin {m0 m : zM} (h : TR C mv b N) (hI : CI N m0 m (Mn N)) : DMC N m := by
  refine ⟨hI.2.1, fun t t0 t1 => ?_⟩
  obtain ⟨a1, a2, a3, a4⟩ := hI.2.2 t t0 t1
  exact ⟨a1, a2, a3, a4 (tr_ex h t0 t1)⟩
theorem c_lays148 {Q : zM → Prop} {m : zM} {k t kk : Int} {wv v V : Nat} (ht : 0 ≤ t ∧ t < 1200) (hk : 0 ≤ k ∧ k < 1200) (e275 : iq m 275 k = (wv : Int)) (hwv : wv ≤ 1) (e282 : iq m 282 t = (V : Int)) (hV : V < 256) (e272 : iq m 272 k = kk) (hkk : 0 ≤ kk ∧ kk < 400) (e270 : iq m 270 kk = (v : Int)) (hv : v < 8)
    (H : W_M_lays_102 d (J (k + 1)) w (sq (sq (sq m 279 t (iq m 279 t + 1)) 280 t (iq m 280 t + (1 - (wv : Int)))) 282 t ((V ||| 2 ^ v : Nat) : Int)) Q) : W_M_lays_148 d (J k) (J t) w m Q := by
  have e1 : iq (sq m 279 t (iq m 279 t + 1)) 272 k = kk := by rw [iq_ne (by omega) (by omega) (by omega)]; exact e272
  have e2 : iq (sq m 279 t (iq m 279 t + 1)) 270 kk = (v : Int) := by rw [iq_ne (by omega) (by omega) (by omega)]; exact e270
  have e3 : iq (sq m 279 t (iq m 279 t + 1)) 282 t = (V : Int) := by rw [iq_ne (by omega) (by omega) (by omega)]; exact e282
  have h2 := Nat.pow_lt_pow_right (a := 2) (by decide) hv
  have h2' : 2 ^ v < 256 := h2
  have ho := J_or (a := V) (b := 2 ^ v) (by omega) (by omega)
  have hb1 : J 1 <<< (J (v : Int) &&& J 31) = J ((2 ^ v : Nat) : Int) := J_bit (by omega)
  refine S_M_lays_148 ?_
  simp (disch := first | (unfold r32; omega) | omega) only [j_lit, vp_J, J_cl, j_rd, iq_tn, e275, J_eq, j_ops, j_wr, sq_tn]
  refine ⟨by omega, by omega, by omega, by omega, fun q => S_M_one ?_, fun q => S_M_one ?_⟩
  · simp (disch := first | (unfold r32; omega) | omega) only [j_lit, vp_J, J_cl, j_rd, iq_tn, J_eq, j_ops, j_wr, sq_tn, e1, e2, e3, hb1, ho]
    refine ⟨fun _ => ⟨by omega, by omega, by omega, by omega, by omega, ?_⟩, fun y => absurd trivial y⟩
    rw [show 1 - (wv : Int) = 0 by omega] at H
    exact H
  · simp (disch := first | (unfold r32; omega) | omega) only [j_lit, vp_J, J_cl, j_rd, iq_tn, J_eq, j_ops, j_wr, sq_tn, e1, e2, e3, hb1, ho]
    refine ⟨fun y => by omega, fun _ => ⟨by omega, by omega, by omega, by omega, by omega, ?_⟩⟩
    rw [show 1 - (wv : Int) = 1 by omega] at H
    exact H
theorem MRF.rt {m : zM} (h : TR C mv b N) (hM : MRF N m) : RT N m (Zn N) := by
  have hZ := Zn_b h
  have := Mn_b h
  exact ⟨hM.2.1, hZ.1, by omega, fun t t0 t1 => (hM.2.2.2.1 t t0 t1).2⟩
theorem MRF.en {m : zM} (h : TR C mv b N) (hM : MRF N m) : enm (rk N m) (Zn N) (TS N) := (e_spec (TS_b h)).fn (fun t t0 t1 => (hM.2.2.2.1 t t0 t1).1)
theorem MRF.frm {S : List Nat} {m m' : zM} (hM : MRF N m) (f : fr S m m') (h1 : 261 ∉ S) (h2 : 272 ∉ S) (h3 : 273 ∉ S) (h4 : 276 ∉ S) (h5 : 277 ∉ S) (h6 : 278 ∉ S) : MRF N m' := by
  obtain ⟨a1, a2, a3, a4, a5⟩ := hM
  exact ⟨(f.i h1 _).trans a1, (f.i h1 _).trans a2, fun i i0 i1 => by rw [f.i h2, f.i h3]; exact a3 i i0 i1, fun t t0 t1 => by unfold rk; rw [f.i h5, f.i h6]; exact a4 t t0 t1, fun y y0 y1 => by rw [f.i h4]; exact a5 y y0 y1⟩
theorem DMB.frm {S : List Nat} {m m' : zM} (h : DMB m N) (f : fr S m m') (h1 : 261 ∉ S) (h2 : 268 ∉ S) (h3 : 269 ∉ S) (h4 : 270 ∉ S) (h5 : 271 ∉ S) (h6 : 286 ∉ S) (h7 : 287 ∉ S) : DMB m' N := by
  obtain ⟨a1, a2, a3, a4, a5⟩ := h
  exact ⟨(f.i h1 _).trans a1, (f.i h1 _).trans a2, fun i i0 i1 => by rw [f.l h2, f.i h3, f.i h4, f.i h7]; exact a3 i i0 i1, fun t t0 t1 => by rw [f.l h6]; exact a4 t t0 t1, fun i i0 i1 => by rw [f.l h5]; exact a5 i i0 i1⟩
theorem c_lays102 {Q : zM → Prop} {m0 : zM} (h : TR C mv b N) (hD0 : DMB m0 N) (hM0 : MRF N m0) (H : ∀ m, CI N m0 m (Mn N) → W_M_lays_192 (d + 2) (J 0) w m Q) :
    ∀ (j : Nat) (k : Int) (m : zM), 0 ≤ k → k + j = Mn N → CI N m0 m k → W_M_lays_102 (d + 2) (J k) w m Q := by
  have hMb := Mn_b h
  have hZb := Zn_b h
  intro j
  induction j with
  | zero =>
    intro k m hk hj hI
    have hM := hM0.frm hI.1 (by simp) (by simp) (by simp) (by simp) (by simp) (by simp)
    refine S_M_lays_102 ?_
    simp (disch := first | (unfold r32; omega) | omega) only [j_lit, j_rd, j_nc, hM.1, J_le]
    rw [show k = Mn N by omega] at hI
    exact ⟨fun _ => H m hI, fun q => by omega⟩
  | succ j ih =>
    intro k m hk hj hI
    have hM := hM0.frm hI.1 (by simp) (by simp) (by simp) (by simp) (by simp) (by simp)
    have hD := hD0.frm hI.1 (by simp) (by simp) (by simp) (by simp) (by simp) (by simp) (by simp)
    obtain ⟨e72, e73⟩ := hM.2.2.1 k hk (by omega)
    have hb := mk_bd h hk (by omega : k < Mn N)
    have htn := tn_in h hk (by omega : k < Mn N)
    have hdc := dc_ex h.2.2.2.1 hb.1 (by omega : mk N k < wW N)
    have h8 := h.2.2.2.1.2.1
    obtain ⟨v, hv⟩ : ∃ v : Nat, dcN N (mk N k) = (v : Int) := ⟨(dcN N (mk N k)).toNat, by have := hdc.1; omega⟩
    have hv8 : v < 8 := by have := hdc.2.1; omega
    obtain ⟨a1, a2, ⟨V, a3, a4, a5⟩, a6⟩ := hI.2.2 (tn N k) htn.1 htn.2.1
    have c1 := cnt_b (fun j => pkm N j = tr N (tn N k)) k.toNat
    have c2 := cnt_b (fun j => pkm N j = tr N (tn N k) ∧ ¬ wi N (mk N j) (ml N j)) k.toNat
    have e70 : iq m 270 (mk N k) = (v : Int) := by rw [(hD.2.2.1 (mk N k) hb.1 (by omega)).2.2.2.2.1]; exact hv
    -- the rest, from whether it is within a longer one
    have go : ∀ wv : Nat, wv ≤ 1 → bi (wi N (mk N k) (ml N k)) = (wv : Int) → 
        ((¬ iq m 279 (tn N k) = 0 → W_M_lays_148 (d + 2) (J k) (J (tn N k)) w (sq (sq m 274 k (tn N k)) 275 k (wv : Int)) Q) ∧ (iq m 279 (tn N k) = 0 → W_M_lays_148 (d + 2) (J k) (J (tn N k)) w (sq (sq (sq m 274 k (tn N k)) 275 k (wv : Int)) 281 (tn N k) k) Q)) := fun wv w1 hw => by
      obtain ⟨t, ht⟩ : ∃ t, tn N k = t := ⟨_, rfl⟩
      rw [ht] at htn a1 a2 a3 c1 c2 ⊢
      refine ⟨fun q => ?_, fun q => ?_⟩
      · have f : fr [274, 275] m (sq (sq m 274 k t) 275 k (wv : Int)) := ((fr.rf _ m).si (by simp) _ _).si (by simp) _ _
        refine c_lays148 (kk := mk N k) (wv := wv) (v := v) (V := V) ⟨by omega, by omega⟩ ⟨hk, by omega⟩ (iq_eq (by unfold r32; omega)) w1 (by rw [f.i (by simp)]; exact a3) a4 (by rw [f.i (by simp)]; exact e72) ⟨hb.1, by omega⟩ (by rw [f.i (by simp)]; exact e70) hv8 ?_
        have x279 : iq (sq (sq m 274 k t) 275 k (wv : Int)) 279 t = iq m 279 t := f.i (by simp) t
        have x280 : iq (sq (sq m 274 k t) 275 k (wv : Int)) 280 t = iq m 280 t := f.i (by simp) t
        rw [x279, x280]
        have hor : V ||| 2 ^ v < 256 := Nat.or_lt_two_pow (n := 8) a4 (Nat.pow_lt_pow_right (a := 2) (by decide) hv8)
        refine ih (k + 1) _ (by omega) (by omega) (CI.step (m := m) (t := t) (wv := wv) (v := v) (V := V) h ⟨hk, by omega⟩ hI ht hw hv hv8 a3 a4 ((((f.mo (by simp)).si (by simp) _ _).si (by simp) _ _).si (by simp) _ _) (fun i i0 => ?_) (fun i i0 => ?_) (fun s s0 => ?_) (fun s s0 => ?_) (fun s s0 => ?_) (fun s s0 => ?_))
        · rw [iq_ne (by omega) (by omega) i0, iq_ne (by omega) (by omega) i0, iq_ne (by omega) (by omega) i0, iq_ne (by omega) (by omega) i0]
          by_cases z : i = k
          · rw [if_pos z, z, iq_eq (by unfold r32; omega)]
          · rw [if_neg z, iq_ne (Or.inr z) (by omega) i0]
        · rw [iq_ne (by omega) (by omega) i0, iq_ne (by omega) (by omega) i0, iq_ne (by omega) (by omega) i0]
          by_cases z : i = k
          · rw [if_pos z, z, iq_eq (by unfold r32; omega)]
          · rw [if_neg z, iq_ne (Or.inr z) (by omega) i0, iq_ne (by omega) (by omega) i0]
        · rw [iq_ne (by omega) (by omega) s0, iq_ne (by omega) (by omega) s0]
          by_cases z : s = t
          · rw [if_pos z, z, iq_eq (by unfold r32; omega)]
          · rw [if_neg z, iq_ne (Or.inr z) (by omega) s0, f.i (by simp)]
        · rw [iq_ne (by omega) (by omega) s0]
          by_cases z : s = t
          · rw [if_pos z, z, iq_eq (by unfold r32; omega)]
          · rw [if_neg z, iq_ne (Or.inr z) (by omega) s0, iq_ne (by omega) (by omega) s0, f.i (by simp)]
        · by_cases z : s = t
          · rw [if_pos z, z, iq_eq (by unfold r32; omega)]
          · rw [if_neg z, iq_ne (Or.inr z) (by omega) s0, iq_ne (by omega) (by omega) s0, iq_ne (by omega) (by omega) s0, f.i (by simp)]
        · rw [if_neg (fun z => q z.2), iq_ne (by omega) (by omega) s0, iq_ne (by omega) (by omega) s0, iq_ne (by omega) (by omega) s0, f.i (by simp)]
      · have f : fr [274, 275, 281] m (sq (sq (sq m 274 k t) 275 k (wv : Int)) 281 t k) := (((fr.rf _ m).si (by simp) _ _).si (by simp) _ _).si (by simp) _ _
        refine c_lays148 (kk := mk N k) (wv := wv) (v := v) (V := V) ⟨by omega, by omega⟩ ⟨hk, by omega⟩ (by rw [iq_ne (by omega) (by omega) (by omega)]; exact iq_eq (by unfold r32; omega)) w1 (by rw [f.i (by simp)]; exact a3) a4 (by rw [f.i (by simp)]; exact e72) ⟨hb.1, by omega⟩ (by rw [f.i (by simp)]; exact e70) hv8 ?_
        have x279 : iq (sq (sq (sq m 274 k t) 275 k (wv : Int)) 281 t k) 279 t = iq m 279 t := f.i (by simp) t
        have x280 : iq (sq (sq (sq m 274 k t) 275 k (wv : Int)) 281 t k) 280 t = iq m 280 t := f.i (by simp) t
        rw [x279, x280]
        have hor : V ||| 2 ^ v < 256 := Nat.or_lt_two_pow (n := 8) a4 (Nat.pow_lt_pow_right (a := 2) (by decide) hv8)
        refine ih (k + 1) _ (by omega) (by omega) (CI.step (m := m) (t := t) (wv := wv) (v := v) (V := V) h ⟨hk, by omega⟩ hI ht hw hv hv8 a3 a4 ((((f.mo (by simp)).si (by simp) _ _).si (by simp) _ _).si (by simp) _ _) (fun i i0 => ?_) (fun i i0 => ?_) (fun s s0 => ?_) (fun s s0 => ?_) (fun s s0 => ?_) (fun s s0 => ?_))
        · rw [iq_ne (by omega) (by omega) i0, iq_ne (by omega) (by omega) i0, iq_ne (by omega) (by omega) i0, iq_ne (by omega) (by omega) i0, iq_ne (by omega) (by omega) i0]
          by_cases z : i = k
          · rw [if_pos z, z, iq_eq (by unfold r32; omega)]
          · rw [if_neg z, iq_ne (Or.inr z) (by omega) i0]
        · rw [iq_ne (by omega) (by omega) i0, iq_ne (by omega) (by omega) i0, iq_ne (by omega) (by omega) i0, iq_ne (by omega) (by omega) i0]
          by_cases z : i = k
          · rw [if_pos z, z, iq_eq (by unfold r32; omega)]
          · rw [if_neg z, iq_ne (Or.inr z) (by omega) i0, iq_ne (by omega) (by omega) i0]
        · rw [iq_ne (by omega) (by omega) s0, iq_ne (by omega) (by omega) s0]
          by_cases z : s = t
          · rw [if_pos z, z, iq_eq (by unfold r32; omega)]
          · rw [if_neg z, iq_ne (Or.inr z) (by omega) s0, f.i (by simp)]
        · rw [iq_ne (by omega) (by omega) s0]
          by_cases z : s = t
          · rw [if_pos z, z, iq_eq (by unfold r32; omega)]
          · rw [if_neg z, iq_ne (Or.inr z) (by omega) s0, iq_ne (by omega) (by omega) s0, f.i (by simp)]
        · by_cases z : s = t
          · rw [if_pos z, z, iq_eq (by unfold r32; omega)]
          · rw [if_neg z, iq_ne (Or.inr z) (by omega) s0, iq_ne (by omega) (by omega) s0, iq_ne (by omega) (by omega) s0, f.i (by simp)]
        · rw [iq_ne (by omega) (by omega) s0, iq_ne (by omega) (by omega) s0, iq_ne (by omega) (by omega) s0]
          by_cases z : s = t
          · rw [if_pos ⟨z, q⟩, z, iq_eq (by unfold r32; omega)]
          · rw [if_neg (fun y => z y.1), iq_ne (Or.inr z) (by omega) s0, iq_ne (by omega) (by omega) s0, iq_ne (by omega) (by omega) s0]
    refine S_M_lays_102 ?_
    simp (disch := first | (unfold r32; omega) | omega) only [j_lit, j_rd, j_nc, hM.1, J_le, vp_J, J_cl, iq_tn, e72, e73]
    refine ⟨fun q => by omega, fun _ => ⟨by omega, by omega, c_M_placeOf (d := d + 1) h (fun i i0 i1 => (hD.2.2.1 i i0 i1).1) (hM.rt h) (hM.en h).2.1 ⟨hb.1, by omega, hb.2.2.1, hb.2.2.2.1⟩ (fun p hp => ⟨by omega, by omega, by omega, ?_⟩)⟩⟩
    obtain ⟨p1, p2⟩ := lw_at (hM.en h) hp ⟨k, hk, by omega, rfl⟩
    have p0 := hp.1
    rw [(hM.2.2.2.1 p p0 p1).1] at p2
    have ep : tn N k = p := (tn_is h hk (by omega) p0 p1).mpr p2.symm
    have K' : ∀ y, 0 ≤ y → y < 2400 → iq (sq m 274 k p) 276 y = bi (KS N y) := fun y y0 y1 => by rw [iq_ne (by omega) (by omega) y0]; exact hM.2.2.2.2 y y0 y1
    have x79 : iq (sq m 274 k p) 279 p = iq m 279 p := iq_ne (by omega) (by omega) (by omega)
    rw [ep] at go c1 a1
    simp (disch := first | (unfold r32; omega) | omega) only [j_rd, iq_tn, J_cl, j_wr, sq_tn, e72, e73]
    refine c_inL (d := d + 1) h K' ⟨hb.1, by omega⟩ ⟨hb.2.1, hb.2.2.1⟩ (fun hwi => ?_) (fun hwi => ?_)
    · have g := go 1 (by omega) (bi_1 hwi)
      simp (disch := first | (unfold r32; omega) | omega) only [j_lit, j_rd, iq_tn, J_cl, j_wr, sq_tn, x79, J_eq, vp_J]
      exact ⟨⟨by omega, by first | omega | simp⟩, by omega, g.1, fun q => ⟨by omega, g.2 q⟩⟩
    · have g := go 0 (by omega) (bi_0 hwi)
      simp (disch := first | (unfold r32; omega) | omega) only [j_lit, j_rd, iq_tn, J_cl, j_wr, sq_tn, x79, J_eq, vp_J]
      exact ⟨⟨by omega, by first | omega | simp⟩, by omega, g.1, fun q => ⟨by omega, g.2 q⟩⟩
theorem c_lays79 {Q : zM → Prop} {m0 : zM} (h : TR C mv b N) (hM0 : MRF N m0) (H : ∀ m, CI N m0 m 0 → W_M_lays_102 d (J 0) w m Q) :
    ∀ (j : Nat) (k : Int) (m : zM), 0 ≤ k → k + j = Zn N → fr [279, 280, 282] m0 m → (∀ t, 0 ≤ t → t < k → iq m 279 t = 0 ∧ iq m 280 t = 0 ∧ iq m 282 t = 0) → W_M_lays_79 d (J k) w m Q := by
  have hMb := Mn_b h
  have hZb := Zn_b h
  intro j
  induction j with
  | zero =>
    intro k m hk hj f hI
    have hM := hM0.frm f (by simp) (by simp) (by simp) (by simp) (by simp) (by simp)
    refine S_M_lays_79 ?_
    simp (disch := first | (unfold r32; omega) | omega) only [j_lit, j_rd, j_nc, hM.2.1, J_le]
    refine ⟨fun _ => H m ⟨f.mo (by simp), fun i _ _ => by omega, fun t t0 t1 => ?_⟩, fun q => by omega⟩
    obtain ⟨b1, b2, b3⟩ := hI t t0 (by omega)
    exact ⟨b1, b2, ⟨0, b3, by omega, fun e => ⟨fun q => by rw [Nat.zero_testBit] at q; exact absurd q (by decide), fun ⟨j, j0, j1, _⟩ => by omega⟩⟩, fun ⟨j, j0, j1, _⟩ => by omega⟩
  | succ j ih =>
    intro k m hk hj f hI
    have hM := hM0.frm f (by simp) (by simp) (by simp) (by simp) (by simp) (by simp)
    refine S_M_lays_79 ?_
    simp (disch := first | (unfold r32; omega) | omega) only [j_lit, j_rd, j_nc, hM.2.1, J_le, vp_J, J_cl, j_wr, sq_tn, j_ops]
    refine ⟨fun q => by omega, fun _ => ⟨by omega, by omega, by omega, ih (k + 1) _ (by omega) (by omega) (((f.si (by simp) _ _).si (by simp) _ _).si (by simp) _ _) (fun t t0 t1 => ?_)⟩⟩
    by_cases z : t = k
    · subst z
      refine ⟨?_, ?_, ?_⟩
      · rw [iq_ne (by omega) (by omega) t0, iq_ne (by omega) (by omega) t0]; exact iq_eq (by unfold r32; omega)
      · rw [iq_ne (by omega) (by omega) t0]; exact iq_eq (by unfold r32; omega)
      · exact iq_eq (by unfold r32; omega)
    · obtain ⟨b1, b2, b3⟩ := hI t t0 (by omega)
      refine ⟨?_, ?_, ?_⟩
      · rw [iq_ne (by omega) (by omega) t0, iq_ne (by omega) (by omega) t0, iq_ne (Or.inr z) (by omega) t0]; exact b1
      · rw [iq_ne (by omega) (by omega) t0, iq_ne (Or.inr z) (by omega) t0, iq_ne (by omega) (by omega) t0]; exact b2
      · rw [iq_ne (Or.inr z) (by omega) t0, iq_ne (by omega) (by omega) t0, iq_ne (by omega) (by omega) t0]; exact b3
end MCT
