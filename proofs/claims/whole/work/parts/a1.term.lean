/-! term: both sides -/
noncomputable def wdl (r : Int) : List Int := Classical.epsilon (fun l => wd l ∧ l ≠ [] ∧ eM l = r)
theorem wdl_s {c r : Int} (h : ww c r) : wd (wdl r) ∧ c = eC (wdl r) ∧ r = eM (wdl r) := by
  obtain ⟨l, l1, l2, l3, l4⟩ := id h
  have s : wd (wdl r) ∧ wdl r ≠ [] ∧ eM (wdl r) = r := Classical.epsilon_spec (p := fun l => wd l ∧ l ≠ [] ∧ eM l = r) ⟨l, l1, l2, l4.symm⟩
  have h2 : ww (eC (wdl r)) r := ⟨wdl r, s.1, s.2.1, rfl, s.2.2.symm⟩
  exact ⟨s.1, (ww_cmp h h2).2.mpr rfl, s.2.2.symm⟩
/-- words with spaces -/
def rowL (f : Int → List Int) : Nat → List Int
  | 0 => []
  | n + 1 => rowL f n ++ ((if n = 0 then [] else [32]) ++ sp (f n))
theorem rowL_s (f : Int → List Int) {k : Int} (h : 0 ≤ k) : rowL f (k + 1).toNat = rowL f k.toNat ++ ((if k.toNat = 0 then [] else [32]) ++ sp (f k)) := by
  rw [show (k + 1).toNat = k.toNat + 1 by omega]
  show rowL f k.toNat ++ ((if k.toNat = 0 then [] else [32]) ++ sp (f ((k.toNat : Nat) : Int))) = _
  rw [show ((k.toNat : Nat) : Int) = k by omega]
theorem rowL_congr {f g : Int → List Int} : ∀ n : Nat, (∀ k : Int, 0 ≤ k → k < n → f k = g k) → rowL f n = rowL g n := by
  intro n
  induction n with
  | zero => intro _; rfl
  | succ n ih =>
    intro h
    show rowL f n ++ ((if n = 0 then [] else [32]) ++ sp (f n)) = rowL g n ++ ((if n = 0 then [] else [32]) ++ sp (g n))
    rw [ih (fun k k0 k1 => h k k0 (by omega)), h n (by omega) (by omega)]
theorem rowL_b {f : Int → List Int} : ∀ n : Nat, (∀ k : Int, 0 ≤ k → k < n → wd (f k)) → bok (rowL f n) ∧ (rowL f n).length ≤ 11 * n - 1 := by
  intro n
  induction n with
  | zero => intro _; exact ⟨fun x hx => by simp [rowL] at hx, by simp [rowL]⟩
  | succ n ih =>
    intro h
    obtain ⟨a1, a2⟩ := ih (fun k k0 k1 => h k k0 (by omega))
    have hw := h n (by omega) (by omega)
    have hb := sp_ok hw
    have hl := hw.1
    have hs := sp_len (f n)
    refine ⟨fun x hx => ?_, ?_⟩
    · have hx' : x ∈ rowL f n ++ ((if n = 0 then [] else [32]) ++ sp (f n)) := hx
      rw [List.mem_append, List.mem_append] at hx'
      rcases hx' with q | q | q
      · exact a1 x q
      · by_cases g : n = 0
        · rw [if_pos g] at q; simp at q
        · rw [if_neg g] at q; simp at q; exact Or.inl q
      · exact hb x q
    · show (rowL f n ++ ((if n = 0 then [] else [32]) ++ sp (f n))).length ≤ _
      rw [List.length_append, List.length_append]
      by_cases g : n = 0
      · rw [if_pos g]; simp; omega
      · rw [if_neg g]; simp; omega
/-- what term says -/
noncomputable def tWd (N : Int → Int) (c x : Int) : Int → List Int := fun i => wdl (if c = 0 then bs N (mk N x + i) else wr N (mk N x + i))
section TER
variable {d : Nat} {w : Nat × Nat × Nat} {C : Int} {N : Int → Int} {mv : zM} {b : Nat}
theorem CB.pf {t x y : Int} (h : CB N t x) (h' : CB N t y) : pfm N x = pfm N y := by
  have a := h.2.2.2 y h'.1 h'.2.1 h'.2.2.1
  have c := h'.2.2.2 x h.1 h.2.1 h.2.2.1
  omega
theorem pk_bs (h : TR C mv b N) {k k' n : Int} (k0 : 0 ≤ k) (k1 : 0 ≤ k') (n0 : 0 ≤ n) (n5 : n ≤ 5) (h1 : k + n ≤ wW N) (h2 : k' + n ≤ wW N) (e : pk N k n = pk N k' n) : ∀ x, 0 ≤ x → x < n → bs N (k + x) = bs N (k' + x) := fun x x0 x1 =>
  (ei_inj (BS_b h) ⟨k + x, by omega, by omega, rfl⟩ ⟨k' + x, by omega, by omega, rfl⟩).mp (((pkf_inj (okd_id h k0 h1) (okd_id h k1 h2) n0 n0 n5 n5).mp e).2 x x0 x1)
theorem tWd_wd (h : TR C mv b N) {t x c : Int} (hx : CB N t x) : ∀ k : Int, 0 ≤ k → k < tl N t → wd (tWd N c x k) := fun k k0 k1 => by
  have bb := mk_bd h hx.1 hx.2.1
  rw [tl_m h hx.1 hx.2.1 hx.2.2.1] at k1
  unfold tWd
  by_cases q : c = 0
  · rw [if_pos q]
    obtain ⟨cb, hc⟩ := h.bs (i := mk N x + k) (by omega) (by omega)
    exact (wdl_s hc).1
  · rw [if_neg q]
    exact (wdl_s (h.words.2.2.2 (mk N x + k) (by omega) (by omega))).1
theorem tWd_eq (h : TR C mv b N) {t x y c : Int} (hx : CB N t x) (hy : CB N t y) : ∀ k : Int, 0 ≤ k → k < tl N t → tWd N c x k = tWd N c y k := fun k k0 k1 => by
  have l1 := tl_m h hx.1 hx.2.1 hx.2.2.1
  have l2 := tl_m h hy.1 hy.2.1 hy.2.2.1
  have b1 := mk_bd h hx.1 hx.2.1
  have b2 := mk_bd h hy.1 hy.2.1
  unfold tWd
  by_cases q : c = 0
  · rw [if_pos q, if_pos q]
    have e : pk N (mk N x) (ml N x) = pk N (mk N y) (ml N x) := by
      have e0 : pkm N x = pkm N y := hx.2.2.1.trans hy.2.2.1.symm
      unfold pkm at e0
      rw [show ml N y = ml N x by omega] at e0
      exact e0
    rw [pk_bs h b1.1 b2.1 (by omega) (by omega) (by omega) (by omega) e k k0 (by omega)]
  · rw [if_neg q, if_neg q]
    rw [(pfm_iff h ⟨hx.1, hx.2.1⟩ ⟨hy.1, hy.2.1⟩ (by omega)).mp (hx.pf hy) k k0 (by omega)]
theorem c_T_term32 {Q : Int32 → zM → Prop} {m0 : zM} {t x c : Int} (rc : r32 c) (hI : IVB C w m0 N) (hd : DC m0 N) (ht : 0 ≤ t ∧ t < Zn N) (hx : CB N t x) (H : ∀ m', FC m0 m' → SLC m' (rowL (tWd N c x) (tl N t).toNat) → Q (J (iq m' 6 1)) m') : ∀ (z : Nat) (k : Int) (m : zM), 0 ≤ k → k + z = tl N t → FC m0 m → SLC m (rowL (tWd N c x) k.toNat) → W_T_term_32 (d + 3) (J c) (J (mk N x)) (J (tl N t)) (J k) w m Q := by
  have hb := hI.zT
  have hT := hI.2.2.2.2.1
  have htl := tl_b hT ht.1 ht.2
  have l1 := tl_m hT hx.1 hx.2.1 hx.2.2.1
  have b1 := mk_bd hT hx.1 hx.2.1
  have hW := hT.words
  intro z
  induction z with
  | zero =>
    intro k m k0 hz f hs
    refine S_T_term_32 hb ?_
    obtain rfl : k = tl N t := by omega
    simp (disch := first | (unfold r32; omega) | omega) only [j_lit, j_ops, J_le, j_rd, j_nc]
    exact ⟨fun _ => H m f hs, fun q => by omega⟩
  | succ z ih =>
    intro k m k0 hz f hs
    have hwk := tWd_wd hT (c := c) hx k k0 (by omega)
    have hbk := sp_ok hwk
    have hlk := hwk.1
    have hsl := sp_len (tWd N c x k)
    have hb1 := rowL_b (f := tWd N c x) k.toNat (fun i i0 i1 => tWd_wd hT hx i i0 (by omega))
    -- the word itself
    have word : ∀ (m1 : zM) (L : List Int), FC m0 m1 → SLC m1 L → L.length ≤ 44 → L ++ sp (tWd N c x k) = rowL (tWd N c x) (k + 1).toNat → ((c = 0 → cL (d + 3) 157 [.ref 221, .int (J (mk N x + k))] w m1 (fun v1 m2 => cV (d + 3) 6 [.ref 6, .long v1] w m2 (fun m3 => W_T_term_32 (d + 3) (J c) (J (mk N x)) (J (tl N t)) (J (k + 1)) w m3 Q))) ∧ (¬ c = 0 → cL (d + 3) 57 [.ref (w.2.1 + 10), .int (J (mk N x + k))] w m1 (fun v1 m2 => cV (d + 3) 6 [.ref 6, .long v1] w m2 (fun m3 => W_T_term_32 (d + 3) (J c) (J (mk N x)) (J (tl N t)) (J (k + 1)) w m3 Q)))) := by
      intro m1 L f1 s1 hL eL
      have say : ∀ v, v = eC (tWd N c x k) → cV (d + 3) 6 [.ref 6, .long (JL v)] w m1 (fun m3 => W_T_term_32 (d + 3) (J c) (J (mk N x)) (J (tl N t)) (J (k + 1)) w m3 Q) := fun v hv => by
        have s10 := s1.1
        rw [hv]
        refine c_addWord (d := d) (n := 54) ⟨rfl, rfl, rfl⟩ (by decide) hwk (by omega) (by omega) ?_
        obtain ⟨g1, g2⟩ := s1.app hbk (by omega)
        rw [eL] at g1
        exact ih (k + 1) _ (by omega) (by omega) (f1.tr g2) g1
      refine ⟨fun q => c_atl (n := 240) rfl (by decide) (by unfold r32; omega) (by omega) (say _ ?_), fun q => c_wordAt hb (by omega) (say _ ?_)⟩
      · have e1 := (hd.1.2.1 (mk N x + k) (by omega) (by omega)).1
        rw [fr.l f1 (by simp)]
        unfold tWd
        rw [if_pos q]
        exact (wdl_s e1).2.1
      · have e1 := (hI.fc f1).2.2.2.2.1.words.2.2.2 (mk N x + k) (by omega) (by omega)
        unfold tWd
        rw [if_neg q]
        exact (wdl_s e1).2.1
    refine S_T_term_32 hb ?_
    simp (disch := first | exact rc | (unfold r32; omega) | omega) only [j_lit, j_ops, J_le, J_eq]
    refine ⟨fun q => by omega, fun _ => ⟨fun q => by omega, fun _ => ⟨fun q => ?_, fun q => ?_⟩⟩⟩
    · obtain rfl : k = 0 := by omega
      exact word m [] f hs (by simp) rfl
    · have s10 := hs.1
      refine c_add (d := d + 2) (n := 54) ⟨rfl, rfl, rfl⟩ (by decide) (by omega) ?_
      obtain ⟨g1, g2⟩ := hs.app (l := [32]) (fun y hy => by simp at hy; exact Or.inl hy) (by simp; omega)
      refine word _ (rowL (tWd N c x) k.toNat ++ [32]) (f.tr g2) g1 (by simp; omega) ?_
      rw [rowL_s _ k0, if_neg (by omega), List.append_assoc]
theorem c_termQ {Q : Int32 → zM → Prop} {m : zM} {t c : Int} (rt : r32 t) (rc : r32 c) (hI : IVN C w m N) (H0 : ∀ m', IVN C w m' N → ¬ (0 ≤ t ∧ t < Zn N) → Q (J (-1)) m') (H : ∀ m' x, IVB C w m' N → CB N t x → 0 ≤ t ∧ t < Zn N → SLC m' (rowL (tWd N c x) (tl N t).toNat) → Q (J (iq m' 6 1)) m') : cI (d + 9) 129 [.ref 3, .int (J t), .int (J c)] w m Q := by
  refine S_T_term (c_Ldraw (d := d) hI (fun m1 hI1 _ hd _ _ => ?_))
  have hT := hI1.2.2.2.2.1
  have hM := Mn_b hT
  have hZ := Zn_b hT
  obtain ⟨hB, hDm, hT0, hU, _⟩ := id hd
  simp (disch := first | exact rt | exact rc | (unfold r32; omega) | omega) only [j_lit, j_ops, J_lt, j_rd, j_nc, hT0.1]
  refine ⟨fun q => H0 m1 hI1 (by omega), fun q1 => ⟨fun q2 => ?_, fun q2 => H0 m1 hI1 (by omega)⟩⟩
  have ht : 0 ≤ t ∧ t < Zn N := by omega
  obtain ⟨a1, a2, a3, a4, a5, a6, a7, a8, a9, a10⟩ := hT0.2.1 t ht.1 ht.2
  have b7 := mk_bd hT a7.1 a7.2.1
  refine c_at (n := 1200) rfl (by decide) rt (by omega) (c_at (n := 1200) rfl (by decide) (by have := a7.1; have := a7.2.1; unfold r32; omega) (by have := a7.1; have := a7.2.1; omega) (c_lengthOf (d := d + 6) hT hT0 ht.1 ht.2 ?_))
  obtain ⟨f1, f2, f3, f4⟩ := hDm.1.2 (iq m1 245 t) a7.1 a7.2.1
  have htl := tl_b hT ht.1 ht.2
  simp only [j_wr, j_nc, f1]
  refine c_T_term32 (d := d + 5) rc hI1.ba hd ht a7 (fun m' f hs => H m' _ (hI1.ba.fc f) a7 ht hs) (tl N t).toNat 0 _ (by omega) (by omega) ((fr.rf _ m1).si (by simp) _ _) ⟨iq_eq (by unfold r32; omega), fun i hi => by simp [rowL] at hi⟩
theorem c_M_term14 {Q : Int32 → zM → Prop} {m0 : zM} {t x c : Int} (rc : r32 c) (hI : IVB C w m0 N) (hd : DM m0 N) (ht : 0 ≤ t ∧ t < Zn N) (hx : CB N t (iq m0 261 56)) (ex : x = iq m0 261 56) (H : ∀ m', FM m0 m' → SLM m' (rowL (tWd N c x) (tl N t).toNat) → Q (J (iq m' 261 54)) m') : ∀ (z : Nat) (k : Int) (m : zM), 0 ≤ k → k + z = tl N t → FM m0 m → SLM m (rowL (tWd N c x) k.toNat) → W_M_term_14 (d + 1) (J t) (J c) (J k) w m Q := by
  rw [← ex] at hx
  have hb := hI.zT
  have hT := hI.2.2.2.2.1
  have hR := hI.2.2.2.1
  have htl := tl_b hT ht.1 ht.2
  have hM := Mn_b hT
  have hZ := Zn_b hT
  have l1 := tl_m hT hx.1 hx.2.1 hx.2.2.1
  have b1 := mk_bd hT hx.1 hx.2.1
  have hW := hT.words
  have hx0 := hx.1
  have hx1 := hx.2.1
  obtain ⟨k1, k2, k3, k4, k5⟩ := hd.2.1.2.2.2.1 t ht.1 ht.2
  have e78 : iq m0 278 t = tl N t := (hd.2.1.tlr hT ht.1 ht.2).1
  rw [e78] at k3 k4 k5
  have k1' : pk N (iq m0 277 t) (tl N t) = tr N t := by
    have := k1
    unfold rk at this
    rw [e78] at this
    exact this
  have hbs : ∀ i, 0 ≤ i → i < tl N t → bs N (iq m0 277 t + i) = bs N (mk N x + i) := pk_bs hT k2 b1.1 (by omega) (by omega) (by omega) (by omega) (by
    rw [k1', ← hx.2.2.1, l1]; rfl)
  intro z
  induction z with
  | zero =>
    intro k m k0 hz f hs
    have e78' : iq m 278 t = tl N t := (f.1.i (by simp) t).trans e78
    refine S_M_term_14 ?_
    obtain rfl : k = tl N t := by omega
    simp (disch := first | (unfold r32; omega) | omega) only [j_lit, j_ops, vp_J, J_cl, iq_tn, J_le, j_rd, j_nc, e78']
    exact ⟨by omega, fun _ => H m f hs, fun q => by omega⟩
  | succ z ih =>
    intro k m k0 hz f hs
    have e78' : iq m 278 t = tl N t := (f.1.i (by simp) t).trans e78
    have hwk := tWd_wd hT (c := c) hx k k0 (by omega)
    have hbk := sp_ok hwk
    have hlk := hwk.1
    have hsl := sp_len (tWd N c x k)
    have hb1 := rowL_b (f := tWd N c x) k.toNat (fun i i0 i1 => tWd_wd hT hx i i0 (by omega))
    have word : ∀ (m1 : zM) (L : List Int), FM m0 m1 → SLM m1 L → L.length ≤ 44 → L ++ sp (tWd N c x k) = rowL (tWd N c x) (k + 1).toNat → ((c = 0 → vp_in (J t) 2000 ∧ (vp_in ((m1.1 277 (J t).toNatClampNeg) + J k) 400 ∧ (cV (d + 1) 264 [.ref 261, .long (m1.2 268 (((m1.1 277 (J t).toNatClampNeg) + J k)).toNatClampNeg)] w m1 (fun m3 => W_M_term_14 (d + 1) (J t) (J c) (J (k + 1)) w m3 Q)))) ∧ (¬ c = 0 → vp_in (m1.1 261 56) 2000 ∧ (vp_in (((269 : Int32) + (m1.1 272 ((m1.1 261 56)).toNatClampNeg)) + J k) 1906 ∧ (cV (d + 1) 264 [.ref 261, .long (m1.2 262 ((((269 : Int32) + (m1.1 272 ((m1.1 261 56)).toNatClampNeg)) + J k)).toNatClampNeg)] w m1 (fun m3 => W_M_term_14 (d + 1) (J t) (J c) (J (k + 1)) w m3 Q))))) := by
      intro m1 L f1 s1 hL eL
      have e56 : iq m1 261 56 = x := (f1.2.1 56 (by omega) (by omega)).trans ex.symm
      have e72 : iq m1 272 x = mk N x := (f1.1.i (by simp) x).trans (hd.2.1.2.2.1 x hx0 hx1).1
      have e77 : iq m1 277 t = iq m0 277 t := f1.1.i (by simp) t
      have e68 : lq m1 268 (iq m0 277 t + k) = bs N (iq m0 277 t + k) := (f1.1.l (by simp) _).trans (hd.1.2.2.1 (iq m0 277 t + k) (by omega) (by omega)).1
      have e62 : lq m1 262 (269 + mk N x + k) = N (269 + mk N x + k) := (f1.1.l (by simp) _).trans (hR (269 + mk N x + k) (by omega) (by omega))
      have say : ∀ v, v = eM (tWd N c x k) → cV (d + 1) 264 [.ref 261, .long (JL v)] w m1 (fun m3 => W_M_term_14 (d + 1) (J t) (J c) (J (k + 1)) w m3 Q) := fun v hv => by
        have s10 := s1.1
        rw [hv]
        refine c_saysWord (d := d) hwk (by omega) (by omega) ?_
        obtain ⟨g1, g2⟩ := s1.app hbk (by omega)
        rw [eL] at g1
        exact ih (k + 1) _ (by omega) (by omega) (f1.tr g2) g1
      simp (disch := first | exact rc | (unfold r32; omega) | omega) only [j_lit, j_ops, vp_J, J_cl, iq_tn, lq_tn, j_rd, jl_rd, j_nc, e56, e72, e77, e68, e62]
      refine ⟨fun q => ⟨by omega, by omega, say _ ?_⟩, fun q => ⟨by omega, by omega, say _ ?_⟩⟩
      · unfold tWd
        rw [if_pos q, hbs k k0 (by omega)]
        obtain ⟨cb, hc⟩ := hT.bs (i := mk N x + k) (by omega) (by omega)
        exact (wdl_s hc).2.2
      · unfold tWd
        rw [if_neg q]
        have := (wdl_s (hT.words.2.2.2 (mk N x + k) (by omega) (by omega))).2.2
        rw [← this]
        unfold wr
        rw [← Int.add_assoc]
    refine S_M_term_14 ?_
    have hJ : (0 : Int32) = J 0 := rfl
    have h1 : vp_in (J t) 2000 := by rw [vp_J (by unfold r32; omega)]; omega
    refine ⟨h1, ?_⟩
    have e78J : m.1 278 (J t).toNatClampNeg = J (tl N t) := by rw [J_cl (by unfold r32; omega), j_rd, iq_tn, e78']
    have kk : J k + (1 : Int32) = J (k + 1) := by rw [show (1 : Int32) = J 1 from rfl, j_ops.1]
    rw [e78J, hJ, kk, J_le (by unfold r32; omega) (by unfold r32; omega), J_le (by unfold r32; omega) (by unfold r32; omega), J_eq rc (by unfold r32; omega)]
    refine ⟨fun q => by omega, fun _ => ⟨fun q => ?_, fun q => ?_⟩⟩
    · obtain rfl : k = 0 := by omega
      exact word m [] f hs (by simp) rfl
    · have s10 := hs.1
      refine c_says (d := d + 1) (x := 32) (by omega) ?_
      obtain ⟨g1, g2⟩ := hs.app (l := [32]) (fun y hy => by simp at hy; exact Or.inl hy) (by simp; omega)
      refine word _ (rowL (tWd N c x) k.toNat ++ [32]) (f.tr g2) g1 (by simp; omega) ?_
      rw [rowL_s _ k0, if_neg (by omega), List.append_assoc]
theorem p_term {P : Int32 → Int32 → zM → Prop} {m : zM} {t c : Int} (rt : r32 t) (rc : r32 c) (hI : IV C w m) (H : ∀ v m', IV C w m' → P v v m') : cI (d + 9) 129 [.ref 3, .int (J t), .int (J c)] w m (fun x m1 => cI (d + 9) 274 [.ref 261, .int (J t), .int (J c)] w m1 (fun y m2 => P x y m2)) := by
  obtain ⟨N, hI⟩ := hI
  refine c_termQ rt rc hI (fun m1 hI1 hn => ?_) (fun m1 x hI1 hx ht hs => ?_)
  · refine S_M_term (c_M_isTerm (d := d + 2) rt hI1 (fun m2 hI2 _ _ _ q => absurd q hn) (fun m2 hI2 _ _ _ _ => ?_))
    simp (disch := first | (unfold r32; omega) | omega) only [j_lit, j_ops, J_eq]
    exact ⟨fun y => absurd trivial y, fun _ => H _ m2 ⟨N, hI2⟩⟩
  · refine S_M_term (c_B_isTerm (d := d + 2) rt hI1 (fun m2 hI2 hd2 _ q67 _ _ _ => ?_) (fun m2 hI2 _ _ _ _ _ q => absurd ht q))
    simp (disch := first | (unfold r32; omega) | omega) only [j_lit, j_ops, J_eq]
    refine ⟨fun _ => c_findsForms (d := d + 7) hI2.2.2.2.2.1 hI2.2.2.2.1 hd2 ht (fun m3 f3 _ h56 => ?_), fun y => by omega⟩
    have hI3 : IVB C w m3 N := hI2.fx f3.1 (by intro c hc; simp at hc; omega) (fun z z0 _ z2 z3 => f3.2.1 z z0 z2 z3)
    have hd3 := f3.dm hd2
    have hT := hI3.2.2.2.2.1
    have htl := tl_b hT ht.1 ht.2
    have f54 : FM m3 (sq m3 261 54 0) := ⟨(fr.rf _ m3).si (by simp) _ _, fun z z0 z1 => iq_ne (Or.inr z1) (by omega) z0, rfl⟩
    simp only [j_wr, j_nc]
    refine c_M_term14 (d := d + 7) (m0 := m3) rc hI3 hd3 ht h56 rfl (fun m4 f4 s4 => ?_) (tl N t).toNat 0 _ (by omega) (by omega) f54 ⟨iq_eq (by unfold r32; omega), fun i hi => by simp [rowL] at hi⟩
    have eL : rowL (tWd N c (iq m3 261 56)) (tl N t).toNat = rowL (tWd N c x) (tl N t).toNat := rowL_congr _ (fun k k0 k1 => tWd_eq hT h56 hx k k0 (by omega))
    rw [eL] at s4
    have i6 : ∀ z, iq m4 6 z = iq m1 6 z := fun z => (f4.1.i (by simp) z).trans ((f3.1.i (by simp) z).trans (by unfold iq; rw [q67.1]))
    have i7 : ∀ z, iq m4 7 z = iq m1 7 z := fun z => (f4.1.i (by simp) z).trans ((f3.1.i (by simp) z).trans (by unfold iq; rw [q67.2]))
    have s5 : SLC m4 (rowL (tWd N c x) (tl N t).toNat) := by
      unfold SLC
      rw [i6]
      exact ⟨hs.1, fun k hk => by rw [i7]; exact hs.2 k hk⟩
    have hb1 := rowL_b (f := tWd N c x) (tl N t).toNat (fun i i0 i1 => tWd_wd hT hx i i0 (by omega))
    rw [hs.1, s4.1]
    exact H _ m4 ⟨N, (hI3.fm f4).n (SLC_SLM s5 s4 (by omega) hb1.1)⟩
end TER
