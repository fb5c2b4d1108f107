/-! words, bases, kinds: the reference's -/
def dcP (N : Int → Int) (i d : Int) : Prop := 0 ≤ d ∧ d < N 259 ∧ N (260 + d) ≤ i ∧ i < N (261 + d)
noncomputable def dcN (N : Int → Int) (i : Int) : Int := Classical.epsilon (fun d : Int => dcP N i d)
theorem dc_u {C : Int} {m : zM} {b : Nat} {N : Int → Int} (h : trD C m b N) {i d e : Int} (hd : dcP N i d) (he : dcP N i e) : d = e := by
  rcases Int.lt_trichotomy d e with g | g | g
  · have := trD_m h (e := d + 1) (dc := e) (by have := hd.1; omega) (by omega) (by have := he.2.1; omega)
    rw [show 260 + (d + 1) = 261 + d by omega] at this
    have := hd.2.2.2
    have := he.2.2.1
    omega
  · exact g
  · have := trD_m h (e := e + 1) (dc := d) (by have := he.1; omega) (by omega) (by have := hd.2.1; omega)
    rw [show 260 + (e + 1) = 261 + e by omega] at this
    have := he.2.2.2
    have := hd.2.2.1
    omega
theorem dc_is {C : Int} {m : zM} {b : Nat} {N : Int → Int} (h : trD C m b N) {i d : Int} (hd : dcP N i d) : dcN N i = d := dc_u h (Classical.epsilon_spec (p := fun d : Int => dcP N i d) ⟨d, hd⟩) hd
theorem dc_ex {C : Int} {m : zM} {b : Nat} {N : Int → Int} (h : trD C m b N) {i : Int} (h0 : 0 ≤ i) (h1 : i < wW N) : dcP N i (dcN N i) := by
  refine Classical.epsilon_spec (p := fun d : Int => dcP N i d) ?_
  have key : ∀ n : Nat, (n : Int) ≤ N 259 → i < N (260 + (n : Int)) → ∃ d, dcP N i d := by
    intro n
    induction n with
    | zero =>
      intro _ q
      rw [show (260 : Int) + ((0 : Nat) : Int) = 260 by omega, h.2.2.2.1] at q
      omega
    | succ n ih =>
      intro q1 q2
      by_cases c : i < N (260 + (n : Int))
      · exact ih (by omega) c
      · exact ⟨n, by omega, by omega, by omega, by rw [show 261 + (n : Int) = 260 + ((n + 1 : Nat) : Int) by omega]; exact q2⟩
  have := key (N 259).toNat (by have := h.1; omega) (by
    rw [show ((N 259).toNat : Int) = N 259 by have := h.1; omega]
    exact h1)
  exact this
/-- what the reference has of its words -/
def DMB (m : zM) (N : Int → Int) : Prop := iq m 261 21 = wW N ∧ iq m 261 43 = eK (BS N) ∧ (∀ i, 0 ≤ i → i < wW N → lq m 268 i = bs N i ∧ iq m 269 i = kd N i ∧ 0 ≤ kd N i ∧ kd N i ≤ 6 ∧ iq m 270 i = dcN N i ∧ iq m 287 i = idb N i) ∧ (∀ t, 0 ≤ t → t < eK (BS N) → lq m 286 t = eU (BS N) t) ∧ ∀ i, 0 ≤ i → i < N 1069 → lq m 271 i = gb N i
theorem lw_at {f : Int → Int} {s x p : Int} {S : Int → Prop} (h : enm f s S) (hp : lw f s x p) (hx : S x) : p < s ∧ f p = x := by
  obtain ⟨i, i0, i1, e⟩ := h.2.2.2 x hx
  obtain ⟨p0, p1, p2, p3⟩ := hp
  rcases Int.lt_trichotomy i p with g | g | g
  · have := p2 i i0 g; omega
  · rw [← g]; exact ⟨i1, e⟩
  · have := p3 p (by omega) (by omega)
    have := h.2.1 p i p0 g i1
    omega
theorem rowM.fr {S : List Nat} {m m' : zM} {N : Int → Int} (h : rowM m N) (f : fr S m m') (hs : 262 ∉ S) : rowM m' N := fun k a c => by rw [f.l hs]; exact h k a c
section MWO
variable {d : Nat} {w : Nat × Nat × Nat} {b : Nat} {C : Int} {N : Int → Int} {mv : zM}
def MI1 (m0 : zM) (N : Int → Int) (m : zM) (k : Int) : Prop := fr [268, 269, 270] m0 m ∧ ∀ i, 0 ≤ i → i < k → lq m 268 i = bs N i ∧ iq m 269 i = kd N i ∧ 0 ≤ kd N i ∧ kd N i ≤ 6 ∧ iq m 270 i = dcN N i
theorem c_mw21 {Q : zM → Prop} {m0 : zM} {e : Int} (hV : TR C mv b N) (hR : rowM m0 N) (he : 0 ≤ e ∧ e < N 259) (H : ∀ m, MI1 m0 N m (N (261 + e)) → W_M_layWords_6 (d + 3) (J (e + 1)) w m Q) : ∀ (j : Nat) (k : Int) (m : zM), N (260 + e) ≤ k → k + j = N (261 + e) → MI1 m0 N m k → W_M_layWords_21 (d + 3) (J e) (J k) w m Q := by
  obtain ⟨w1, w2, w3, w4⟩ := hV.words
  have hD := hV.2.2.2.1
  have hD1 := hD.1
  have hD2 := hD.2.1
  have ra := trD_r hD (dc := e) he.1 (by omega)
  have rb := trD_r hD (dc := e + 1) (by omega) (by omega)
  rw [show 260 + (e + 1) = 261 + e by omega] at rb
  have hWd : N (260 + N 259) = wW N := rfl
  intro j
  induction j with
  | zero =>
    intro k m hk hj hI
    have r1 := (hR.fr hI.1 (by simp)) (261 + e) (by omega) (by omega)
    refine S_M_layWords_21 ?_
    simp (disch := first | (unfold r32; omega) | (unfold r64; omega) | omega) only [j_lit, j_ops, show 260 + e + 1 = 261 + e by omega, vp_J, J_cl, jl_rd, lq_tn, r1, J_64, JL_le]
    rw [show k = N (261 + e) by omega] at hI
    exact ⟨by omega, fun _ => H m hI, fun q => by omega⟩
  | succ j ih =>
    intro k m hk hj hI
    have hRm := hR.fr hI.1 (by simp)
    have r1 := hRm (261 + e) (by omega) (by omega)
    have r2 := hRm (269 + k) (by omega) (by omega)
    have hw : ww (lq mv (b + 11) k) (N (269 + k)) := w4 k (by omega) (by omega)
    have hwr := ww_r hw
    refine S_M_layWords_21 ?_
    simp (disch := first | (unfold r32; omega) | (unfold r64; omega) | omega) only [j_lit, j_ops, show 260 + e + 1 = 261 + e by omega, vp_J, J_cl, jl_rd, lq_tn, r1, r2, J_64, JL_le, j_wr, sq_tn]
    refine ⟨by omega, fun q => by omega, fun _ => ⟨by omega, by omega, ?_⟩⟩
    have f1 : fr [270] m (sq m 270 k e) := (fr.rf _ m).si (by simp) _ _
    refine c_M_baseOf (d := d + 1) hV (hRm.fr f1 (by simp)) hw ⟨by omega, by omega, ?_⟩
    have r3 : lq (sq m 270 k e) 262 (269 + k) = N (269 + k) := r2
    simp (disch := first | (unfold r32; omega) | (unfold r64; omega) | omega) only [jl_wr, sl_tn, r3]
    have f2 : fr [268, 270] m (sl (sq m 270 k e) 268 k (bsR N (N (269 + k)))) := (f1.mo (by simp)).sll (by simp) _ _
    refine c_M_kindOf (d := d) hV (hRm.fr f2 (by simp)) hw (fun k0 k6 => ⟨by omega, ?_⟩)
    simp (disch := first | (unfold r32; omega) | omega) only [j_wr, sq_tn]
    have f3 : fr [268, 269, 270] m (sq (sl (sq m 270 k e) 268 k (bsR N (N (269 + k)))) 269 k (kdR N (N (269 + k)))) := (f2.mo (by simp)).si (by simp) _ _
    have hbr : r64 (bsR N (N (269 + k))) := by
      obtain ⟨c, hc⟩ := bsR_ww hV hw
      have := ww_r hc
      unfold r64; omega
    refine ih (k + 1) _ (by omega) (by omega) ⟨hI.1.tr f3, fun i a0 a1 => ?_⟩
    by_cases q : i = k
    · subst q
      have e1 : lq (sq (sl (sq m 270 i e) 268 i (bsR N (N (269 + i)))) 269 i (kdR N (N (269 + i)))) 268 i = bsR N (N (269 + i)) := by
        rw [show lq (sq (sl (sq m 270 i e) 268 i (bsR N (N (269 + i)))) 269 i (kdR N (N (269 + i)))) 268 i = lq (sl (sq m 270 i e) 268 i (bsR N (N (269 + i)))) 268 i from rfl, lq_eq hbr]
      have e2 : iq (sq (sl (sq m 270 i e) 268 i (bsR N (N (269 + i)))) 269 i (kdR N (N (269 + i)))) 269 i = kdR N (N (269 + i)) := iq_eq (by unfold r32; omega)
      have e3 : iq (sq (sl (sq m 270 i e) 268 i (bsR N (N (269 + i)))) 269 i (kdR N (N (269 + i)))) 270 i = e := by
        rw [iq_ne (by omega) (by omega) (by omega), show iq (sl (sq m 270 i e) 268 i (bsR N (N (269 + i)))) 270 i = iq (sq m 270 i e) 270 i from rfl, iq_eq (by unfold r32; omega)]
      rw [e1, e2, e3]
      exact ⟨rfl, rfl, k0, k6, (dc_is hD ⟨he.1, he.2, hk, by omega⟩).symm⟩
    · have g := hI.2 i a0 (by omega)
      have e1 : lq (sq (sl (sq m 270 k e) 268 k (bsR N (N (269 + k)))) 269 k (kdR N (N (269 + k)))) 268 i = lq m 268 i := by
        rw [show lq (sq (sl (sq m 270 k e) 268 k (bsR N (N (269 + k)))) 269 k (kdR N (N (269 + k)))) 268 i = lq (sl (sq m 270 k e) 268 k (bsR N (N (269 + k)))) 268 i from rfl, lq_ne (Or.inr q) (by omega) a0]
        rfl
      have e2 : iq (sq (sl (sq m 270 k e) 268 k (bsR N (N (269 + k)))) 269 k (kdR N (N (269 + k)))) 269 i = iq m 269 i := by
        rw [iq_ne (Or.inr q) (by omega) a0, show iq (sl (sq m 270 k e) 268 k (bsR N (N (269 + k)))) 269 i = iq (sq m 270 k e) 269 i from rfl, iq_ne (by omega) (by omega) a0]
      have e3 : iq (sq (sl (sq m 270 k e) 268 k (bsR N (N (269 + k)))) 269 k (kdR N (N (269 + k)))) 270 i = iq m 270 i := by
        rw [iq_ne (by omega) (by omega) a0, show iq (sl (sq m 270 k e) 268 k (bsR N (N (269 + k)))) 270 i = iq (sq m 270 k e) 270 i from rfl, iq_ne (Or.inr q) (by omega) a0]
      rw [e1, e2, e3]
      exact g
theorem c_mw6 {Q : zM → Prop} {m0 : zM} (hV : TR C mv b N) (hR : rowM m0 N) (H : ∀ m, MI1 m0 N m (wW N) → W_M_layWords_67 (d + 3) (J 0) w m Q) : ∀ (j : Nat) (e : Int) (m : zM), 0 ≤ e → e + j = N 259 → MI1 m0 N m (N (260 + e)) → W_M_layWords_6 (d + 3) (J e) w m Q := by
  have hD := hV.2.2.2.1
  have hD1 := hD.1
  have hD2 := hD.2.1
  intro j
  induction j with
  | zero =>
    intro e m he hj hI
    have r1 := (hR.fr hI.1 (by simp)) 259 (by omega) (by omega)
    refine S_M_layWords_6 ?_
    simp (disch := first | (unfold r32; omega) | (unfold r64; omega) | omega) only [j_lit, vp_J, J_cl, jl_rd, lq_tn, r1, J_64, JL_le]
    rw [show e = N 259 by omega] at hI
    exact ⟨by omega, fun _ => H m hI, fun q => by omega⟩
  | succ j ih =>
    intro e m he hj hI
    have hRm := hR.fr hI.1 (by simp)
    have r1 := hRm 259 (by omega) (by omega)
    have r2 := hRm (260 + e) (by omega) (by omega)
    have ra := trD_m hD (e := e) (dc := e + 1) he (by omega) (by omega)
    rw [show 260 + (e + 1) = 261 + e by omega] at ra
    refine S_M_layWords_6 ?_
    simp (disch := first | (unfold r32; omega) | (unfold r64; omega) | omega) only [j_lit, j_ops, vp_J, J_cl, jl_rd, lq_tn, r1, r2, J_64, JL_le, JL_32]
    refine ⟨by omega, fun q => by omega, fun _ => ⟨by omega, ?_⟩⟩
    refine c_mw21 hV hR ⟨he, by omega⟩ (fun m1 h1 => ?_) (N (261 + e) - N (260 + e)).toNat (N (260 + e)) m (by omega) (by omega) hI
    exact ih (e + 1) m1 (by omega) (by omega) (by rw [show 260 + (e + 1) = 261 + e by omega]; exact h1)
theorem c_mw67 {Q : zM → Prop} {m0 : zM} (hV : TR C mv b N) (hR : rowM m0 N) (H : ∀ m, fr [271] m0 m → (∀ i, 0 ≤ i → i < N 1069 → lq m 271 i = gb N i) → W_M_layWords_93 (d + 3) (J 0) w (sq m 261 43 0) Q) : ∀ (j : Nat) (k : Int) (m : zM), 0 ≤ k → k + j = N 1069 → fr [271] m0 m → (∀ i, 0 ≤ i → i < k → lq m 271 i = gb N i) → W_M_layWords_67 (d + 3) (J k) w m Q := by
  have hG := hV.2.2.2.2.1
  have hG1 := hG.1
  have hG2 := hG.2.1
  intro j
  induction j with
  | zero =>
    intro k m hk hj f hI
    have r1 := (hR.fr f (by simp)) 1069 (by omega) (by omega)
    refine S_M_layWords_67 ?_
    simp (disch := first | (unfold r32; omega) | (unfold r64; omega) | omega) only [j_lit, vp_J, J_cl, jl_rd, lq_tn, r1, J_64, JL_le, j_wr, j_nc]
    exact ⟨by omega, fun _ => H m f (fun i a c => hI i a (by omega)), fun q => by omega⟩
  | succ j ih =>
    intro k m hk hj f hI
    have hRm := hR.fr f (by simp)
    have r1 := hRm 1069 (by omega) (by omega)
    have r2 := hRm (1070 + k) (by omega) (by omega)
    have hw := (hG.2.2.2.1 k hk (by omega)).1
    have hbr : r64 (bsR N (N (1070 + k))) := by
      obtain ⟨c, hc⟩ := bsR_ww hV hw
      have := ww_r hc
      unfold r64; omega
    refine S_M_layWords_67 ?_
    simp (disch := first | (unfold r32; omega) | (unfold r64; omega) | omega) only [j_lit, j_ops, vp_J, J_cl, jl_rd, lq_tn, r1, r2, J_64, JL_le]
    refine ⟨by omega, fun q => by omega, fun _ => ⟨by omega, c_M_baseOf (d := d + 1) hV hRm hw ⟨by omega, ?_⟩⟩⟩
    simp (disch := first | (unfold r32; omega) | omega) only [jl_wr, sl_tn]
    refine ih (k + 1) _ (by omega) (by omega) (f.sll (by simp) _ _) (fun i a0 a1 => ?_)
    by_cases q : i = k
    · rw [q, lq_eq hbr]; rfl
    · rw [lq_ne (Or.inr q) (by omega) a0]
      exact hI i a0 (by omega)
theorem c_mw121 {Q : zM → Prop} {m0 : zM} {s p k x : Int} (hs : 0 ≤ s ∧ s < 400) (hp : 0 ≤ p ∧ p ≤ s) (hk : 0 ≤ k ∧ k < 400) (h43 : iq m0 261 43 = s) (hx : lq m0 268 k = x) (H : ∀ m', fr [261, 286] m0 m' → iq m' 261 43 = s + 1 → (∀ z, 0 ≤ z → z ≠ 43 → iq m' 261 z = iq m0 261 z) → (∀ i, 0 ≤ i → i < s + 1 → lq m' 286 i = if i < p then lq m0 286 i else if i = p then x else lq m0 286 (i - 1)) → W_M_layWords_93 d (J (k + 1)) w m' Q) :
    ∀ (j : Nat) (z : Int) (m : zM), z = p + j → z ≤ s → fr [286] m0 m → (∀ i, 0 ≤ i → i < s + 1 → lq m 286 i = if i ≤ z then (if i = s then lq m 286 i else lq m0 286 i) else lq m0 286 (i - 1)) → W_M_layWords_121 d (J k) (J p) (J z) w m Q := by
  intro j
  induction j with
  | zero =>
    intro z m hz hzs f hI
    have e1 : lq m 268 k = x := by rw [f.l (by simp)]; exact hx
    have e2 : iq m 261 43 = s := by rw [f.i (by simp)]; exact h43
    have hxr : r64 x := by rw [← hx]; exact lq_r _ _ _
    refine S_M_layWords_121 ?_
    simp (disch := first | (unfold r32; omega) | omega) only [j_lit, J_le, j_ops, vp_J, J_cl, jl_rd, lq_tn, e1, jl_wr, sl_tn, j_rd, j_nc, e2, j_wr]
    refine ⟨fun _ => ⟨by omega, by omega, ?_⟩, fun q => by omega⟩
    have f1 : fr [261, 286] m0 (sq (sl m 286 p x) 261 43 (s + 1)) := ((f.mo (by simp)).sll (by simp) _ _).si (by simp) _ _
    refine H _ f1 (iq_eq (by unfold r32; omega)) (fun y y0 y1 => ?_) (fun i i0 i1 => ?_)
    · rw [iq_ne (Or.inr y1) (by omega) y0, show iq (sl m 286 p x) 261 y = iq m 261 y from rfl, f.i (by simp)]
    · rw [show lq (sq (sl m 286 p x) 261 43 (s + 1)) 286 i = lq (sl m 286 p x) 286 i from rfl]
      by_cases q : i = p
      · rw [q, lq_eq hxr, if_neg (by omega), if_pos rfl]
      · rw [lq_ne (Or.inr q) (by omega) i0, if_neg q, hI i i0 i1]
        by_cases q2 : i < p
        · rw [if_pos (by omega), if_neg (by omega), if_pos q2]
        · rw [if_neg (by omega), if_neg q2]
  | succ j ih =>
    intro z m hz hzs f hI
    refine S_M_layWords_121 ?_
    simp (disch := first | (unfold r32; omega) | omega) only [j_lit, J_le, j_ops, vp_J, J_cl, jl_rd, lq_tn, jl_wr, sl_tn]
    refine ⟨fun q => by omega, fun _ => ⟨by omega, by omega, ?_⟩⟩
    have hl := lq_r m 286 (z - 1)
    rw [show z + -1 = z - 1 by omega]
    refine ih (z - 1) _ (by omega) (by omega) (f.sll (by simp) _ _) (fun i i0 i1 => ?_)
    have e1 := hI (z - 1) (by omega) (by omega)
    rw [if_pos (by omega), if_neg (by omega)] at e1
    by_cases q : i = z
    · rw [q, lq_eq hl, if_neg (by omega), e1]
    · rw [lq_ne (Or.inr q) (by omega) i0]
      have := hI i i0 i1
      by_cases q2 : i ≤ z - 1
      · rw [if_pos q2, if_neg (by omega)]
        rw [if_pos (by omega), if_neg (by omega)] at this
        exact this
      · rw [if_neg q2]
        rw [if_neg (by omega)] at this
        exact this
def MI2 (m0 : zM) (N : Int → Int) (m : zM) (k : Int) : Prop := fr [261, 286] m0 m ∧ (∀ z, 0 ≤ z → z ≠ 43 → iq m 261 z = iq m0 261 z) ∧ enm (lq m 286) (iq m 261 43) (img (bs N) k) ∧ iq m 261 43 ≤ k
theorem c_mw93 {Q : zM → Prop} {m0 : zM} (hV : TR C mv b N) (h21 : iq m0 261 21 = wW N) (h268 : ∀ i, 0 ≤ i → i < wW N → lq m0 268 i = bs N i) (H : ∀ m, MI2 m0 N m (wW N) → W_M_layWords_154 (d + 3) (J 0) w m Q) : ∀ (j : Nat) (k : Int) (m : zM), 0 ≤ k → k + j = wW N → MI2 m0 N m k → W_M_layWords_93 (d + 3) (J k) w m Q := by
  obtain ⟨w1, w2, w3, w4⟩ := hV.words
  intro j
  induction j with
  | zero =>
    intro k m hk hj hI
    have e1 : iq m 261 21 = wW N := (hI.2.1 21 (by omega) (by omega)).trans h21
    refine S_M_layWords_93 ?_
    simp (disch := first | (unfold r32; omega) | omega) only [j_lit, J_le, j_rd, j_nc, e1]
    rw [show k = wW N by omega] at hI
    exact ⟨fun _ => H m hI, fun q => by omega⟩
  | succ j ih =>
    intro k m hk hj hI
    obtain ⟨i1, i2, i3, i4⟩ := id hI
    have e1 : iq m 261 21 = wW N := (i2 21 (by omega) (by omega)).trans h21
    have e2 : lq m 268 k = bs N k := by rw [i1.l (by simp)]; exact h268 k hk (by omega)
    obtain ⟨c, hc⟩ := hV.bs hk (show k < wW N by omega)
    have hcr := ww_r hc
    have hs0 := i3.1
    have go : ∀ m' s', fr [261, 286] m m' → iq m' 261 43 = s' → (∀ z, 0 ≤ z → z ≠ 43 → iq m' 261 z = iq m 261 z) → enm (lq m' 286) s' (fun y => img (bs N) k y ∨ y = bs N k) → s' ≤ k + 1 → W_M_layWords_93 (d + 3) (J (k + 1)) w m' Q := by
      intro m' s' f g1 g2 g3 g4
      refine ih (k + 1) m' (by omega) (by omega) ⟨i1.tr f, fun z z0 z1 => (g2 z z0 z1).trans (i2 z z0 z1), ?_, by omega⟩
      rw [g1]
      exact g3.ext (fun x => (img_s _ hk x).symm)
    refine S_M_layWords_93 ?_
    simp (disch := first | (unfold r32; omega) | omega) only [j_lit, J_le, j_rd, j_nc, e1, vp_J, J_cl, jl_rd, lq_tn, e2, j_ops]
    refine ⟨fun q => by omega, fun _ => ⟨by omega, c_basePlace rfl ⟨hs0, by omega⟩ i3.2.1 (by unfold r64; omega) (fun p hp => ?_)⟩⟩
    obtain ⟨p0, p1, p2, p3⟩ := id hp
    have ins : (∀ i, p ≤ i → i < iq m 261 43 → bs N k < lq m 286 i) → W_M_layWords_121 (d + 3) (J k) (J p) (J (iq m 261 43)) w m Q := fun g => by
      refine c_mw121 (m0 := m) (x := bs N k) ⟨hs0, by omega⟩ ⟨p0, p1⟩ ⟨hk, by omega⟩ rfl e2 (fun m' f g1 g2 g3 => go m' _ f g1 g2 (i3.ins ⟨p0, p1⟩ p2 g g3) (by omega)) (iq m 261 43 - p).toNat (iq m 261 43) m (by omega) (by omega) (fr.rf _ _) (fun i i0 i1 => by rw [if_pos (by omega)]; split <;> rfl)
    have hl := lq_r m 286 p
    simp (disch := first | exact hl | (unfold r32; omega) | (unfold r64; omega) | omega) only [J_le, j_rd, j_nc, vp_J, J_cl, jl_rd, lq_tn, e2, JL_eq]
    refine ⟨fun q => ins (fun i i0 i1 => by omega), fun q => ⟨by omega, by omega, fun q2 => ins (fun i i0 i1 => ?_), fun q2 => ?_⟩⟩
    · have h3 := p3 p (by omega) (by omega)
      by_cases e : i = p
      · rw [e]; omega
      · have := i3.2.1 p i p0 (by omega) i1
        omega
    · refine go m _ (fr.rf _ m) rfl (fun _ _ _ => rfl) (i3.ext (fun y => ⟨fun g => Or.inl g, fun g => ?_⟩)) (by omega)
      rcases g with g | g
      · exact g
      · rw [g, ← q2]; exact i3.2.2.1 p p0 (by omega)
theorem c_mw154 {Q : zM → Prop} {m0 : zM} (hV : TR C mv b N) (h21 : iq m0 261 21 = wW N) (h268 : ∀ i, 0 ≤ i → i < wW N → lq m0 268 i = bs N i) (hE : enm (lq m0 286) (iq m0 261 43) (BS N)) (h43 : iq m0 261 43 ≤ 240) (H : ∀ m, fr [287] m0 m → (∀ i, 0 ≤ i → i < wW N → iq m 287 i = idb N i) → Q m) : ∀ (j : Nat) (k : Int) (m : zM), 0 ≤ k → k + j = wW N → fr [287] m0 m → (∀ i, 0 ≤ i → i < k → iq m 287 i = idb N i) → W_M_layWords_154 (d + 3) (J k) w m Q := by
  obtain ⟨w1, w2, w3, w4⟩ := hV.words
  intro j
  induction j with
  | zero =>
    intro k m hk hj f hI
    have e1 : iq m 261 21 = wW N := (f.i (by simp) 21).trans h21
    refine S_M_layWords_154 ?_
    simp (disch := first | (unfold r32; omega) | omega) only [j_lit, J_le, j_rd, j_nc, e1]
    exact ⟨fun _ => H m f (fun i a c => hI i a (by omega)), fun q => by omega⟩
  | succ j ih =>
    intro k m hk hj f hI
    have e1 : iq m 261 21 = wW N := (f.i (by simp) 21).trans h21
    have e2 : lq m 268 k = bs N k := by rw [f.l (by simp)]; exact h268 k hk (by omega)
    have e43 : iq m 261 43 = iq m0 261 43 := f.i (by simp) 43
    obtain ⟨c, hc⟩ := hV.bs hk (show k < wW N by omega)
    have hcr := ww_r hc
    have hEm : enm (lq m 286) (iq m0 261 43) (BS N) := hE.fn (fun i _ _ => f.l (by simp) i)
    refine S_M_layWords_154 ?_
    simp (disch := first | (unfold r32; omega) | omega) only [j_lit, J_le, j_rd, j_nc, e1, vp_J, J_cl, jl_rd, lq_tn, e2, j_ops]
    refine ⟨fun q => by omega, fun _ => ⟨by omega, c_basePlace e43 ⟨hE.1, by omega⟩ hEm.2.1 (by unfold r64; omega) (fun p hp => ⟨by omega, ?_⟩)⟩⟩
    obtain ⟨a1, a2⟩ := lw_at hEm hp ⟨k, hk, by omega, rfl⟩
    have p0 := hp.1
    have hK := e_uniq (BS_b hV) hEm
    have hid : idb N k = p := ei_is (BS_b hV) p0 (by omega) (by rw [← hK.2 p p0 a1]; exact a2)
    simp (disch := first | (unfold r32; omega) | omega) only [j_wr, sq_tn]
    refine ih (k + 1) _ (by omega) (by omega) (f.si (by simp) _ _) (fun i a0 a1 => ?_)
    by_cases q : i = k
    · rw [q, iq_eq (by unfold r32; omega), hid]
    · rw [iq_ne (Or.inr q) (by omega) a0]
      exact hI i a0 (by omega)
theorem c_layWords {Q : zM → Prop} {m : zM} (hV : TR C mv b N) (hR : rowM m N) (H : ∀ m', fr [261, 268, 269, 270, 271, 286, 287] m m' → (∀ z, 0 ≤ z → z ≠ 21 → z ≠ 43 → iq m' 261 z = iq m 261 z) → DMB m' N → Q m') : cV (d + 4) 237 [.ref 261] w m Q := by
  obtain ⟨w1, w2, w3, w4⟩ := hV.words
  have hD := hV.2.2.2.1
  have hG1 := hV.2.2.2.2.1.1
  refine S_M_layWords (c_M_wordsOf hR ⟨hD.1, hD.2.1⟩ ?_)
  have eW : N (260 + N 259) = wW N := rfl
  simp only [j_lit, j_wr, j_nc, eW]
  have f0 : fr [261] m (sq m 261 21 (wW N)) := (fr.rf _ m).si (by simp) _ _
  have r0 := hR.fr f0 (by simp)
  have e0 : iq (sq m 261 21 (wW N)) 261 21 = wW N := iq_eq (by unfold r32; omega)
  have o0 : ∀ z, 0 ≤ z → z ≠ 21 → iq (sq m 261 21 (wW N)) 261 z = iq m 261 z := fun z z0 z1 => iq_ne (Or.inr z1) (by omega) z0
  generalize sq m 261 21 (wW N) = m0 at *
  refine c_mw6 hV r0 (fun m1 h1 => ?_) (N 259).toNat 0 m0 (by omega) (by have := hD.1; omega) ⟨fr.rf _ _, fun i a c => ?_⟩
  · have r1 := r0.fr h1.1 (by simp)
    refine c_mw67 hV r1 (fun m2 f2 h2 => ?_) (N 1069).toNat 0 m1 (by omega) (by omega) (fr.rf _ _) (fun i _ _ => by omega)
    have f3 : fr [261] m2 (sq m2 261 43 0) := (fr.rf _ _).si (by simp) _ _
    have z43 : iq (sq m2 261 43 0) 261 43 = 0 := iq_eq (by unfold r32; omega)
    have z21 : iq (sq m2 261 43 0) 261 21 = wW N := by rw [iq_ne (by omega) (by omega) (by omega), f2.i (by simp), h1.1.i (by simp), e0]
    have z68 : ∀ i, 0 ≤ i → i < wW N → lq (sq m2 261 43 0) 268 i = bs N i := fun i a c => by
      rw [show lq (sq m2 261 43 0) 268 i = lq m2 268 i from rfl, f2.l (by simp)]
      exact (h1.2 i a c).1
    refine c_mw93 hV z21 z68 (fun m3 h3 => ?_) (wW N).toNat 0 _ (by omega) (by omega) ⟨fr.rf _ _, fun _ _ _ => rfl, ?_, by rw [z43]; omega⟩
    · obtain ⟨a1, a2, a3, a4⟩ := h3
      have e3 : enm (lq m3 286) (iq m3 261 43) (BS N) := a3
      refine c_mw154 hV ((a2 21 (by omega) (by omega)).trans z21) (fun i x y => by rw [a1.l (by simp)]; exact z68 i x y) e3 (by omega) (fun m4 f4 h4 => ?_) (wW N).toNat 0 m3 (by omega) (by omega) (fr.rf _ _) (fun i _ _ => by omega)
      have hK := e_uniq (BS_b hV) e3
      have i61 : ∀ z, iq m4 261 z = iq m3 261 z := f4.i (by simp)
      have r268 : ∀ z, lq m4 268 z = lq m1 268 z := fun z => by rw [f4.l (by simp), a1.l (by simp), show lq (sq m2 261 43 0) 268 z = lq m2 268 z from rfl, f2.l (by simp)]
      have r269 : ∀ z, iq m4 269 z = iq m1 269 z := fun z => by rw [f4.i (by simp), a1.i (by simp), f3.i (by simp), f2.i (by simp)]
      have r270 : ∀ z, iq m4 270 z = iq m1 270 z := fun z => by rw [f4.i (by simp), a1.i (by simp), f3.i (by simp), f2.i (by simp)]
      have r271 : ∀ z, lq m4 271 z = lq m2 271 z := fun z => by rw [f4.l (by simp), a1.l (by simp)]; rfl
      refine H m4 ((((((f0.mo (by simp)).tr (h1.1.mo (by simp))).tr (f2.mo (by simp))).tr (f3.mo (by simp))).tr (a1.mo (by simp))).tr (f4.mo (by simp))) (fun z z0 z1 z2 => ?_) ⟨?_, ?_, fun i x y => ?_, fun t x y => ?_, fun i x y => ?_⟩
      · rw [i61, a2 z z0 z2, iq_ne (Or.inr z2) (by omega) z0, f2.i (by simp), h1.1.i (by simp), o0 z z0 z1]
      · rw [i61, a2 21 (by omega) (by omega), z21]
      · rw [i61]; exact hK.1
      · obtain ⟨b1, b2, b3, b4, b5⟩ := h1.2 i x y
        rw [r268, r269, r270]
        exact ⟨b1, b2, b3, b4, b5, h4 i x y⟩
      · rw [f4.l (by simp)]
        exact hK.2 t x (by omega)
      · rw [r271]
        exact h2 i x y
    · rw [z43]
      exact ⟨by omega, fun i j _ _ _ => by omega, fun i _ _ => by omega, fun x ⟨i, a, c, _⟩ => by omega⟩
  · rw [show (260 : Int) + 0 = 260 by omega, hD.2.2.2.1] at c
    omega
end MWO
