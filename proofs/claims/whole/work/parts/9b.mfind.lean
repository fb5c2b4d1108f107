/-! the reference finds its matches -/
/-- matches and terms as the reference has them -/
def MRF (N : Int → Int) (m : zM) : Prop := iq m 261 26 = Mn N ∧ iq m 261 32 = Zn N ∧ (∀ i, 0 ≤ i → i < Mn N → iq m 272 i = mk N i ∧ iq m 273 i = ml N i) ∧ (∀ t, 0 ≤ t → t < Zn N → rk N m t = tr N t ∧ 0 ≤ iq m 277 t ∧ 1 ≤ iq m 278 t ∧ iq m 278 t ≤ 5 ∧ iq m 277 t + iq m 278 t ≤ wW N) ∧ ∀ y, 0 ≤ y → y < 2400 → iq m 276 y = bi (KS N y)
section MFI
variable {d : Nat} {w : Nat × Nat × Nat} {b : Nat} {C : Int} {N : Int → Int} {mv : zM}
theorem DMB.f6 {m m' : zM} (h : DMB m N) (f : f6 m m') : DMB m' N := by
  obtain ⟨a1, a2, a3, a4, a5⟩ := h
  obtain ⟨f, g⟩ := f
  exact ⟨(g 21 (by omega) (by omega) (by omega)).trans a1, (g 43 (by omega) (by omega) (by omega)).trans a2, fun i i0 i1 => by rw [f.l (by simp), f.i (by simp), f.i (by simp), f.i (by simp)]; exact a3 i i0 i1, fun t t0 t1 => by rw [f.l (by simp)]; exact a4 t t0 t1, fun i i0 i1 => by rw [f.l (by simp)]; exact a5 i i0 i1⟩
theorem RM.more {m : zM} {s k n T : Int} (h : RM N m s (6 * k + n) T) (hs : ∀ j, n ≤ j → ¬ mt N k j) (h0 : 0 ≤ n) (hb : ∀ k n, mt N k n → 1 ≤ n ∧ n ≤ 5) : ∀ (j : Nat), n + j ≤ 7 → RM N m s (6 * k + n + j) T := by
  intro j
  induction j with
  | zero => intro _; rw [show 6 * k + n + ((0 : Nat) : Int) = 6 * k + n by omega]; exact h
  | succ j ih =>
    intro hj
    have := (ih (by omega)).no (fun ⟨k', n', hm, e⟩ => by
      have := hb _ _ hm
      by_cases q : k' = k
      · rw [q] at hm
        exact hs n' (by omega) hm
      · omega)
    rw [show 6 * k + n + ((j + 1 : Nat) : Int) = 6 * k + n + j + 1 by omega]
    exact this
theorem c_lays35 {Q : zM → Prop} {m0 : zM} {k : Int} (h : TR C mv b N) (hR : rowM m0 N) (hD : DMB m0 N) (hk : 0 ≤ k ∧ k < wW N) (H : ∀ m s T, f6 m0 m → RM N m s (6 * (k + 1) + 1) T → s ≤ 5 * (k + 1) → W_M_lays_29 (d + 2) (J (k + 1)) w m Q) :
    ∀ (j : Nat) (n s T : Int) (m : zM), 1 ≤ n → n + j = 6 → f6 m0 m → RM N m s (6 * k + n) T → s ≤ 5 * k + (n - 1) → sOK N k (n - 1) → W_M_lays_35 (d + 2) (J k) (J n) w m Q := by
  obtain ⟨w1, w2, w3, w4⟩ := h.words
  have hW7 := h.2.2.2.2.2.2
  have b1 := hW7.2.2.2.2.1
  have b2 := hW7.2.2.2.2.2.1
  have b3 := hW7.2.2.2.2.2.2.1
  have hmtb : ∀ k n, mt N k n → 1 ≤ n ∧ n ≤ 5 := fun k n g => by have := mt_b h g; omega
  intro j
  induction j with
  | zero =>
    intro n s T m n1 hj f hA hs hok
    have r99 := (hR.fr f.1 (by simp)) 1899 (by omega) (by omega)
    have stop : W_M_lays_75 (d + 2) (J k) w m Q := by
      refine S_M_lays_75 ?_
      simp only [j_lit, j_ops]
      have := hA.more (fun i hi z => by have := hmtb _ _ z; omega) (by omega) hmtb (7 - n).toNat (by omega)
      rw [show 6 * k + n + (((7 - n).toNat : Nat) : Int) = 6 * (k + 1) + 1 by omega] at this
      exact H m s T f this (by omega)
    refine S_M_lays_35 ?_
    simp (disch := first | (unfold r32; omega) | (unfold r64; omega) | omega) only [j_lit, vp_J, J_cl, jl_rd, lq_tn, r99, J_64, JL_lt]
    exact ⟨by omega, fun _ => stop, fun q => by omega⟩
  | succ j ih =>
    intro n s T m n1 hj f hA hs hok
    have hRm := hR.fr f.1 (by simp)
    have hDm := hD.f6 f
    have r99 := hRm 1899 (by omega) (by omega)
    have r98 := hRm 1898 (by omega) (by omega)
    have e21 := hDm.1
    have stop : (∀ j, n ≤ j → ¬ mt N k j) → W_M_lays_75 (d + 2) (J k) w m Q := fun g => by
      refine S_M_lays_75 ?_
      simp only [j_lit, j_ops]
      have := hA.more g (by omega) hmtb (7 - n).toNat (by omega)
      rw [show 6 * k + n + (((7 - n).toNat : Nat) : Int) = 6 * (k + 1) + 1 by omega] at this
      exact H m s T f this (by omega)
    refine S_M_lays_35 ?_
    simp (disch := first | (unfold r32; omega) | (unfold r64; omega) | omega) only [j_lit, vp_J, J_cl, jl_rd, lq_tn, r99, J_64, JL_lt, j_ops, j_rd, j_nc, e21, J_lt]
    refine ⟨by omega, fun q => stop (fun i hi z => by have := z.2.2.1; omega), fun q => ⟨fun q2 => stop (fun i hi z => by have := (mt_b h z).2.2.2.1; omega), fun q2 => ?_⟩⟩
    have goNo : ¬ mt N k n → sOK N k n → W_M_lays_35 (d + 2) (J k) (J (n + 1)) w m Q := fun g ok => ih (n + 1) s T m (by omega) (by omega) f (by
      have := hA.no (fun ⟨k', n', hm, e⟩ => by
        have := hmtb _ _ hm
        have e1 : k' = k := by omega
        have e2 : n' = n := by omega
        rw [e1, e2] at hm
        exact g hm)
      rw [show 6 * k + (n + 1) = 6 * k + n + 1 by omega]
      exact this) (by omega) (by rw [show n + 1 - 1 = n by omega]; exact ok)
    refine c_M_isSentence h hRm (fun i i0 i1 => (hDm.2.2.1 i i0 i1).2.2.2.2.1) hk.1 (by omega) (by omega) (fun hsn => ?_) (fun hsn => ?_)
    · have ok : sOK N k n := ⟨hk.1, by omega, fun i i0 i1 => by
        by_cases e : i = n - 1
        · rw [e, show k + (n - 1) = k + n - 1 by omega]; exact hsn
        · exact hok.2.2 i i0 (by omega)⟩
      simp (disch := first | (unfold r32; omega) | (unfold r64; omega) | omega) only [j_lit, J_eq, vp_J, J_cl, jl_rd, lq_tn, r98, J_64, JL_lt]
      refine ⟨fun y => by omega, fun _ => ⟨by omega, fun y => goNo (fun z => by have := z.2.1; omega) ok, fun y => c_isPattern (d := d + 1) h.2.2.2.2.2.1 hRm hk.1 ⟨n1, by omega, by omega⟩ (fun i i0 i1 => (hDm.2.2.1 (k + i) (by omega) (by omega)).2.1) ?_⟩⟩
      by_cases he : hr N k (n - 1).toNat &&& (N 1896).toNat = 0
      · rw [if_pos he]
        simp (disch := first | (unfold r32; omega) | omega) only [j_lit, J_eq]
        exact ⟨fun _ => goNo (fun z => z.2.2.2.2 he) ok, fun z => absurd trivial z⟩
      · rw [if_neg he]
        have hmt : mt N k n := ⟨n1, by omega, by omega, ok, he⟩
        simp (disch := first | (unfold r32; omega) | omega) only [j_lit, J_eq]
        refine ⟨fun z => by omega, fun _ => c_comes (d := d) h (fun i i0 i1 => (hDm.2.2.1 i i0 i1).1) hA hmt (by omega) (fun m' T' f' hA' => ?_)⟩
        refine ih (n + 1) (s + 1) T' m' (by omega) (by omega) (f.tr f') ?_ (by omega) (by rw [show n + 1 - 1 = n by omega]; exact ok)
        rw [show 6 * k + (n + 1) = 6 * k + n + 1 by omega]
        exact hA'
    · simp (disch := first | (unfold r32; omega) | omega) only [j_lit, J_eq]
      exact ⟨fun _ => stop (fun i hi z => hsn (by
        have := z.2.2.2.1.2.2 (n - 1) (by omega) (by omega)
        rw [show k + (n - 1) = k + n - 1 by omega] at this
        exact this)), fun y => absurd trivial y⟩
theorem RM.fin {m : zM} {s T : Int} (h : TR C mv b N) (hA : RM N m s (6 * wW N + 1) T) : MRF N m := by
  obtain ⟨a1, a2, a3, a4, a5, a6, a7⟩ := hA
  have hKS : ∀ x, MSo N (6 * wW N + 1) x ↔ KS N x := fun x => ⟨fun g => g.1, fun g => ⟨g, by
    obtain ⟨k, n, hm, e⟩ := g
    have := mt_b h hm
    omega⟩⟩
  have u := mkl_u h (u := iq m 272) (v := iq m 273) (a4.ext hKS) (fun i i0 i1 => by have := mt_b h (a5 i i0 i1); omega)
  have e6 : enm (rk N m) T (TS N) := a6.ext (fun x => by
    constructor
    · intro ⟨i, i0, i1, e⟩
      refine ⟨i, i0, by omega, ?_⟩
      rw [← e]
      show pk N (mk N i) (ml N i) = pk N (iq m 272 i) (iq m 273 i)
      rw [(u.2 i i0 i1).1, (u.2 i i0 i1).2]
    · intro ⟨i, i0, i1, e⟩
      refine ⟨i, i0, by omega, ?_⟩
      rw [← e]
      show pk N (iq m 272 i) (iq m 273 i) = pk N (mk N i) (ml N i)
      rw [(u.2 i i0 (by omega)).1, (u.2 i i0 (by omega)).2])
  have v := e_uniq (TS_b h) e6
  have v1 : T = Zn N := v.1
  obtain ⟨t1, t2, t3, t4⟩ := a1
  refine ⟨a2.trans u.1, t1.trans v1, fun i i0 i1 => u.2 i i0 (by omega), fun t t0 q => ⟨v.2 t t0 (by omega), t4 t t0 (by omega)⟩, fun y y0 y1 => ?_⟩
  rw [a7 y y0 y1]
  exact bi_congr (hKS y)
theorem c_lays29 {Q : zM → Prop} {m0 : zM} (h : TR C mv b N) (hR : rowM m0 N) (hD : DMB m0 N) (H : ∀ m, f6 m0 m → MRF N m → W_M_lays_79 (d + 2) (J 0) w m Q) :
    ∀ (j : Nat) (k s T : Int) (m : zM), 0 ≤ k → k + j = wW N → f6 m0 m → RM N m s (6 * k + 1) T → s ≤ 5 * k → W_M_lays_29 (d + 2) (J k) w m Q := by
  obtain ⟨w1, w2, w3, w4⟩ := h.words
  intro j
  induction j with
  | zero =>
    intro k s T m hk hj f hA hs
    have e21 := (hD.f6 f).1
    refine S_M_lays_29 ?_
    simp (disch := first | (unfold r32; omega) | omega) only [j_lit, j_rd, j_nc, e21, J_le]
    rw [show k = wW N by omega] at hA
    exact ⟨fun _ => H m f (hA.fin h), fun q => by omega⟩
  | succ j ih =>
    intro k s T m hk hj f hA hs
    have hRm := hR.fr f.1 (by simp)
    have hDm := hD.f6 f
    have e21 := hDm.1
    refine S_M_lays_29 ?_
    simp (disch := first | (unfold r32; omega) | omega) only [j_lit, j_rd, j_nc, e21, J_le]
    refine ⟨fun q => by omega, fun _ => c_lays35 (d := d) h hRm hDm ⟨hk, by omega⟩ (fun m' s' T' f' hA' hs' => ih (k + 1) s' T' m' (by omega) (by omega) (f.tr f') hA' hs') 5 1 s T m (by omega) (by omega) (f6.rf m) hA (by omega) ⟨hk, by omega, fun i _ _ => by omega⟩⟩
theorem c_lays17 {Q : zM → Prop} {m0 : zM} (H : ∀ m, fr [276] m0 m → (∀ y, 0 ≤ y → y < 2400 → iq m 276 y = 0) → W_M_lays_29 d (J 0) w m Q) :
    ∀ (j : Nat) (k : Int) (m : zM), 0 ≤ k → k + j = 2400 → fr [276] m0 m → (∀ y, 0 ≤ y → y < k → iq m 276 y = 0) → W_M_lays_17 d (J k) w m Q := by
  intro j
  induction j with
  | zero =>
    intro k m hk hj f hI
    refine S_M_lays_17 ?_
    simp (disch := first | (unfold r32; omega) | omega) only [j_lit, J_le]
    exact ⟨fun _ => H m f (fun y y0 y1 => hI y y0 (by omega)), fun q => by omega⟩
  | succ j ih =>
    intro k m hk hj f hI
    refine S_M_lays_17 ?_
    simp (disch := first | (unfold r32; omega) | omega) only [j_lit, J_le, vp_J, J_cl, j_ops, j_wr, sq_tn]
    refine ⟨fun q => by omega, fun _ => ⟨by omega, ih (k + 1) _ (by omega) (by omega) (f.si (by simp) _ _) (fun y y0 y1 => ?_)⟩⟩
    by_cases z : y = k
    · rw [z, iq_eq (by unfold r32; omega)]
    · rw [iq_ne (Or.inr z) (by omega) y0]
      exact hI y y0 (by omega)
end MFI
