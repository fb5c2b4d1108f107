/-! words and stops, as they are told, and the class's reading of them -/
def padr (N : Int → Int) (W S k r s : Int) : Int → Int := fun z => if z = S + k then s else if z = W + k then r else N z
def DXr (T : Int → Int) (n W S : Int) (R : Int → Int → Int → (Int → Int) → Int → Int → Int → (Int → Int) → Prop) : Prop :=
  (∀ {p k s : Int} {N : Int → Int}, tS T n p = -1 → R p k s N 0 (-1) k N) ∧
  (∀ {p k s k' : Int} {N N' : Int → Int} {x y : Int}, tS T n p = 46 → R (tB T n p) k (s + 1) N x y k' N' → R p k s N x y k' N') ∧
  (∀ {p k s : Int} {N : Int → Int}, tS T n p ≠ -1 → tS T n p ≠ 46 → tS T n p ≠ -2 → R p k s N 1 (tP T n p) (-1) N) ∧
  (∀ {p k s : Int} {N : Int → Int}, tS T n p = -2 → k = 240 → R p k s N 2 (tP T n p) (-1) N) ∧
  (∀ {p k s k' : Int} {N N' : Int → Int} {x y : Int}, tS T n p = -2 → k ≠ 240 → R (tB T n p) (k + 1) s (padr N W S k (eM (tL T n p)) s) x y k' N' → R p k s N x y k' N')
def DX (T : Int → Int) (n W S : Int) (p k s : Int) (N : Int → Int) (x y k' : Int) (N' : Int → Int) : Prop := ∀ R, DXr T n W S R → R p k s N x y k' N'
section DI
variable {T : Int → Int} {n W S : Int}
theorem DX.fin {p k s : Int} {N : Int → Int} (h0 : tS T n p = -1) : DX T n W S p k s N 0 (-1) k N := fun R hR => hR.1 h0
theorem DX.stop {p k s k' : Int} {N N' : Int → Int} {x y : Int} (h0 : tS T n p = 46) (hi : DX T n W S (tB T n p) k (s + 1) N x y k' N') : DX T n W S p k s N x y k' N' := fun R hR => hR.2.1 h0 (hi R hR)
theorem DX.noword {p k s : Int} {N : Int → Int} (h0 : tS T n p ≠ -1) (h1 : tS T n p ≠ 46) (h2 : tS T n p ≠ -2) : DX T n W S p k s N 1 (tP T n p) (-1) N := fun R hR => hR.2.2.1 h0 h1 h2
theorem DX.full {p k s : Int} {N : Int → Int} (h0 : tS T n p = -2) (h1 : k = 240) : DX T n W S p k s N 2 (tP T n p) (-1) N := fun R hR => hR.2.2.2.1 h0 h1
theorem DX.word {p k s k' : Int} {N N' : Int → Int} {x y : Int} (h0 : tS T n p = -2) (h1 : k ≠ 240) (hi : DX T n W S (tB T n p) (k + 1) s (padr N W S k (eM (tL T n p)) s) x y k' N') : DX T n W S p k s N x y k' N' := fun R hR => hR.2.2.2.2 h0 h1 (hi R hR)
end DI
/-- what stands there, from k0 on -/
def PI (a : Nat) (W S base k0 : Int) (m0 : zM) (N0 : Int → Int) (m : zM) (N : Int → Int) (k s : Int) : Prop :=
  k0 ≤ k ∧ k ≤ 240 ∧ iq m a 2 = k ∧ (∀ j, 0 ≤ j → j < k0 → lq m (a + 1) j = lq m0 (a + 1) j ∧ iq m (a + 2) j = iq m0 (a + 2) j) ∧ (∀ j, k0 ≤ j → j < k → ww (lq m (a + 1) j) (N (W + j)) ∧ iq m (a + 2) j = base + N (S + j) ∧ 0 ≤ N (S + j) ∧ N (S + j) ≤ s) ∧ (∀ i j, k0 ≤ i → i ≤ j → j < k → N (S + i) ≤ N (S + j)) ∧ (∀ z, ¬ (W + k0 ≤ z ∧ z < W + 240) → ¬ (S + k0 ≤ z ∧ z < S + 240) → N z = N0 z)
section CD
variable {d : Nat} {w : Nat × Nat × Nat} {T : Int → Int} {n : Int} {a : Nat} {W S base k0 : Int} {m0 m m' : zM} {N0 N : Int → Int} {k s : Int}
theorem PI.up (h : PI a W S base k0 m0 N0 m N k s) {s' : Int} (hs : s ≤ s') : PI a W S base k0 m0 N0 m N k s' := by
  obtain ⟨h1, h2, h3, h4, h5, h6, h7⟩ := h
  refine ⟨h1, h2, h3, h4, fun j g0 g1 => ?_, h6, h7⟩
  obtain ⟨q1, q2, q3, q4⟩ := h5 j g0 g1
  exact ⟨q1, q2, q3, by omega⟩
theorem PI.f (h : PI a W S base k0 m0 N0 m N k s) (ha : 9 ≤ a) (f : fr [8] m m') : PI a W S base k0 m0 N0 m' N k s := by
  obtain ⟨h1, h2, h3, h4, h5, h6, h7⟩ := h
  have e0 : ∀ z, iq m' a z = iq m a z := f.i (by simp; omega)
  have e1 : ∀ z, lq m' (a + 1) z = lq m (a + 1) z := f.l (by simp; omega)
  have e2 : ∀ z, iq m' (a + 2) z = iq m (a + 2) z := f.i (by simp; omega)
  exact ⟨h1, h2, by rw [e0]; exact h3, fun j g0 g1 => by rw [e1, e2]; exact h4 j g0 g1, fun j g0 g1 => by rw [e1, e2]; exact h5 j g0 g1, h6, h7⟩
/-- one word more -/
def prd (a : Nat) (m : zM) (k c v : Int) : zM := sq (sq (sl m (a + 1) k c) (a + 2) k v) a 2 (k + 1)
theorem prd_fr (k c v : Int) : fr [a, a + 1, a + 2] m (prd a m k c v) := (((fr.rf _ m).sll (by simp) k c).si (by simp) k v).si (by simp) 2 (k + 1)
theorem PI.add (h : PI a W S base k0 m0 N0 m N k s) (hk0 : 0 ≤ k0) (hk : k < 240) (hs : 0 ≤ s) (hWS : W + 240 ≤ S) {c r : Int} (hw : ww c r) (hv : r32 (base + s)) : PI a W S base k0 m0 N0 (prd a m k c (base + s)) (padr N W S k r s) (k + 1) s := by
  obtain ⟨h1, h2, h3, h4, h5, h6, h7⟩ := h
  have hc := ww_r hw
  have l1 : ∀ j, 0 ≤ j → lq (prd a m k c (base + s)) (a + 1) j = if j = k then c else lq m (a + 1) j := fun j g0 => by
    unfold prd
    rw [lq_sq, lq_sq, lq_sl (by omega) g0 (by unfold r64; omega)]
    by_cases e : j = k
    · rw [if_pos ⟨rfl, e⟩, if_pos e]
    · rw [if_neg (fun q => e q.2), if_neg e]
  have l2 : ∀ j, 0 ≤ j → iq (prd a m k c (base + s)) (a + 2) j = if j = k then base + s else iq m (a + 2) j := fun j g0 => by
    unfold prd
    rw [iq_sq (by omega) g0 (by unfold r32; omega), if_neg (by omega), iq_sq (by omega) g0 hv, iq_sl]
    by_cases e : j = k
    · rw [if_pos ⟨rfl, e⟩, if_pos e]
    · rw [if_neg (fun q => e q.2), if_neg e]
  have n1 : ∀ j, k0 ≤ j → j < 240 → padr N W S k r s (W + j) = if j = k then r else N (W + j) := fun j g0 g1 => by
    unfold padr
    rw [if_neg (by omega)]
    by_cases e : j = k
    · rw [if_pos (by omega), if_pos e]
    · rw [if_neg (by omega), if_neg e]
  have n2 : ∀ j, k0 ≤ j → j < 240 → padr N W S k r s (S + j) = if j = k then s else N (S + j) := fun j g0 g1 => by
    unfold padr
    by_cases e : j = k
    · rw [if_pos (by omega), if_pos e]
    · rw [if_neg (by omega), if_neg (by omega), if_neg e]
  refine ⟨by omega, by omega, ?_, fun j g0 g1 => ?_, fun j g0 g1 => ?_, fun i j g0 g1 g2 => ?_, fun z g0 g1 => ?_⟩
  · unfold prd
    rw [iq_sq (by omega) (by omega) (by unfold r32; omega), if_pos ⟨rfl, rfl⟩]
  · rw [l1 j g0, l2 j g0, if_neg (by omega), if_neg (by omega)]
    exact h4 j g0 g1
  · rw [l1 j (by omega), l2 j (by omega), n1 j g0 (by omega), n2 j g0 (by omega)]
    by_cases e : j = k
    · rw [if_pos e, if_pos e, if_pos e, if_pos e]
      exact ⟨hw, rfl, hs, by omega⟩
    · rw [if_neg e, if_neg e, if_neg e, if_neg e]
      exact h5 j g0 (by omega)
  · rw [n2 i g0 (by omega), n2 j (by omega) (by omega)]
    by_cases e : j = k
    · rw [if_pos e]
      by_cases e2 : i = k
      · rw [if_pos e2]; omega
      · rw [if_neg e2]; exact (h5 i g0 (by omega)).2.2.2
    · rw [if_neg e, if_neg (show ¬ i = k by omega)]
      exact h6 i j g0 g1 (by omega)
  · unfold padr
    rw [if_neg (by omega), if_neg (by omega)]
    exact h7 z g0 g1
theorem c_pradd {Q : Int32 → zM → Prop} {c v : Int} (ha : zPr w a) (hk : iq m a 2 = k) (h0 : 0 ≤ k ∧ k ≤ 240) (H : k < 240 → Q (J 1) (prd a m k c v)) (H2 : ¬ k < 240 → Q (J 0) m) : cI (d + 1) 56 [.ref a, .long (JL c), .int (J v)] w m Q := by
  refine S_Prose_add ha ?_
  simp (disch := first | (unfold r32; omega) | omega) only [j_lit, J_lt, j_rd, j_nc, hk]
  refine ⟨fun q => c_putl ha.2.2.2.1 (by decide) (by unfold r32; omega) (by omega) ?_, H2⟩
  rw [iq_sl, hk]
  refine c_put ha.2.2.2.2 (by decide) (by unfold r32; omega) (by omega) ?_
  have e : iq (sq (sl m (a + 1) k c) (a + 2) k v) a 2 = k := by
    show Int32.toInt (if a = a + 2 ∧ (2 : Int).toNat = k.toNat then J v else m.1 a (2 : Int).toNat) = k
    rw [if_neg (by omega)]
    exact hk
  simp only [j_rd, j_nc, e, j_ops, j_wr]
  exact H q
theorem c_prose_l {Q : zM → Prop} (ha : zPr w a) (ha9 : 9 ≤ a) (hk0 : 0 ≤ k0) (hWS : W + 240 ≤ S) (hbase : 0 ≤ base ∧ base ≤ 100000000) : ∀ (j : Nat) (m : zM) (p i k s : Int) (N : Int → Int), tpC m T n → at8 m T n p → iq m 8 5 = 0 → iq m 8 6 = -1 → 0 ≤ p → p ≤ n → n - p < j → 0 ≤ i → i ≤ p → 0 ≤ s → s ≤ p → PI a W S base k0 m0 N0 m N k s →
    (∀ m' x y k' N', DX T n W S p k s N x y k' N' → fr [8, a, a + 1, a + 2] m m' → iq m' 8 5 = x → iq m' 8 6 = y → (x = 0 → PI a W S base k0 m0 N0 m' N' k' 600) → Q m') →
    W_Reader_readProse_9 (d + 3) a (J (base + s)) (J i) w m Q := by
  intro j
  induction j with
  | zero => intro m p i k s N _ _ _ _ h0 h1 hj; omega
  | succ j ih =>
    intro m p i k s N ht h8 h5 h6 h0 h1 hj hi0 hi hs0 hs hN H
    have hn := ht.2.1
    have hsr := tS_r (n := n) (p := p) ht.2.2.2.2
    have hbd := tok_bd (T := T) h1
    refine S_Reader_readProse_9 ha ?_
    simp (disch := first | (unfold r32; omega) | omega) only [j_lit, J_le, J_eq, j_rd, j_nc, h8.1, h5, j_ops]
    have bad : ∀ m' x y N', x ≠ 0 → DX T n W S p k s N x y (-1) N' → fr [8, a, a + 1, a + 2] m m' → iq m' 8 5 = x → iq m' 8 6 = y → ∀ l : Int32, W_Reader_readProse_9 (d + 3) a l (J (i + 1)) w m' Q := by
      intro m' x y N' hx hd f g5 g6 l
      have fin := H m' x y _ N' hd f g5 g6 (fun z => absurd z hx)
      have hxr : r32 x := by rw [← g5]; exact iq_r _ _ _
      refine S_Reader_readProse_9 ha ?_
      simp (disch := first | exact hxr | (unfold r32; omega) | omega) only [j_lit, J_le, J_eq, j_rd, j_nc, g5]
      exact ⟨fun _ => fin, fun _ => ⟨fun _ => fin, fun z => absurd z hx⟩⟩
    refine ⟨fun z => by omega, fun _ => ⟨fun z => absurd trivial z, fun _ => ⟨fun q => ?_, fun q => ⟨fun q2 => ?_, fun q2 => ⟨fun z => absurd trivial z, fun _ => ?_⟩⟩⟩⟩⟩
    · exact H m 0 (-1) k N (DX.fin q) (fr.rf _ m) h5 h6 (fun _ => hN.up (by omega))
    · refine c_needs ht h8 h5 (by unfold r32; omega) (fun a1 => ?_) (fun m1 a1 f1 g1 g2 => ?_)
      · have hlt := hbd.2.2.2.2 q
        have hw := ww_tok h1 a1 ht.2.2.2.2
        have hk1 := hN.1
        have hk2 := hN.2.1
        simp (disch := first | (unfold r32; omega) | omega) only [J_eq, jl_rd, j_rd, j_nc, h5]
        refine ⟨fun z => by omega, fun _ => ?_⟩
        rw [h8.2.2.2 a1]
        refine c_pradd ha hN.2.2.1 ⟨by omega, hk2⟩ (fun q3 => ?_) (fun q3 => ?_)
        · have hN1 := hN.add hk0 q3 hs0 hWS hw (by unfold r32; omega)
          have f1 := prd_fr (a := a) (m := m) k (eC (tL T n p)) (base + s)
          have r8 := f1 8 (by simp; omega)
          generalize prd a m k (eC (tL T n p)) (base + s) = m1 at *
          have i5 : iq m1 8 5 = 0 := by rw [f1.i (by simp; omega), h5]
          have i6 : iq m1 8 6 = -1 := by rw [f1.i (by simp; omega), h6]
          have h81 : at8 m1 T n p := h8.f8 r8.1 r8.2
          have ht1 := ht.fr f1 (by simp; omega) (by simp; omega)
          simp (disch := first | (unfold r32; omega) | omega) only [J_eq, j_rd, j_nc, i5]
          refine ⟨fun _ => ⟨fun z => absurd trivial z, fun _ => ?_⟩, fun z => by omega⟩
          refine c_next (p := tB T n p) ht1 h81.2.2.1 (by omega) (fun m2 f g => ?_)
          refine ih m2 (tB T n p) (i + 1) (k + 1) s _ (ht1.f8 f) g (by rw [f.2.1, i5]) (by rw [f.2.2, i6]) (by omega) (by omega) (by omega) (by omega) (by omega) hs0 (by omega) (hN1.f ha9 f.fr) (fun m' x y k' N' z1 z2 z3 z4 z5 => ?_)
          exact H m' x y k' N' (DX.word a1 (by omega) z1) (((f1.mo (by simp)).tr (f.fr.mo (by simp))).tr z2) z3 z4 z5
        · simp (disch := first | (unfold r32; omega) | omega) only [J_eq]
          refine ⟨fun z => absurd trivial z, fun _ => c_refuse h5 h8.2.1 (by unfold r32; omega) (fun m' e1 e2 e3 => ?_)⟩
          have hb := bad m' 2 _ N (by omega) (DX.full a1 (by omega)) (e1.mo (by simp)) e2 e3
          simp (disch := first | (unfold r32; omega) | omega) only [J_eq, j_rd, j_nc, e2]
          exact ⟨fun _ => hb _, fun z => by omega⟩
      · have hb := bad m1 1 _ N (by omega) (DX.noword q q2 a1) (f1.mo (by simp)) g1 g2
        simp (disch := first | (unfold r32; omega) | omega) only [J_eq, j_rd, j_nc, g1]
        exact ⟨fun _ => ⟨fun _ => hb _, fun z => by omega⟩, fun z => absurd trivial z⟩
    · have hlt := hbd.2.2.2.2 q
      refine c_next (p := tB T n p) ht h8.2.2.1 (by omega) (fun m2 f g => ?_)
      rw [show base + s + 1 = base + (s + 1) by omega]
      refine ih m2 (tB T n p) (i + 1) k (s + 1) N (ht.f8 f) g (by rw [f.2.1, h5]) (by rw [f.2.2, h6]) (by omega) (by omega) (by omega) (by omega) (by omega) (by omega) (by omega) ((hN.up (by omega)).f ha9 f.fr) (fun m' x y k' N' z1 z2 z3 z4 z5 => ?_)
      exact H m' x y k' N' (DX.stop q2 z1) ((f.fr.mo (by simp)).tr z2) z3 z4 z5
/-- from where the sentences are counted -/
theorem c_readProse {Q : zM → Prop} (ha : zPr w a) (ha9 : 9 ≤ a) (ht : tpC m T n) (hk : iq m a 2 = k0) (hk0 : 0 ≤ k0 ∧ k0 ≤ 240) (hWS : W + 240 ≤ S) (hbase : base = if k0 = 0 then 0 else iq m (a + 2) (k0 - 1) + 1) (hb0 : 0 ≤ base ∧ base ≤ 100000000)
    (H : ∀ m' x y k' N', DX T n W S 0 k0 0 N0 x y k' N' → fr [8, a, a + 1, a + 2] m m' → iq m' 8 5 = x → iq m' 8 6 = y → (x = 0 → PI a W S base k0 m N0 m' N' k' 600) → Q m') : cV (d + 4) 77 [.ref 8, .ref a] w m Q := by
  refine S_Reader_readProse ha (c_begin8 (fun m1 f1 g1 g5 g6 => ?_))
  have ht1 := ht.fr f1 (by simp) (by simp)
  have k1 : iq m1 a 2 = k0 := by rw [f1.i (by simp; omega), hk]
  have hP : PI a W S base k0 m N0 m1 N0 k0 0 := ⟨by omega, hk0.2, k1, fun j _ _ => ⟨f1.l (by simp; omega) j, f1.i (by simp; omega) j⟩, fun j g0 g1 => by omega, fun i j g0 g1 g2 => by omega, fun _ _ _ => rfl⟩
  have go : cV (d + 3) 65 [.ref 8] w m1 (fun m3 => W_Reader_readProse_9 (d + 3) a (J base) (J 0) w m3 Q) := by
    refine c_next (p := 0) ht1 g1 ⟨by omega, ht.1⟩ (fun m2 f2 g2 => ?_)
    have := c_prose_l (d := d) (w := w) (T := T) (n := n) (a := a) (W := W) (S := S) (base := base) (k0 := k0) (m0 := m) (N0 := N0) (Q := Q) ha ha9 hk0.1 hWS hb0 601 m2 0 0 k0 0 N0 (ht1.f8 f2) g2 (by rw [f2.2.1, g5]) (by rw [f2.2.2, g6]) (by omega) ht.1 (by have := ht.2.1; omega) (by omega) (by omega) (by omega) (by omega) (hP.f ha9 f2.fr) (fun m' x y k' N' z1 z2 z3 z4 z5 => H m' x y k' N' z1 (((f1.mo (by simp)).tr (f2.fr.mo (by simp))).tr z2) z3 z4 z5)
    rw [Int.add_zero] at this
    exact this
  refine S_Prose_nextSentence ha ?_
  simp (disch := first | (unfold r32; omega) | omega) only [j_lit, J_eq, j_rd, j_nc, k1, j_ops]
  refine ⟨fun q => ?_, fun q => ?_⟩
  · rw [if_neg q] at hbase
    refine c_at ha.2.2.2.2 (by decide) (by unfold r32; omega) (by omega) ?_
    rw [j_ops.1, f1.i (by simp; omega), ← hbase]
    exact go
  · rw [if_pos q] at hbase
    rw [hbase] at go
    exact go
end CD
