/-! text: both -/
def ixw (wh : Int) : Int := if wh = 0 then 0 else if wh = 1 then 161 else if wh = 2 then 178 else if wh = 3 then 1069 else 1870
theorem ixw_b (wh : Int) : 0 ≤ ixw wh ∧ ixw wh < 1906 := by
  unfold ixw
  repeat (first | omega | split)
section PTX
variable {d : Nat} {w : Nat × Nat × Nat} {C : Int} {T : Int → Int} {n : Int}
theorem c_sizeOf {Q : Int32 → zM → Prop} {m : zM} {N : Int → Int} {wh : Int} (hT : zT w.2.1) (h : TR C m w.2.1 N) (hw : r32 wh) (H : Q (J (N (ixw wh))) m) : cI d 150 [.ref 3, .int (J wh)] w m Q := by
  obtain ⟨t1, t2, t3, t4, t5, t6, t7⟩ := h
  refine S_T_sizeOf hT ?_
  unfold ixw at H
  simp (disch := first | exact hw | (unfold r32; omega) | omega) only [j_lit, J_eq, j_rd, j_nc, t1.2.2.1, t2.2.2.1, t3.2.2.1, t5.2.2.1, t6.2.2.1]
  refine ⟨fun h0 => ?_, fun h0 => ⟨fun h1 => ?_, fun h1 => ⟨fun h2 => ?_, fun h2 => ⟨fun h3 => ?_, fun h3 => ?_⟩⟩⟩⟩
  · rw [if_pos h0] at H; exact H
  · rw [if_neg h0, if_pos h1] at H; exact H
  · rw [if_neg h0, if_neg h1, if_pos h2] at H; exact H
  · rw [if_neg h0, if_neg h1, if_neg h2, if_pos h3] at H; exact H
  · rw [if_neg h0, if_neg h1, if_neg h2, if_neg h3] at H; exact H
theorem tpM.rows {m m' : zM} (h : tpM m T n) (e1 : m'.1 265 = m.1 265) (e2 : iq m' 261 5 = iq m 261 5) : tpM m' T n :=
  ⟨h.1, h.2.1, e2.trans h.2.2.1, fun k k0 k1 => by rw [← h.2.2.2.1 k k0 k1]; unfold iq; rw [e1], h.2.2.2.2⟩
/-- the reference tries a reading -/
theorem c_M_try {Q : zM → Prop} {m : zM} {N : Int → Int} (ht : tpM m T n) (hN : rowM m N) (H : ∀ m1, fr [261, 264] m m1 → tpM m1 T n → rowM m1 N → iq m1 261 6 = 0 → iq m1 261 7 = 0 → iq m1 261 8 = -1 → (∀ z, 0 ≤ z → z ≠ 6 → z ≠ 7 → z ≠ 8 → iq m1 261 z = iq m 261 z) → (∀ k, 0 ≤ k → k < 1906 → lq m1 264 k = N k) → Q m1) : cV (d + 1) 219 [.ref 261] w m Q :=
  c_tries (fun m1 f1 f2 e6 e7 e8 eo l64 => H m1 f1 (ht.rows (f1 265 (by simp)).1 (eo 5 (by omega) (by omega) (by omega) (by omega))) (fun k k0 k1 => by rw [f1.l (by simp)]; exact hN k k0 k1) e6 e7 e8 eo (fun k k0 k1 => by rw [l64 k k0 k1]; exact hN k k0 k1))
/-- with a fault nothing is kept -/
theorem c_M_endU {Q : Int32 → zM → Prop} {m m1 m2 : zM} {N : Int → Int} {X Y : Int} (f1 : fr [261, 264] m m1) (eo : ∀ z, 0 ≤ z → z ≠ 6 → z ≠ 7 → z ≠ 8 → iq m1 261 z = iq m 261 z) (l64 : ∀ k, 0 ≤ k → k < 1906 → lq m1 264 k = N k) (g : gt m1 m2) (e7 : iq m2 261 7 = X) (e8 : iq m2 261 8 = Y)
    (H : ∀ mz, gU m mz → iq mz 261 5 = 0 → iq mz 261 9 = X → iq mz 261 10 = Y → rowM mz N → Q (J 0) mz) : cI (d + 1) 220 [.ref 261, .int (J 0)] w m2 Q := by
  refine c_ends0 (fun mz f5 a1 a2 a3 a4 a5 => H mz ⟨fun b b1 b2 b3 b4 b5 => ?_, fun z z0 z1 z2 => ?_⟩ a1 (a2.trans e7) (a3.trans e8) (fun k k0 k1 => ?_))
  · have q1 := f1 b (by simp; exact ⟨b1, b3⟩)
    have q2 := g.1 b b1 b2 b4 b5
    have q3 := f5 b (by simp; exact ⟨b1, b2⟩)
    exact ⟨q3.1.trans (q2.1.trans q1.1), q3.2.trans (q2.2.trans q1.2)⟩
  · rw [a4 z z0 (by omega) (by omega) (by omega), g.2 z z0 (by omega) (by omega) (by omega) (by omega) (by omega), eo z z0 (by omega) (by omega) (by omega)]
  · rw [a5 k k0 k1, ← l64 k k0 k1]
    unfold lq
    rw [(g.1 264 (by omega) (by omega) (by omega) (by omega)).2]
theorem c_M_endK {Q : Int32 → zM → Prop} {m m1 m2 : zM} {N N' : Int → Int} (hu : 0 ≤ iq m 261 2 ∧ iq m 261 2 ≤ 8) (f1 : fr [261, 264] m m1) (eo : ∀ z, 0 ≤ z → z ≠ 6 → z ≠ 7 → z ≠ 8 → iq m1 261 z = iq m 261 z) (l64 : ∀ k, 0 ≤ k → k < 1906 → lq m1 264 k = N k) (g : gt m1 m2) (e7 : iq m2 261 7 = 0) (e8 : iq m2 261 8 = -1) (hN' : rowM m2 N')
    (H : ∀ mz v, v = (if iq m 261 2 + 1 ≤ 8 then iq m 261 2 + 1 else 8) → gK m mz → rowM mz N' → iq mz 261 2 = v → iq mz 261 20 = 0 → iq mz 261 5 = 0 → iq mz 261 9 = 0 → iq mz 261 10 = -1 → (∀ y, 0 ≤ y → y < 1906 → lq mz 263 (1906 * (v - 1) + y) = N y) → (∀ y, 0 ≤ y → y < 1906 * (v - 1) → lq mz 263 y = lq m 263 (y + 1906 * (iq m 261 2 + 1 - v))) → Q (J 1) mz) : cI (d + 1) 220 [.ref 261, .int (J 1)] w m2 Q := by
  have e2 : iq m2 261 2 = iq m 261 2 := by rw [g.2 2 (by omega) (by omega) (by omega) (by omega) (by omega) (by omega), eo 2 (by omega) (by omega) (by omega) (by omega)]
  refine c_ends1 (by rw [e2]; exact hu) (fun mz v hv f5 a1 a2 a3 a4 a5 a6 a7 a8 a9 => ?_)
  rw [e2] at hv a9
  refine H mz v hv ⟨fun b b1 b2 b3 b4 b5 b6 => ?_, fun z z1 => ?_⟩ (fun k k0 k1 => (a7 k k0 k1).trans (hN' k k0 k1)) a4 a5 a1 (a2.trans e7) (a3.trans e8) (fun y y0 y1 => ?_) (fun y y0 y1 => ?_)
  · have q1 := f1 b (by simp; exact ⟨b1, b4⟩)
    have q2 := g.1 b b1 b2 b5 b6
    have q3 := f5 b (by simp; exact ⟨b1, b2, b3, b4⟩)
    exact ⟨q3.1.trans (q2.1.trans q1.1), q3.2.trans (q2.2.trans q1.2)⟩
  · rw [a6 z (by omega) (by omega) (by omega) (by omega) (by omega) (by omega), g.2 z (by omega) (by omega) (by omega) (by omega) (by omega) (by omega), eo z (by omega) (by omega) (by omega) (by omega)]
  · rw [a8 y y0 y1, ← l64 y y0 y1]
    unfold lq
    rw [(g.1 264 (by omega) (by omega) (by omega) (by omega)).2]
  · rw [a9 y y0 y1]
    unfold lq
    rw [(g.1 263 (by omega) (by omega) (by omega) (by omega)).2, (f1 263 (by simp)).2]
theorem c_M_textU {Q : Int32 → zM → Prop} {m : zM} {N N' : Int → Int} {wh X Y : Int} (h : RD T n N wh X Y N') (hX : X ≠ 0) (ht : tpM m T n) (hN : rowM m N) (hN0 : 0 ≤ N 0 ∧ N 0 ≤ 80) (hw : 0 ≤ wh ∧ wh ≤ 4)
    (H : ∀ mz, gU m mz → iq mz 261 5 = 0 → iq mz 261 9 = X → iq mz 261 10 = Y → rowM mz N → Q (J (-1)) mz) : cI (d + 30) 222 [.ref 261, .int (J wh)] w m Q := by
  refine S_M_text ?_
  simp (disch := first | (unfold r32; omega) | omega) only [j_lit, jl_lit, J_64, j_ops]
  refine c_isIn (by unfold r64; omega) (by unfold r64; omega) (by unfold r64; omega) ?_
  rw [if_pos hw]
  refine ⟨fun _ => c_M_try ht hN (fun m1 f1 t1 r1 e6 e7 e8 eo l64 => ?_), fun q => absurd q (by decide)⟩
  refine c_M_readText (d := d + 2) h t1 e6 e7 r1 hN0 (fun q => absurd q hX) (fun _ m2 g a7 a8 => ?_)
  refine c_M_endU f1 eo l64 g a7 a8 (fun mz b1 b2 b3 b4 b5 => ⟨fun q => absurd rfl q, fun _ => H mz b1 b2 b3 b4 b5⟩)
theorem c_M_textK {Q : Int32 → zM → Prop} {m : zM} {N N' : Int → Int} {wh Y : Int} (h : RD T n N wh 0 Y N') (hu : 0 ≤ iq m 261 2 ∧ iq m 261 2 ≤ 8) (ht : tpM m T n) (hN : rowM m N) (hN0 : 0 ≤ N 0 ∧ N 0 ≤ 80) (hw : 0 ≤ wh ∧ wh ≤ 4)
    (H : ∀ mz v, v = (if iq m 261 2 + 1 ≤ 8 then iq m 261 2 + 1 else 8) → gK m mz → rowM mz N' → iq mz 261 2 = v → iq mz 261 20 = 0 → iq mz 261 5 = 0 → iq mz 261 9 = 0 → iq mz 261 10 = -1 → (∀ y, 0 ≤ y → y < 1906 → lq mz 263 (1906 * (v - 1) + y) = N y) → (∀ y, 0 ≤ y → y < 1906 * (v - 1) → lq mz 263 y = lq m 263 (y + 1906 * (iq m 261 2 + 1 - v))) → Q (J (N' (ixw wh))) mz) : cI (d + 30) 222 [.ref 261, .int (J wh)] w m Q := by
  refine S_M_text ?_
  simp (disch := first | (unfold r32; omega) | omega) only [j_lit, jl_lit, J_64, j_ops]
  refine c_isIn (by unfold r64; omega) (by unfold r64; omega) (by unfold r64; omega) ?_
  rw [if_pos hw]
  refine ⟨fun _ => c_M_try ht hN (fun m1 f1 t1 r1 e6 e7 e8 eo l64 => ?_), fun q => absurd q (by decide)⟩
  refine c_M_readText (d := d + 2) h t1 e6 e7 r1 hN0 (fun _ m2 g r2 a7 a8 => ?_) (fun q => absurd rfl q)
  refine c_M_endK hu f1 eo l64 g a7 (a8.trans e8) r2 (fun mz v hv b1 b2 b3 b4 b5 b6 b7 b8 b9 => ⟨fun _ => ?_, fun q => absurd q (by decide)⟩)
  have fin := H mz v hv b1 b2 b3 b4 b5 b6 b7 b8 b9
  unfold ixw at fin
  have r0 := b2 0 (by omega) (by omega)
  have r1 := b2 161 (by omega) (by omega)
  have r2 := b2 178 (by omega) (by omega)
  have r3 := b2 1069 (by omega) (by omega)
  have r4 := b2 1870 (by omega) (by omega)
  simp (disch := first | (unfold r32; omega) | omega) only [j_lit, J_eq, vp_J, J_cl, jl_rd, lq_tn, JL_32, r0, r1, r2, r3, r4]
  refine ⟨fun h0 => ⟨fun h1 => ⟨fun h2 => ⟨fun h3 => ⟨by omega, ?_⟩, fun h3 => ⟨by omega, ?_⟩⟩, fun h2 => ⟨by omega, ?_⟩⟩, fun h1 => ⟨by omega, ?_⟩⟩, fun h0 => ⟨by omega, ?_⟩⟩
  · rw [if_neg h0, if_neg h1, if_neg h2, if_neg h3] at fin; exact fin
  · rw [if_neg h0, if_neg h1, if_neg h2, if_pos h3] at fin; exact fin
  · rw [if_neg h0, if_neg h1, if_pos h2] at fin; exact fin
  · rw [if_neg h0, if_pos h1] at fin; exact fin
  · rw [if_pos h0] at fin; exact fin
/-- both refuse -/
theorem p_refuse {P : Int32 → zM → Prop} {m : zM} {d' : Nat} (hR : RG C w m) (H : ∀ m', TXU C w m w m' → P (J (-2)) m') : cI d 147 [.ref 3] w m (fun x m1 => x = J (-2) ∧ m1.2 = m.2 ∧ cI d' 221 [.ref 261] w m1 (fun y m2 => y = J (-2) ∧ P (J (-2)) m2)) := by
  refine S_T_refuseUnread ?_
  simp only [j_lit, j_ops, j_wr, j_nc]
  refine ⟨trivial, rfl, S_M_refuses ?_⟩
  simp only [j_lit, j_ops, j_wr, j_nc]
  refine ⟨trivial, H _ ?_⟩
  obtain ⟨r1, r2, r3, r4, r5, r6⟩ := rd3_f m (x := 0) (y := -1) (by unfold r32; omega) (by unfold r32; omega)
  have e : sq (sq (sq m 4 1 0) 3 12 0) 3 13 (-1) = rd3 m 0 (-1) := rfl
  rw [e]
  generalize rd3 m 0 (-1) = m1 at *
  have f : fr [261] m1 (sq (sq (sq m1 261 5 0) 261 9 0) 261 10 (-1)) := (((fr.rf _ m1).si (by simp) _ _).si (by simp) _ _).si (by simp) _ _
  have e5 : iq (sq (sq (sq m1 261 5 0) 261 9 0) 261 10 (-1)) 261 5 = 0 := by rw [iq_ne (by omega) (by omega) (by omega), iq_ne (by omega) (by omega) (by omega), iq_eq (by unfold r32; omega)]
  have e9 : iq (sq (sq (sq m1 261 5 0) 261 9 0) 261 10 (-1)) 261 9 = 0 := by rw [iq_ne (by omega) (by omega) (by omega), iq_eq (by unfold r32; omega)]
  have e10 : iq (sq (sq (sq m1 261 5 0) 261 9 0) 261 10 (-1)) 261 10 = -1 := by rw [iq_eq (by unfold r32; omega)]
  have eo : ∀ z, 0 ≤ z → z ≠ 5 → z ≠ 9 → z ≠ 10 → iq (sq (sq (sq m1 261 5 0) 261 9 0) 261 10 (-1)) 261 z = iq m 261 z := fun z z0 z1 z2 z3 => by rw [iq_ne (by omega) (by omega) (by omega), iq_ne (by omega) (by omega) (by omega), iq_ne (by omega) (by omega) (by omega), r1.i (by simp)]
  have l2 : (sq (sq (sq m1 261 5 0) 261 9 0) 261 10 (-1)).2 = m.2 := r2
  generalize sq (sq (sq m1 261 5 0) 261 9 0) 261 10 (-1) = mz at *
  have i3 : ∀ z, iq mz 3 z = iq m1 3 z := f.i (by simp)
  have i4 : ∀ z, iq mz 4 z = iq m1 4 z := f.i (by simp)
  have row : ∀ c, c ≠ 3 → c ≠ 4 → c ≠ 261 → mz.1 c = m.1 c ∧ mz.2 c = m.2 c := fun c a1 a2 a3 => ⟨(f c (by simp; exact a3)).1.trans (r1 c (by simp; exact ⟨a1, a2⟩)).1, by rw [l2]⟩
  refine ⟨hR.stay (Int.le_refl _) (by rw [i3, r6 10 (by omega) (by omega) (by omega)]) (by rw [i3, r6 11 (by omega) (by omega) (by omega)]) (eo 2 (by omega) (by omega) (by omega) (by omega)) (fun k _ _ => by unfold lq; rw [l2]) (fun k _ _ => by unfold lq; rw [l2]) (x := 220) (fun b a1 a2 _ => row b (by omega) (by omega) (by omega)) (Or.inr (by omega)) _ rfl, rfl, rfl, by rw [i3, r6 14 (by omega) (by omega) (by omega)], eo 20 (by omega) (by omega) (by omega) (by omega), fun k _ _ => by unfold lq; rw [l2], by rw [i4, r3], e5, by rw [i3, r4, e9], by rw [i3, r5, e10], fun c hc => row c (by omega) (by omega) (by omega), fun z hz => eo z (by omega) (by omega) (by omega) (by omega)⟩
theorem p_text {P : Int32 → Int32 → Nat × Nat × Nat → zM → Prop} {m : zM} {wh : Int} (hw : r32 wh) (hR : RG C w m) (hc : tpC m T n) (ht : tpM m T n) (H1 : ∀ w' m' v, TXK C w m w' m' → P v v w' m') (H2 : ∀ w' m' v, TXU C w m w' m' → P v v w' m') :
    cIw (d + 30) 117 [.ref 3, .int (J wh)] w m (fun x w1 m1 => cI (d + 30) 222 [.ref 261, .int (J wh)] w1 m1 (fun y m2 => P x y w1 m2)) := by
  obtain ⟨h1, h2, h3, h4, h5, h6, h7, h8⟩ := id hR
  have hn : 0 ≤ (iq m 3 10 + 1) % 10 ∧ (iq m 3 10 + 1) % 10 < 10 := by omega
  have hN0 : 0 ≤ lq m 262 0 ∧ lq m 262 0 ≤ 80 := ⟨h7.1.1, h7.1.2.1⟩
  have ref : ¬ (0 ≤ wh ∧ wh ≤ 4) → cI (d + 29) 147 [.ref 3] w m (fun x m1 => cI (d + 30) 222 [.ref 261, .int (J wh)] w m1 (fun y m2 => P x y w m2)) := by
    intro q
    refine mm_C_mono (p_refuse (d := d + 29) (d' := d + 29) hR (P := fun v m2 => P v v w m2) (fun m' t => H2 w m' _ t)) (Nat.le_refl _) (fun r k e => ?_)
    obtain ⟨v, m1, a1, a2, a3, _, a4⟩ := e
    refine ⟨v, m1, a1, a2, S_M_text ?_⟩
    simp (disch := first | exact hw | (unfold r32; omega) | omega) only [j_lit, jl_lit, J_64, j_ops]
    refine c_isIn (r64_32 hw) (by unfold r64; omega) (by unfold r64; omega) ?_
    rw [if_neg q]
    refine ⟨fun z => absurd rfl z, fun _ => ?_⟩
    refine mm_C_mono a4 (Nat.le_refl _) (fun r k e => ?_)
    obtain ⟨v', m2, b1, b2, b3, b4⟩ := e
    refine ⟨v', m2, b1, b2, ?_⟩
    rw [a3, b3]
    exact b4
  refine S_T_text ?_
  simp (disch := first | exact hw | (unfold r32; omega) | omega) only [j_lit, J_lt, J_le, J_eq, j_ops]
  refine ⟨fun q => ref (by omega), fun q => ⟨fun q2 => ?_, fun q2 => ref (by omega)⟩⟩
  refine c_begin (d := d + 26) hR (fun ma fa ta _ => ?_)
  generalize hx : tb ((iq m 3 10 + 1) % 10) = x at *
  have bb := tb_bd hn.1 hn.2
  rw [hx] at bb
  have hT : zT x := by rw [← hx]; exact tb_T hn.1 hn.2
  refine ⟨zT_n hT, ?_⟩
  have hca : tpC ma T n := ⟨hc.1, hc.2.1, (fa.i (by omega) 1).trans hc.2.2.1, fun k k0 k1 => (fa.i (by omega) k).trans (hc.2.2.2.1 k k0 k1), hc.2.2.2.2⟩
  refine c_readInto (d := d + 2) hT hca ta (by omega) (fun mb X Y N' hrd fxb e5 e6 hTR => ?_)
  have fb : fx x m mb := fun c a1 a2 => ⟨(fxb c a1 a2).1.trans (fa c a2).1, (fxb c a1 a2).2.trans (fa c a2).2⟩
  have i3 : ∀ z, iq mb 3 z = iq m 3 z := fun z => by unfold iq; rw [(fb 3 (by omega) (by omega)).1]
  have hXr : r32 X := by rw [← e5]; exact iq_r _ _ _
  have hYr : r32 Y := by rw [← e6]; exact iq_r _ _ _
  have mro : ∀ c, c ≠ 3 → c ≠ 4 → c ≠ 8 → (c < x ∨ x + 21 ≤ c) → (rd3 mb X Y).1 c = m.1 c ∧ (rd3 mb X Y).2 c = m.2 c := fun c a1 a2 a3 a4 => by
    have q1 := (rd3_f mb hXr hYr).1 c (by simp; exact ⟨a1, a2⟩)
    have q2 := fb c a3 a4
    exact ⟨q1.1.trans q2.1, q1.2.trans q2.2⟩
  by_cases hX : X = 0
  · subst hX
    obtain ⟨r1, r2, r3, r4, r5, r6⟩ := rd3_f mb (x := 0) (y := -1) (by unfold r32; omega) (by unfold r32; omega)
    have s11 : iq (rd3 mb 0 (-1)) 3 11 = iq m 3 11 := by rw [r6 _ (by omega) (by omega) (by omega), i3]
    obtain ⟨c1, c2, c3, c4, c5, c6⟩ := kc_facts (rd3 mb 0 (-1)) (by rw [s11]; omega)
    refine c_endK (d := d + 27) e5 hT (by rw [i3]; omega) (by rw [i3]; omega) ?_
    have hTb := hTR rfl
    have ke : ∀ c, c ≠ 3 → c ≠ 4 → (kc (rd3 mb 0 (-1))).1 c = mb.1 c ∧ (kc (rd3 mb 0 (-1))).2 c = mb.2 c := fun c a1 a2 => by
      have q1 := r1 c (by simp; exact ⟨a1, a2⟩)
      exact ⟨(c5 c a1).trans q1.1, by rw [c6]; exact q1.2⟩
    have k2 : iq (kc (rd3 mb 0 (-1))) 261 2 = iq m 261 2 := by unfold iq; rw [(ke 261 (by omega) (by omega)).1, (fb 261 (by omega) (by omega)).1]
    have htk : tpM (kc (rd3 mb 0 (-1))) T n := ht.rows ((ke 265 (by omega) (by omega)).1.trans (fb 265 (by omega) (by omega)).1) (by unfold iq; rw [(ke 261 (by omega) (by omega)).1, (fb 261 (by omega) (by omega)).1])
    have hNk : rowM (kc (rd3 mb 0 (-1))) (lq m 262) := fun k k0 k1 => by unfold lq; rw [(ke 262 (by omega) (by omega)).2, (fb 262 (by omega) (by omega)).2]
    have TRk : TR C (kc (rd3 mb 0 (-1))) x N' := hTb.view (TV.rows (b := x) (m := mb) (m' := kc (rd3 mb 0 (-1))) (fun c a1 a2 => ke c (by omega) (by omega)))
    refine ⟨fun _ => ?_, fun z => absurd z (by decide)⟩
    refine c_sizeOf (w := (w.1, x, x)) (N := N') hT TRk hw ?_
    refine c_M_textK hrd (by rw [k2]; omega) htk hNk hN0 (by omega) (fun mz v hv g b2 b3 b4 b5 b6 b7 b8 b9 => H1 _ _ _ ?_)
    rw [k2] at hv b9
    refine txK hR (Int.le_refl _) hx.symm fb hTb g b2 hv b3 b4 b5 b6 b7 b8 (fun y y0 y1 => ?_)
    rw [b9 y y0 y1]
    unfold lq
    rw [(ke 263 (by omega) (by omega)).2, (fb 263 (by omega) (by omega)).2]
  · refine c_endF (d := d + 28) e5 e6 hX ?_
    refine ⟨fun z => absurd rfl z, fun _ => ?_⟩
    have hte : tpM (rd3 mb X Y) T n := ht.rows (mro 265 (by omega) (by omega) (by omega) (by omega)).1 (by unfold iq; rw [(mro 261 (by omega) (by omega) (by omega) (by omega)).1])
    have hNe : rowM (rd3 mb X Y) (lq m 262) := fun k k0 k1 => by unfold lq; rw [(mro 262 (by omega) (by omega) (by omega) (by omega)).2]
    refine c_M_textU hrd hX hte hNe hN0 (by omega) (fun mz b1 b2 b3 b4 b5 => H2 _ _ _ ?_)
    exact txU hR hx.symm fb hXr hYr b1 b2 b3 b4 b5
end PTX
