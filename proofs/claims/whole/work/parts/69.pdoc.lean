/-! doc: both -/
def dset (N : Int → Int) (c v : Int) : Int → Int := fun z => if z = 261 + c then v else if z = 259 then c + 1 else N z
theorem trD_doc {C : Int} {m m1 m2 : zM} {b : Nat} {N N1 : Int → Int} {base k' : Int} (hD : trD C m b N) (hC : 0 ≤ C) (hc : N 259 < 8) (hbase : base = if N (260 + N 259) = 0 then 0 else iq m (b + 12) (N (260 + N 259) - 1) + 1) (hP : PI (b + 10) 269 669 base (N (260 + N 259)) m N m1 N1 k' 600)
    (f : fr [8, b + 10, b + 11, b + 12] m m1) (hm2 : m2 = sq (sq m1 (b + 13) (N 259) k') b 9 (N 259 + 1)) : trD (C + 602) m2 b (dset N1 (N 259) k') := by
  obtain ⟨d1, d2, d3, d4, d5, d6, d7, d8, d9⟩ := hD
  obtain ⟨p1, p2, p3, p4, p5, p6, p7⟩ := hP
  have mono : ∀ (j : Nat) (d : Int), 0 ≤ d → d + j = N 259 → N (260 + d) ≤ N (260 + N 259) := by
    intro j
    induction j with
    | zero => intro d _ e; rw [show d = N 259 by omega]; exact Int.le_refl _
    | succ j ih =>
      intro d h0 e
      have := ih (d + 1) (by omega) (by omega)
      have := (d5 d h0 (by omega)).1
      rw [show 260 + (d + 1) = 261 + d by omega] at *
      omega
  have hk0 : 0 ≤ N (260 + N 259) := by
    have := mono (N 259).toNat 0 (by omega) (by omega)
    rw [show (260 : Int) + 0 = 260 by omega, d4] at this
    exact this
  have n259 : dset N1 (N 259) k' 259 = N 259 + 1 := by
    unfold dset
    rw [if_neg (by omega), if_pos rfl]
  have nlast : dset N1 (N 259) k' (261 + N 259) = k' := if_pos rfl
  have nold : ∀ d, 0 ≤ d → d ≤ N 259 → dset N1 (N 259) k' (260 + d) = N (260 + d) := fun d h0 h1 => by
    unfold dset
    rw [if_neg (by omega), if_neg (by omega)]
    exact p7 _ (by omega) (by omega)
  have nw : ∀ z, 269 ≤ z → dset N1 (N 259) k' z = N1 z := fun z hz => by
    unfold dset
    rw [if_neg (by omega), if_neg (by omega)]
  have nwo : ∀ k, 0 ≤ k → k < N (260 + N 259) → N1 (269 + k) = N (269 + k) ∧ N1 (669 + k) = N (669 + k) := fun k h0 h1 => ⟨p7 _ (by omega) (by omega), p7 _ (by omega) (by omega)⟩
  have r9 : iq m2 b 9 = N 259 + 1 := by rw [hm2]; exact iq_eq (by unfold r32; omega)
  have r10 : iq m2 (b + 10) 2 = k' := by rw [hm2, iq_ne (by omega) (by omega) (by omega), iq_ne (by omega) (by omega) (by omega), p3]
  have l11 : ∀ k, lq m2 (b + 11) k = lq m1 (b + 11) k := fun k => by rw [hm2]; rfl
  have i12 : ∀ k, 0 ≤ k → iq m2 (b + 12) k = iq m1 (b + 12) k := fun k h0 => by rw [hm2, iq_ne (by omega) (by omega) h0, iq_ne (by omega) (by omega) h0]
  have i13 : ∀ z, 0 ≤ z → iq m2 (b + 13) z = if z = N 259 then k' else iq m (b + 13) z := fun z h0 => by
    rw [hm2, iq_ne (by omega) (by omega) h0]
    by_cases e : z = N 259
    · rw [if_pos e, e, iq_eq (by unfold r32; omega)]
    · rw [if_neg e, iq_ne (by omega) (by omega) h0, f.i (by simp)]
  have blast : ∀ i, 0 ≤ i → i < N (260 + N 259) → 0 ≤ iq m (b + 12) i ∧ iq m (b + 12) i < base := fun i h0 h1 => by
    have := (d8 i h0 h1).2.1
    have := (d9 i (N (260 + N 259) - 1) h0 (by omega) (by omega)).1
    rw [hbase, if_neg (by omega)]
    omega
  have hb : 0 ≤ base ∧ base ≤ C + 1 := by
    rw [hbase]
    split
    · omega
    · have := (d8 (N (260 + N 259) - 1) (by omega) (by omega)).2
      omega
  refine ⟨by omega, by omega, by rw [n259]; exact r9, by rw [show (260 : Int) = 260 + 0 by omega, nold 0 (by omega) (by omega)]; exact d4, fun d h0 h1 => ?_, ?_, ?_, fun k h0 h1 => ?_, fun i j h0 h1 h2 => ?_⟩
  · rw [n259] at h1
    rw [nold d h0 (by omega), i13 d h0]
    by_cases e : d = N 259
    · rw [if_pos e, e, nlast]
      exact ⟨p1, rfl⟩
    · rw [if_neg e, show 261 + d = 260 + (d + 1) by omega, nold (d + 1) (by omega) (by omega), show 260 + (d + 1) = 261 + d by omega]
      exact d5 d h0 (by omega)
  · rw [n259, show 260 + (N 259 + 1) = 261 + N 259 by omega, nlast]
    exact p2
  · rw [n259, show 260 + (N 259 + 1) = 261 + N 259 by omega, nlast]
    exact r10
  · rw [n259, show 260 + (N 259 + 1) = 261 + N 259 by omega, nlast] at h1
    rw [l11, i12 k h0, nw _ (by omega), nw _ (by omega)]
    by_cases e : k < N (260 + N 259)
    · obtain ⟨q1, q2⟩ := p4 k h0 e
      obtain ⟨q3, q4⟩ := nwo k h0 e
      have q2' : iq m1 (b + 12) k = iq m (b + 12) k := q2
      have q1' : lq m1 (b + 11) k = lq m (b + 11) k := q1
      rw [q1', q2', q3, q4]
      obtain ⟨a1, a2, a3, a4, a5⟩ := d8 k h0 e
      exact ⟨a1, a2, by omega, a4, a5⟩
    · obtain ⟨a1, a2, a3, a4⟩ := p5 k (by omega) h1
      have a2' : iq m1 (b + 12) k = base + N1 (669 + k) := a2
      exact ⟨a1, by omega, by omega, a3, a4⟩
  · rw [n259, show 260 + (N 259 + 1) = 261 + N 259 by omega, nlast] at h2
    rw [i12 i h0, i12 j (by omega), nw _ (by omega), nw _ (by omega)]
    have sde : sd (dset N1 (N 259) k') i j ↔ ((∀ d, 0 ≤ d → d ≤ N 259 → (N (260 + d) ≤ i ↔ N (260 + d) ≤ j)) ∧ (k' ≤ i ↔ k' ≤ j)) := by
      unfold sd
      rw [n259]
      constructor
      · intro q
        refine ⟨fun d g0 g1 => ?_, ?_⟩
        · have := q d g0 (by omega)
          rwa [nold d g0 g1] at this
        · have := q (N 259 + 1) (by omega) (by omega)
          rwa [show 260 + (N 259 + 1) = 261 + N 259 by omega, nlast] at this
      · intro q d g0 g1
        by_cases e : d = N 259 + 1
        · rw [e, show 260 + (N 259 + 1) = 261 + N 259 by omega, nlast]
          exact q.2
        · rw [nold d g0 (by omega)]
          exact q.1 d g0 (by omega)
    rw [sde]
    by_cases ej : j < N (260 + N 259)
    · have ei : i < N (260 + N 259) := by omega
      obtain ⟨q1, q2⟩ := p4 i h0 ei
      obtain ⟨q3, q4⟩ := p4 j (by omega) ej
      have q2' : iq m1 (b + 12) i = iq m (b + 12) i := q2
      have q4' : iq m1 (b + 12) j = iq m (b + 12) j := q4
      rw [q2', q4', (nwo i h0 ei).2, (nwo j (by omega) ej).2]
      obtain ⟨a1, a2⟩ := d9 i j h0 h1 ej
      refine ⟨a1, a2.trans ⟨fun q => ⟨q.1, q.2, by omega⟩, fun q => ⟨q.1, q.2.1⟩⟩⟩
    · obtain ⟨b1, b2, b3, b4⟩ := p5 j (by omega) h2
      have b2' : iq m1 (b + 12) j = base + N1 (669 + j) := b2
      by_cases ei : i < N (260 + N 259)
      · obtain ⟨q1, q2⟩ := p4 i h0 ei
        have q2' : iq m1 (b + 12) i = iq m (b + 12) i := q2
        have := blast i h0 ei
        refine ⟨by omega, ⟨fun q => by omega, fun q => ?_⟩⟩
        have := q.2.1 (N 259) (by omega) (by omega)
        omega
      · obtain ⟨c1, c2, c3, c4⟩ := p5 i (by omega) (by omega)
        have c2' : iq m1 (b + 12) i = base + N1 (669 + i) := c2
        have := p6 i j (by omega) h1 h2
        refine ⟨by omega, ⟨fun q => ⟨by omega, fun d g0 g1 => ?_, by omega⟩, fun q => by omega⟩⟩
        have := mono (N 259 - d).toNat d g0 (by omega)
        omega
section PDC
variable {d : Nat} {w : Nat × Nat × Nat} {C : Int} {T : Int → Int} {n : Int}
theorem c_M_wordsOf {Q : Int32 → zM → Prop} {m : zM} {N : Int → Int} (hN : rowM m N) (hc : 0 ≤ N 259 ∧ N 259 ≤ 8) (H : Q (J (N (260 + N 259))) m) : cI d 223 [.ref 261] w m Q := by
  have e1 := hN 259 (by omega) (by omega)
  have e2 := hN (260 + N 259) (by omega) (by omega)
  refine S_M_wordsOf ?_
  simp (disch := first | (unfold r32; omega) | omega) only [j_lit, vp_J, J_cl, jl_rd, lq_tn, JL_32, e1, j_ops, e2]
  exact ⟨by omega, by omega, H⟩
theorem c_M_docU {Q : Int32 → zM → Prop} {m : zM} {N N1 : Int → Int} {X Y k' : Int} (h : DX T n 269 669 0 (N (260 + N 259)) 0 N X Y k' N1) (hX : X ≠ 0) (ht : tpM m T n) (hN : rowM m N) (hc : 0 ≤ N 259 ∧ N 259 < 8) (hk : 0 ≤ N (260 + N 259) ∧ N (260 + N 259) ≤ 240)
    (H : ∀ mz, gU m mz → iq mz 261 5 = 0 → iq mz 261 9 = X → iq mz 261 10 = Y → rowM mz N → Q (J (-1)) mz) : cI (d + 30) 224 [.ref 261] w m Q := by
  have e1 := hN 259 (by omega) (by omega)
  refine S_M_doc ?_
  simp (disch := first | (unfold r32; omega) | (unfold r64; omega) | omega) only [j_lit, jl_lit, vp_J, J_cl, jl_rd, lq_tn, JL_32, e1, j_ops, jl_ops, JL_eq, jl_wr, sl_tn]
  refine ⟨by omega, fun _ => c_M_try ht hN (fun m1 f1 t1 r1 e6 e7 e8 eo l64 => c_M_wordsOf r1 (by omega) ?_), fun q => by omega⟩
  refine c_M_readWordsR (d := d + 26) (by omega) h t1 e6 e7 r1 hk (fun q => absurd q hX) (fun _ ek m2 g r2 a7 a8 => ?_)
  have n59 := DX_low h hk.1 259 (by omega) (by omega)
  have l59 : lq m2 262 259 = N 259 := (r2 259 (by omega) (by omega)).trans n59
  have l59b : lq (sl m2 262 259 (N 259 + 1)) 262 259 = N 259 + 1 := lq_eq (by unfold r64; omega)
  simp (disch := first | (unfold r32; omega) | (unfold r64; omega) | omega) only [jl_rd, lq_tn, l59, jl_ops, jl_wr, sl_tn, l59b, JL_32, j_ops, vp_J, J_cl, J_64, J_eq]
  refine ⟨by omega, by omega, by omega, by omega, fun _ => ?_, fun q => absurd trivial q⟩
  have g3 : gt m1 (sl (sl m2 262 259 (N 259 + 1)) 262 (260 + (N 259 + 1)) (-1)) := g.gt.tr (((gq.rf m2).sl 259 (N 259 + 1)).sl (260 + (N 259 + 1)) (-1)).gf.gt
  refine c_M_endU f1 eo l64 g3 a7 a8 (fun mz b1 b2 b3 b4 b5 => ⟨fun q => absurd rfl q, fun _ => H mz b1 b2 b3 b4 b5⟩)
theorem c_M_docK {Q : Int32 → zM → Prop} {m : zM} {N N1 : Int → Int} {Y k' : Int} (h : DX T n 269 669 0 (N (260 + N 259)) 0 N 0 Y k' N1) (hk' : 0 ≤ k' ∧ k' ≤ 240) (hn1 : N1 259 = N 259) (hu : 0 ≤ iq m 261 2 ∧ iq m 261 2 ≤ 8) (ht : tpM m T n) (hN : rowM m N) (hc : 0 ≤ N 259 ∧ N 259 < 8) (hk : 0 ≤ N (260 + N 259) ∧ N (260 + N 259) ≤ 240)
    (H : ∀ mz v, v = (if iq m 261 2 + 1 ≤ 8 then iq m 261 2 + 1 else 8) → gK m mz → rowM mz (dset N1 (N 259) k') → iq mz 261 2 = v → iq mz 261 20 = 0 → iq mz 261 5 = 0 → iq mz 261 9 = 0 → iq mz 261 10 = -1 → (∀ y, 0 ≤ y → y < 1906 → lq mz 263 (1906 * (v - 1) + y) = N y) → (∀ y, 0 ≤ y → y < 1906 * (v - 1) → lq mz 263 y = lq m 263 (y + 1906 * (iq m 261 2 + 1 - v))) → Q (J (N 259)) mz) : cI (d + 30) 224 [.ref 261] w m Q := by
  have e1 := hN 259 (by omega) (by omega)
  refine S_M_doc ?_
  simp (disch := first | (unfold r32; omega) | (unfold r64; omega) | omega) only [j_lit, jl_lit, vp_J, J_cl, jl_rd, lq_tn, JL_32, e1, j_ops, jl_ops, JL_eq, jl_wr, sl_tn]
  refine ⟨by omega, fun _ => c_M_try ht hN (fun m1 f1 t1 r1 e6 e7 e8 eo l64 => c_M_wordsOf r1 (by omega) ?_), fun q => by omega⟩
  refine c_M_readWordsR (d := d + 26) (by omega) h t1 e6 e7 r1 hk (fun _ _ m2 g r2 => ?_) (fun q => absurd rfl q)
  have l59 : lq m2 262 259 = N 259 := (r2 259 (by omega) (by omega)).trans hn1
  have l59b : lq (sl m2 262 259 (N 259 + 1)) 262 259 = N 259 + 1 := lq_eq (by unfold r64; omega)
  simp (disch := first | (unfold r32; omega) | (unfold r64; omega) | omega) only [jl_rd, lq_tn, l59, jl_ops, jl_wr, sl_tn, l59b, JL_32, j_ops, vp_J, J_cl, J_64, J_eq]
  refine ⟨by omega, by omega, by omega, by omega, fun q => by omega, fun _ => ?_⟩
  have g3 : gq m1 (sl (sl m2 262 259 (N 259 + 1)) 262 (260 + (N 259 + 1)) k') := (g.sl 259 (N 259 + 1)).sl (260 + (N 259 + 1)) k'
  have r3 : rowM (sl (sl m2 262 259 (N 259 + 1)) 262 (260 + (N 259 + 1)) k') (dset N1 (N 259) k') := by
    refine rowM.gs (N := fun z => if z = 259 then N 259 + 1 else N1 z) ?_ (by omega) (by unfold r64; omega) (fun z _ _ => ?_)
    · exact r2.gs (by omega) (by unfold r64; omega) (fun y _ _ => rfl)
    · unfold dset
      rw [show 260 + (N 259 + 1) = 261 + N 259 by omega]
  refine c_M_endK hu f1 eo l64 g3.gf.gt ((g3.2.1 7 (by omega) (by omega) (by omega)).trans e7) ((g3.2.1 8 (by omega) (by omega) (by omega)).trans e8) r3 (fun mz v hv b1 b2 b3 b4 b5 b6 b7 b8 b9 => ⟨fun _ => ?_, fun q => absurd q (by decide)⟩)
  have z59 : lq mz 262 259 = N 259 + 1 := by
    rw [b2 259 (by omega) (by omega)]
    unfold dset
    rw [if_neg (by omega), if_pos rfl]
  simp (disch := first | (unfold r32; omega) | (unfold r64; omega) | omega) only [jl_rd, lq_tn, z59, JL_32, j_ops, vp_J, J_cl]
  refine ⟨by omega, ?_⟩
  rw [show N 259 + 1 - 1 = N 259 by omega]
  exact H mz v hv b1 b2 b3 b4 b5 b6 b7 b8 b9
theorem c_closeDoc {Q : zM → Prop} {m : zM} {b : Nat} {c : Int} (hb : zT b) (h9 : iq m b 9 = c) (hc : 0 ≤ c ∧ c < 8) (H : Q (sq (sq m (b + 13) c (iq m (b + 10) 2)) b 9 (c + 1))) : cV (d + 1) 107 [.ref b] w m Q := by
  refine S_Told_closeDoc hb ?_
  simp (disch := first | (unfold r32; omega) | omega) only [j_rd, j_nc, h9]
  refine c_put (zT_de hb) (by decide) (by unfold r32; omega) (by omega) ?_
  have e : iq (sq m (b + 13) c (iq m (b + 10) 2)) b 9 = c := (iq_ne (by omega) (by omega) (by omega)).trans h9
  simp (disch := first | (unfold r32; omega) | omega) only [j_lit, j_rd, j_nc, e, j_ops, j_wr]
  exact H
theorem p_doc {P : Int32 → Int32 → Nat × Nat × Nat → zM → Prop} {m : zM} (hR : RG C w m) (hC : 0 ≤ C ∧ C ≤ 10000000) (hc : tpC m T n) (ht : tpM m T n) (H1 : ∀ w' m' v, TXK (C + 602) w m w' m' → P v v w' m') (H2 : ∀ w' m' v, TXU C w m w' m' → P v v w' m') :
    cIw (d + 30) 118 [.ref 3] w m (fun x w1 m1 => cI (d + 30) 224 [.ref 261] w1 m1 (fun y m2 => P x y w1 m2)) := by
  obtain ⟨h1, h2, h3, h4, h5, h6, h7, h8⟩ := id hR
  have hn : 0 ≤ (iq m 3 10 + 1) % 10 ∧ (iq m 3 10 + 1) % 10 < 10 := by omega
  have hTn : zT w.2.1 := by rw [h6]; exact tb_T h1 h2
  have hD := h7.2.2.2.1
  have e9 : iq m w.2.1 9 = lq m 262 259 := hD.2.2.1
  have hc0 : 0 ≤ lq m 262 259 ∧ lq m 262 259 ≤ 8 := ⟨hD.1, hD.2.1⟩
  refine S_T_doc hTn ?_
  simp (disch := first | (unfold r32; omega) | omega) only [j_lit, J_lt, j_rd, j_nc, e9, j_ops]
  refine ⟨fun q => ?_, fun q => ?_⟩
  · refine c_begin (d := d + 26) hR (fun ma fa ta _ => ?_)
    generalize hx : tb ((iq m 3 10 + 1) % 10) = x at *
    have bb := tb_bd hn.1 hn.2
    rw [hx] at bb
    have hT : zT x := by rw [← hx]; exact tb_T hn.1 hn.2
    have e10r : zR w.2.1 x x 3 = x + 10 := zT_e3 (w := (w.1, w.2.1, x)) hT
    have hN0 : 0 ≤ lq m 262 0 ∧ lq m 262 0 ≤ 80 := ⟨h7.1.1, h7.1.2.1⟩
    refine ⟨zT_n hT, ⟨zT_k hT, by show ¬ zR w.2.1 x x 3 = 0; omega⟩, ?_⟩
    show cV (d + 29) 77 [.ref 8, .ref (zR w.2.1 x x 3)] (w.1, w.2.1, x) ma _
    rw [e10r]
    have hca : tpC ma T n := ⟨hc.1, hc.2.1, (fa.i (by omega) 1).trans hc.2.2.1, fun k k0 k1 => (fa.i (by omega) k).trans (hc.2.2.2.1 k k0 k1), hc.2.2.2.2⟩
    obtain ⟨t1, t2, t3, t4, t5, t6, t7⟩ := id ta
    obtain ⟨d1, d2, d3, d4, d5, d6, d7, d8, d9⟩ := id t4
    have hk : 0 ≤ lq m 262 (260 + lq m 262 259) ∧ lq m 262 (260 + lq m 262 259) ≤ 240 := by
      refine ⟨?_, d6⟩
      by_cases z : lq m 262 259 = 0
      · rw [z, show (260 : Int) + 0 = 260 by omega, d4]; omega
      · have mono : ∀ (j : Nat) (e : Int), 0 ≤ e → e + j = lq m 262 259 → lq m 262 (260 + e) ≤ lq m 262 (260 + lq m 262 259) := by
          intro j
          induction j with
          | zero => intro e _ e1; rw [show e = lq m 262 259 by omega]; exact Int.le_refl _
          | succ j ih =>
            intro e h0 e1
            have := ih (e + 1) (by omega) (by omega)
            have := (d5 e h0 (by omega)).1
            rw [show 260 + (e + 1) = 261 + e by omega] at *
            omega
        have := mono (lq m 262 259).toNat 0 (by omega) (by omega)
        rw [show (260 : Int) + 0 = 260 by omega, d4] at this
        exact this
    have hbs : 0 ≤ (if lq m 262 (260 + lq m 262 259) = 0 then 0 else iq ma (x + 12) (lq m 262 (260 + lq m 262 259) - 1) + 1) ∧ (if lq m 262 (260 + lq m 262 259) = 0 then 0 else iq ma (x + 12) (lq m 262 (260 + lq m 262 259) - 1) + 1) ≤ 100000000 := by
      split
      · omega
      · have := (d8 (lq m 262 (260 + lq m 262 259) - 1) (by omega) (by omega)).2
        omega
    refine c_readProse (d := d + 25) (W := 269) (S := 669) (base := if lq m 262 (260 + lq m 262 259) = 0 then 0 else iq ma (x + 12) (lq m 262 (260 + lq m 262 259) - 1) + 1) (N0 := lq m 262) (zT_pr hT) (by omega) hca d7 hk (by omega) rfl hbs (fun mb X Y k' N1 hdx f e5 e6 hP => ?_)
    have e9b : iq mb x 9 = lq m 262 259 := (f.i (by simp <;> omega) 9).trans d3
    refine ⟨zT_n hT, zT_k hT, ?_⟩
    refine c_closeDoc (d := d + 28) hT e9b (by omega) ?_
    generalize hmc : sq (sq mb (x + 13) (lq m 262 259) (iq mb (x + 10) 2)) x 9 (lq m 262 259 + 1) = mc
    have fbc : fr [x + 13, x] mb mc := by rw [← hmc]; exact ((fr.rf _ mb).si (by simp) _ _).si (by simp) _ _
    have fb : fx x m mc := fun c a1 a2 => by
      have q1 := fa c a2
      have q2 := f c (by simp <;> omega)
      have q3 := fbc c (by simp <;> omega)
      exact ⟨q3.1.trans (q2.1.trans q1.1), q3.2.trans (q2.2.trans q1.2)⟩
    have g5 : iq mc 8 5 = X := (fbc.i (by simp <;> omega) 5).trans e5
    have g6 : iq mc 8 6 = Y := (fbc.i (by simp <;> omega) 6).trans e6
    have i3 : ∀ z, iq mc 3 z = iq m 3 z := fun z => by unfold iq; rw [(fb 3 (by omega) (by omega)).1]
    have hXr : r32 X := by rw [← g5]; exact iq_r _ _ _
    have hYr : r32 Y := by rw [← g6]; exact iq_r _ _ _
    have mro : ∀ c, c ≠ 3 → c ≠ 4 → c ≠ 8 → (c < x ∨ x + 21 ≤ c) → (rd3 mc X Y).1 c = m.1 c ∧ (rd3 mc X Y).2 c = m.2 c := fun c a1 a2 a3 a4 => by
      have q1 := (rd3_f mc hXr hYr).1 c (by simp; exact ⟨a1, a2⟩)
      have q2 := fb c a3 a4
      exact ⟨q1.1.trans q2.1, q1.2.trans q2.2⟩
    by_cases hX : X = 0
    · subst hX
      have hPP := hP rfl
      have hk' : 0 ≤ k' ∧ k' ≤ 240 := ⟨by have := hPP.1; omega, hPP.2.1⟩
      have esz : iq mb (x + 10) 2 = k' := hPP.2.2.1
      have hT4 : trD (C + 602) mc x (dset N1 (lq m 262 259) k') := trD_doc t4 hC.1 q rfl hPP f (by rw [← hmc, esz])
      have low : ∀ z, z < 259 ∨ 1069 ≤ z → dset N1 (lq m 262 259) k' z = lq m 262 z := fun z hz => by
        unfold dset
        rw [if_neg (by omega), if_neg (by omega)]
        exact hPP.2.2.2.2.2.2 z (by omega) (by omega)
      have s0 : ∀ i j : Nat, (j < 10 ∨ 13 < i) → 1 ≤ i → sr ma mc x i j := fun i j hij hi c a1 a2 => by
        have q2 := f c (by have := zT_9 hT; simp <;> omega)
        have q3 := fbc c (by simp <;> omega)
        exact ⟨q3.1.trans q2.1, q3.2.trans q2.2⟩
      have sx : ∀ z, 0 ≤ z → z ≠ 9 → iq mc x z = iq ma x z := fun z z0 z9 => by
        rw [← hmc, iq_ne (by omega) (by omega) z0, iq_ne (by omega) (by omega) z0, f.i (by simp <;> omega)]
      have hTR : TR (C + 602) mc x (dset N1 (lq m 262 259) k') := ⟨trL_c t1 (s0 _ _ (by omega) (by omega)) (fun k a1 a2 => low k (by omega)), trE_c t2 (s0 _ _ (by omega) (by omega)) (fun k a1 a2 => low k (by omega)), trS_c t3 (s0 _ _ (by omega) (by omega)) (sx 8 (by omega) (by omega)) (fun k a1 a2 => low k (by omega)), hT4, trG_c t5 (s0 _ _ (by omega) (by omega)) (fun k a1 a2 => low k (by omega)), trP_c t6 (s0 _ _ (by omega) (by omega)) (fun k a1 a2 => low k (by omega)), trW_c t7 (s0 _ _ (by omega) (by omega)) (sx 10 (by omega) (by omega)) (sx 11 (by omega) (by omega)) (sx 12 (by omega) (by omega)) (fun k a1 a2 => low k (by omega))⟩
      obtain ⟨r1, r2, r3, r4, r5, r6⟩ := rd3_f mc (x := 0) (y := -1) (by unfold r32; omega) (by unfold r32; omega)
      have s11 : iq (rd3 mc 0 (-1)) 3 11 = iq m 3 11 := by rw [r6 _ (by omega) (by omega) (by omega), i3]
      obtain ⟨c1, c2, c3, c4, c5, c6⟩ := kc_facts (rd3 mc 0 (-1)) (by rw [s11]; omega)
      refine c_endK (d := d + 27) g5 hT (by rw [i3]; omega) (by rw [i3]; omega) ?_
      have ke : ∀ c, c ≠ 3 → c ≠ 4 → (kc (rd3 mc 0 (-1))).1 c = mc.1 c ∧ (kc (rd3 mc 0 (-1))).2 c = mc.2 c := fun c a1 a2 => by
        have q1 := r1 c (by simp; exact ⟨a1, a2⟩)
        exact ⟨(c5 c a1).trans q1.1, by rw [c6]; exact q1.2⟩
      have k2 : iq (kc (rd3 mc 0 (-1))) 261 2 = iq m 261 2 := by unfold iq; rw [(ke 261 (by omega) (by omega)).1, (fb 261 (by omega) (by omega)).1]
      have htk : tpM (kc (rd3 mc 0 (-1))) T n := ht.rows ((ke 265 (by omega) (by omega)).1.trans (fb 265 (by omega) (by omega)).1) (by unfold iq; rw [(ke 261 (by omega) (by omega)).1, (fb 261 (by omega) (by omega)).1])
      have hNk : rowM (kc (rd3 mc 0 (-1))) (lq m 262) := fun k k0 k1 => by unfold lq; rw [(ke 262 (by omega) (by omega)).2, (fb 262 (by omega) (by omega)).2]
      have k9 : iq (kc (rd3 mc 0 (-1))) x 9 = lq m 262 259 + 1 := by
        have e : iq (kc (rd3 mc 0 (-1))) x 9 = iq mc x 9 := by unfold iq; rw [(ke x (by omega) (by omega)).1]
        rw [e, ← hmc, iq_eq (by unfold r32; omega)]
      refine ⟨fun _ => ⟨zT_n hT, zT_k hT, ?_⟩, fun z => absurd z (by decide)⟩
      simp (disch := first | (unfold r32; omega) | omega) only [j_rd, j_nc, k9, j_ops]
      rw [show lq m 262 259 + 1 - 1 = lq m 262 259 by omega]
      refine c_M_docK (N := lq m 262) hdx hk' (hPP.2.2.2.2.2.2 259 (by omega) (by omega)) (by rw [k2]; omega) htk hNk ⟨hc0.1, q⟩ hk (fun mz v hv g b2 b3 b4 b5 b6 b7 b8 b9 => H1 _ _ _ ?_)
      rw [k2] at hv b9
      refine txK hR (by omega) hx.symm fb hTR g b2 hv b3 b4 b5 b6 b7 b8 (fun y y0 y1 => ?_)
      rw [b9 y y0 y1]
      unfold lq
      rw [(ke 263 (by omega) (by omega)).2, (fb 263 (by omega) (by omega)).2]
    · refine c_endF (d := d + 28) g5 g6 hX ?_
      refine ⟨fun z => absurd rfl z, fun _ => ?_⟩
      have hte : tpM (rd3 mc X Y) T n := ht.rows (mro 265 (by omega) (by omega) (by omega) (by omega)).1 (by unfold iq; rw [(mro 261 (by omega) (by omega) (by omega) (by omega)).1])
      have hNe : rowM (rd3 mc X Y) (lq m 262) := fun k k0 k1 => by unfold lq; rw [(mro 262 (by omega) (by omega) (by omega) (by omega)).2]
      refine c_M_docU (N := lq m 262) hdx hX hte hNe ⟨hc0.1, q⟩ hk (fun mz b1 b2 b3 b4 b5 => H2 _ _ _ ?_)
      exact txU hR hx.symm fb hXr hYr b1 b2 b3 b4 b5
  · refine mm_C_mono (p_refuse (d := d + 29) (d' := d + 29) hR (P := fun v m2 => P v v w m2) (fun m' t => H2 w m' _ t)) (Nat.le_refl _) (fun r k e => ?_)
    obtain ⟨v, m1, a1, a2, a3, a5, a4⟩ := e
    refine ⟨v, m1, a1, a2, S_M_doc ?_⟩
    have l59 : lq m1 262 259 = 8 := by
      have : lq m1 262 259 = lq m 262 259 := by unfold lq; rw [a5]
      omega
    simp (disch := first | (unfold r32; omega) | (unfold r64; omega) | omega) only [j_lit, jl_lit, vp_J, J_cl, jl_rd, lq_tn, l59]
    refine ⟨by omega, fun z => absurd trivial z, fun _ => ?_⟩
    refine mm_C_mono a4 (Nat.le_refl _) (fun r k e => ?_)
    obtain ⟨v', m2, b1, b2, b3, b4⟩ := e
    refine ⟨v', m2, b1, b2, ?_⟩
    rw [a3, b3]
    exact b4
end PDC
