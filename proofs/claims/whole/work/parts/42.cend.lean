/-! the endings as they are told, and the class's reading of them -/
def eadd (N : Int → Int) (f t : Int) : Int → Int := fun z => if z = 161 then N 161 + 1 else if z = 170 + N 161 then t else if z = 162 + N 161 then f else N z
def EXr (T : Int → Int) (n : Int) (R : Int → (Int → Int) → Int → Int → (Int → Int) → Prop) : Prop :=
  (∀ {p : Int} {N : Int → Int}, tS T n p = -1 → R p N 0 (-1) N) ∧
  (∀ {p : Int} {N : Int → Int}, tS T n p ≠ -1 → tS T n p ≠ -2 → R p N 1 (tP T n p) N) ∧
  (∀ {p : Int} {N : Int → Int}, tS T n p = -2 → N 161 = 8 → R p N 2 (tP T n p) N) ∧
  (∀ {p : Int} {N : Int → Int}, tS T n p = -2 → N 161 ≠ 8 → tS T n (tB T n p) ≠ 61 → R p N 1 (tP T n (tB T n p)) N) ∧
  (∀ {p q : Int} {N : Int → Int}, tS T n p = -2 → N 161 ≠ 8 → tS T n (tB T n p) = 61 → q = tB T n (tB T n p) → tS T n q ≠ -2 → tS T n q ≠ 59 → R p N 1 (tP T n q) N) ∧
  (∀ {p q : Int} {N N' : Int → Int} {x y : Int}, tS T n p = -2 → N 161 ≠ 8 → tS T n (tB T n p) = 61 → q = tB T n (tB T n p) → tS T n q = 59 → R (tB T n q) (eadd N (eM (tL T n p)) 0) x y N' → R p N x y N') ∧
  (∀ {p q : Int} {N : Int → Int}, tS T n p = -2 → N 161 ≠ 8 → tS T n (tB T n p) = 61 → q = tB T n (tB T n p) → tS T n q = -2 → tS T n (tB T n q) ≠ 59 → R p N 1 (tP T n (tB T n q)) N) ∧
  (∀ {p q : Int} {N N' : Int → Int} {x y : Int}, tS T n p = -2 → N 161 ≠ 8 → tS T n (tB T n p) = 61 → q = tB T n (tB T n p) → tS T n q = -2 → tS T n (tB T n q) = 59 → R (tB T n (tB T n q)) (eadd N (eM (tL T n p)) (eM (tL T n q))) x y N' → R p N x y N')
def EX (T : Int → Int) (n : Int) (p : Int) (N : Int → Int) (x y : Int) (N' : Int → Int) : Prop := ∀ R, EXr T n R → R p N x y N'
section EI
variable {T : Int → Int} {n : Int}
theorem EX.fin {p : Int} {N : Int → Int} (h0 : tS T n p = -1) : EX T n p N 0 (-1) N := fun R hR => hR.1 h0
theorem EX.nofrom {p : Int} {N : Int → Int} (h0 : tS T n p ≠ -1) (h1 : tS T n p ≠ -2) : EX T n p N 1 (tP T n p) N := fun R hR => hR.2.1 h0 h1
theorem EX.full {p : Int} {N : Int → Int} (h0 : tS T n p = -2) (h1 : N 161 = 8) : EX T n p N 2 (tP T n p) N := fun R hR => hR.2.2.1 h0 h1
theorem EX.noeq {p : Int} {N : Int → Int} (h0 : tS T n p = -2) (h1 : N 161 ≠ 8) (h2 : tS T n (tB T n p) ≠ 61) : EX T n p N 1 (tP T n (tB T n p)) N := fun R hR => hR.2.2.2.1 h0 h1 h2
theorem EX.noto {p q : Int} {N : Int → Int} (h0 : tS T n p = -2) (h1 : N 161 ≠ 8) (h2 : tS T n (tB T n p) = 61) (h3 : q = tB T n (tB T n p)) (h4 : tS T n q ≠ -2) (h5 : tS T n q ≠ 59) : EX T n p N 1 (tP T n q) N := fun R hR => hR.2.2.2.2.1 h0 h1 h2 h3 h4 h5
theorem EX.to0 {p q : Int} {N N' : Int → Int} {x y : Int} (h0 : tS T n p = -2) (h1 : N 161 ≠ 8) (h2 : tS T n (tB T n p) = 61) (h3 : q = tB T n (tB T n p)) (h4 : tS T n q = 59) (hi : EX T n (tB T n q) (eadd N (eM (tL T n p)) 0) x y N') : EX T n p N x y N' := fun R hR => hR.2.2.2.2.2.1 h0 h1 h2 h3 h4 (hi R hR)
theorem EX.noto2 {p q : Int} {N : Int → Int} (h0 : tS T n p = -2) (h1 : N 161 ≠ 8) (h2 : tS T n (tB T n p) = 61) (h3 : q = tB T n (tB T n p)) (h4 : tS T n q = -2) (h5 : tS T n (tB T n q) ≠ 59) : EX T n p N 1 (tP T n (tB T n q)) N := fun R hR => hR.2.2.2.2.2.2.1 h0 h1 h2 h3 h4 h5
theorem EX.to {p q : Int} {N N' : Int → Int} {x y : Int} (h0 : tS T n p = -2) (h1 : N 161 ≠ 8) (h2 : tS T n (tB T n p) = 61) (h3 : q = tB T n (tB T n p)) (h4 : tS T n q = -2) (h5 : tS T n (tB T n q) = 59) (hi : EX T n (tB T n (tB T n q)) (eadd N (eM (tL T n p)) (eM (tL T n q))) x y N') : EX T n p N x y N' := fun R hR => hR.2.2.2.2.2.2.2 h0 h1 h2 h3 h4 h5 (hi R hR)
end EI
theorem trE.fr8 {m m' : zM} {b : Nat} {N : Int → Int} (hb : 9 ≤ b) (h : trE m b N) (f : fr [8] m m') : trE m' b N :=
  trE_c h (fun c h1 h2 => f c (by simp; omega)) (fun _ _ _ => rfl)
theorem eadd_tr {m : zM} {b : Nat} {N : Int → Int} {c r c' r' : Int} (h : trE m b N) (hw : ww c r) (hw' : ww0 c' r') (h8 : N 161 < 8) : trE (pad (b + 4) m (N 161) c c') b (eadd N r r') ∧ ∀ z, z < 161 ∨ 178 ≤ z → eadd N r r' z = N z := by
  have hc := ww_r hw
  have hc' : r64 c' := by
    obtain ⟨l, q1, q2, q3⟩ := hw'
    have := eC_bd q1
    unfold r64
    omega
  obtain ⟨h1, h2, h3, h4⟩ := h
  have e161 : eadd N r r' 161 = N 161 + 1 := if_pos rfl
  refine ⟨⟨by omega, by omega, by rw [e161]; exact pad_sz (by unfold r32; omega), fun y g1 g2 => ?_⟩, fun z hz => ?_⟩
  · rw [e161] at g2
    obtain ⟨p1, p2⟩ := pad_l (a := b + 4) (m := m) (s := N 161) (x := c) (y := c') h1 (by unfold r64; omega) hc' y g1
    show ww (lq (pad (b + 4) m (N 161) c c') (b + 4 + 1) y) (if 162 + y = 161 then N 161 + 1 else if 162 + y = 170 + N 161 then r' else if 162 + y = 162 + N 161 then r else N (162 + y)) ∧ ww0 (lq (pad (b + 4) m (N 161) c c') (b + 4 + 2) y) (if 170 + y = 161 then N 161 + 1 else if 170 + y = 170 + N 161 then r' else if 170 + y = 162 + N 161 then r else N (170 + y))
    rw [p1, p2]
    rw [if_neg (show ¬ 162 + y = 161 by omega), if_neg (show ¬ 162 + y = 170 + N 161 by omega), if_neg (show ¬ 170 + y = 161 by omega)]
    by_cases z : y = N 161
    · rw [if_pos z, if_pos z, if_pos (by omega), if_pos (by omega)]
      exact ⟨hw, hw'⟩
    · rw [if_neg z, if_neg z, if_neg (by omega), if_neg (by omega), if_neg (by omega)]
      exact h4 y g1 (by omega)
  · unfold eadd
    rw [if_neg (by omega), if_neg (by omega), if_neg (by omega)]
section CE
variable {d : Nat} {w : Nat × Nat × Nat} {T : Int → Int} {n : Int} {b : Nat}
theorem c_endLine {Q : zM → Prop} {m : zM} {p : Int} {N : Int → Int} (hb : zT b) (ht : tpC m T n) (h8 : at8 m T n p) (h5 : iq m 8 5 = 0) (hp : 0 ≤ p ∧ p ≤ n) (hN : trE m b N) (hne : tS T n p ≠ -1)
    (HF : ∀ m' x y N', EX T n p N x y N' → x ≠ 0 → fr [8, b + 4, b + 5, b + 6] m m' → iq m' 8 5 = x → iq m' 8 6 = y → Q m')
    (HS : ∀ m' p' N', (∀ x y N2, EX T n p' N' x y N2 → EX T n p N x y N2) → p < p' → p' ≤ n → fr [8, b + 4, b + 5, b + 6] m m' → iq m' 8 5 = 0 → iq m' 8 6 = iq m 8 6 → at8 m' T n p' → trE m' b N' → (∀ z, z < 161 ∨ 178 ≤ z → N' z = N z) → Q m') : cV (d + 5) 73 [.ref 8, .ref (b + 4)] w m Q := by
  have hb9 := zT_9 hb
  have hn := ht.2.1
  have hbd := tok_bd (T := T) hp.2
  have hlt := hbd.2.2.2.2 hne
  have hbd1 := tok_bd (T := T) (p := tB T n p) hbd.2.2.2.1
  have hbd2 := tok_bd (T := T) (p := tB T n (tB T n p)) hbd1.2.2.2.1
  have hbd3 := tok_bd (T := T) (p := tB T n (tB T n (tB T n p))) hbd2.2.2.2.1
  have hs2 := tS_r (n := n) (p := tB T n (tB T n p)) ht.2.2.2.2
  have hN1 := hN.1
  have hN2 := hN.2.1
  refine S_Reader_readEndingsLine (zT_end hb) ?_
  simp only [j_lit, j_ops]
  refine (c_needs ht h8 h5 (by unfold r32; omega) (fun a1 => ?_) (fun m1 a1 f1 g1 g2 => ?_))
  · have hw := ww_tok hp.2 a1 ht.2.2.2.2
    simp (disch := first | (unfold r32; omega) | omega) only [j_lit, jl_lit, J_eq, J_lt, j_rd, jl_rd, j_nc, hN.2.2.1, h8.2.2.2 a1]
    refine ⟨fun _ => ⟨fun q => ?_, fun q => ?_⟩, fun z => by omega⟩
    · refine c_next (p := tB T n p) ht h8.2.2.1 (by omega) (fun m1 f1 g1 => ?_)
      have ht1 := ht.f8 f1
      refine c_passes ht1 g1 (by rw [f1.2.1, h5]) (by omega) (by unfold r32; omega) (fun m2 e2 f2 g2 => ?_) (fun m2 e2 f2 g2 g3 => ?_)
      · have ht2 := ht1.f8 f2
        have f12 := f1.fr.tr f2.fr
        have h52 : iq m2 8 5 = 0 := by rw [f2.2.1, f1.2.1, h5]
        have h62 : iq m2 8 6 = iq m 8 6 := by rw [f2.2.2, f1.2.2]
        simp (disch := first | (unfold r32; omega) | omega) only [j_lit, jl_lit, J_eq, j_rd, jl_rd, j_nc, g2.1, j_ops]
        refine ⟨fun _ => ⟨fun q2 => ?_, fun q2 => ?_⟩, fun z => by omega⟩
        · refine c_passes ht2 g2 h52 (by omega) (by unfold r32; omega) (fun m3 e3 f3 g3 => ?_) (fun m3 e3 f3 g3 g4 => ?_)
          · simp (disch := first | (unfold r32; omega) | omega) only [J_eq]
            refine ⟨fun z => by omega, fun _ => ?_⟩
            have f13 := f12.tr f3.fr
            have hN3 := hN.fr8 hb9 f13
            obtain ⟨t1, t2⟩ := eadd_tr (c' := 0) (r' := 0) hN3 hw ⟨[], wd_nil, rfl, rfl⟩ q
            refine c_padd (zT_end hb) (by decide) hN3.2.2.1 ⟨hN1, hN2⟩ (fun _ => ?_) (fun z => absurd q z)
            have fp := pad_fr (a := b + 4) (m := m3) (N 161) (eC (tL T n p)) 0
            have r8 := fp 8 (by simp; omega)
            refine HS _ (tB T n (tB T n (tB T n p))) _ (fun x y N2 z => EX.to0 a1 (by omega) e2 rfl e3 z) ?_ hbd2.2.2.2.1 ((f13.mo (by simp)).tr (fp.mo (by simp))) ?_ ?_ (g3.f8 r8.1 r8.2) t1 t2
            · have := hbd1.2.2.2.2 (by omega); omega
            · rw [fp.i (by simp; omega), f3.2.1, h52]
            · rw [fp.i (by simp; omega), f3.2.2, h62]
          · exact ⟨fun _ => HF m3 1 _ N (EX.noto a1 (by omega) e2 rfl q2 e3) (by omega) ((f12.tr f3).mo (by simp)) g3 g4, fun z => absurd rfl z⟩
        · have hw2 := ww_tok hbd1.2.2.2.1 q2 ht.2.2.2.2
          refine c_next (p := tB T n (tB T n (tB T n p))) ht2 g2.2.2.1 (by omega) (fun m3 f3 g3 => ?_)
          have ht3 := ht2.f8 f3
          have f13 := f12.tr f3.fr
          have h53 : iq m3 8 5 = 0 := by rw [f3.2.1, h52]
          rw [g2.2.2.2 q2]
          refine c_passes ht3 g3 h53 (by omega) (by unfold r32; omega) (fun m4 e4 f4 g4 => ?_) (fun m4 e4 f4 g4 g5 => ?_)
          · simp (disch := first | (unfold r32; omega) | omega) only [J_eq]
            refine ⟨fun z => by omega, fun _ => ?_⟩
            have f14 := f13.tr f4.fr
            have hN4 := hN.fr8 hb9 f14
            obtain ⟨l2, y1, y2, y3, y4⟩ := hw2
            obtain ⟨t1, t2⟩ := eadd_tr (c' := eC (tL T n (tB T n (tB T n p)))) (r' := eM (tL T n (tB T n (tB T n p)))) hN4 hw ⟨l2, y1, y3, y4⟩ q
            refine c_padd (zT_end hb) (by decide) hN4.2.2.1 ⟨hN1, hN2⟩ (fun _ => ?_) (fun z => absurd q z)
            have fp := pad_fr (a := b + 4) (m := m4) (N 161) (eC (tL T n p)) (eC (tL T n (tB T n (tB T n p))))
            have r8 := fp 8 (by simp; omega)
            refine HS _ (tB T n (tB T n (tB T n (tB T n p)))) _ (fun x y N2 z => EX.to a1 (by omega) e2 rfl q2 e4 z) ?_ hbd3.2.2.2.1 ((f14.mo (by simp)).tr (fp.mo (by simp))) ?_ ?_ (g4.f8 r8.1 r8.2) t1 t2
            · have := hbd1.2.2.2.2 (by omega); omega
            · rw [fp.i (by simp; omega), f4.2.1, h53]
            · rw [fp.i (by simp; omega), f4.2.2, f3.2.2, h62]
          · exact ⟨fun _ => HF m4 1 _ N (EX.noto2 a1 (by omega) e2 rfl q2 e4) (by omega) ((f13.tr f4).mo (by simp)) g4 g5, fun z => absurd rfl z⟩
      · simp (disch := first | (unfold r32; omega) | omega) only [j_lit, J_eq]
        exact ⟨fun z => absurd trivial z, fun _ => HF m2 1 _ N (EX.noeq a1 (by omega) e2) (by omega) ((f1.fr.tr f2).mo (by simp)) g2 g3⟩
    · refine c_refuse h5 h8.2.1 (by unfold r32; omega) (fun m' e1 e2 e3 => ?_)
      exact HF m' 2 _ N (EX.full a1 (by omega)) (by omega) (e1.mo (by simp)) e2 e3
  · simp (disch := first | (unfold r32; omega) | omega) only [j_lit, J_eq]
    exact ⟨fun z => absurd trivial z, fun _ => HF m1 1 _ N (EX.nofrom hne a1) (by omega) (f1.mo (by simp)) g1 g2⟩
theorem c_end_l {Q : zM → Prop} (hb : zT b) : ∀ (j : Nat) (m : zM) (p i : Int) (N : Int → Int), tpC m T n → at8 m T n p → iq m 8 5 = 0 → iq m 8 6 = -1 → 0 ≤ p → p ≤ n → n - p < j → 0 ≤ i → i ≤ p → trE m b N →
    (∀ m' x y N', EX T n p N x y N' → fr [8, b + 4, b + 5, b + 6] m m' → iq m' 8 5 = x → iq m' 8 6 = y → (x = 0 → trE m' b N' ∧ ∀ z, z < 161 ∨ 178 ≤ z → N' z = N z) → Q m') →
    W_Reader_readEndings_9 (d + 5) (b + 4) (J i) w m Q := by
  intro j
  induction j with
  | zero => intro m p i N _ _ _ _ h0 h1 hj; omega
  | succ j ih =>
    intro m p i N ht h8 h5 h6 h0 h1 hj hi0 hi hN H
    have hn := ht.2.1
    have hs := tS_r (n := n) (p := p) ht.2.2.2.2
    refine S_Reader_readEndings_9 ?_
    simp (disch := first | (unfold r32; omega) | omega) only [j_lit, J_le, J_eq, j_rd, j_nc, h8.1, h5, j_ops]
    refine ⟨fun z => by omega, fun _ => ⟨fun z => absurd trivial z, fun _ => ⟨fun q => ?_, fun q => ?_⟩⟩⟩
    · exact H m 0 (-1) N (EX.fin q) (fr.rf _ m) h5 h6 (fun _ => ⟨hN, fun _ _ => rfl⟩)
    · refine c_endLine hb ht h8 h5 ⟨h0, h1⟩ hN q (fun m' x y N' z1 z2 z3 z4 z5 => ?_) (fun m' p' N' z1 z2 z3 z4 z5 z6 z7 z8 z9 => ?_)
      · have hx : r32 x := by rw [← z4]; exact iq_r _ _ _
        refine S_Reader_readEndings_9 ?_
        simp (disch := first | exact hx | (unfold r32; omega) | omega) only [j_lit, J_le, J_eq, j_rd, j_nc, z4, j_ops]
        have fin := H m' x y N' z1 z3 z4 z5 (fun z => absurd z z2)
        exact ⟨fun _ => fin, fun _ => ⟨fun _ => fin, fun z => absurd z z2⟩⟩
      · have hb9 := zT_9 hb
        refine ih m' p' (i + 1) N' (ht.fr z4 (by simp; omega) (by simp; omega)) z7 z5 (by rw [z6, h6]) (by omega) z3 (by omega) (by omega) (by omega) z8 (fun m2 x y N2 y1 y2 y3 y4 y5 => ?_)
        exact H m2 x y N2 (z1 x y N2 y1) (z4.tr y2) y3 y4 (fun z => ⟨(y5 z).1, fun t ht => ((y5 z).2 t ht).trans (z9 t ht)⟩)
/-- none told -/
def e0 (N : Int → Int) : Int → Int := fun z => if z = 161 then 0 else N z
theorem c_readEndings {Q : zM → Prop} {m : zM} {N : Int → Int} (hb : zT b) (ht : tpC m T n)
    (H : ∀ m' x y N', EX T n 0 (e0 N) x y N' → fr [8, b + 4, b + 5, b + 6] m m' → iq m' 8 5 = x → iq m' 8 6 = y → (x = 0 → trE m' b N' ∧ ∀ z, z < 161 ∨ 178 ≤ z → N' z = N z) → Q m') : cV (d + 6) 72 [.ref 8, .ref (b + 4)] w m Q := by
  have hb9 := zT_9 hb
  refine S_Reader_readEndings (zT_end hb) (c_begin8 (fun m1 f1 g1 g5 g6 => ?_))
  simp only [j_lit, j_wr, j_nc]
  have f0 : fr [b + 4] m1 (sq m1 (b + 4) 2 0) := (fr.rf _ _).si (by simp) 2 0
  have f01 : fr [8, b + 4, b + 5, b + 6] m (sq m1 (b + 4) 2 0) := (f1.mo (by simp)).tr (f0.mo (by simp))
  have ht1 := ht.fr f01 (by simp; omega) (by simp; omega)
  refine c_next (p := 0) ht1 (by rw [f0.i (by simp; omega), g1]) ⟨by omega, ht.1⟩ (fun m2 f2 g2 => ?_)
  have z0 : iq (sq m1 (b + 4) 2 0) (b + 4) 2 = 0 := by rw [iq_sq (by omega) (by omega) (by unfold r32; omega), if_pos ⟨rfl, rfl⟩]
  have hE0 : trE m2 b (e0 N) := ⟨by show (0 : Int) ≤ if (161 : Int) = 161 then 0 else N 161; rw [if_pos rfl]; omega, by show (if (161 : Int) = 161 then 0 else N 161) ≤ 8; rw [if_pos rfl]; omega, by rw [f2.i (by omega), z0]; show 0 = if (161 : Int) = 161 then 0 else N 161; rw [if_pos rfl], fun k q1 q2 => by
    have q3 : k < if (161 : Int) = 161 then 0 else N 161 := q2
    rw [if_pos rfl] at q3; omega⟩
  refine c_end_l hb 601 m2 0 0 (e0 N) (ht1.f8 f2) g2 (by rw [f2.2.1, f0.i (by simp; omega), g5]) (by rw [f2.2.2, f0.i (by simp; omega), g6]) (by omega) ht.1 (by have := ht.2.1; omega) (by omega) (by omega) hE0 (fun m' x y N' z1 z2 z3 z4 z5 => ?_)
  exact H m' x y N' z1 ((f01.tr (f2.fr.mo (by simp))).tr z2) z3 z4 (fun z => ⟨(z5 z).1, fun t hz => ((z5 z).2 t hz).trans (if_neg (by omega))⟩)
end CE
