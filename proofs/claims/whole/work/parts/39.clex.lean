/-! the class reads the lexicon -/
theorem tpC.fr {S : List Nat} {m m' : zM} {T : Int → Int} {n : Int} (h : tpC m T n) (f : fr S m m') (h4 : 4 ∉ S) (h5 : 5 ∉ S) : tpC m' T n := by
  obtain ⟨a1, a2, a3, a4, a5⟩ := h
  exact ⟨a1, a2, by rw [f.i h4]; exact a3, fun k k0 k1 => by rw [f.i h5]; exact a4 k k0 k1, a5⟩
theorem zT_9 {b : Nat} (h : zT b) : 9 ≤ b := by
  rcases h with rfl | rfl | rfl | rfl | rfl | rfl | rfl | rfl | rfl | rfl <;> decide
theorem trL.fr8 {m m' : zM} {b : Nat} {N : Int → Int} (hb : 9 ≤ b) (h : trL m b N) (f : fr [8] m m') : trL m' b N :=
  trL_c h (fun c h1 h2 => f c (by simp; omega)) (fun _ _ _ => rfl)
section CL
variable {d : Nat} {w : Nat × Nat × Nat} {T : Int → Int} {n : Int} {b : Nat}
theorem ww_tok {p : Int} (hp : p ≤ n) (h : tS T n p = -2) (hT : ∀ i, 0 ≤ T i ∧ T i < 256) : ww (eC (tL T n p)) (eM (tL T n p)) :=
  ⟨tL T n p, (tL_wd hp h hT).1, (tL_wd hp h hT).2, rfl, rfl⟩
theorem c_lexW {Q : zM → Prop} {kc k : Int} (hb : zT b) (hk : kr kc k) : ∀ (j : Nat) (m : zM) (p i : Int) (N : Int → Int), tpC m T n → at8 m T n p → iq m 8 5 = 0 → 0 ≤ p → p ≤ n → n - p < j → 0 ≤ i → i ≤ p → trL m b N →
    (∀ m' x y N', tS T n p ≠ 59 → LX T n (some k) p N x y N' → x ≠ 0 → fr [8, b + 1, b + 2, b + 3] m m' → iq m' 8 5 = x → iq m' 8 6 = y → Q m') →
    (∀ m' p' N', ((tS T n p = 59 ∧ p' = tB T n p ∧ N' = N) ∨ (tS T n p ≠ 59 ∧ ∀ x y N2, LX T n none p' N' x y N2 → LX T n (some k) p N x y N2)) → p < p' → p' ≤ n → fr [8, b + 1, b + 2, b + 3] m m' → iq m' 8 5 = 0 → iq m' 8 6 = iq m 8 6 → at8 m' T n p' → trL m' b N' → (∀ z, 161 ≤ z → N' z = N z) → Q m') →
    W_Reader_readLexiconLine_22 (d + 4) (b + 1) (J kc) (J i) w m Q := by
  have hb9 := zT_9 hb
  have hkr := kr_r hk
  intro j
  induction j with
  | zero => intro m p i N _ _ _ h0 h1 hj; omega
  | succ j ih =>
    intro m p i N ht h8 h5 h0 h1 hj hi0 hi hN HF HS
    have hn := ht.2.1
    have hs := tS_r (n := n) (p := p) ht.2.2.2.2
    have hbd := tok_bd (T := T) h1
    refine S_Reader_readLexiconLine_22 (zT_lex hb) ?_
    simp (disch := first | (unfold r32; omega) | omega) only [j_lit, J_le, J_eq, j_rd, jl_rd, j_nc, h8.1, j_ops, J_64]
    refine ⟨fun q => by omega, fun _ => ⟨fun q => ?_, fun q => ?_⟩⟩
    · refine c_passes ht h8 h5 ⟨h0, h1⟩ (by unfold r32; omega) (fun m' e f g => ?_) (fun m' e f g1 g2 => ?_)
      · refine HS m' (tB T n p) N (Or.inl ⟨e, rfl, rfl⟩) (by have := hbd.2.2.2.2 (by omega); omega) hbd.2.2.2.1 (f.fr.mo (by simp)) (by rw [f.2.1, h5]) f.2.2 g (hN.fr8 hb9 f.fr) (fun _ _ => rfl)
      · exact HF m' 1 _ N e (LX.noword q) (by omega) (f.mo (by simp)) g1 g2
    · have hw := ww_tok h1 q ht.2.2.2.2
      have hwr := ww_r hw
      have hsz := hN.2.2.1
      have h80 := hN.2.1
      have h00 := hN.1
      have hlt := hbd.2.2.2.2 (by omega)
      rw [h8.2.2.2 q]
      have go : ∀ m1 N1, lset N (eM (tL T n p)) k = some N1 → trL m1 b N1 → (∀ z, 161 ≤ z → N1 z = N z) → fr [b + 1, b + 2, b + 3] m m1 → cV (d + 4) 65 [.ref 8] w m1 (fun m4 => W_Reader_readLexiconLine_22 (d + 4) (b + 1) (J kc) (J (i + 1)) w m4 Q) := by
        intro m1 N1 l1 l2 l3 l4
        have h81 : m1.1 8 = m.1 8 ∧ m1.2 8 = m.2 8 := l4 8 (by simp; omega)
        have ht1 := ht.fr l4 (by simp; omega) (by simp; omega)
        have h81' : at8 m1 T n p := h8.f8 h81.1 h81.2
        have i5 : iq m1 8 5 = 0 := by rw [l4.i (by simp; omega), h5]
        have i6 : iq m1 8 6 = iq m 8 6 := l4.i (by simp; omega) 6
        refine c_next (p := tB T n p) ht1 h81'.2.2.1 (by omega) (fun m2 f g => ?_)
        have fAll : fr [8, b + 1, b + 2, b + 3] m m2 := (l4.mo (by simp)).tr (f.fr.mo (by simp))
        refine ih m2 (tB T n p) (i + 1) N1 (ht1.f8 f) g (by rw [f.2.1, i5]) (by omega) (by omega) (by omega) (by omega) (by omega) (l2.fr8 hb9 f.fr) (fun m' x y N' e1 e2 e3 e4 e5 e6 => ?_) (fun m' p' N' e1 e2 e3 e4 e5 e6 e7 e8 e9 => ?_)
        · exact HF m' x y N' (by omega) (LX.word q l1 e1 e2) e3 (fAll.tr e4) e5 e6
        · refine HS m' p' N' (Or.inr ⟨by omega, fun x y N2 z => ?_⟩) (by omega) e3 (fAll.tr e4) e5 (by rw [e6, f.2.2, i6]) e7 e8 (fun z hz => (e9 z hz).trans (l3 z hz))
          rcases e1 with ⟨a1, a2, a3⟩ | ⟨a1, a2⟩
          · rw [a2, a3] at z
            exact LX.semi q l1 a1 z
          · exact LX.word q l1 a1 (a2 x y N2 z)
      refine c_pset (zT_lex hb) (by decide) hsz ⟨h00, h80⟩ (by unfold r64; omega) (fun f0 => ?_) (fun f0 f1 => ?_) (fun f0 f1 => ?_)
      · obtain ⟨N1, l1, l2, l3⟩ := lset_old hN hw hk f0
        simp (disch := first | (unfold r32; omega) | omega) only [J_eq]
        exact ⟨fun _ => go _ N1 l1 l2 l3 ((fr.rf _ m).sll (by simp) _ _), fun z => by omega⟩
      · obtain ⟨N1, l1, l2, l3⟩ := lset_new hN hw hk f0 f1
        simp (disch := first | (unfold r32; omega) | omega) only [J_eq]
        exact ⟨fun _ => go _ N1 l1 l2 l3 (pad_fr _ _ _), fun z => by omega⟩
      · have l1 := lset_no (k := k) hN hw f0 f1
        simp (disch := first | (unfold r32; omega) | omega) only [J_eq]
        refine ⟨fun z => absurd trivial z, fun _ => c_refuse h5 h8.2.1 (by unfold r32; omega) (fun m' e1 e2 e3 => ?_)⟩
        exact HF m' 2 _ N (by omega) (LX.full q l1) (by omega) (e1.mo (by simp)) e2 e3
theorem c_lexLine {Q : zM → Prop} {m : zM} {p : Int} {N : Int → Int} (hb : zT b) (ht : tpC m T n) (h8 : at8 m T n p) (h5 : iq m 8 5 = 0) (hp : 0 ≤ p ∧ p ≤ n) (hN : trL m b N) (hne : tS T n p ≠ -1)
    (HF : ∀ m' x y N', LX T n none p N x y N' → x ≠ 0 → fr [8, b + 1, b + 2, b + 3] m m' → iq m' 8 5 = x → iq m' 8 6 = y → Q m')
    (HS : ∀ m' p' N', (∀ x y N2, LX T n none p' N' x y N2 → LX T n none p N x y N2) → p < p' → p' ≤ n → fr [8, b + 1, b + 2, b + 3] m m' → iq m' 8 5 = 0 → iq m' 8 6 = iq m 8 6 → at8 m' T n p' → trL m' b N' → (∀ z, 161 ≤ z → N' z = N z) → Q m') : cV (d + 5) 71 [.ref 8, .ref (b + 1)] w m Q := by
  have hb9 := zT_9 hb
  have hn := ht.2.1
  have hbd := tok_bd (T := T) hp.2
  have hlt := hbd.2.2.2.2 hne
  refine S_Reader_readLexiconLine (c_kindHere ht h8 hp ?_)
  have hkl := kl_kn (tL T n p)
  by_cases a : tS T n p = -2 ∧ kl (tL T n p) ≠ 0
  · obtain ⟨a1, a2⟩ := a
    obtain ⟨k1, k2⟩ := hkl.2 a2
    have hkr := kr_r k2
    rw [if_pos a1]
    simp (disch := first | (unfold r32; omega) | omega) only [j_lit, J_eq]
    refine ⟨fun _ => ?_, fun z => absurd z a2⟩
    refine c_next (p := tB T n p) ht h8.2.2.1 (by omega) (fun m1 f1 g1 => ?_)
    have ht1 := ht.f8 f1
    have hbd1 := tok_bd (T := T) (p := tB T n p) (n := n) (by omega)
    refine c_passes ht1 g1 (by rw [f1.2.1, h5]) (by omega) (by unfold r32; omega) (fun m2 e f2 g2 => ?_) (fun m2 e f2 g2 g3 => ?_)
    · simp (disch := first | (unfold r32; omega) | omega) only [j_lit, J_eq, j_ops]
      refine ⟨fun z => by omega, fun _ => ?_⟩
      have ht2 := ht1.f8 f2
      have h52 : iq m2 8 5 = 0 := by rw [f2.2.1, f1.2.1, h5]
      have f12 : fr [8] m m2 := f1.fr.tr f2.fr
      refine c_needs ht2 g2 h52 (by unfold r32; omega) (fun e2 => ?_) (fun m3 e2 f3 g3 g4 => ?_)
      · simp (disch := first | (unfold r32; omega) | omega) only [j_lit, J_eq, j_ops]
        refine ⟨fun _ => ?_, fun z => by omega⟩
        refine c_lexW hb k2 601 m2 (tB T n (tB T n p)) 0 N ht2 g2 h52 (by omega) (by omega) (by omega) (by omega) (by omega) (hN.fr8 hb9 f12) (fun m' x y N' z1 z2 z3 z4 z5 z6 => ?_) (fun m' p' N' z1 z2 z3 z4 z5 z6 z7 z8 z9 => ?_)
        · exact HF m' x y N' (LX.line a1 k1 e z2) z3 ((f12.mo (by simp)).tr z4) z5 z6
        · refine HS m' p' N' (fun x y N2 z => ?_) (by omega) z3 ((f12.mo (by simp)).tr z4) z5 (by rw [z6, f2.2.2, f1.2.2]) z7 z8 z9
          rcases z1 with ⟨y1, y2, y3⟩ | ⟨y1, y2⟩
          · omega
          · exact LX.line a1 k1 e (y2 x y N2 z)
      · simp (disch := first | (unfold r32; omega) | omega) only [j_lit, J_eq, j_ops]
        refine ⟨fun z => absurd trivial z, fun _ => ?_⟩
        exact HF m3 1 _ N (LX.line a1 k1 e (LX.noword e2)) (by omega) ((f12.tr f3).mo (by simp)) g3 g4
    · simp (disch := first | (unfold r32; omega) | omega) only [j_lit, J_eq, j_ops]
      refine ⟨fun _ => ?_, fun z => absurd trivial z⟩
      exact HF m2 1 _ N (LX.nocolon a1 k1 e) (by omega) ((f1.fr.tr f2).mo (by simp)) g2 g3
  · have e0 : (if tS T n p = -2 then kl (tL T n p) else 0) = 0 := by
      by_cases z : tS T n p = -2
      · rw [if_pos z]
        by_cases y : kl (tL T n p) = 0
        · exact y
        · exact absurd ⟨z, y⟩ a
      · exact if_neg z
    have en : tS T n p = -2 → kn (tL T n p) = -1 := fun z => hkl.1 (by rw [if_pos z] at e0; exact e0)
    rw [e0]
    simp (disch := first | (unfold r32; omega) | omega) only [j_lit, J_eq]
    refine ⟨fun z => absurd trivial z, fun _ => c_refuse h5 h8.2.1 (by unfold r32; omega) (fun m' e1 e2 e3 => ?_)⟩
    exact HF m' 1 _ N (LX.nokind hne en) (by omega) (e1.mo (by simp)) e2 e3
theorem c_lex_l {Q : zM → Prop} (hb : zT b) : ∀ (j : Nat) (m : zM) (p i : Int) (N : Int → Int), tpC m T n → at8 m T n p → iq m 8 5 = 0 → iq m 8 6 = -1 → 0 ≤ p → p ≤ n → n - p < j → 0 ≤ i → i ≤ p → trL m b N →
    (∀ m' x y N', LX T n none p N x y N' → fr [8, b + 1, b + 2, b + 3] m m' → iq m' 8 5 = x → iq m' 8 6 = y → (x = 0 → trL m' b N' ∧ ∀ z, 161 ≤ z → N' z = N z) → Q m') →
    W_Reader_readLexicon_6 (d + 5) (b + 1) (J i) w m Q := by
  intro j
  induction j with
  | zero => intro m p i N _ _ _ _ h0 h1 hj; omega
  | succ j ih =>
    intro m p i N ht h8 h5 h6 h0 h1 hj hi0 hi hN H
    have hn := ht.2.1
    have hs := tS_r (n := n) (p := p) ht.2.2.2.2
    refine S_Reader_readLexicon_6 ?_
    simp (disch := first | (unfold r32; omega) | omega) only [j_lit, J_le, J_eq, j_rd, j_nc, h8.1, h5, j_ops]
    refine ⟨fun z => by omega, fun _ => ⟨fun z => absurd trivial z, fun _ => ⟨fun q => ?_, fun q => ?_⟩⟩⟩
    · exact H m 0 (-1) N (LX.fin q) (fr.rf _ m) h5 h6 (fun _ => ⟨hN, fun _ _ => rfl⟩)
    · refine c_lexLine hb ht h8 h5 ⟨h0, h1⟩ hN q (fun m' x y N' z1 z2 z3 z4 z5 => ?_) (fun m' p' N' z1 z2 z3 z4 z5 z6 z7 z8 z9 => ?_)
      · have hx : r32 x := by rw [← z4]; exact iq_r _ _ _
        refine S_Reader_readLexicon_6 ?_
        simp (disch := first | exact hx | (unfold r32; omega) | omega) only [j_lit, J_le, J_eq, j_rd, j_nc, z4, j_ops]
        have fin := H m' x y N' z1 z3 z4 z5 (fun z => absurd z z2)
        exact ⟨fun _ => fin, fun _ => ⟨fun _ => fin, fun z => absurd z z2⟩⟩
      · have hb9 := zT_9 hb
        refine ih m' p' (i + 1) N' (ht.fr z4 (by simp; omega) (by simp; omega)) z7 z5 (by rw [z6, h6]) (by omega) z3 (by omega) (by omega) (by omega) z8 (fun m2 x y N2 y1 y2 y3 y4 y5 => ?_)
        exact H m2 x y N2 (z1 x y N2 y1) (z4.tr y2) y3 y4 (fun z => ⟨(y5 z).1, fun t ht => ((y5 z).2 t ht).trans (z9 t ht)⟩)
theorem c_begin8 {Q : zM → Prop} {m : zM} (H : ∀ m', fr [8] m m' → iq m' 8 1 = 0 → iq m' 8 5 = 0 → iq m' 8 6 = -1 → Q m') : cV d 62 [.ref 8] w m Q := by
  refine S_Reader_begin ?_
  simp only [j_lit, j_ops, j_wr, j_nc]
  refine H _ ((((fr.rf [8] m).si (by decide) 1 0).si (by decide) 5 0).si (by decide) 6 (-1)) ?_ ?_ ?_
  · rw [iq_sq (by omega) (by omega) (by unfold r32; omega), if_neg (by omega), iq_sq (by omega) (by omega) (by unfold r32; omega), if_neg (by omega), iq_sq (by omega) (by omega) (by unfold r32; omega), if_pos ⟨rfl, rfl⟩]
  · rw [iq_sq (by omega) (by omega) (by unfold r32; omega), if_neg (by omega), iq_sq (by omega) (by omega) (by unfold r32; omega), if_pos ⟨rfl, rfl⟩]
  · rw [iq_sq (by omega) (by omega) (by unfold r32; omega), if_pos ⟨rfl, rfl⟩]
theorem c_readLexicon {Q : zM → Prop} {m : zM} {N : Int → Int} (hb : zT b) (ht : tpC m T n) (hN : trL m b N)
    (H : ∀ m' x y N', LX T n none 0 N x y N' → fr [8, b + 1, b + 2, b + 3] m m' → iq m' 8 5 = x → iq m' 8 6 = y → (x = 0 → trL m' b N' ∧ ∀ z, 161 ≤ z → N' z = N z) → Q m') : cV (d + 6) 70 [.ref 8, .ref (b + 1)] w m Q := by
  have hb9 := zT_9 hb
  refine S_Reader_readLexicon (c_begin8 (fun m1 f1 g1 g5 g6 => ?_))
  have ht1 := ht.fr f1 (by simp) (by simp)
  refine c_next (p := 0) ht1 g1 ⟨by omega, ht.1⟩ (fun m2 f2 g2 => ?_)
  have f12 : fr [8] m m2 := f1.tr f2.fr
  refine c_lex_l hb 601 m2 0 0 N (ht1.f8 f2) g2 (by rw [f2.2.1, g5]) (by rw [f2.2.2, g6]) (by omega) ht.1 (by have := ht.2.1; omega) (by omega) (by omega) (hN.fr8 hb9 f12) (fun m' x y N' z1 z2 z3 z4 z5 => ?_)
  exact H m' x y N' z1 ((f12.mo (by simp)).tr z2) z3 z4 z5
end CL
