/-! the reference's lexicon, its words; and all of it -/
section MW
variable {d : Nat} {w : Nat × Nat × Nat} {T : Int → Int} {n : Int}
theorem tB_1 {p c : Int} (hT : ∀ i, 0 ≤ T i ∧ T i < 256) (h : tS T n p = c) (h0 : 0 ≤ c) : tB T n p = tP T n p + 1 := by
  unfold tS at h
  unfold tB tP
  by_cases a : n ≤ sk T n p
  · rw [if_pos a] at h; omega
  · rw [if_neg a] at h ⊢
    by_cases b : 97 ≤ T (sk T n p) ∧ T (sk T n p) ≤ 122
    · rw [if_pos b] at h
      split at h <;> omega
    · rw [if_neg b]
theorem rowM.gs {m : zM} {N N1 : Int → Int} {z v : Int} (h : rowM m N) (hz : 0 ≤ z) (hv : r64 v) (e : ∀ k, 0 ≤ k → k < 1906 → N1 k = if k = z then v else N k) : rowM (sl m 262 z v) N1 := by
  intro k k0 k1
  rw [lq_sl hz k0 hv, e k k0 k1]
  by_cases a : k = z
  · rw [if_pos ⟨rfl, a⟩, if_pos a]
  · rw [if_neg (fun q => a q.2), if_neg a]; exact h k k0 k1
theorem c_mlexW {Q : Int32 → zM → Prop} {m : zM} {p k : Int} {N : Int → Int} (ht : tpM m T n) (hm : iq m 261 6 = p ∨ iq m 261 6 = tP T n p) (h7 : iq m 261 7 = 0) (hp : 0 ≤ p ∧ p ≤ n) (hN : rowM m N) (hN0 : 0 ≤ N 0 ∧ N 0 ≤ 80) (hk : 0 ≤ k ∧ k ≤ 5)
    (H0 : ∀ m', tS T n p ≠ -2 → g8 m m' → iq m' 261 7 = 1 → iq m' 261 8 = tP T n p → Q (J 0) m')
    (H1 : ∀ m', tS T n p = -2 → lset N (eM (tL T n p)) k = none → g8 m m' → iq m' 261 7 = 2 → iq m' 261 8 = tP T n p → Q (J 0) m')
    (H2 : ∀ m' N1, tS T n p = -2 → lset N (eM (tL T n p)) k = some N1 → 0 ≤ N1 0 ∧ N1 0 ≤ 80 → tS T n (tB T n p) ≠ 59 → gq m m' → rowM m' N1 → iq m' 261 6 = tP T n (tB T n p) → W_M_readLexicon_41 (d + 2) (J k) w m' Q)
    (H3 : ∀ m' N1, tS T n p = -2 → lset N (eM (tL T n p)) k = some N1 → 0 ≤ N1 0 ∧ N1 0 ≤ 80 → tS T n (tB T n p) = 59 → gq m m' → rowM m' N1 → iq m' 261 6 = tB T n (tB T n p) → W_M_readLexicon_0 (d + 2) w m' Q) : W_M_readLexicon_41 (d + 2) (J k) w m Q := by
  have hn := ht.2.1
  have hbd := tok_bd (T := T) hp.2
  refine S_M_readLexicon_41 (c_readWord' ht hm h7 hp (fun m1 a1 f1 f5 f6 f7 => ?_) (fun m1 a1 f1 f5 f6 => ?_))
  · have hwd := tL_wd hp.2 a1 ht.2.2.2.2
    have hb := eM_bd hwd.1
    have hpos := eM_pos hwd.1 hwd.2
    have ht1 := ht.g6 f1
    have hN1 := hN.g6 f1
    have h71 : iq m1 261 7 = 0 := by rw [f1.2.1 7 (by omega) (by omega) (by omega), h7]
    have hbd1 := tok_bd (T := T) (p := tB T n p) hbd.2.2.2.1
    simp (disch := first | (unfold r32; omega) | omega) only [j_lit, jl_rd, j_nc, J_eq, f7]
    refine ⟨fun _ => ?_, fun z => by omega⟩
    have hs0 : lq m1 262 0 = N 0 := hN1 0 (by omega) (by omega)
    refine c_lexiconOf hs0 hN0 (by unfold r64; omega) ?_
    have efi : fi (fun j => lq m1 262 (1 + j)) (N 0).toNat (eM (tL T n p)) = fi (fun j => N (1 + j)) (N 0).toNat (eM (tL T n p)) := fi_congr _ (fun j g0 g1 => hN1 (1 + j) (by omega) (by omega))
    rw [efi]
    have hfr := fi_r (f := fun j => N (1 + j)) (x := eM (tL T n p)) hN0.1
    have go : ∀ m2 N1, lset N (eM (tL T n p)) k = some N1 → 0 ≤ N1 0 ∧ N1 0 ≤ 80 → gq m m2 → rowM m2 N1 → iq m2 261 6 = tB T n p → cI (d + 2) 201 [.ref 261] w m2 (fun v3 m3 => ((¬ v3 = J 59 → W_M_readLexicon_41 (d + 2) (J k) w m3 Q) ∧ (v3 = J 59 → W_M_readLexicon_0 (d + 2) w (zI m3 261 6 (J (iq m3 261 6 + 1))) Q))) := by
      intro m2 N1 l1 l2 l3 l4 l5
      have ht2 := ht.gq l3
      have hr := tC_r (n := n) (p := tB T n p) ht.2.2.2.2
      have e1 := tC_1 (n := n) (p := tB T n p) ht.2.2.2.2 (c := 59) (by omega) (by omega)
      refine c_see ht2 l5 (by omega) (fun m3 g1 g2 g3 g4 => ?_)
      simp (disch := first | (unfold r32; omega) | omega) only [j_lit, j_rd, j_nc, j_wr, J_eq, g4, j_ops]
      refine ⟨fun q => ?_, fun q => ?_⟩
      · exact H2 m3 N1 a1 l1 l2 (fun z => q (e1.mpr z)) (l3.tr g1.gq) (l4.g6 g1) g4
      · have e := e1.mp q
        have et := tB_1 ht.2.2.2.2 e (by omega)
        have g5 : g6 m3 (sq m3 261 6 (tP T n (tB T n p) + 1)) := (g6.rf m3).si (by omega) (by omega) (by unfold r32; omega)
        refine H3 _ N1 a1 l1 l2 e ((l3.tr g1.gq).tr g5.gq) ((l4.g6 g1).g6 g5) ?_
        rw [iq_sq (by omega) (by omega) (by unfold r32; omega), if_pos ⟨rfl, rfl⟩, et]
    have els : ∀ i, fi (fun j => N (1 + j)) (N 0).toNat (eM (tL T n p)) = i → lset N (eM (tL T n p)) k = if 0 ≤ i then some (fun z => if z = 81 + i then k else N z) else if N 0 = 80 then none else some (fun z => if z = 81 + N 0 then k else if z = 1 + N 0 then eM (tL T n p) else if z = 0 then N 0 + 1 else N z) := by
      intro i hi
      unfold lset
      rw [hi]
    generalize hi : fi (fun j => N (1 + j)) (N 0).toNat (eM (tL T n p)) = i at *
    have els := els i rfl
    simp (disch := first | exact hb | (unfold r32; omega) | (unfold r64; omega) | omega) only [j_lit, jl_lit, J_eq, j_ops, jl_ops, vp_J, J_cl, j_rd, jl_rd, lq_tn, hs0, j_nc, f5, f7, J_64, JL_eq, JL_32, jl_wr, sl_tn]
    refine ⟨fun q => ⟨by omega, ?_⟩, fun q => ⟨by omega, fun q2 => ⟨by omega, by omega, by omega, by omega, by omega, ?_⟩, fun q2 => ?_⟩⟩
    · rw [if_pos (by omega)] at els
      refine go _ _ els ?_ (f1.gq.sl _ _) (hN1.gs (by omega) (by unfold r64; omega) (fun y _ _ => rfl)) f6
      show 0 ≤ (if (0 : Int) = 81 + i then k else N 0) ∧ (if (0 : Int) = 81 + i then k else N 0) ≤ 80
      rw [if_neg (by omega)]
      exact hN0
    · rw [if_neg (by omega), if_neg q2] at els
      refine go _ _ els ?_ (((f1.gq.sl _ _).sl _ _).sl _ _) ?_ f6
      · show 0 ≤ (if (0 : Int) = 81 + N 0 then k else if (0 : Int) = 1 + N 0 then eM (tL T n p) else if (0 : Int) = 0 then N 0 + 1 else N 0) ∧ (if (0 : Int) = 81 + N 0 then k else if (0 : Int) = 1 + N 0 then eM (tL T n p) else if (0 : Int) = 0 then N 0 + 1 else N 0) ≤ 80
        rw [if_neg (by omega), if_neg (by omega), if_pos rfl]
        omega
      · refine rowM.gs (N := fun z => if z = 1 + N 0 then eM (tL T n p) else if z = 0 then N 0 + 1 else N z) ?_ (by omega) (by unfold r64; omega) (fun y _ _ => rfl)
        refine rowM.gs (N := fun z => if z = 0 then N 0 + 1 else N z) ?_ (by omega) (by unfold r64; omega) (fun y _ _ => rfl)
        exact hN1.gs (by omega) (by unfold r64; omega) (fun y _ _ => rfl)
    · rw [if_neg (by omega), if_pos q2] at els
      refine c_fails h71 (by unfold r32; omega) (by unfold r32; omega) (fun m4 g1 g2 g3 g4 g5 g6 => ⟨Or.inl rfl, ?_⟩)
      exact H1 m4 a1 els (f1.g8.tr g1) g5 g6
  · simp (disch := first | (unfold r32; omega) | omega) only [j_lit, J_eq, j_ops]
    exact ⟨fun z => absurd trivial z, fun _ => H0 m1 a1 f1 f5 f6⟩
theorem c_mlex {o : Option Int} {p x y : Int} {N N' : Int → Int} (h : LX T n o p N x y N') : LXm d w T n o p N x y N' := by
  refine h (LXm d w T n) ⟨?_, ?_, ?_, ?_, ?_, ?_, ?_, ?_⟩
  · intro p N e m Q ht hm h7 hp hN hN0 ho HS HF
    refine ⟨fun _ => ?_, fun k z => by cases z⟩
    exact c_mlex0 ht hm h7 hp (fun m' _ f => HS rfl m' f.gq (hN.g6 f)) (fun m' z => absurd e z) (fun m' z => by omega) (fun m' z => by omega)
  · intro p N e1 e2 m Q ht hm h7 hp hN hN0 ho HS HF
    refine ⟨fun _ => ?_, fun k z => by cases z⟩
    exact c_mlex0 ht hm h7 hp (fun m' z => absurd z e1) (fun m' _ _ f g1 g2 => HF (by omega) m' f.gf g1 g2) (fun m' z z2 => absurd (e2 z) z2) (fun m' z z2 => absurd (e2 z) z2)
  · intro p N e1 e2 e3 m Q ht hm h7 hp hN hN0 ho HS HF
    refine ⟨fun _ => ?_, fun k z => by cases z⟩
    exact c_mlex0 ht hm h7 hp (fun m' z => by omega) (fun m' _ z => absurd (z e1) e2) (fun m' _ _ _ f g1 g2 => HF (by omega) m' f.gf g1 g2) (fun m' _ _ z => absurd z e3)
  · intro p N N' x y e1 e2 e3 ih m Q ht hm h7 hp hN hN0 ho HS HF
    have hbd := tok_bd (T := T) hp.2
    have hbd1 := tok_bd (T := T) (p := tB T n p) hbd.2.2.2.1
    have hkr := kn_r (tL T n p)
    refine ⟨fun _ => ?_, fun k z => by cases z⟩
    refine c_mlex0 ht hm h7 hp (fun m' z => by omega) (fun m' _ z => absurd (z e1) e2) (fun m' _ _ z => absurd e3 z) (fun m' _ _ _ f g => ?_)
    exact (ih m' Q (ht.g6 f) (Or.inl g) (by rw [f.2.1 7 (by omega) (by omega) (by omega), h7]) (by omega) (hN.g6 f) hN0 (fun k z => by cases z; omega) (fun z m2 g1 g2 => HS z m2 (f.gq.tr g1) g2) (fun z m2 g1 g2 g3 => HF z m2 (f.g8.gf.tr g1) g2 g3)).2 _ rfl
  · intro k p N e m Q ht hm h7 hp hN hN0 ho HS HF
    refine ⟨fun z => (by cases z), fun k' z => ?_⟩
    cases z
    exact c_mlexW ht hm h7 hp hN hN0 (ho k rfl) (fun m' _ f g1 g2 => HF (by omega) m' f.gf g1 g2) (fun m' z => absurd z e) (fun m' N1 z => absurd z e) (fun m' N1 z => absurd z e)
  · intro k p N e1 e2 m Q ht hm h7 hp hN hN0 ho HS HF
    refine ⟨fun z => (by cases z), fun k' z => ?_⟩
    cases z
    exact c_mlexW ht hm h7 hp hN hN0 (ho k rfl) (fun m' z => absurd e1 z) (fun m' _ _ f g1 g2 => HF (by omega) m' f.gf g1 g2) (fun m' N1 _ z => by rw [e2] at z; cases z) (fun m' N1 _ z => by rw [e2] at z; cases z)
  · intro k p N N1 N' x y e1 e2 e3 ih m Q ht hm h7 hp hN hN0 ho HS HF
    have hbd := tok_bd (T := T) hp.2
    refine ⟨fun z => (by cases z), fun k' z => ?_⟩
    cases z
    refine c_mlexW ht hm h7 hp hN hN0 (ho k rfl) (fun m' z => absurd e1 z) (fun m' _ z => by rw [e2] at z; cases z) (fun m' N2 _ z z2 _ f g1 g2 => ?_) (fun m' N2 _ _ _ z => absurd z e3)
    rw [e2] at z
    cases z
    exact (ih m' Q (ht.gq f) (Or.inr g2) (by rw [f.2.1 7 (by omega) (by omega) (by omega), h7]) (by omega) g1 z2 ho (fun z m2 y1 y2 => HS z m2 (f.tr y1) y2) (fun z m2 y1 y2 y3 => HF z m2 (f.gf.tr y1) y2 y3)).2 _ rfl
  · intro k p N N1 N' x y e1 e2 e3 ih m Q ht hm h7 hp hN hN0 ho HS HF
    have hbd := tok_bd (T := T) hp.2
    have hbd1 := tok_bd (T := T) (p := tB T n p) hbd.2.2.2.1
    refine ⟨fun z => (by cases z), fun k' z => ?_⟩
    cases z
    refine c_mlexW ht hm h7 hp hN hN0 (ho k rfl) (fun m' z => absurd e1 z) (fun m' _ z => by rw [e2] at z; cases z) (fun m' N2 _ _ _ z => absurd e3 z) (fun m' N2 _ z z2 _ f g1 g2 => ?_)
    rw [e2] at z
    cases z
    exact (ih m' Q (ht.gq f) (Or.inl g2) (by rw [f.2.1 7 (by omega) (by omega) (by omega), h7]) (by omega) g1 z2 (fun k z => by cases z) (fun z m2 y1 y2 => HS z m2 (f.tr y1) y2) (fun z m2 y1 y2 y3 => HF z m2 (f.gf.tr y1) y2 y3)).1 rfl
theorem c_M_readLexicon {Q : Int32 → zM → Prop} {m : zM} {x y : Int} {N N' : Int → Int} (h : LX T n none 0 N x y N') (ht : tpM m T n) (h6 : iq m 261 6 = 0) (h7 : iq m 261 7 = 0) (hN : rowM m N) (hN0 : 0 ≤ N 0 ∧ N 0 ≤ 80)
    (HS : x = 0 → ∀ m', gq m m' → rowM m' N' → Q (J 1) m') (HF : x ≠ 0 → ∀ m', gf m m' → iq m' 261 7 = x → iq m' 261 8 = y → Q (J 0) m') : cI (d + 3) 206 [.ref 261] w m Q :=
  S_M_readLexicon ((c_mlex (d := d) (w := w) h m Q ht (Or.inl h6) h7 ⟨by omega, ht.1⟩ hN hN0 (fun k z => by cases z) HS HF).1 rfl)
end MW
