/-! the reference reads the endings -/
section ME
variable {d : Nat} {w : Nat × Nat × Nat} {T : Int → Int} {n : Int}
theorem c_isL' {Q : Int32 → zM → Prop} {m : zM} {p : Int} (ht : tpM m T n) (hm : iq m 261 6 = p) (hp : 0 ≤ p ∧ p ≤ n) (H : ∀ m', g6 m m' → m'.2 = m.2 → iq m' 261 6 = tP T n p → (tS T n p = -2 ∨ tS T n p = -3 → Q (J 1) m') ∧ (¬ (tS T n p = -2 ∨ tS T n p = -3) → Q (J 0) m')) : cI (d + 1) 203 [.ref 261] w m Q := by
  refine c_isL ht hm hp (fun m' f1 f2 f3 f4 => ?_)
  obtain ⟨a, b⟩ := H m' f1 f2 f4
  by_cases z : tS T n p = -2 ∨ tS T n p = -3
  · rw [if_pos z]; exact a z
  · rw [if_neg z]; exact b z
theorem c_takes' {Q : Int32 → zM → Prop} {m : zM} {p c : Int} (ht : tpM m T n) (hm : iq m 261 6 = p ∨ iq m 261 6 = tP T n p) (h7 : iq m 261 7 = 0) (hp : 0 ≤ p ∧ p ≤ n) (hc : 0 ≤ c ∧ c < 97) (H : ∀ m', tS T n p = c → g6 m m' → m'.2 = m.2 → iq m' 261 6 = tB T n p → Q (J 1) m') (H2 : ∀ m', tS T n p ≠ c → g8 m m' → iq m' 261 7 = 1 → iq m' 261 8 = tP T n p → Q (J 0) m') : cI (d + 1) 205 [.ref 261, .int (J c)] w m Q := by
  rcases hm with hm | hm
  · exact c_takes ht hm h7 hp hc H H2
  · have hb := tok_bd (T := T) hp.2
    obtain ⟨e1, e2, e3, e4⟩ := tok_id (T := T) (p := p) hp.2
    refine c_takes ht hm h7 ⟨by omega, by omega⟩ hc (fun m' f1 f2 f3 f4 => ?_) (fun m' f1 f2 f3 f4 => ?_)
    · exact H m' (by rw [← e1]; exact f1) f2 f3 (by rw [f4, e3])
    · exact H2 m' (by rw [← e1]; exact f1) f2 f3 (by rw [f4, e2])
/-- the end of a line: what stands for the ending, and the stop -/
theorem c_mend2 {Q : Int32 → zM → Prop} {m : zM} {p f t : Int} {N : Int → Int} (ht : tpM m T n) (hm : iq m 261 6 = p ∨ iq m 261 6 = tP T n p) (h7 : iq m 261 7 = 0) (hp : 0 ≤ p ∧ p ≤ n) (hN : rowM m N) (hN0 : 0 ≤ N 161 ∧ N 161 < 8) (hw : lq m 261 11 = t) (hf : r64 f)
    (HF : ∀ m', tS T n p ≠ 59 → g8 m m' → iq m' 261 7 = 1 → iq m' 261 8 = tP T n p → Q (J 0) m')
    (HS : ∀ m', tS T n p = 59 → gq m m' → rowM m' (eadd N f t) → iq m' 261 6 = tB T n p → W_M_readEndings_5 (d + 2) w m' Q) : W_M_readEndings_46 (d + 2) (JL f) w m Q := by
  refine S_M_readEndings_46 ?_
  simp only [j_lit]
  refine c_takes' ht hm h7 hp (by omega) (fun m1 a1 f1 f2 f3 => ?_) (fun m1 a1 f1 f2 f3 => ?_)
  · have hN1 := hN.g6 f1
    have hs0 : lq m1 262 161 = N 161 := hN1 161 (by omega) (by omega)
    have hwt : lq m1 261 11 = t := by rw [← hw]; unfold lq; rw [f2]
    have htr : r64 t := by rw [← hw]; exact lq_r _ _ _
    simp (disch := first | (unfold r32; omega) | (unfold r64; omega) | omega) only [jl_lit, J_eq, vp_J, J_cl, jl_rd, lq_tn, hs0, hwt, j_nc, JL_32, j_ops, jl_ops, jl_wr, sl_tn, lq_sl]
    refine ⟨fun _ => ⟨by omega, by omega, by omega, ?_⟩, fun z => by omega⟩
    rw [if_neg (show ¬ (True ∧ (161 : Int) = 162 + N 161) by omega), if_neg (show ¬ (True ∧ (161 : Int) = 170 + N 161) by omega)]
    refine ⟨by omega, by omega, by omega, ?_⟩
    refine HS _ a1 (((f1.gq.sl _ _).sl _ _).sl _ _) ?_ f3
    refine rowM.gs (N := fun z => if z = 170 + N 161 then t else if z = 162 + N 161 then f else N z) ?_ (by omega) (by unfold r64; omega) (fun y _ _ => rfl)
    refine rowM.gs (N := fun z => if z = 162 + N 161 then f else N z) ?_ (by omega) htr (fun y _ _ => rfl)
    exact hN1.gs (by omega) hf (fun y _ _ => rfl)
  · simp (disch := first | (unfold r32; omega) | omega) only [jl_lit, J_eq]
    exact ⟨fun z => absurd trivial z, fun _ => HF m1 a1 f1 f2 f3⟩
theorem c_mend0 {Q : Int32 → zM → Prop} {m : zM} {p : Int} {N : Int → Int} (ht : tpM m T n) (hm : iq m 261 6 = p ∨ iq m 261 6 = tP T n p) (h7 : iq m 261 7 = 0) (hp : 0 ≤ p ∧ p ≤ n) (hN : rowM m N) (hN0 : 0 ≤ N 161 ∧ N 161 ≤ 8)
    (H0 : ∀ m', tS T n p = -1 → g6 m m' → Q (J 1) m')
    (H1 : ∀ m', tS T n p ≠ -1 → tS T n p ≠ -2 → gf m m' → iq m' 261 7 = 1 → iq m' 261 8 = tP T n p → Q (J 0) m')
    (H2 : ∀ m', tS T n p = -2 → N 161 = 8 → gf m m' → iq m' 261 7 = 2 → iq m' 261 8 = tP T n p → Q (J 0) m')
    (H3 : ∀ m', tS T n p = -2 → N 161 ≠ 8 → tS T n (tB T n p) ≠ 61 → gf m m' → iq m' 261 7 = 1 → iq m' 261 8 = tP T n (tB T n p) → Q (J 0) m')
    (H4 : ∀ m', tS T n p = -2 → N 161 ≠ 8 → tS T n (tB T n p) = 61 → tS T n (tB T n (tB T n p)) ≠ -2 → tS T n (tB T n (tB T n p)) ≠ 59 → gf m m' → iq m' 261 7 = 1 → iq m' 261 8 = tP T n (tB T n (tB T n p)) → Q (J 0) m')
    (H5 : ∀ m', tS T n p = -2 → N 161 ≠ 8 → tS T n (tB T n p) = 61 → tS T n (tB T n (tB T n p)) = 59 → gq m m' → rowM m' (eadd N (eM (tL T n p)) 0) → iq m' 261 6 = tB T n (tB T n (tB T n p)) → W_M_readEndings_5 (d + 2) w m' Q)
    (H6 : ∀ m', tS T n p = -2 → N 161 ≠ 8 → tS T n (tB T n p) = 61 → tS T n (tB T n (tB T n p)) = -2 → tS T n (tB T n (tB T n (tB T n p))) ≠ 59 → gf m m' → iq m' 261 7 = 1 → iq m' 261 8 = tP T n (tB T n (tB T n (tB T n p))) → Q (J 0) m')
    (H7 : ∀ m', tS T n p = -2 → N 161 ≠ 8 → tS T n (tB T n p) = 61 → tS T n (tB T n (tB T n p)) = -2 → tS T n (tB T n (tB T n (tB T n p))) = 59 → gq m m' → rowM m' (eadd N (eM (tL T n p)) (eM (tL T n (tB T n (tB T n p))))) → iq m' 261 6 = tB T n (tB T n (tB T n (tB T n p))) → W_M_readEndings_5 (d + 2) w m' Q) : W_M_readEndings_5 (d + 2) w m Q := by
  have hn := ht.2.1
  have hr := tC_r (n := n) (p := p) ht.2.2.2.2
  have hbd := tok_bd (T := T) hp.2
  have hbd1 := tok_bd (T := T) (p := tB T n p) hbd.2.2.2.1
  have hbd2 := tok_bd (T := T) (p := tB T n (tB T n p)) hbd1.2.2.2.1
  refine S_M_readEndings_5 (c_see' ht hm hp (fun m1 f1 f1l f3 f4 => ?_))
  have e1 := tC_1 (n := n) (p := p) ht.2.2.2.2 (c := -1) (by omega) (by omega)
  simp (disch := first | (unfold r32; omega) | omega) only [j_lit, J_eq, j_ops]
  refine ⟨fun q => H0 m1 (e1.mp q) f1, fun q => ?_⟩
  have q' : tS T n p ≠ -1 := fun z => q (e1.mpr z)
  have ht1 := ht.g6 f1
  have h71 : iq m1 261 7 = 0 := by rw [f1.2.1 7 (by omega) (by omega) (by omega), h7]
  refine c_readWord' ht1 (Or.inr f4) h71 hp (fun m2 a1 f2 f5 f6 f7 => ?_) (fun m2 a1 f2 f5 f6 => ?_)
  · have hwd := (tL_wd hp.2 a1 ht.2.2.2.2).1
    have hb := eM_bd hwd
    have f12 := f1.tr f2
    have hN2 := hN.g6 f12
    have ht2 := ht1.g6 f2
    have h72 : iq m2 261 7 = 0 := by rw [f2.2.1 7 (by omega) (by omega) (by omega), h71]
    have hs0 : lq m2 262 161 = N 161 := hN2 161 (by omega) (by omega)
    simp (disch := first | (unfold r32; omega) | (unfold r64; omega) | omega) only [jl_lit, J_eq, j_ops, vp_J, J_cl, lq_tn, j_rd, jl_rd, j_nc, f5, f7, hs0, JL_eq]
    refine ⟨fun _ => ⟨by omega, fun q2 => ?_, fun q2 => ?_⟩, fun z => by omega⟩
    · refine c_takes ht2 f6 h72 (by omega) (by omega) (fun m3 b1 b2 b3 b4 => ?_) (fun m3 b1 b2 b3 b4 => ?_)
      · simp (disch := first | (unfold r32; omega) | omega) only [J_eq, jl_wr, j_nc]
        refine ⟨fun _ => ?_, fun z => by omega⟩
        have f0 : g6 m3 (sl m3 261 11 0) := (g6.rf m3).sl (by unfold r64; omega)
        have f13 : g6 m (sl m3 261 11 0) := (f12.tr b2).tr f0
        have ht3 := ht.g6 f13
        have h73 : iq (sl m3 261 11 0) 261 7 = 0 := by rw [iq_sl, b2.2.1 7 (by omega) (by omega) (by omega), h72]
        refine c_isL' (p := tB T n (tB T n p)) ht3 b4 (by omega) (fun m4 c1 c2 c3 => ⟨fun z => ?_, fun z => ?_⟩)
        · simp (disch := first | (unfold r32; omega) | omega) only [J_eq]
          refine ⟨fun y => by omega, fun _ => ?_⟩
          have ht4 := ht3.g6 c1
          have h74 : iq m4 261 7 = 0 := by rw [c1.2.1 7 (by omega) (by omega) (by omega), h73]
          refine c_readWord' ht4 (Or.inr c3) h74 (by omega) (fun m5 x1 x2 x3 x4 x5 => ?_) (fun m5 x1 x2 x3 x4 => ?_)
          · simp (disch := first | (unfold r32; omega) | omega) only [J_eq]
            refine ⟨fun _ => ?_, fun y => by omega⟩
            have f15 := (f13.tr c1).tr x2
            have h75 : iq m5 261 7 = 0 := by rw [x2.2.1 7 (by omega) (by omega) (by omega), h74]
            refine c_mend2 (p := tB T n (tB T n (tB T n p))) (ht4.g6 x2) (Or.inl x4) h75 (by omega) (hN.g6 f15) (by omega) x5 (by unfold r64; omega) (fun m6 y1 y2 y3 y4 => ?_) (fun m6 y1 y2 y3 y4 => ?_)
            · exact H6 m6 a1 q2 b1 x1 y1 (f15.g8.gf.tr y2.gf) y3 y4
            · exact H7 m6 a1 q2 b1 x1 y1 (f15.gq.tr y2) y3 y4
          · simp (disch := first | (unfold r32; omega) | omega) only [J_eq]
            exact ⟨fun y => absurd trivial y, fun _ => H4 m5 a1 q2 b1 x1 (by omega) ((f13.tr c1).g8.gf.tr x2.gf) x3 x4⟩
        · simp (disch := first | (unfold r32; omega) | omega) only [J_eq]
          refine ⟨fun _ => ?_, fun y => absurd trivial y⟩
          have f14 := f13.tr c1
          have h74 : iq m4 261 7 = 0 := by rw [c1.2.1 7 (by omega) (by omega) (by omega), h73]
          have hw0 : lq m4 261 11 = 0 := by
            unfold lq
            rw [c2]
            exact (lq_sl (m := m3) (a := 261) (b := 261) (z := 11) (y := 11) (v := 0) (by omega) (by omega) (by unfold r64; omega)).trans (if_pos ⟨rfl, rfl⟩)
          refine c_mend2 (p := tB T n (tB T n p)) (ht3.g6 c1) (Or.inr c3) h74 (by omega) (hN.g6 f14) (by omega) hw0 (by unfold r64; omega) (fun m6 y1 y2 y3 y4 => ?_) (fun m6 y1 y2 y3 y4 => ?_)
          · exact H4 m6 a1 q2 b1 (by omega) y1 (f14.g8.gf.tr y2.gf) y3 y4
          · exact H5 m6 a1 q2 b1 y1 (f14.gq.tr y2) y3 y4
      · exact ⟨fun z => absurd rfl z, fun _ => H3 m3 a1 q2 b1 (f12.g8.gf.tr b2.gf) b3 b4⟩
    · refine c_fails h72 (by unfold r32; omega) (by unfold r32; omega) (fun m4 g1 g2 g3 g4 g5 g6 => ⟨Or.inl rfl, ?_⟩)
      exact H2 m4 a1 q2 (f12.g8.gf.tr g1.gf) g5 g6
  · simp (disch := first | (unfold r32; omega) | omega) only [j_lit, J_eq, j_ops]
    exact ⟨fun z => absurd trivial z, fun _ => H1 m2 q' a1 (f1.g8.gf.tr f2.gf) f5 f6⟩
def EXm (d : Nat) (w : Nat × Nat × Nat) (T : Int → Int) (n : Int) (p : Int) (N : Int → Int) (x y : Int) (N' : Int → Int) : Prop :=
  ∀ (m : zM) (Q : Int32 → zM → Prop), tpM m T n → (iq m 261 6 = p ∨ iq m 261 6 = tP T n p) → iq m 261 7 = 0 → 0 ≤ p ∧ p ≤ n → rowM m N → 0 ≤ N 161 ∧ N 161 ≤ 8 →
    (x = 0 → ∀ m', gq m m' → rowM m' N' → Q (J 1) m') → (x ≠ 0 → ∀ m', gf m m' → iq m' 261 7 = x → iq m' 261 8 = y → Q (J 0) m') → W_M_readEndings_5 (d + 2) w m Q
theorem c_mend {p x y : Int} {N N' : Int → Int} (h : EX T n p N x y N') : EXm d w T n p N x y N' := by
  have ea : ∀ (N : Int → Int) f t, eadd N f t 161 = N 161 + 1 := fun N f t => if_pos rfl
  refine h (EXm d w T n) ⟨?_, ?_, ?_, ?_, ?_, ?_, ?_, ?_⟩
  · intro p N e m Q ht hm h7 hp hN hN0 HS HF
    exact c_mend0 ht hm h7 hp hN hN0 (fun m' _ f => HS rfl m' f.gq (hN.g6 f)) (fun m' z => absurd e z) (fun m' z => by omega) (fun m' z => by omega) (fun m' z => by omega) (fun m' z => by omega) (fun m' z => by omega) (fun m' z => by omega)
  · intro p N e1 e2 m Q ht hm h7 hp hN hN0 HS HF
    exact c_mend0 ht hm h7 hp hN hN0 (fun m' z => absurd z e1) (fun m' _ _ f g1 g2 => HF (by omega) m' f g1 g2) (fun m' z => absurd z e2) (fun m' z => absurd z e2) (fun m' z => absurd z e2) (fun m' z => absurd z e2) (fun m' z => absurd z e2) (fun m' z => absurd z e2)
  · intro p N e1 e2 m Q ht hm h7 hp hN hN0 HS HF
    exact c_mend0 ht hm h7 hp hN hN0 (fun m' z => by omega) (fun m' _ z => absurd e1 z) (fun m' _ _ f g1 g2 => HF (by omega) m' f g1 g2) (fun m' _ z => absurd e2 z) (fun m' _ z => absurd e2 z) (fun m' _ z => absurd e2 z) (fun m' _ z => absurd e2 z) (fun m' _ z => absurd e2 z)
  · intro p N e1 e2 e3 m Q ht hm h7 hp hN hN0 HS HF
    exact c_mend0 ht hm h7 hp hN hN0 (fun m' z => by omega) (fun m' _ z => absurd e1 z) (fun m' _ z => absurd z e2) (fun m' _ _ _ f g1 g2 => HF (by omega) m' f g1 g2) (fun m' _ _ z => absurd z e3) (fun m' _ _ z => absurd z e3) (fun m' _ _ z => absurd z e3) (fun m' _ _ z => absurd z e3)
  · intro p q N e1 e2 e3 eq e4 e5 m Q ht hm h7 hp hN hN0 HS HF
    subst eq
    exact c_mend0 ht hm h7 hp hN hN0 (fun m' z => by omega) (fun m' _ z => absurd e1 z) (fun m' _ z => absurd z e2) (fun m' _ _ z => absurd e3 z) (fun m' _ _ _ _ _ f g1 g2 => HF (by omega) m' f g1 g2) (fun m' _ _ _ z => absurd z e5) (fun m' _ _ _ z => absurd z e4) (fun m' _ _ _ z => absurd z e4)
  · intro p q N N' x y e1 e2 e3 eq e4 ih m Q ht hm h7 hp hN hN0 HS HF
    subst eq
    have hbd := tok_bd (T := T) hp.2
    have hbd1 := tok_bd (T := T) (p := tB T n p) hbd.2.2.2.1
    have hbd2 := tok_bd (T := T) (p := tB T n (tB T n p)) hbd1.2.2.2.1
    refine c_mend0 ht hm h7 hp hN hN0 (fun m' z => by omega) (fun m' _ z => absurd e1 z) (fun m' _ z => absurd z e2) (fun m' _ _ z => absurd e3 z) (fun m' _ _ _ _ z => absurd e4 z) (fun m' _ _ _ _ f g1 g2 => ?_) (fun m' _ _ _ z => by omega) (fun m' _ _ _ z => by omega)
    exact ih m' Q (ht.gq f) (Or.inl g2) (by rw [f.2.1 7 (by omega) (by omega) (by omega), h7]) (by omega) g1 (by rw [ea]; omega) (fun z m2 y1 y2 => HS z m2 (f.tr y1) y2) (fun z m2 y1 y2 y3 => HF z m2 (f.gf.tr y1) y2 y3)
  · intro p q N e1 e2 e3 eq e4 e5 m Q ht hm h7 hp hN hN0 HS HF
    subst eq
    exact c_mend0 ht hm h7 hp hN hN0 (fun m' z => by omega) (fun m' _ z => absurd e1 z) (fun m' _ z => absurd z e2) (fun m' _ _ z => absurd e3 z) (fun m' _ _ _ z => absurd e4 z) (fun m' _ _ _ z => by omega) (fun m' _ _ _ _ _ f g1 g2 => HF (by omega) m' f g1 g2) (fun m' _ _ _ _ z => absurd z e5)
  · intro p q N N' x y e1 e2 e3 eq e4 e5 ih m Q ht hm h7 hp hN hN0 HS HF
    subst eq
    have hbd := tok_bd (T := T) hp.2
    have hbd1 := tok_bd (T := T) (p := tB T n p) hbd.2.2.2.1
    have hbd2 := tok_bd (T := T) (p := tB T n (tB T n p)) hbd1.2.2.2.1
    have hbd3 := tok_bd (T := T) (p := tB T n (tB T n (tB T n p))) hbd2.2.2.2.1
    refine c_mend0 ht hm h7 hp hN hN0 (fun m' z => by omega) (fun m' _ z => absurd e1 z) (fun m' _ z => absurd z e2) (fun m' _ _ z => absurd e3 z) (fun m' _ _ _ z => absurd e4 z) (fun m' _ _ _ z => by omega) (fun m' _ _ _ _ z => absurd e5 z) (fun m' _ _ _ _ _ f g1 g2 => ?_)
    exact ih m' Q (ht.gq f) (Or.inl g2) (by rw [f.2.1 7 (by omega) (by omega) (by omega), h7]) (by omega) g1 (by rw [ea]; omega) (fun z m2 y1 y2 => HS z m2 (f.tr y1) y2) (fun z m2 y1 y2 y3 => HF z m2 (f.gf.tr y1) y2 y3)
theorem c_M_readEndings {Q : Int32 → zM → Prop} {m : zM} {x y : Int} {N N' : Int → Int} (h : EX T n 0 (e0 N) x y N') (ht : tpM m T n) (h6 : iq m 261 6 = 0) (h7 : iq m 261 7 = 0) (hN : rowM m N)
    (HS : x = 0 → ∀ m', gq m m' → rowM m' N' → Q (J 1) m') (HF : x ≠ 0 → ∀ m', gf m m' → iq m' 261 7 = x → iq m' 261 8 = y → Q (J 0) m') : cI (d + 3) 207 [.ref 261] w m Q := by
  refine S_M_readEndings ?_
  simp (disch := first | (unfold r32; omega) | omega) only [j_lit, jl_lit, vp_J, J_cl, jl_wr, sl_tn]
  have f0 : gq m (sl m 262 161 0) := (gq.rf m).sl _ _
  refine ⟨by omega, c_mend (d := d) (w := w) h _ Q (ht.gq f0) (Or.inl h6) h7 ⟨by omega, ht.1⟩ (hN.gs (by omega) (by unfold r64; omega) (fun y _ _ => rfl)) ?_ (fun z m2 y1 y2 => HS z m2 (f0.tr y1) y2) (fun z m2 y1 y2 y3 => HF z m2 (f0.gf.tr y1) y2 y3)⟩
  show 0 ≤ (if (161 : Int) = 161 then 0 else N 161) ∧ (if (161 : Int) = 161 then 0 else N 161) ≤ 8
  rw [if_pos rfl]
  omega
end ME
