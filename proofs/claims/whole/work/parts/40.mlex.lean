/-! the reference reads the lexicon -/
/-- its row -/
def rowM (m : zM) (N : Int → Int) : Prop := ∀ k, 0 ≤ k → k < 1906 → lq m 262 k = N k
/-- but the row, the place, the word all stays (gq); but the fault too (gf) -/
def gq (m m' : zM) : Prop := (∀ b, b ≠ 261 → b ≠ 262 → m'.1 b = m.1 b ∧ m'.2 b = m.2 b) ∧ (∀ z, 0 ≤ z → z ≠ 6 → z ≠ 12 → iq m' 261 z = iq m 261 z) ∧ (∀ z, 0 ≤ z → z ≠ 11 → lq m' 261 z = lq m 261 z)
def gf (m m' : zM) : Prop := (∀ b, b ≠ 261 → b ≠ 262 → m'.1 b = m.1 b ∧ m'.2 b = m.2 b) ∧ (∀ z, 0 ≤ z → z ≠ 6 → z ≠ 7 → z ≠ 8 → z ≠ 12 → iq m' 261 z = iq m 261 z) ∧ (∀ z, 0 ≤ z → z ≠ 11 → lq m' 261 z = lq m 261 z)
theorem gq.rf (m : zM) : gq m m := ⟨fun _ _ _ => ⟨rfl, rfl⟩, fun _ _ _ _ => rfl, fun _ _ _ => rfl⟩
theorem gq.tr {m m1 m2 : zM} (h : gq m m1) (g : gq m1 m2) : gq m m2 := ⟨fun b hb hc => ⟨(g.1 b hb hc).1.trans (h.1 b hb hc).1, (g.1 b hb hc).2.trans (h.1 b hb hc).2⟩, fun z a b c => (g.2.1 z a b c).trans (h.2.1 z a b c), fun z a b => (g.2.2 z a b).trans (h.2.2 z a b)⟩
theorem gf.tr {m m1 m2 : zM} (h : gf m m1) (g : gf m1 m2) : gf m m2 := ⟨fun b hb hc => ⟨(g.1 b hb hc).1.trans (h.1 b hb hc).1, (g.1 b hb hc).2.trans (h.1 b hb hc).2⟩, fun z a b c e f => (g.2.1 z a b c e f).trans (h.2.1 z a b c e f), fun z a b => (g.2.2 z a b).trans (h.2.2 z a b)⟩
theorem g6.gq {m m' : zM} (h : g6 m m') : gq m m' := ⟨fun b hb _ => h.1 b hb, h.2.1, h.2.2⟩
theorem g8.gf {m m' : zM} (h : g8 m m') : gf m m' := ⟨fun b hb _ => h.1 b hb, h.2.1, h.2.2⟩
theorem gq.gf {m m' : zM} (h : gq m m') : gf m m' := ⟨h.1, fun z a b _ _ c => h.2.1 z a b c, h.2.2⟩
theorem gq.sl {m m1 : zM} (h : gq m m1) (z v : Int) : gq m (sl m1 262 z v) := by
  refine h.tr ⟨fun b _ hb => ⟨rfl, ?_⟩, fun _ _ _ _ => rfl, fun y _ _ => ?_⟩
  · funext j
    show (if b = 262 ∧ j = z.toNat then JL v else m1.2 b j) = m1.2 b j
    exact if_neg (fun q => hb q.1)
  · show Int64.toInt (if (261 : Nat) = 262 ∧ y.toNat = z.toNat then JL v else m1.2 261 y.toNat) = Int64.toInt (m1.2 261 y.toNat)
    rw [if_neg (by omega)]
theorem tpM.gq {m m' : zM} {T : Int → Int} {n : Int} (h : tpM m T n) (f : gq m m') : tpM m' T n := by
  obtain ⟨h1, h2, h3, h4, h5⟩ := h
  refine ⟨h1, h2, by rw [f.2.1 5 (by omega) (by omega) (by omega)]; exact h3, fun k k0 k1 => ?_, h5⟩
  rw [← h4 k k0 k1]
  unfold iq
  rw [(f.1 265 (by omega) (by omega)).1]
theorem rowM.g6 {m m' : zM} {N : Int → Int} (h : rowM m N) (f : g6 m m') : rowM m' N := fun k k0 k1 => by
  rw [← h k k0 k1]
  unfold lq
  rw [(f.1 262 (by omega)).2]
section ML
variable {d : Nat} {w : Nat × Nat × Nat} {T : Int → Int} {n : Int}
theorem c_see' {Q : Int32 → zM → Prop} {m : zM} {p : Int} (ht : tpM m T n) (hm : iq m 261 6 = p ∨ iq m 261 6 = tP T n p) (hp : 0 ≤ p ∧ p ≤ n) (H : ∀ m', g6 m m' → m'.2 = m.2 → iq m' 261 12 = iq m 261 12 → iq m' 261 6 = tP T n p → Q (J (tC T n p)) m') : cI d 201 [.ref 261] w m Q := by
  rcases hm with hm | hm
  · exact c_see ht hm hp H
  · have hb := tok_bd (T := T) hp.2
    have e := sk_id (T := T) (p := p) hp.2
    refine c_see ht hm ⟨by omega, by omega⟩ (fun m' f1 f2 f3 f4 => ?_)
    have e2 : tP T n (tP T n p) = tP T n p := e
    have e3 : tC T n (tP T n p) = tC T n p := by
      unfold tC tP
      rw [e]
    rw [e3]
    exact H m' f1 f2 f3 (by rw [f4, e2])
theorem c_readWord' {Q : Int32 → zM → Prop} {m : zM} {p : Int} (ht : tpM m T n) (hm : iq m 261 6 = p ∨ iq m 261 6 = tP T n p) (h7 : iq m 261 7 = 0) (hp : 0 ≤ p ∧ p ≤ n) (H : ∀ m', tS T n p = -2 → g6 m m' → iq m' 261 12 = tP T n p → iq m' 261 6 = tB T n p → lq m' 261 11 = eM (tL T n p) → Q (J 1) m') (H2 : ∀ m', tS T n p ≠ -2 → g8 m m' → iq m' 261 7 = 1 → iq m' 261 8 = tP T n p → Q (J 0) m') : cI (d + 2) 204 [.ref 261] w m Q := by
  rcases hm with hm | hm
  · exact c_readWord ht hm h7 hp H H2
  · have hb := tok_bd (T := T) hp.2
    obtain ⟨e1, e2, e3, e4⟩ := tok_id (T := T) (p := p) hp.2
    refine c_readWord ht hm h7 ⟨by omega, by omega⟩ (fun m' f1 f2 f3 f4 f5 => ?_) (fun m' f1 f2 f3 f4 => ?_)
    · exact H m' (by rw [← e1]; exact f1) f2 (by rw [f3, e2]) (by rw [f4, e3]) (by rw [f5, e4])
    · exact H2 m' (by rw [← e1]; exact f1) f2 f3 (by rw [f4, e2])
theorem tC_1 {p : Int} (hT : ∀ i, 0 ≤ T i ∧ T i < 256) {c : Int} (hc : c < 97) (hc2 : -1 ≤ c) : tC T n p = c ↔ tS T n p = c := by
  have hs := tC_S (n := n) (p := p) hT
  constructor
  · intro h
    by_cases a : tS T n p = -2 ∨ tS T n p = -3
    · have := hs.1 a; omega
    · rw [← (hs.2 a).1]; exact h
  · intro h
    rw [(hs.2 (by omega)).1]; exact h
/-- what the lexicon's reading comes to, in the reference -/
def LXm (d : Nat) (w : Nat × Nat × Nat) (T : Int → Int) (n : Int) (o : Option Int) (p : Int) (N : Int → Int) (x y : Int) (N' : Int → Int) : Prop :=
  ∀ (m : zM) (Q : Int32 → zM → Prop), tpM m T n → (iq m 261 6 = p ∨ iq m 261 6 = tP T n p) → iq m 261 7 = 0 → 0 ≤ p ∧ p ≤ n → rowM m N → 0 ≤ N 0 ∧ N 0 ≤ 80 → (∀ k, o = some k → 0 ≤ k ∧ k ≤ 5) →
    (x = 0 → ∀ m', gq m m' → rowM m' N' → Q (J 1) m') → (x ≠ 0 → ∀ m', gf m m' → iq m' 261 7 = x → iq m' 261 8 = y → Q (J 0) m') →
    (o = none → W_M_readLexicon_0 (d + 2) w m Q) ∧ (∀ k, o = some k → W_M_readLexicon_41 (d + 2) (J k) w m Q)
theorem kn_r (l : List Int) : -1 ≤ kn l ∧ kn l ≤ 5 := by
  unfold kn
  split
  · unfold kb
    repeat (first | omega | split)
  · omega
/-- a line up to its colon -/
theorem c_mlex0 {Q : Int32 → zM → Prop} {m : zM} {p : Int} (ht : tpM m T n) (hm : iq m 261 6 = p ∨ iq m 261 6 = tP T n p) (h7 : iq m 261 7 = 0) (hp : 0 ≤ p ∧ p ≤ n)
    (H0 : ∀ m', tS T n p = -1 → g6 m m' → Q (J 1) m')
    (H1 : ∀ m', tS T n p ≠ -1 → (tS T n p = -2 → kn (tL T n p) = -1) → g8 m m' → iq m' 261 7 = 1 → iq m' 261 8 = tP T n p → Q (J 0) m')
    (H2 : ∀ m', tS T n p = -2 → kn (tL T n p) ≠ -1 → tS T n (tB T n p) ≠ 58 → g8 m m' → iq m' 261 7 = 1 → iq m' 261 8 = tP T n (tB T n p) → Q (J 0) m')
    (H3 : ∀ m', tS T n p = -2 → kn (tL T n p) ≠ -1 → tS T n (tB T n p) = 58 → g6 m m' → iq m' 261 6 = tB T n (tB T n p) → W_M_readLexicon_41 (d + 2) (J (kn (tL T n p))) w m' Q) : W_M_readLexicon_0 (d + 2) w m Q := by
  have hn := ht.2.1
  have hr := tC_r (n := n) (p := p) ht.2.2.2.2
  have hbd := tok_bd (T := T) hp.2
  have hkr := kn_r (tL T n p)
  refine S_M_readLexicon_0 (c_see' ht hm hp (fun m1 f1 f1l f3 f4 => ?_))
  have e1 := tC_1 (n := n) (p := p) ht.2.2.2.2 (c := -1) (by omega) (by omega)
  simp (disch := first | (unfold r32; omega) | omega) only [j_lit, J_eq, j_ops]
  refine ⟨fun q => H0 m1 (e1.mp q) f1, fun q => ?_⟩
  have q' : tS T n p ≠ -1 := fun z => q (e1.mpr z)
  have ht1 := ht.g6 f1
  have h71 : iq m1 261 7 = 0 := by rw [f1.2.1 7 (by omega) (by omega) (by omega), h7]
  refine c_readWord' ht1 (Or.inr f4) h71 hp (fun m2 a1 f2 f5 f6 f7 => ?_) (fun m2 a1 f2 f5 f6 => ?_)
  · simp (disch := first | (unfold r32; omega) | omega) only [j_lit, J_eq, j_ops, j_rd, jl_rd, j_nc, f5, f7]
    refine ⟨fun _ => ?_, fun z => by omega⟩
    have hwd := (tL_wd hp.2 a1 ht.2.2.2.2).1
    have hlen := hwd.1
    have ht2 := ht1.g6 f2
    have h72 : iq m2 261 7 = 0 := by rw [f2.2.1 7 (by omega) (by omega) (by omega), h71]
    have f12 := f1.tr f2
    have fail : ∀ (m3 : zM), m3 = m2 → kn (tL T n p) = -1 → cI (d + 2) 202 [.ref 261, .int (J 1), .int (J (tP T n p))] w m3 (fun v5 m5 => (v5 = J 0 ∨ v5 = J 1) ∧ (Q v5 m5)) := by
      intro m3 e3 ek
      rw [e3]
      refine c_fails h72 (by unfold r32; omega) (by unfold r32; omega) (fun m4 g1 g2 g3 g4 g5 g6 => ⟨Or.inl rfl, ?_⟩)
      exact H1 m4 q' (fun _ => ek) (f12.g8.tr g1) g5 g6
    have good : kn (tL T n p) ≠ -1 → cI (d + 2) 205 [.ref 261, .int (J 58)] w m2 (fun v8 m8 => ((¬ v8 = J 0 → W_M_readLexicon_41 (d + 2) (J (kn (tL T n p))) w m8 Q) ∧ (v8 = J 0 → Q (J 0) m8))) := by
      intro ek
      refine c_takes ht2 f6 h72 (by omega) (by omega) (fun m3 b1 b2 b3 b4 => ?_) (fun m3 b1 b2 b3 b4 => ?_)
      · simp (disch := first | (unfold r32; omega) | omega) only [J_eq]
        exact ⟨fun _ => H3 m3 a1 ek b1 (f12.tr b2) b4, fun z => by omega⟩
      · exact ⟨fun z => absurd rfl z, fun _ => H2 m3 a1 ek b1 (f12.g8.tr b2) b3 b4⟩
    refine c_M_lettersOf hwd ?_
    simp (disch := first | (unfold r32; omega) | omega) only [j_lit, J_eq, j_ops, j_rd, jl_rd, j_nc, f5, f7]
    refine ⟨fun q1 => ⟨fun z => absurd trivial z, fun _ => fail m2 rfl (if_neg (fun z => q1 (by omega)))⟩, fun q1 => ?_⟩
    refine c_power (n := 9) (by decide) ?_
    have e9 : (27 : Int) ^ 9 = 7625597484987 := by simp
    rw [e9]
    obtain ⟨x, hx⟩ := List.length_eq_one_iff.mp (show (tL T n p).length = 1 by omega)
    have hb := eM_bd hwd
    have hes : eM (tL T n p) / 7625597484987 = x ∧ kn (tL T n p) = kb (x + 96) ∧ 1 ≤ x ∧ x ≤ 26 := by
      refine ⟨?_, ?_, ?_⟩
      · rw [hx] at hwd ⊢
        exact (eM_shift hwd).2.1
      · rw [hx]
        rfl
      · rw [hx] at hwd
        exact hwd.2 x (by simp)
    refine ⟨fun z => ?_, ?_⟩
    · have := congrArg Int64.toInt z
      rw [JL_toInt (by unfold r64; omega)] at this
      revert this
      decide
    · rw [JL_div hb.1 (by unfold r64; omega) (by omega) (by unfold r64; omega), hes.1, JL_32, j_ops.1]
      refine c_kindBy (by unfold r32; omega) ?_
      rw [← hes.2.1]
      simp (disch := first | (unfold r32; omega) | omega) only [J_eq, j_rd, j_nc, f5]
      exact ⟨good, fail m2 rfl⟩
  · simp (disch := first | (unfold r32; omega) | omega) only [j_lit, J_eq, j_ops]
    exact ⟨fun z => absurd trivial z, fun _ => H1 m2 q' (fun z => absurd z a1) (f1.g8.tr f2) f5 f6⟩
end ML
