/-! the reference's reading, by the same tokens -/
def tpM (m : zM) (T : Int → Int) (n : Int) : Prop := 0 ≤ n ∧ n ≤ 600 ∧ iq m 261 5 = n ∧ (∀ k, 0 ≤ k → k < n → iq m 265 k = T k) ∧ ∀ k, 0 ≤ T k ∧ T k < 256
/-- but the place, the word and where it stands all stays (g6); but the fault too (g8) -/
def g6 (m m' : zM) : Prop := (∀ b, b ≠ 261 → m'.1 b = m.1 b ∧ m'.2 b = m.2 b) ∧ (∀ z, 0 ≤ z → z ≠ 6 → z ≠ 12 → iq m' 261 z = iq m 261 z) ∧ (∀ z, 0 ≤ z → z ≠ 11 → lq m' 261 z = lq m 261 z)
def g8 (m m' : zM) : Prop := (∀ b, b ≠ 261 → m'.1 b = m.1 b ∧ m'.2 b = m.2 b) ∧ (∀ z, 0 ≤ z → z ≠ 6 → z ≠ 7 → z ≠ 8 → z ≠ 12 → iq m' 261 z = iq m 261 z) ∧ (∀ z, 0 ≤ z → z ≠ 11 → lq m' 261 z = lq m 261 z)
theorem g6.rf (m : zM) : g6 m m := ⟨fun _ _ => ⟨rfl, rfl⟩, fun _ _ _ _ => rfl, fun _ _ _ => rfl⟩
theorem g8.rf (m : zM) : g8 m m := ⟨fun _ _ => ⟨rfl, rfl⟩, fun _ _ _ _ _ _ => rfl, fun _ _ _ => rfl⟩
theorem g6.tr {m m1 m2 : zM} (h : g6 m m1) (g : g6 m1 m2) : g6 m m2 := ⟨fun b hb => ⟨(g.1 b hb).1.trans (h.1 b hb).1, (g.1 b hb).2.trans (h.1 b hb).2⟩, fun z a b c => (g.2.1 z a b c).trans (h.2.1 z a b c), fun z a b => (g.2.2 z a b).trans (h.2.2 z a b)⟩
theorem g8.tr {m m1 m2 : zM} (h : g8 m m1) (g : g8 m1 m2) : g8 m m2 := ⟨fun b hb => ⟨(g.1 b hb).1.trans (h.1 b hb).1, (g.1 b hb).2.trans (h.1 b hb).2⟩, fun z a b c e f => (g.2.1 z a b c e f).trans (h.2.1 z a b c e f), fun z a b => (g.2.2 z a b).trans (h.2.2 z a b)⟩
theorem g6.g8 {m m' : zM} (h : g6 m m') : g8 m m' := ⟨h.1, fun z a b _ _ c => h.2.1 z a b c, h.2.2⟩
theorem g6.si {m m1 : zM} (h : g6 m m1) {z v : Int} (h0 : 0 ≤ z) (h5 : z = 6 ∨ z = 12) (hv : r32 v) : g6 m (sq m1 261 z v) :=
  h.tr ⟨fun b hb => fo_sq m1 261 z v b (by omega), fun y a b c => by rw [iq_sq h0 a hv, if_neg (by omega)], fun _ _ _ => rfl⟩
theorem g8.si {m m1 : zM} (h : g8 m m1) {z v : Int} (h0 : 0 ≤ z) (h5 : z = 6 ∨ z = 7 ∨ z = 8 ∨ z = 12) (hv : r32 v) : g8 m (sq m1 261 z v) :=
  h.tr ⟨fun b hb => fo_sq m1 261 z v b (by omega), fun y a b c e f => by rw [iq_sq h0 a hv, if_neg (by omega)], fun _ _ _ => rfl⟩
theorem g6.sl {m m1 : zM} (h : g6 m m1) {v : Int} (hv : r64 v) : g6 m (sl m1 261 11 v) := by
  refine h.tr ⟨fun b hb => ⟨rfl, ?_⟩, fun _ _ _ _ => rfl, fun y a b => by rw [lq_sl (by omega) a hv, if_neg (by omega)]⟩
  funext j
  show (if b = 261 ∧ j = (11 : Int).toNat then JL v else m1.2 b j) = m1.2 b j
  exact if_neg (fun q => hb q.1)
theorem g8.i {m m1 : zM} (h : g8 m m1) {b : Nat} (hb : b ≠ 261) (z : Int) : iq m1 b z = iq m b z := by unfold iq; rw [(h.1 b hb).1]
theorem g8.l {m m1 : zM} (h : g8 m m1) {b : Nat} (hb : b ≠ 261) (z : Int) : lq m1 b z = lq m b z := by unfold lq; rw [(h.1 b hb).2]
theorem tpM.g8 {m m' : zM} {T : Int → Int} {n : Int} (h : tpM m T n) (f : g8 m m') : tpM m' T n := by
  obtain ⟨h1, h2, h3, h4, h5⟩ := h
  exact ⟨h1, h2, by rw [f.2.1 5 (by omega) (by omega) (by omega) (by omega) (by omega)]; exact h3, fun k k0 k1 => by rw [f.i (by omega)]; exact h4 k k0 k1, h5⟩
theorem tpM.g6 {m m' : zM} {T : Int → Int} {n : Int} (h : tpM m T n) (f : g6 m m') : tpM m' T n := h.g8 f.g8
theorem eM_snoc {l : List Int} {x : Int} (h : l.length < 10) : eM (l ++ [x]) = eM l + x * 27 ^ (9 - l.length) := by
  have e := en_app 27 10 l [x] (by omega)
  rw [show 10 - l.length = (9 - l.length) + 1 by omega, en_one] at e
  exact e
section SE
variable {d : Nat} {w : Nat × Nat × Nat} {T : Int → Int} {n : Int}
/-- what see answers -/
def tC (T : Int → Int) (n p : Int) : Int := if sk T n p < n then T (sk T n p) else -1
theorem tC_S {p : Int} (hT : ∀ i, 0 ≤ T i ∧ T i < 256) : (tS T n p = -2 ∨ tS T n p = -3 → 97 ≤ tC T n p ∧ tC T n p ≤ 122) ∧ (¬ (tS T n p = -2 ∨ tS T n p = -3) → tC T n p = tS T n p ∧ ¬ (97 ≤ tC T n p ∧ tC T n p ≤ 122)) := by
  have := hT (sk T n p)
  unfold tS tC
  by_cases a : n ≤ sk T n p
  · rw [if_pos a, if_neg (show ¬ sk T n p < n by omega)]
    exact ⟨fun h => by omega, fun h => ⟨rfl, by omega⟩⟩
  · rw [if_neg a, if_pos (show sk T n p < n by omega)]
    by_cases b : 97 ≤ T (sk T n p) ∧ T (sk T n p) ≤ 122
    · rw [if_pos b]
      exact ⟨fun _ => b, fun h => by split at h <;> omega⟩
    · rw [if_neg b]
      exact ⟨fun h => by omega, fun h => ⟨rfl, b⟩⟩
theorem c_see_l {Q : Int32 → zM → Prop} : ∀ (k : Nat) (m : zM) (p : Int), tpM m T n → iq m 261 6 = p → 0 ≤ p → p ≤ n → (n - p).toNat = k → (∀ m', g6 m m' → m'.2 = m.2 → iq m' 261 12 = iq m 261 12 → iq m' 261 6 = sk T n p → Q (J (tC T n p)) m') → W_M_see_0 d w m Q := by
  intro k
  induction k with
  | zero =>
    intro m p ht hm hp0 hp hk H
    obtain ⟨t1, t2, t3, t4, t5⟩ := ht
    have es : sk T n p = p := sk_out (by omega)
    unfold tC at H
    rw [es, if_neg (by omega)] at H
    have fin := H m (g6.rf m) rfl rfl hm
    refine S_M_see_0 ?_
    simp (disch := first | (unfold r32; omega) | omega) only [j_lit, J_le, j_rd, j_nc, hm, t3]
    exact ⟨fun _ => ⟨fun _ => fin, fun z => by omega⟩, fun z => by omega⟩
  | succ k ih =>
    intro m p ht hm hp0 hp hk H
    obtain ⟨t1, t2, t3, t4, t5⟩ := ht
    have e : p < n := by omega
    have es := sk_in (T := T) (n := n) (p := p) e
    have hTp := t5 p
    have go : (T p = 32 ∨ T p = 10) → W_M_see_0 d w (sq m 261 6 (p + 1)) Q := by
      intro hb
      rw [if_pos hb] at es
      have f1 : g6 m (sq m 261 6 (p + 1)) := (g6.rf m).si (by omega) (by omega) (by unfold r32; omega)
      refine ih _ (p + 1) (tpM.g6 ⟨t1, t2, t3, t4, t5⟩ f1) (by rw [iq_sq (by omega) (by omega) (by unfold r32; omega), if_pos ⟨rfl, rfl⟩]) (by omega) (by omega) (by omega) (fun m' a1 a2 a3 a4 => ?_)
      have := H m' (f1.tr a1) a2 (by rw [a3, iq_sq (by omega) (by omega) (by unfold r32; omega), if_neg (by omega)]) (by rw [a4, es])
      unfold tC at this ⊢
      rw [es] at this
      exact this
    refine S_M_see_0 ?_
    simp (disch := first | (unfold r32; omega) | omega) only [j_lit, J_le, J_cl, j_rd, j_nc, hm, t3, vp_J, iq_tn, j_ops, j_wr, t4 p hp0 e, J_eq]
    refine ⟨fun z => by omega, fun _ => ⟨by omega, fun z => go (Or.inl z), fun z => ⟨by omega, fun z2 => ⟨fun z3 => by omega, fun _ => ⟨by omega, ?_⟩⟩, fun z2 => go (Or.inr z2)⟩⟩⟩
    rw [if_neg (by omega)] at es
    unfold tC at H
    rw [es, if_pos e] at H
    exact H m (g6.rf m) rfl rfl hm
theorem c_see {Q : Int32 → zM → Prop} {m : zM} {p : Int} (ht : tpM m T n) (hm : iq m 261 6 = p) (hp : 0 ≤ p ∧ p ≤ n) (H : ∀ m', g6 m m' → m'.2 = m.2 → iq m' 261 12 = iq m 261 12 → iq m' 261 6 = tP T n p → Q (J (tC T n p)) m') : cI d 201 [.ref 261] w m Q :=
  S_M_see (c_see_l (n - p).toNat m p ht hm hp.1 hp.2 rfl H)
theorem tC_r {p : Int} (hT : ∀ i, 0 ≤ T i ∧ T i < 256) : -1 ≤ tC T n p ∧ tC T n p < 256 := by
  have := hT (sk T n p)
  unfold tC
  split <;> omega
theorem c_isL {Q : Int32 → zM → Prop} {m : zM} {p : Int} (ht : tpM m T n) (hm : iq m 261 6 = p) (hp : 0 ≤ p ∧ p ≤ n) (H : ∀ m', g6 m m' → m'.2 = m.2 → iq m' 261 12 = iq m 261 12 → iq m' 261 6 = tP T n p → Q (J (if tS T n p = -2 ∨ tS T n p = -3 then 1 else 0)) m') : cI (d + 1) 203 [.ref 261] w m Q := by
  have hc := tC_r (n := n) (p := p) ht.2.2.2.2
  have hs := tC_S (n := n) (p := p) ht.2.2.2.2
  refine S_M_isLetter (c_see ht hm hp (fun m' f1 f2 f3 f4 => ?_))
  rw [J_64 (by unfold r32; omega)]
  simp only [jl_lit]
  refine c_isIn (by unfold r64; omega) (by unfold r64; omega) (by unfold r64; omega) ?_
  have H := H m' f1 f2 f3 f4
  by_cases a : tS T n p = -2 ∨ tS T n p = -3
  · rw [if_pos (hs.1 a)]
    rw [if_pos a] at H
    exact ⟨by simp [j_lit], H⟩
  · rw [if_neg (hs.2 a).2]
    rw [if_neg a] at H
    exact ⟨by simp [j_lit], H⟩
theorem c_fails {Q : Int32 → zM → Prop} {m : zM} {a b : Int} (hm : iq m 261 7 = 0) (ha : r32 a) (hb : r32 b) (H : ∀ m', g8 m m' → m'.2 = m.2 → iq m' 261 6 = iq m 261 6 → iq m' 261 12 = iq m 261 12 → iq m' 261 7 = a → iq m' 261 8 = b → Q (J 0) m') : cI d 202 [.ref 261, .int (J a), .int (J b)] w m Q := by
  refine S_M_fails ?_
  simp (disch := first | (unfold r32; omega) | omega) only [j_lit, j_rd, j_nc, hm, j_wr]
  refine ⟨fun z => absurd trivial z, fun _ => H _ (((g8.rf m).si (by omega) (by omega) ha).si (by omega) (by omega) hb) rfl ?_ ?_ ?_ ?_⟩
  · rw [iq_sq (by omega) (by omega) hb, if_neg (by omega), iq_sq (by omega) (by omega) ha, if_neg (by omega)]
  · rw [iq_sq (by omega) (by omega) hb, if_neg (by omega), iq_sq (by omega) (by omega) ha, if_neg (by omega)]
  · rw [iq_sq (by omega) (by omega) hb, if_neg (by omega), iq_sq (by omega) (by omega) ha, if_pos ⟨rfl, rfl⟩]
  · rw [iq_sq (by omega) (by omega) hb, if_pos ⟨rfl, rfl⟩]
theorem c_takes {Q : Int32 → zM → Prop} {m : zM} {p c : Int} (ht : tpM m T n) (hm : iq m 261 6 = p) (h7 : iq m 261 7 = 0) (hp : 0 ≤ p ∧ p ≤ n) (hc : 0 ≤ c ∧ c < 97) (H : ∀ m', tS T n p = c → g6 m m' → m'.2 = m.2 → iq m' 261 6 = tB T n p → Q (J 1) m') (H2 : ∀ m', tS T n p ≠ c → g8 m m' → iq m' 261 7 = 1 → iq m' 261 8 = tP T n p → Q (J 0) m') : cI (d + 1) 205 [.ref 261, .int (J c)] w m Q := by
  have hr := tC_r (n := n) (p := p) ht.2.2.2.2
  have hs := tC_S (n := n) (p := p) ht.2.2.2.2
  have hk := tok_bd (T := T) hp.2
  have hn := ht.2.1
  refine S_M_takes (c_see ht hm hp (fun m' f1 f2 f3 f4 => ?_))
  simp (disch := first | (unfold r32; omega) | omega) only [j_lit, j_rd, j_nc, j_wr, J_eq, f4, j_ops]
  refine ⟨fun q => ?_, fun q => ?_⟩
  · have e : tS T n p = c := by
      by_cases a : tS T n p = -2 ∨ tS T n p = -3
      · have := hs.1 a; omega
      · rw [← (hs.2 a).1]; exact q
    refine H _ e (f1.si (by omega) (by omega) (by unfold r32; omega)) f2 ?_
    rw [iq_sq (by omega) (by omega) (by unfold r32; omega), if_pos ⟨rfl, rfl⟩]
    unfold tC at q
    unfold tB tP
    split at q
    · rw [if_neg (by omega), if_neg (by omega)]
    · omega
  · refine c_fails (by rw [f1.2.1 7 (by omega) (by omega) (by omega), h7]) (by unfold r32; omega) (by unfold r32; omega) (fun m2 e1 e2 e3 e4 e5 e6 => ⟨by simp [j_lit], ?_⟩)
    refine H2 m2 (fun e => q ?_) (f1.g8.tr e1) e5 e6
    rw [(hs.2 (by omega)).1]
    exact e
end SE
