/-! the reference reads its pattern -/
theorem iq_ne {m : zM} {a b : Nat} {z y v : Int} (h : b ≠ a ∨ y ≠ z) (hz : 0 ≤ z) (hy : 0 ≤ y) : iq (sq m a z v) b y = iq m b y := by
  unfold iq sq zI
  dsimp only
  rw [if_neg]
  intro q
  rcases h with h | h
  · exact h q.1
  · exact h (by have := q.2; omega)
theorem iq_eq {m : zM} {a : Nat} {z v : Int} (hv : r32 v) : iq (sq m a z v) a z = v := by
  unfold iq sq zI
  dsimp only
  rw [if_pos ⟨rfl, rfl⟩, J_toInt hv]
theorem lq_ne {m : zM} {a b : Nat} {z y v : Int} (h : b ≠ a ∨ y ≠ z) (hz : 0 ≤ z) (hy : 0 ≤ y) : lq (sl m a z v) b y = lq m b y := by
  unfold lq sl zL
  dsimp only
  rw [if_neg]
  intro q
  rcases h with h | h
  · exact h q.1
  · exact h (by have := q.2; omega)
theorem lq_eq {m : zM} {a : Nat} {z v : Int} (hv : r64 v) : lq (sl m a z v) a z = v := by
  unfold lq sl zL
  dsimp only
  rw [if_pos ⟨rfl, rfl⟩, JL_toInt hv]
/-- all but the reading's own fields and rows stays; but the fault -/
def gp (m m' : zM) : Prop := (∀ b, b ≠ 261 → b ≠ 266 → b ≠ 267 → m'.1 b = m.1 b ∧ m'.2 b = m.2 b) ∧ (∀ z, 0 ≤ z → z ≠ 6 → z ≠ 12 → (z < 15 ∨ 19 < z) → iq m' 261 z = iq m 261 z) ∧ (∀ z, 0 ≤ z → z ≠ 11 → lq m' 261 z = lq m 261 z)
def gpf (m m' : zM) : Prop := (∀ b, b ≠ 261 → b ≠ 266 → b ≠ 267 → m'.1 b = m.1 b ∧ m'.2 b = m.2 b) ∧ (∀ z, 0 ≤ z → z ≠ 6 → z ≠ 7 → z ≠ 8 → z ≠ 12 → (z < 15 ∨ 19 < z) → iq m' 261 z = iq m 261 z) ∧ (∀ z, 0 ≤ z → z ≠ 11 → lq m' 261 z = lq m 261 z)
theorem gp.rf (m : zM) : gp m m := ⟨fun _ _ _ _ => ⟨rfl, rfl⟩, fun _ _ _ _ _ => rfl, fun _ _ _ => rfl⟩
theorem gp.tr {m m1 m2 : zM} (h : gp m m1) (g : gp m1 m2) : gp m m2 := ⟨fun b a c e => ⟨(g.1 b a c e).1.trans (h.1 b a c e).1, (g.1 b a c e).2.trans (h.1 b a c e).2⟩, fun z a b c e => (g.2.1 z a b c e).trans (h.2.1 z a b c e), fun z a b => (g.2.2 z a b).trans (h.2.2 z a b)⟩
theorem gpf.tr {m m1 m2 : zM} (h : gpf m m1) (g : gpf m1 m2) : gpf m m2 := ⟨fun b a c e => ⟨(g.1 b a c e).1.trans (h.1 b a c e).1, (g.1 b a c e).2.trans (h.1 b a c e).2⟩, fun z a b c e f g1 => (g.2.1 z a b c e f g1).trans (h.2.1 z a b c e f g1), fun z a b => (g.2.2 z a b).trans (h.2.2 z a b)⟩
theorem gp.gpf {m m' : zM} (h : gp m m') : gpf m m' := ⟨h.1, fun z a b _ _ c e => h.2.1 z a b c e, h.2.2⟩
theorem g6.gp {m m' : zM} (h : g6 m m') : gp m m' := ⟨fun b a _ _ => h.1 b a, fun z a b c _ => h.2.1 z a b c, h.2.2⟩
theorem g8.gpf {m m' : zM} (h : g8 m m') : gpf m m' := ⟨fun b a _ _ => h.1 b a, fun z a b c e f _ => h.2.1 z a b c e f, h.2.2⟩
theorem gp.fr7 {m m' : zM} (h : fr [267] m m') : gp m m' := ⟨fun b _ _ a => h b (by simp; exact a), fun z _ _ _ _ => h.i (by simp) z, fun z _ _ => h.l (by simp) z⟩
theorem gp.fr6 {m m' : zM} (h : fr [266] m m') : gp m m' := ⟨fun b _ a _ => h b (by simp; exact a), fun z _ _ _ _ => h.i (by simp) z, fun z _ _ => h.l (by simp) z⟩
theorem gp.si {m : zM} {z v : Int} (hz : 0 ≤ z) (h : z = 6 ∨ z = 12 ∨ (15 ≤ z ∧ z ≤ 19)) : gp m (sq m 261 z v) :=
  ⟨fun b a _ _ => ((fr.rf [261] m).si (by simp) z v) b (by simp; exact a), fun y y0 y1 y2 y3 => iq_ne (Or.inr (by omega)) hz y0, fun _ _ _ => rfl⟩
theorem tpM.gp {m m' : zM} {T : Int → Int} {n : Int} (h : tpM m T n) (f : gp m m') : tpM m' T n := by
  obtain ⟨h1, h2, h3, h4, h5⟩ := h
  refine ⟨h1, h2, by rw [f.2.1 5 (by omega) (by omega) (by omega) (by omega)]; exact h3, fun k k0 k1 => ?_, h5⟩
  rw [← h4 k k0 k1]
  unfold iq
  rw [(f.1 265 (by omega) (by omega) (by omega)).1]
/-- its numbers -/
def PM (m : zM) (z : Nat) (K : Nat → Int) (F : Nat → Nat) : Prop := z ≤ 12 ∧ iq m 261 15 = z ∧ ∀ i : Nat, i < z → pkr (K i) (iq m 266 (i : Int)) ∧ iq m 267 (i : Int) = (F i : Nat) ∧ F i < 4096
theorem PM.mv {m m' : zM} {z : Nat} {K : Nat → Int} {F : Nat → Nat} (h : PM m z K F) (e1 : m'.1 266 = m.1 266) (e2 : m'.1 267 = m.1 267) (e3 : iq m' 261 15 = iq m 261 15) : PM m' z K F :=
  ⟨h.1, e3.trans h.2.1, fun i hi => by unfold iq; rw [e1, e2]; exact h.2.2 i hi⟩
theorem PM.g6 {m m' : zM} {z : Nat} {K : Nat → Int} {F : Nat → Nat} (h : PM m z K F) (f : g6 m m') : PM m' z K F := h.mv (f.1 266 (by decide)).1 (f.1 267 (by decide)).1 (f.2.1 15 (by decide) (by decide) (by decide))
theorem PM.si {m : zM} {z : Nat} {K : Nat → Int} {F : Nat → Nat} {y v : Int} (h : PM m z K F) (hy : 0 ≤ y) (hy2 : y ≠ 15) : PM (sq m 261 y v) z K F :=
  h.mv (((fr.rf [261] m).si (by simp) y v) 266 (by simp)).1 (((fr.rf [261] m).si (by simp) y v) 267 (by simp)).1 (iq_ne (Or.inr (by omega)) hy (by omega))
/-- its part -/
def FS (m : zM) (f l e : Nat) : Prop := iq m 261 17 = f ∧ iq m 261 18 = l ∧ iq m 261 19 = e ∧ f < 4096 ∧ l < 4096 ∧ e < 2
theorem FS.g6 {m m' : zM} {f l e : Nat} (h : FS m f l e) (g : g6 m m') : FS m' f l e := ⟨(g.2.1 17 (by decide) (by decide) (by decide)).trans h.1, (g.2.1 18 (by decide) (by decide) (by decide)).trans h.2.1, (g.2.1 19 (by decide) (by decide) (by decide)).trans h.2.2.1, h.2.2.2⟩
theorem FS.si {m : zM} {f l e : Nat} {y v : Int} (h : FS m f l e) (hy : 0 ≤ y) (hy2 : y < 17) : FS (sq m 261 y v) f l e := ⟨(iq_ne (Or.inr (by omega)) hy (by omega)).trans h.1, (iq_ne (Or.inr (by omega)) hy (by omega)).trans h.2.1, (iq_ne (Or.inr (by omega)) hy (by omega)).trans h.2.2.1, h.2.2.2⟩
theorem FS.fr {m m' : zM} {f l e : Nat} (h : FS m f l e) (g : fr [267] m m') : FS m' f l e := ⟨(g.i (by simp) 17).trans h.1, (g.i (by simp) 18).trans h.2.1, (g.i (by simp) 19).trans h.2.2.1, h.2.2.2⟩
theorem fs3 (m1 : zM) {f l e : Nat} (hf : f < 4096) (hl : l < 4096) (he : e < 2) : gp m1 (sq (sq (sq m1 261 17 (f : Int)) 261 18 (l : Int)) 261 19 (e : Int)) ∧ FS (sq (sq (sq m1 261 17 (f : Int)) 261 18 (l : Int)) 261 19 (e : Int)) f l e ∧ (∀ z K F, PM m1 z K F → PM (sq (sq (sq m1 261 17 (f : Int)) 261 18 (l : Int)) 261 19 (e : Int)) z K F) ∧ iq (sq (sq (sq m1 261 17 (f : Int)) 261 18 (l : Int)) 261 19 (e : Int)) 261 16 = iq m1 261 16 ∧ iq (sq (sq (sq m1 261 17 (f : Int)) 261 18 (l : Int)) 261 19 (e : Int)) 261 6 = iq m1 261 6 := by
  refine ⟨((gp.si (by omega) (by omega)).tr (gp.si (by omega) (by omega))).tr (gp.si (by omega) (by omega)), ⟨?_, ?_, ?_, hf, hl, he⟩, fun z K F h => ((h.si (by omega) (by omega)).si (by omega) (by omega)).si (by omega) (by omega), ?_, ?_⟩
  · rw [iq_ne (by omega) (by omega) (by omega), iq_ne (by omega) (by omega) (by omega), iq_eq (by unfold r32; omega)]
  · rw [iq_ne (by omega) (by omega) (by omega), iq_eq (by unfold r32; omega)]
  · rw [iq_eq (by unfold r32; omega)]
  · rw [iq_ne (by omega) (by omega) (by omega), iq_ne (by omega) (by omega) (by omega), iq_ne (by omega) (by omega) (by omega)]
  · rw [iq_ne (by omega) (by omega) (by omega), iq_ne (by omega) (by omega) (by omega), iq_ne (by omega) (by omega) (by omega)]
/-- the sign behind an item -/
def sufM (d : Nat) (w : Nat × Nat × Nat) (m1 : zM) (Q : Int32 → zM → Prop) : Prop := cI d 201 [.ref 261] w m1 (fun v2 m2 => ((v2 = (42 : Int32) → ((v2 = (63 : Int32) → W_M_readItem_34 d v2 w (zI m2 261 6 ((m2.1 261 6) + (1 : Int32))) Q) ∧ (¬ v2 = (63 : Int32) → cV d 212 [.ref 261, .int (m2.1 261 18), .int (m2.1 261 17)] w (zI m2 261 6 ((m2.1 261 6) + (1 : Int32))) (fun m3 => W_M_readItem_34 d v2 w m3 Q)))) ∧ (¬ v2 = (42 : Int32) → ((v2 = (43 : Int32) → ((v2 = (63 : Int32) → W_M_readItem_34 d v2 w (zI m2 261 6 ((m2.1 261 6) + (1 : Int32))) Q) ∧ (¬ v2 = (63 : Int32) → cV d 212 [.ref 261, .int (m2.1 261 18), .int (m2.1 261 17)] w (zI m2 261 6 ((m2.1 261 6) + (1 : Int32))) (fun m4 => W_M_readItem_34 d v2 w m4 Q)))) ∧ (¬ v2 = (43 : Int32) → ((v2 = (63 : Int32) → ((v2 = (63 : Int32) → W_M_readItem_34 d v2 w (zI m2 261 6 ((m2.1 261 6) + (1 : Int32))) Q) ∧ (¬ v2 = (63 : Int32) → cV d 212 [.ref 261, .int (m2.1 261 18), .int (m2.1 261 17)] w (zI m2 261 6 ((m2.1 261 6) + (1 : Int32))) (fun m5 => W_M_readItem_34 d v2 w m5 Q)))) ∧ (¬ v2 = (63 : Int32) → Q (1 : Int32) m2)))))))
def pmS (T : Int → Int) (n : Int) (o : Nat) (m : zM) (Q : Int32 → zM → Prop) (p : Int) (z : Nat) (K : Nat → Int) (F : Nat → Nat) (p' : Int) (f l e : Nat) : Prop := ∀ m', gp m m' → PM m' z K F → FS m' f l e → iq m' 261 16 = o → (iq m' 261 6 = p' ∨ iq m' 261 6 = tP T n p') → p ≤ p' → p' ≤ n → Q (J 1) m'
def pmF (m : zM) (Q : Int32 → zM → Prop) (x y : Int) : Prop := ∀ m', gpf m m' → iq m' 261 7 = x → iq m' 261 8 = y → Q (J 0) m'
theorem pmS.up {T : Int → Int} {n : Int} {o : Nat} {m m1 : zM} {Q : Int32 → zM → Prop} {p p1 : Int} {z : Nat} {K : Nat → Int} {F : Nat → Nat} {p' : Int} {f l e : Nat} (h : pmS T n o m Q p z K F p' f l e) (g : gp m m1) (hp : p ≤ p1) : pmS T n o m1 Q p1 z K F p' f l e := fun m' a b c e1 e2 e3 e4 => h m' (g.tr a) b c e1 e2 (by omega) e4
theorem pmF.up {m m1 : zM} {Q : Int32 → zM → Prop} {x y : Int} (h : pmF m Q x y) (g : gp m m1) : pmF m1 Q x y := fun m' a b c => h m' (g.gpf.tr a) b c
/-- the four runs -/
def PXw (d : Nat) (w : Nat × Nat × Nat) (g : Nat) (f l e : Nat) (m : zM) (Q : Int32 → zM → Prop) : Prop := match g with
  | 0 => W_M_readRow_6 (d + 7) (J (f : Int)) (J (l : Int)) (J (e : Int)) w m Q
  | 1 => W_M_readAlt_5 (d + 8) w m Q
  | 2 => cI (d + 7) 213 [.ref 261] w m Q
  | _ => sufM (d + 6) w m Q
def PXm (d : Nat) (w : Nat × Nat × Nat) (T : Int → Int) (n : Int) (g o : Nat) (p : Int) (z : Nat) (K : Nat → Int) (F : Nat → Nat) (f l e : Nat) (x y p' : Int) (z' : Nat) (K' : Nat → Int) (F' : Nat → Nat) (f' l' e' : Nat) : Prop :=
  ∀ (D : Nat) (m : zM) (Q : Int32 → zM → Prop), D = d + 4 * (4 - o) → o ≤ 4 → tpM m T n → (iq m 261 6 = p ∨ iq m 261 6 = tP T n p) → iq m 261 7 = 0 → 0 ≤ p ∧ p ≤ n → PM m z K F → iq m 261 16 = o → f < 4096 → l < 4096 → e < 2 → (g = 1 ∨ g = 3 → FS m f l e) →
    (x = 0 → pmS T n o m Q p z' K' F' p' f' l' e') → (x ≠ 0 → pmF m Q x y) → PXw D w g f l e m Q
section MPT
variable {d D : Nat} {w : Nat × Nat × Nat} {T : Int → Int} {n : Int}
theorem c_takesB {Q : Int32 → zM → Prop} {m : zM} {p c : Int} (ht : tpM m T n) (hm : iq m 261 6 = p ∨ iq m 261 6 = tP T n p) (h7 : iq m 261 7 = 0) (hp : 0 ≤ p ∧ p ≤ n) (hc : 0 ≤ c ∧ c < 97) (H : ∀ m', tC T n p = c → g6 m m' → m'.2 = m.2 → iq m' 261 6 = nB T n p → Q (J 1) m') (H2 : ∀ m', tC T n p ≠ c → g8 m m' → iq m' 261 7 = 1 → iq m' 261 8 = tP T n p → Q (J 0) m') : cI (d + 1) 205 [.ref 261, .int (J c)] w m Q := by
  have k : ∀ q : Int, 0 ≤ q → q ≤ n → tP T n q = tP T n p → tC T n q = tC T n p → nB T n q = nB T n p → iq m 261 6 = q → cI (d + 1) 205 [.ref 261, .int (J c)] w m Q := by
    intro q q0 q1 q2 q3 q4 q5
    have e1 := tC_1 (n := n) (p := q) ht.2.2.2.2 (c := c) (by omega) (by omega)
    refine c_takes ht q5 h7 ⟨q0, q1⟩ hc (fun m' a1 a2 a3 a4 => ?_) (fun m' a1 a2 a3 a4 => ?_)
    · have et := tB_1 ht.2.2.2.2 a1 (by omega)
      have ec := e1.mpr a1
      have hb := (nB_bd (T := T) (n := n) (p := q) q1).2.2.2.2 (by omega)
      exact H m' (by rw [← q3]; exact ec) a2 a3 (by rw [a4, et, ← q4]; exact hb.2.symm)
    · exact H2 m' (fun z => a1 (e1.mp (by rw [q3]; exact z))) a2 a3 (by rw [a4, q2])
  rcases hm with hm | hm
  · exact k p hp.1 hp.2 rfl rfl rfl hm
  · have hb := nB_bd (T := T) hp.2
    obtain ⟨e1, e2, e3⟩ := atB_id (T := T) hp.2
    exact k (tP T n p) (by omega) (by omega) e2 e1 e3 hm
theorem c_mp38 {Q : Int32 → zM → Prop} {m : zM} {f l e e1 : Nat} (he : e < 2) (he1 : e1 < 2) (h19 : iq m 261 19 = e1) (H : W_M_readRow_6 D (J (f : Int)) (J (l : Int)) (J ((e &&& e1 : Nat) : Int)) w m Q) : W_M_readRow_38 D (J (f : Int)) (J (e : Int)) (J (l : Int)) w m Q := by
  refine S_M_readRow_38 ?_
  rcases (show e = 0 ∨ e = 1 by omega) with rfl | rfl
  · have H0 : W_M_readRow_6 D (J (f : Int)) (J (l : Int)) (J 0) w m Q := by
      rw [Nat.zero_and] at H
      exact H
    simp (disch := first | (unfold r32; omega) | omega) only [j_lit, J_eq, j_nc]
    exact ⟨fun _ => S_M_readRow_47 H0, fun z => absurd trivial z⟩
  · rcases (show e1 = 0 ∨ e1 = 1 by omega) with rfl | rfl
    · have H0 : W_M_readRow_6 D (J (f : Int)) (J (l : Int)) (J 0) w m Q := by
        rw [Nat.and_zero] at H
        exact H
      simp (disch := first | (unfold r32; omega) | omega) only [j_lit, J_eq, j_rd, j_nc, h19]
      exact ⟨fun z => by omega, fun _ => ⟨fun _ => S_M_readRow_47 H0, fun z => absurd trivial z⟩⟩
    · have H0 : W_M_readRow_6 D (J (f : Int)) (J (l : Int)) (J 1) w m Q := by
        rw [Nat.and_self] at H
        exact H
      simp (disch := first | (unfold r32; omega) | omega) only [j_lit, J_eq, j_rd, j_nc, h19]
      exact ⟨fun z => by omega, fun _ => ⟨fun z => by omega, fun _ => S_M_readRow_47 H0⟩⟩
theorem c_mp34 {Q : Int32 → zM → Prop} {m : zM} {c : Int} {e e' : Nat} (hc : c = 42 ∨ c = 43 ∨ c = 63) (he : e < 2) (h19 : iq m 261 19 = e) (he' : e' = if e = 0 ∧ c = 43 then 0 else 1) (H : Q (J 1) (sq m 261 19 (e' : Int))) : W_M_readItem_34 D (J c) w m Q := by
  have hcr : r32 c := by unfold r32; omega
  refine S_M_readItem_34 ?_
  rcases (show e = 0 ∨ e = 1 by omega) with rfl | rfl
  · by_cases k : c = 43
    · rw [if_pos ⟨rfl, k⟩] at he'
      subst he'
      simp (disch := first | exact hcr | (unfold r32; omega) | omega) only [j_lit, J_eq, j_rd, j_nc, h19, j_wr]
      exact ⟨fun z => absurd trivial z, fun _ => ⟨fun _ => H, fun z => absurd k z⟩⟩
    · rw [if_neg (fun z => k z.2)] at he'
      subst he'
      simp (disch := first | exact hcr | (unfold r32; omega) | omega) only [j_lit, J_eq, j_rd, j_nc, h19, j_wr]
      refine ⟨fun z => absurd trivial z, fun _ => ⟨fun z => absurd z k, fun _ => S_M_readItem_41 ?_⟩⟩
      simp only [j_lit, j_wr, j_nc]
      exact H
  · rw [if_neg (fun z => by omega)] at he'
    subst he'
    simp (disch := first | exact hcr | (unfold r32; omega) | omega) only [j_lit, J_eq, j_rd, j_nc, h19]
    refine ⟨fun _ => S_M_readItem_41 ?_, fun z => by omega⟩
    simp only [j_lit, j_wr, j_nc]
    exact H
end MPT
