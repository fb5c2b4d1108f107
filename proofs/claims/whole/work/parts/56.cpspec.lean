/-! the class's pattern: what its row, the rows behind it and its item come to -/
def fp (a : Nat) (m m' : zM) : Prop := fr [8, a, a + 1, a + 2] m m' ∧ ∀ y, 0 ≤ y → y ≠ 2 → iq m' a y = iq m a y
theorem fp.rf (a : Nat) (m : zM) : fp a m m := ⟨fr.rf _ m, fun _ _ _ => rfl⟩
theorem fp.tr {a : Nat} {m m1 m2 : zM} (h : fp a m m1) (g : fp a m1 m2) : fp a m m2 := ⟨h.1.tr g.1, fun y y0 y2 => (g.2 y y0 y2).trans (h.2 y y0 y2)⟩
theorem fr.fp8 {a : Nat} {m m1 : zM} (ha : 9 ≤ a) (h : fr [8] m m1) : fp a m m1 := ⟨h.mo (by simp), fun y _ _ => h.i (by simp; omega) y⟩
theorem fr.fp2 {a : Nat} {m m1 : zM} (ha : 9 ≤ a) (h : fr [8, a + 2] m m1) : fp a m m1 := ⟨h.mo (by simp), fun y _ _ => h.i (by simp; omega) y⟩
theorem fr.fpl {a : Nat} {m m1 : zM} (h : fr [a + 2] m m1) : fp a m m1 := ⟨h.mo (by simp), fun y _ _ => h.i (by simp) y⟩
/-- a part that may be said, and the numbers -/
def okP (a : Nat) (m : zM) (g : Nat × Nat × Nat) : Prop := g.1 < 4096 ∧ g.2.1 < 4096 ∧ g.2.2 < 2 ∧ ∃ z K F, KF a m z K F
/-- it went well from p to p'; it went well and stands before what can't stand; there is a fault -/
def pS (a : Nat) (T : Int → Int) (n : Int) (g o : Nat) (Q : Int32 → zM → Prop) (m : zM) (p : Int) (z : Nat) (K : Nat → Int) (F : Nat → Nat) (f l e : Nat) (E : Int → Prop) : Prop :=
  ∀ m' p' z' K' F' f' l' e', PX T n g o p z K F f l e 0 0 p' z' K' F' f' l' e' → E p' → p ≤ p' → p' ≤ n → f' < 4096 → l' < 4096 → e' < 2 → fp a m m' → iq m' 8 5 = 0 → iq m' 8 6 = iq m 8 6 → atB m' T n p' → KF a m' z' K' F' → Q (J ((ppk f' l' e' : Nat) : Int)) m'
def pT (a : Nat) (T : Int → Int) (n : Int) (g o : Nat) (Q : Int32 → zM → Prop) (m : zM) (p : Int) (z : Nat) (K : Nat → Int) (F : Nat → Nat) (f l e : Nat) : Prop :=
  ∀ m' p' z' K' F' f' l' e' (c : Nat × Nat × Nat), PX T n g o p z K F f l e 0 0 p' z' K' F' f' l' e' → ¬ ato (tC T n p') → tC T n p' ≠ -1 → tC T n p' ≠ 124 → tC T n p' ≠ 41 → p ≤ p' → p' ≤ n → okP a m' c → fp a m m' → iq m' 8 5 = 1 → iq m' 8 6 = tP T n p' → Q (J ((ppk c.1 c.2.1 c.2.2 : Nat) : Int)) m'
def pF (a : Nat) (T : Int → Int) (n : Int) (g o : Nat) (Q : Int32 → zM → Prop) (m : zM) (p : Int) (z : Nat) (K : Nat → Int) (F : Nat → Nat) (f l e : Nat) : Prop :=
  ∀ m' x y p' z' K' F' f' l' e' (c : Nat × Nat × Nat), PX T n g o p z K F f l e x y p' z' K' F' f' l' e' → x ≠ 0 → okP a m' c → fp a m m' → iq m' 8 5 = x → iq m' 8 6 = y → Q (J ((ppk c.1 c.2.1 c.2.2 : Nat) : Int)) m'
/-- what stands where a row may end -/
def rEnd (T : Int → Int) (n p : Int) : Prop := tC T n p = -1 ∨ tC T n p = 124 ∨ tC T n p = 41
theorem rEnd.no {T : Int → Int} {n p : Int} (h : rEnd T n p) : ¬ ato (tC T n p) := by
  unfold rEnd at h
  unfold ato
  have hk : kb (tC T n p) = -1 := by
    rcases h with h | h | h <;> rw [h] <;> decide
  omega
def RowS (w : Nat × Nat × Nat) (a : Nat) (T : Int → Int) (n : Int) (D o j : Nat) : Prop :=
  ∀ (Q : Int32 → zM → Prop) (m : zM) (p i : Int) (z : Nat) (K : Nat → Int) (F : Nat → Nat) (f l e : Nat), tpC m T n → atB m T n p → iq m 8 5 = 0 → 0 ≤ p → p ≤ n → n - p < j → 0 ≤ i → i ≤ p → KF a m z K F → f < 4096 → l < 4096 → e < 2 →
    pS a T n 0 o Q m p z K F f l e (rEnd T n) → pT a T n 0 o Q m p z K F f l e → pF a T n 0 o Q m p z K F f l e → W_Pattern_readRow_4 D a (J (o : Int)) (J ((ppk f l e : Nat) : Int)) (J i) w m Q
def AltS (w : Nat × Nat × Nat) (a : Nat) (T : Int → Int) (n : Int) (D o j : Nat) : Prop :=
  ∀ (Q : Int32 → zM → Prop) (m : zM) (p i : Int) (z : Nat) (K : Nat → Int) (F : Nat → Nat) (f l e : Nat), tpC m T n → atB m T n p → iq m 8 5 = 0 → 0 ≤ p → p ≤ n → n - p < j → 0 ≤ i → i ≤ p → rEnd T n p → KF a m z K F → f < 4096 → l < 4096 → e < 2 →
    pS a T n 1 o Q m p z K F f l e (fun p' => tC T n p' = -1 ∨ tC T n p' = 41) → pT a T n 1 o Q m p z K F f l e → pF a T n 1 o Q m p z K F f l e → W_Pattern_readAlt_7 D a (J (o : Int)) (J ((ppk f l e : Nat) : Int)) (J i) w m Q
def ItemS (w : Nat × Nat × Nat) (a : Nat) (T : Int → Int) (n : Int) (D o j : Nat) : Prop :=
  ∀ (Q : Int32 → zM → Prop) (m : zM) (p : Int) (z : Nat) (K : Nat → Int) (F : Nat → Nat), tpC m T n → atB m T n p → iq m 8 5 = 0 → 0 ≤ p → p ≤ n → n - p < j → KF a m z K F → tC T n p ≠ -1 →
    pS a T n 2 o Q m p z K F 0 0 0 (fun p' => ato (tC T n p) ∧ p < p') → (∀ m' (c : Nat × Nat × Nat), ¬ ato (tC T n p) → okP a m' c → fp a m m' → iq m' 8 5 = 1 → iq m' 8 6 = tP T n p → Q (J ((ppk c.1 c.2.1 c.2.2 : Nat) : Int)) m') → (ato (tC T n p) → pF a T n 2 o Q m p z K F 0 0 0) → cI D 43 [.ref a, .ref 8, .int (J (o : Int))] w m Q
section CPS
variable {w : Nat × Nat × Nat} {T : Int → Int} {n : Int} {a : Nat}
/-- the row, from its item -/
theorem c_prow {D o j : Nat} (ha : zPt w a) (ha9 : 9 ≤ a) (hI : ItemS w a T n (D + 2) o (j + 1)) (hR : RowS w a T n (D + 2) o j) : RowS w a T n (D + 2) o (j + 1) := by
  intro Q m p i z K F f l e ht h8 h5 h0 h1 hj hi0 hi hK hf hl he HS HT HF
  have hn := ht.2.1
  have hr := tC_r (n := n) (p := p) ht.2.2.2.2
  have stop : rEnd T n p → Q (J ((ppk f l e : Nat) : Int)) m := fun q => HS m p z K F f l e (PX.rend q.no) q (by omega) h1 hf hl he (fp.rf a m) h5 rfl h8 hK
  have e600 : ¬ i < 600 → tC T n p = -1 := fun q => by
    unfold tC
    have := sk_bd (T := T) h1
    rw [if_neg (by omega)]
  -- behind an item with a fault
  have bad : ∀ (m1 : zM) (c : Nat × Nat × Nat) (x y : Int), okP a m1 c → iq m1 8 5 = x → iq m1 8 6 = y → x ≠ 0 → (∀ m2 (c2 : Nat × Nat × Nat), okP a m2 c2 → fp a m1 m2 → iq m2 8 5 = x → iq m2 8 6 = y → Q (J ((ppk c2.1 c2.2.1 c2.2.2 : Nat) : Int)) m2) → cI (D + 2) 49 [.ref a, .int (J ((ppk f l e : Nat) : Int)), .int (J ((ppk c.1 c.2.1 c.2.2 : Nat) : Int))] w m1 (fun v2 m2 => W_Pattern_readRow_4 (D + 2) a (J (o : Int)) v2 (J (i + 1)) w m2 Q) := by
    intro m1 c x y hc g5 g6 hx G
    obtain ⟨c1, c2, c3, z1, K1, F1, k1⟩ := hc
    refine c_joined ha hf hl he c1 c2 c3 k1.2.1 k1.1 (fun k hk => (k1.2.2 k hk).2.2.1) (fun k hk => (k1.2.2 k hk).2.1) (fun m2 f1 f1l g1 => ?_)
    have g5' : iq m2 8 5 = x := by rw [f1.i (by simp; omega), g5]
    have hxr : r32 x := by rw [← g5]; exact iq_r _ _ _
    have o1 : (f ||| if e = 0 then 0 else c.1) < 4096 := pp_or_lt hf (by split <;> omega)
    have o2 : (c.2.1 ||| if c.2.2 = 0 then 0 else l) < 4096 := pp_or_lt c2 (by split <;> omega)
    have o3 := pp_e2 he c3
    have fin := G m2 (_, _, _) ⟨o1, o2, o3, z1, K1, _, k1.lnk c1 f1 g1⟩ f1.fpl g5' (by rw [f1.i (by simp; omega), g6])
    refine S_Pattern_readRow_4 ha ?_
    simp (disch := first | exact hxr | (unfold r32; omega) | omega) only [j_lit, J_le, J_eq, j_rd, j_nc, g5']
    exact ⟨fun _ => fin, fun _ => ⟨fun _ => fin, fun q => absurd q hx⟩⟩
  refine S_Pattern_readRow_4 ha ?_
  simp (disch := first | (unfold r32; omega) | omega) only [j_lit, J_le, J_eq, j_rd, j_nc, h8.1, h5, j_ops]
  refine ⟨fun q => stop (Or.inl (e600 (by omega))), fun _ => ⟨fun q => absurd trivial q, fun _ => ⟨fun q => stop (Or.inl q), fun q1 => ⟨fun q => stop (Or.inr (Or.inl q)), fun q2 => ⟨fun q3 => ?_, fun q => stop (Or.inr (Or.inr q))⟩⟩⟩⟩⟩
  refine hI _ m p z K F ht h8 h5 h0 h1 hj hK q1 (fun m1 p1 z1 K1 F1 f1 l1 e1 px hE b1 b2 b3 b4 b5 ff g5 g6 g8 gK => ?_) (fun m1 c hna oc ff g5 g6 => ?_) (fun hat m1 x y p1 z1 K1 F1 f1 l1 e1 c px hx oc ff g5 g6 => ?_)
  · refine c_joined ha hf hl he b3 b4 b5 gK.2.1 gK.1 (fun k hk => (gK.2.2 k hk).2.2.1) (fun k hk => (gK.2.2 k hk).2.1) (fun m2 fl fll gl => ?_)
    have o1 : (f ||| if e = 0 then 0 else f1) < 4096 := pp_or_lt hf (by split <;> omega)
    have o2 : (l1 ||| if e1 = 0 then 0 else l) < 4096 := pp_or_lt b4 (by split <;> omega)
    have o3 := pp_e2 he b5
    have r8 := fl 8 (by simp; omega)
    have f12 : fp a m m2 := ff.tr fl.fpl
    have i5 : iq m2 8 5 = 0 := by rw [fl.i (by simp; omega), g5]
    have i6 : iq m2 8 6 = iq m 8 6 := by rw [fl.i (by simp; omega), g6]
    have hlt := hE.2
    refine hR Q m2 p1 (i + 1) z1 K1 _ _ _ _ (ht.fr f12.1 (by simp; omega) (by simp; omega)) (g8.f8 r8.1) i5 (by omega) b2 (by omega) (by omega) (by omega) (gK.lnk b3 fl gl) o1 o2 o3 (fun m' p' z' K' F' f' l' e' y1 y2 y3 y4 y5 y6 y7 y8 y9 y10 y11 y12 => ?_) (fun m' p' z' K' F' f' l' e' c y1 y2 y3 y4 y5 y6 y7 y8 y9 y10 y11 => ?_) (fun m' x y p' z' K' F' f' l' e' c y1 y2 y3 y4 y5 y6 => ?_)
    · exact HS m' p' z' K' F' f' l' e' (PX.rgo hE.1 px y1) y2 (by omega) y4 y5 y6 y7 (f12.tr y8) y9 (by rw [y10, i6]) y11 y12
    · exact HT m' p' z' K' F' f' l' e' c (PX.rgo hE.1 px y1) y2 y3 y4 y5 (by omega) y7 y8 (f12.tr y9) y10 y11
    · exact HF m' x y p' z' K' F' f' l' e' c (PX.rgo hE.1 px y1) y2 y3 (f12.tr y4) y5 y6
  · refine bad m1 c 1 _ oc g5 g6 (by omega) (fun m2 c2 oc2 ff2 k5 k6 => ?_)
    exact HT m2 p z K F f l e c2 (PX.rend hna) hna q1 q2 q3 (by omega) h1 oc2 (ff.tr ff2) k5 k6
  · refine bad m1 c x y oc g5 g6 hx (fun m2 c2 oc2 ff2 k5 k6 => ?_)
    exact HF m2 x y _ _ _ _ _ _ _ c2 (PX.rbad hat hx px) hx oc2 (ff.tr ff2) k5 k6
end CPS
