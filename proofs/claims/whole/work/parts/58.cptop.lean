/-! the class reads a pattern -/
/-- the whole pattern: the fault, where; the numbers and the part -/
def WX (T : Int → Int) (n : Int) (K : Nat → Int) (F : Nat → Nat) (x y : Int) (z' : Nat) (K' : Nat → Int) (F' : Nat → Nat) (f' l' e' : Nat) : Prop :=
  (∃ p1, x ≠ 0 ∧ PX T n 0 0 0 0 K F 0 0 1 x y p1 z' K' F' f' l' e') ∨
  (∃ p1 z1 K1 F1 f1 l1 e1 p2, x ≠ 0 ∧ PX T n 0 0 0 0 K F 0 0 1 0 0 p1 z1 K1 F1 f1 l1 e1 ∧ PX T n 1 0 p1 z1 K1 F1 f1 l1 e1 x y p2 z' K' F' f' l' e') ∨
  (∃ p1 z1 K1 F1 f1 l1 e1 p2, PX T n 0 0 0 0 K F 0 0 1 0 0 p1 z1 K1 F1 f1 l1 e1 ∧ PX T n 1 0 p1 z1 K1 F1 f1 l1 e1 0 0 p2 z' K' F' f' l' e' ∧ ((tC T n p2 ≠ -1 ∧ x = 1 ∧ y = tP T n p2) ∨ (tC T n p2 = -1 ∧ x = 0 ∧ y = -1)))
section CPT2
variable {d : Nat} {w : Nat × Nat × Nat} {T : Int → Int} {n : Int} {a : Nat}
theorem c_readPattern {Q : zM → Prop} {m : zM} (ha : zPt w a) (ha9 : 9 ≤ a) (ht : tpC m T n) (K : Nat → Int) (F : Nat → Nat)
    (H : ∀ m' x y z' K' F' f' l' e', WX T n K F x y z' K' F' f' l' e' → fr [8, a, a + 1, a + 2] m m' → iq m' 8 5 = x → iq m' 8 6 = y → (x = 0 → KF a m' z' K' F' ∧ iq m' a 3 = f' ∧ iq m' a 4 = l' ∧ f' < 4096 ∧ l' < 4096 ∧ e' < 2) → Q m') : cV (d + 26) 78 [.ref 8, .ref a] w m Q := by
  have hn := ht.2.1
  obtain ⟨_, hR, hA⟩ := c_pall (w := w) (T := T) (n := n) (d := d) ha ha9 601 4 0 (by decide)
  refine S_Reader_readPattern ha (c_begin8 (fun m1 f1 g1 g5 g6 => ?_))
  have ht1 := ht.fr f1 (by simp) (by simp)
  refine c_nextB (p := 0) ht1 g1 ⟨by omega, ht.1⟩ (fun m2 f2 f2l g2 => ?_)
  refine S_Pattern_read ha ?_
  simp only [j_lit, j_wr, j_nc]
  have f3 : fr [a] m2 (sq m2 a 2 0) := (fr.rf _ m2).si (by simp) 2 0
  have f03 : fr [8, a, a + 1, a + 2] m (sq m2 a 2 0) := ((f1.mo (by simp)).tr (f2.fr.mo (by simp))).tr (f3.mo (by simp))
  have hK : KF a (sq m2 a 2 0) 0 K F := ⟨by omega, by rw [iq_sq (by omega) (by omega) (by unfold r32; omega), if_pos ⟨rfl, rfl⟩]; rfl, fun i hi => by omega⟩
  have r8 := f3 8 (by simp; omega)
  have i5 : iq (sq m2 a 2 0) 8 5 = 0 := by rw [f3.i (by simp; omega), f2.2.1, g5]
  have i6 : iq (sq m2 a 2 0) 8 6 = -1 := by rw [f3.i (by simp; omega), f2.2.2, g6]
  have ht3 := ht.fr f03 (by simp; omega) (by simp; omega)
  have hat := g2.f8 r8.1
  generalize sq m2 a 2 0 = m3 at *
  -- the end: the two fields
  have fin : ∀ (m4 : zM) (x y : Int) (z' : Nat) (K' : Nat → Int) (F' : Nat → Nat) (f' l' e' : Nat) (c : Nat × Nat × Nat), WX T n K F x y z' K' F' f' l' e' → c.1 < 4096 → c.2.1 < 4096 → c.2.2 < 2 → fr [8, a, a + 1, a + 2] m m4 → iq m4 8 5 = x → iq m4 8 6 = y → (x = 0 → KF a m4 z' K' F' ∧ c = (f', l', e')) → cI (d + 24) 46 [.int (J ((ppk c.1 c.2.1 c.2.2 : Nat) : Int))] w m4 (fun v3 m3 => cI (d + 24) 47 [.int (J ((ppk c.1 c.2.1 c.2.2 : Nat) : Int))] w (zI m3 a 3 v3) (fun v4 m4 => Q (zI m4 a 4 v4))) := by
    intro m4 x y z' K' F' f' l' e' c hw c1 c2 c3 ff k5 k6 kk
    refine c_firstOf c1 c2 c3 (c_lastOf c1 c2 c3 ?_)
    have e3 : zI m4 a 3 (J (c.1 : Int)) = sq m4 a 3 (c.1 : Int) := by
      have := j_wr m4 a 3 (c.1 : Int)
      exact this
    have e4 : ∀ mm, zI mm a 4 (J (c.2.1 : Int)) = sq mm a 4 (c.2.1 : Int) := fun mm => j_wr mm a 4 (c.2.1 : Int)
    rw [e3, e4]
    have f5 : fr [a] m4 (sq (sq m4 a 3 (c.1 : Int)) a 4 (c.2.1 : Int)) := ((fr.rf _ m4).si (by simp) 3 _).si (by simp) 4 _
    refine H _ x y z' K' F' f' l' e' hw (ff.tr (f5.mo (by simp))) (by rw [f5.i (by simp; omega), k5]) (by rw [f5.i (by simp; omega), k6]) (fun hx => ?_)
    obtain ⟨kf, ec⟩ := kk hx
    rw [ec] at c1 c2 c3 ⊢
    refine ⟨⟨kf.1, ?_, fun i hi => ?_⟩, ?_, ?_, c1, c2, c3⟩
    · rw [iq_sq (by omega) (by omega) (by unfold r32; simp at c2 ⊢; omega), if_neg (by omega), iq_sq (by omega) (by omega) (by unfold r32; simp at c1 ⊢; omega), if_neg (by omega)]
      exact kf.2.1
    · rw [ec] at f5
      rw [f5.i (by simp), f5.i (by simp)]
      exact kf.2.2 i hi
    · rw [iq_sq (by omega) (by omega) (by unfold r32; simp at c2 ⊢; omega), if_neg (by omega), iq_sq (by omega) (by omega) (by unfold r32; simp at c1 ⊢; omega), if_pos ⟨rfl, rfl⟩]
    · rw [iq_sq (by omega) (by omega) (by unfold r32; simp at c2 ⊢; omega), if_pos ⟨rfl, rfl⟩]
  have bad : ∀ (m4 : zM) (x y : Int) (z' : Nat) (K' : Nat → Int) (F' : Nat → Nat) (f' l' e' : Nat) (c : Nat × Nat × Nat), WX T n K F x y z' K' F' f' l' e' → x ≠ 0 → okP a m4 c → fr [8, a, a + 1, a + 2] m m4 → iq m4 8 5 = x → iq m4 8 6 = y → cI (d + 24) 66 [.ref 8, .int (J (-1))] w m4 (fun v2 m2 => cI (d + 24) 46 [.int (J ((ppk c.1 c.2.1 c.2.2 : Nat) : Int))] w m2 (fun v3 m3 => cI (d + 24) 47 [.int (J ((ppk c.1 c.2.1 c.2.2 : Nat) : Int))] w (zI m3 a 3 v3) (fun v4 m4 => Q (zI m4 a 4 v4)))) := by
    intro m4 x y z' K' F' f' l' e' c hw hx oc ff k5 k6
    exact c_needsF k5 hx (by unfold r32; omega) (fin m4 x y z' K' F' f' l' e' c hw oc.1 oc.2.1 oc.2.2.1 ff k5 k6 (fun q => absurd q hx))
  simp only [j_ops]
  refine S_Pattern_readAlt ha (S_Pattern_readRow ?_)
  refine hR _ m3 0 0 0 K F 0 0 1 ht3 hat i5 (by omega) ht.1 (by omega) (by omega) (by omega) hK (by omega) (by omega) (by omega) (fun m4 p1 z1 K1 F1 x1 x2 x3 px hE1 b1 b2 b3 b4 b5 ff k5 k6 k8 kK => ?_) (fun m4 p1 z1 K1 F1 x1 x2 x3 c px y1 y2 y3 y4 b1 b2 oc ff k5 k6 => ?_) (fun m4 x y p1 z1 K1 F1 x1 x2 x3 c px hx oc ff k5 k6 => ?_)
  · have f04 := f03.tr ff.1
    refine hA _ m4 p1 0 z1 K1 F1 x1 x2 x3 (ht.fr f04 (by simp; omega) (by simp; omega)) k8 k5 (by omega) b2 (by omega) (by omega) (by omega) hE1 kK b3 b4 b5 (fun m5 p2 z2 K2 F2 w1 w2 w3 pa v2 v3 v4 v5 v6 v7 v8 v9 v10 v11 v12 => ?_) (fun m5 p2 z2 K2 F2 w1 w2 w3 c pa v2 v3 v4 v5 v6 v7 v8 v9 v10 v11 => ?_) (fun m5 x y p2 z2 K2 F2 w1 w2 w3 c pa v2 v3 v4 v5 v6 => ?_)
    · have f05 := f04.tr v8.1
      refine c_needsB (ht.fr f05 (by simp; omega) (by simp; omega)) v11 v9 (by unfold r32; omega) (fun e1 => ?_) (fun m6 e1 f6 h5 h6 => ?_)
      · exact fin m5 0 (-1) z2 K2 F2 w1 w2 w3 (w1, w2, w3) (Or.inr (Or.inr ⟨p1, z1, K1, F1, x1, x2, x3, p2, px, pa, Or.inr ⟨e1, rfl, rfl⟩⟩)) v5 v6 v7 f05 v9 (by rw [v10, k6, i6]) (fun _ => ⟨v12, rfl⟩)
      · exact fin m6 1 _ z2 K2 F2 w1 w2 w3 (w1, w2, w3) (Or.inr (Or.inr ⟨p1, z1, K1, F1, x1, x2, x3, p2, px, pa, Or.inl ⟨e1, rfl, rfl⟩⟩)) v5 v6 v7 (f05.tr (f6.mo (by simp))) h5 h6 (fun q => by omega)
    · exact bad m5 1 _ z2 K2 F2 w1 w2 w3 c (Or.inr (Or.inr ⟨p1, z1, K1, F1, x1, x2, x3, p2, px, pa, Or.inl ⟨v3, rfl, rfl⟩⟩)) (by omega) v8 (f04.tr v9.1) v10 v11
    · exact bad m5 x y z2 K2 F2 w1 w2 w3 c (Or.inr (Or.inl ⟨p1, z1, K1, F1, x1, x2, x3, p2, v2, px, pa⟩)) v2 v3 (f04.tr v4.1) v5 v6
  · refine c_paltF ha k5 (by omega) ?_
    exact bad m4 1 _ z1 K1 F1 x1 x2 x3 c (Or.inr (Or.inr ⟨p1, z1, K1, F1, x1, x2, x3, p1, px, PX.aend y3, Or.inl ⟨y2, rfl, rfl⟩⟩)) (by omega) oc (f03.tr ff.1) k5 k6
  · refine c_paltF ha k5 hx ?_
    exact bad m4 x y z1 K1 F1 x1 x2 x3 c (Or.inl ⟨p1, hx, px⟩) hx oc (f03.tr ff.1) k5 k6
end CPT2
