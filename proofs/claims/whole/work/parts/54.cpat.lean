/-! the class's pattern: the sign behind an item; one kind -/
section CPT
variable {d : Nat} {w : Nat × Nat × Nat} {T : Int → Int} {n : Int} {a : Nat}
theorem pp_ore {f l e : Nat} (hf : f < 4096) (hl : l < 4096) (he : e < 2) : J ((ppk f l e : Nat) : Int) ||| J 16777216 = J ((ppk f l 1 : Nat) : Int) := by
  have h1 := pp_pk_lt hf hl he
  have := J_or (a := ppk f l e) (b := ppk 0 0 1) (by omega) (by decide)
  rw [pp_pk_or hf hl (by omega) (by omega), Nat.or_zero, Nat.or_zero] at this
  have e1 : e ||| 1 = 1 := by
    rcases (show e = 0 ∨ e = 1 by omega) with rfl | rfl <;> rfl
  rw [e1] at this
  exact this
theorem c_psuf {Q : Int32 → zM → Prop} {m : zM} {o : Nat} {p : Int} {z : Nat} {K : Nat → Int} {F : Nat → Nat} {f l e : Nat} (ha : zPt w a) (ha9 : 9 ≤ a) (ht : tpC m T n) (h8 : atB m T n p) (h5 : iq m 8 5 = 0) (hp : 0 ≤ p ∧ p ≤ n) (hK : KF a m z K F) (hf : f < 4096) (hl : l < 4096) (he : e < 2)
    (H : ∀ m' p' F' e', PX T n 3 o p z K F f l e 0 0 p' z K F' f l e' → p ≤ p' → p' ≤ n → e' < 2 → fr [8, a + 2] m m' → iq m' 8 5 = 0 → iq m' 8 6 = iq m 8 6 → atB m' T n p' → KF a m' z K F' → Q (J ((ppk f l e' : Nat) : Int)) m') : W_Pattern_readItem_12 (d + 2) a (J ((ppk f l e : Nat) : Int)) w m Q := by
  have hr := tC_r (n := n) (p := p) ht.2.2.2.2
  have hbd := nB_bd (T := T) hp.2
  have j24 : (16777216 : Int32) = J 16777216 := rfl
  have hF : ∀ k, k < z → F k < 4096 := fun k hk => (hK.2.2 k hk).2.2.1
  have hI : ∀ i : Nat, i < z → iq m (a + 2) (i : Int) = (F i : Nat) := fun i hi => (hK.2.2 i hi).2.1
  -- with the link, then past the sign
  have star : tC T n p = 42 ∨ tC T n p = 43 → ∀ (t : Int32) (P : Int32 → zM → Prop), (∀ m', fr [8, a + 2] m m' → iq m' 8 5 = 0 → iq m' 8 6 = iq m 8 6 → atB m' T n (nB T n p) → KF a m' z K (pp_lnk F z l f) → W_Pattern_readItem_54 (d + 2) a (J ((ppk f l e : Nat) : Int)) t w m' P) → W_Pattern_readItem_41 (d + 2) a (J ((ppk f l e : Nat) : Int)) (J 1) t w m P := by
    intro hc t P G
    have hlt := hbd.2.2.2.2 (by omega)
    refine S_Pattern_readItem_41 ha ?_
    simp (disch := first | (unfold r32; omega) | omega) only [j_lit, J_eq]
    refine ⟨fun y => by omega, fun _ => c_link ha hf hl he hf hl he hK.2.1 hK.1 hF hI (fun m1 f1 f1l g1 => ?_)⟩
    have r8 := f1 8 (by simp; omega)
    have h81 : atB m1 T n p := h8.f8 r8.1
    have ht1 := ht.fr f1 (by simp; omega) (by simp; omega)
    refine S_Pattern_readItem_48 ?_
    simp (disch := first | (unfold r32; omega) | omega) only [j_lit, J_eq]
    refine ⟨fun _ => c_nextB (p := nB T n p) ht1 h81.2.2 (by omega) (fun m2 f2 f2l g2 => ?_), fun y => by omega⟩
    refine G m2 ((f1.mo (by simp)).tr (f2.fr.mo (by simp))) (by rw [f2.2.1, f1.i (by simp; omega), h5]) (by rw [f2.2.2, f1.i (by simp; omega)]) g2 ?_
    exact (hK.lnk hf f1 g1).mv f2.fr (by simp; omega) (by simp; omega) (by simp; omega)
  have fin0 : ∀ m' (P : Int32 → zM → Prop), P (J ((ppk f l e : Nat) : Int)) m' → W_Pattern_readItem_54 (d + 2) a (J ((ppk f l e : Nat) : Int)) (J 0) w m' P := by
    intro m' P G
    refine S_Pattern_readItem_54 ?_
    simp (disch := first | (unfold r32; omega) | omega) only [j_lit, J_eq]
    exact ⟨fun _ => G, fun y => absurd trivial y⟩
  have fin1 : ∀ m' (P : Int32 → zM → Prop), P (J ((ppk f l 1 : Nat) : Int)) m' → W_Pattern_readItem_54 (d + 2) a (J ((ppk f l e : Nat) : Int)) (J 1) w m' P := by
    intro m' P G
    refine S_Pattern_readItem_54 ?_
    simp (disch := first | (unfold r32; omega) | omega) only [j_lit, J_eq, j24]
    rw [pp_ore hf hl he]
    exact ⟨fun y => by omega, fun _ => G⟩
  refine S_Pattern_readItem_12 ?_
  simp (disch := first | (unfold r32; omega) | omega) only [j_lit, J_eq, j_rd, j_nc, h8.1, h5]
  refine ⟨fun _ => ⟨fun q => ?_, fun q => ⟨fun q2 => ?_, fun q2 => ?_⟩⟩, fun y => absurd trivial y⟩
  · have hlt := hbd.2.2.2.2 (by omega)
    refine S_Pattern_readItem_29 ?_
    simp (disch := first | (unfold r32; omega) | omega) only [j_lit, J_eq, j_rd, j_nc, h8.1]
    refine ⟨fun _ => star (Or.inl q) _ _ (fun m' f1 g5 g6 g8 gK => ?_), fun y => absurd q y⟩
    exact fin1 m' Q (H m' _ _ 1 (PX.s42 q) (by omega) (by omega) (by omega) f1 g5 g6 g8 gK)
  · refine S_Pattern_readItem_29 ?_
    simp (disch := first | (unfold r32; omega) | omega) only [j_lit, J_eq, j_rd, j_nc, h8.1]
    refine ⟨fun y => absurd y q, fun _ => ⟨fun q3 => ?_, fun q3 => ?_⟩⟩
    · refine S_Pattern_readItem_41 ha ?_
      simp (disch := first | (unfold r32; omega) | omega) only [j_lit, J_eq]
      refine ⟨fun _ => S_Pattern_readItem_48 ?_, fun y => absurd trivial y⟩
      simp (disch := first | (unfold r32; omega) | omega) only [j_lit, J_eq]
      refine ⟨fun y => absurd trivial y, fun _ => ⟨fun _ => ?_, fun y => absurd trivial y⟩⟩
      exact fin0 m Q (H m p F e (PX.s0 q q2 q3) (by omega) hp.2 he (fr.rf _ m) h5 rfl h8 hK)
    · have hlt := hbd.2.2.2.2 (by omega)
      refine S_Pattern_readItem_41 ha ?_
      simp (disch := first | (unfold r32; omega) | omega) only [j_lit, J_eq]
      refine ⟨fun _ => S_Pattern_readItem_48 ?_, fun y => absurd trivial y⟩
      simp (disch := first | (unfold r32; omega) | omega) only [j_lit, J_eq]
      refine ⟨fun y => absurd trivial y, fun _ => ⟨fun y => by omega, fun _ => ?_⟩⟩
      refine c_nextB (p := nB T n p) ht h8.2.2 (by omega) (fun m2 f2 f2l g2 => ?_)
      exact fin1 m2 Q (H m2 _ F 1 (PX.s63 q3) (by omega) (by omega) (by omega) (f2.fr.mo (by simp)) (by rw [f2.2.1, h5]) f2.2.2 g2 (hK.mv f2.fr (by simp; omega) (by simp; omega) (by simp; omega)))
  · have hlt := hbd.2.2.2.2 (by omega)
    refine S_Pattern_readItem_29 ?_
    simp (disch := first | (unfold r32; omega) | omega) only [j_lit, J_eq, j_rd, j_nc, h8.1]
    refine ⟨fun y => absurd y q, fun _ => ⟨fun _ => star (Or.inr q2) _ _ (fun m' f1 g5 g6 g8 gK => ?_), fun y => by omega⟩⟩
    exact fin0 m' Q (H m' _ _ e (PX.s43 q2) (by omega) (by omega) he f1 g5 g6 g8 gK)
end CPT
