/-! the pattern's tokens are bytes; what may follow, in the reference -/
def nB (T : Int → Int) (n p : Int) : Int := if sk T n p < n then sk T n p + 1 else sk T n p
/-- the byte at p is read -/
def atB (m : zM) (T : Int → Int) (n p : Int) : Prop := iq m 8 3 = tC T n p ∧ iq m 8 2 = tP T n p ∧ iq m 8 1 = nB T n p
theorem atB.f8 {m m' : zM} {T : Int → Int} {n p : Int} (h : atB m T n p) (h1 : m'.1 8 = m.1 8) : atB m' T n p := by
  unfold atB iq at *
  rw [h1]
  exact h
theorem nB_bd {T : Int → Int} {n p : Int} (hp : p ≤ n) : p ≤ tP T n p ∧ tP T n p ≤ n ∧ tP T n p ≤ nB T n p ∧ nB T n p ≤ n ∧ (tC T n p ≠ -1 → p < nB T n p ∧ nB T n p = tP T n p + 1) := by
  have hb := sk_bd (T := T) hp
  unfold nB tC tP
  by_cases a : sk T n p < n
  · rw [if_pos a, if_pos a]
    exact ⟨by omega, by omega, by omega, by omega, fun _ => ⟨by omega, rfl⟩⟩
  · rw [if_neg a, if_neg a]
    exact ⟨by omega, by omega, by omega, by omega, fun q => absurd rfl q⟩
theorem atB_id {T : Int → Int} {n p : Int} (hp : p ≤ n) : tC T n (tP T n p) = tC T n p ∧ tP T n (tP T n p) = tP T n p ∧ nB T n (tP T n p) = nB T n p := by
  have e := sk_id (T := T) hp
  unfold tC tP nB
  rw [e]
  exact ⟨rfl, rfl, rfl⟩
section BY
variable {d : Nat} {w : Nat × Nat × Nat} {T : Int → Int} {n : Int}
theorem c_nextB {Q : zM → Prop} {m : zM} {p : Int} (ht : tpC m T n) (hm : iq m 8 1 = p) (hp : 0 ≤ p ∧ p ≤ n) (H : ∀ m', f8 m m' → m'.2 = m.2 → atB m' T n p → Q m') : cV (d + 2) 64 [.ref 8] w m Q :=
  c_nextByte ht hm hp (fun m' f1 f2 g2 g3 g1 => H m' f1 f2 ⟨g3, g2, g1⟩)
theorem c_needsB {Q : Int32 → zM → Prop} {m : zM} {p x : Int} (ht : tpC m T n) (h8 : atB m T n p) (h0 : iq m 8 5 = 0) (hx : r32 x) (H : tC T n p = x → Q (J 1) m) (H2 : ∀ m', tC T n p ≠ x → fr [8] m m' → iq m' 8 5 = 1 → iq m' 8 6 = tP T n p → Q (J 0) m') : cI (d + 1) 66 [.ref 8, .int (J x)] w m Q := by
  have hs := tC_r (n := n) (p := p) ht.2.2.2.2
  refine S_Reader_needs ?_
  simp (disch := first | exact hx | (unfold r32; omega) | omega) only [j_lit, j_rd, j_nc, h8.1, J_eq, h0]
  refine ⟨fun z => ⟨fun z2 => absurd trivial z2, fun _ => H z⟩, fun z => ?_⟩
  refine c_refuse h0 h8.2.1 (by unfold r32; omega) (fun m' e1 e2 e3 => ?_)
  simp (disch := first | exact hx | (unfold r32; omega) | omega) only [j_lit, j_rd, j_nc, e2, J_eq]
  exact ⟨fun _ => H2 m' z e1 e2 e3, fun z => by omega⟩
/-- needs, where there is a fault already: nothing counts but that it stays -/
theorem c_needsF {Q : Int32 → zM → Prop} {m : zM} {x v : Int} (h0 : iq m 8 5 = v) (hv : v ≠ 0) (hx : r32 x) (H : Q (J 0) m) : cI (d + 1) 66 [.ref 8, .int (J x)] w m Q := by
  have hvr : r32 v := by rw [← h0]; exact iq_r _ _ _
  have h3 := iq_r m 8 3
  refine S_Reader_needs ?_
  simp (disch := first | exact hx | exact hvr | exact h3 | (unfold r32; omega) | omega) only [j_lit, j_rd, j_nc, J_eq, h0]
  refine ⟨fun _ => ⟨fun _ => H, fun z => absurd z hv⟩, fun _ => S_Reader_refuse ?_⟩
  simp (disch := first | exact hx | exact hvr | (unfold r32; omega) | omega) only [j_lit, j_rd, j_nc, J_eq, h0, j_wr]
  exact ⟨fun _ => ⟨fun _ => H, fun z => absurd z hv⟩, fun z => absurd z hv⟩
theorem c_follows_l {Q : zM → Prop} {f l z : Nat} {F : Nat → Nat} (hf : f < 4096) (hl : l < 4096) (hz : z ≤ 12) (hF : ∀ k, k < z → F k < 4096) : ∀ (j k : Nat) (m : zM), iq m 261 15 = z → k + j = z → (∀ i : Nat, i < z → iq m 267 (i : Int) = (if i < k then pp_lnk F z l f i else F i : Nat)) →
    (∀ m', fr [267] m m' → m'.2 = m.2 → (∀ i : Nat, i < z → iq m' 267 (i : Int) = (pp_lnk F z l f i : Nat)) → Q m') → W_M_follows_2 d (J (l : Int)) (J (f : Int)) (J (k : Int)) w m Q := by
  intro j
  induction j with
  | zero =>
    intro k m hm hk hI H
    refine S_M_follows_2 ?_
    simp (disch := first | (unfold r32; omega) | omega) only [j_lit, J_le, j_rd, j_nc, hm]
    refine ⟨fun _ => H m (fr.rf _ m) rfl (fun i hi => ?_), fun q => by omega⟩
    rw [hI i hi, if_pos (by omega)]
  | succ j ih =>
    intro k m hm hk hI H
    refine S_M_follows_2 ?_
    simp (disch := first | (unfold r32; omega) | omega) only [j_lit, J_le, j_rd, j_nc, hm, j_ops, J_64]
    refine ⟨fun q => by omega, fun _ => c_has hl (by omega) ⟨fun hyes => ?_, fun hno => ?_⟩⟩
    · have hv := hI k (by omega)
      rw [if_neg (by omega)] at hv
      have hFk := hF k (by omega)
      have hor := pp_or_lt hFk hf
      simp (disch := first | (unfold r32; omega) | omega) only [J_eq, vp_J, J_cl, j_rd, iq_tn, hv, J_or, j_wr, sq_tn]
      refine ⟨fun z => by omega, fun _ => ⟨by omega, by omega, ?_⟩⟩
      have f1 : fr [267] m (sq m 267 (k : Int) ((F k ||| f : Nat) : Int)) := (fr.rf _ m).si (by simp) _ _
      have := ih (k + 1) (sq m 267 (k : Int) ((F k ||| f : Nat) : Int)) (by rw [iq_sq (by omega) (by omega) (by unfold r32; omega), if_neg (by omega)]; exact hm) (by omega) (fun i hi => ?_) (fun m' g1 g2 g3 => H m' (f1.tr g1) g2 g3)
      · rw [show (((k + 1 : Nat) : Nat) : Int) = (k : Int) + 1 by omega] at this
        exact this
      · rw [iq_sq (by omega) (by omega) (by unfold r32; omega)]
        by_cases x : i = k
        · rw [x, if_pos ⟨rfl, rfl⟩, if_pos (by omega)]
          unfold pp_lnk
          rw [if_pos ⟨by omega, hyes⟩]
        · rw [if_neg (by omega), hI i hi]
          by_cases x2 : i < k
          · rw [if_pos x2, if_pos (by omega)]
          · rw [if_neg x2, if_neg (by omega)]
    · simp (disch := first | (unfold r32; omega) | omega) only [J_eq]
      refine ⟨fun _ => ?_, fun z => absurd trivial z⟩
      have := ih (k + 1) m hm (by omega) (fun i hi => ?_) H
      · rw [show (((k + 1 : Nat) : Nat) : Int) = (k : Int) + 1 by omega] at this
        exact this
      · rw [hI i hi]
        by_cases x : i = k
        · rw [x, if_neg (by omega), if_pos (by omega)]
          unfold pp_lnk
          rw [if_neg (fun z => hno z.2)]
        · by_cases x2 : i < k
          · rw [if_pos x2, if_pos (by omega)]
          · rw [if_neg x2, if_neg (by omega)]
theorem c_follows {Q : zM → Prop} {m : zM} {f l z : Nat} {F : Nat → Nat} (hf : f < 4096) (hl : l < 4096) (hm : iq m 261 15 = z) (hz : z ≤ 12) (hF : ∀ k, k < z → F k < 4096) (hI : ∀ i : Nat, i < z → iq m 267 (i : Int) = (F i : Nat))
    (H : ∀ m', fr [267] m m' → m'.2 = m.2 → (∀ i : Nat, i < z → iq m' 267 (i : Int) = (pp_lnk F z l f i : Nat)) → Q m') : cV (d + 1) 212 [.ref 261, .int (J (l : Int)), .int (J (f : Int))] w m Q := by
  refine S_M_follows ?_
  simp only [j_lit]
  exact c_follows_l hf hl hz hF z 0 m hm (by omega) (fun i hi => by rw [if_neg (by omega)]; exact hI i hi) H
end BY
