/-! what the class asks of a token -/
def kl (l : List Int) : Int := if l.length = 1 ∧ (l.getD 0 0 = 1 ∨ l.getD 0 0 = 4 ∨ l.getD 0 0 = 14 ∨ l.getD 0 0 = 15 ∨ l.getD 0 0 = 16 ∨ l.getD 0 0 = 22) then l.getD 0 0 + 96 else 0
def kb (c : Int) : Int := if c = 97 then 1 else if c = 100 then 4 else if c = 110 then 0 else if c = 111 then 5 else if c = 112 then 3 else if c = 118 then 2 else -1
def kn (l : List Int) : Int := if l.length = 1 then kb (l.getD 0 0 + 96) else -1
theorem kb_kr {c : Int} (h : kb c ≠ -1) : kr c (kb c) := by
  unfold kb at h ⊢
  unfold kr
  split
  · omega
  · rename_i a1
    rw [if_neg a1] at h
    split
    · omega
    · rename_i a2
      rw [if_neg a2] at h
      split
      · omega
      · rename_i a3
        rw [if_neg a3] at h
        split
        · omega
        · rename_i a4
          rw [if_neg a4] at h
          split
          · omega
          · rename_i a5
            rw [if_neg a5] at h
            split
            · omega
            · rename_i a6
              rw [if_neg a6] at h
              exact absurd rfl h
theorem kb_no {c : Int} : (c = 97 ∨ c = 100 ∨ c = 110 ∨ c = 111 ∨ c = 112 ∨ c = 118) ↔ kb c ≠ -1 := by
  unfold kb
  constructor
  · rintro (h | h | h | h | h | h) <;> rw [h] <;> decide
  · intro h
    by_cases a : c = 97 ∨ c = 100 ∨ c = 110 ∨ c = 111 ∨ c = 112 ∨ c = 118
    · exact a
    · rw [if_neg (by omega), if_neg (by omega), if_neg (by omega), if_neg (by omega), if_neg (by omega), if_neg (by omega)] at h
      exact absurd rfl h
theorem kl_kn (l : List Int) : (kl l = 0 → kn l = -1) ∧ (kl l ≠ 0 → kn l ≠ -1 ∧ kr (kl l) (kn l)) := by
  by_cases a : l.length = 1
  · have e2 : kn l = kb (l.getD 0 0 + 96) := if_pos a
    by_cases b : l.getD 0 0 = 1 ∨ l.getD 0 0 = 4 ∨ l.getD 0 0 = 14 ∨ l.getD 0 0 = 15 ∨ l.getD 0 0 = 16 ∨ l.getD 0 0 = 22
    · have e1 : kl l = l.getD 0 0 + 96 := if_pos ⟨a, b⟩
      have e3 := (kb_no (c := l.getD 0 0 + 96)).mp (by omega)
      rw [e1, e2]
      exact ⟨fun z => by omega, fun _ => ⟨e3, kb_kr e3⟩⟩
    · have e1 : kl l = 0 := if_neg (fun z => b z.2)
      rw [e1, e2]
      refine ⟨fun _ => ?_, fun z => absurd rfl z⟩
      by_cases z : kb (l.getD 0 0 + 96) = -1
      · exact z
      · have := kb_no.mpr z
        omega
  · have e1 : kl l = 0 := if_neg (fun z => a z.1)
    have e2 : kn l = -1 := if_neg a
    rw [e1, e2]
    exact ⟨fun _ => rfl, fun z => absurd rfl z⟩
theorem at8.f8 {m m' : zM} {T : Int → Int} {n p : Int} (h : at8 m T n p) (h1 : m'.1 8 = m.1 8) (h2 : m'.2 8 = m.2 8) : at8 m' T n p := by
  unfold at8 iq lq at *
  rw [h1, h2]
  exact h
theorem f8.fr {m m' : zM} (h : f8 m m') : fr [8] m m' := fun b hb => h.1 b (fun e => hb (by rw [e]; exact List.mem_cons_self ..))
section ND
variable {d : Nat} {w : Nat × Nat × Nat} {T : Int → Int} {n : Int}
theorem c_refuse {Q : zM → Prop} {m : zM} {x y : Int} (h0 : iq m 8 5 = 0) (h2 : iq m 8 2 = y) (hx : r32 x) (H : ∀ m', fr [8] m m' → iq m' 8 5 = x → iq m' 8 6 = y → Q m') : cV d 63 [.ref 8, .int (J x)] w m Q := by
  have hy : r32 y := by rw [← h2]; exact iq_r _ _ _
  refine S_Reader_refuse ?_
  simp (disch := first | (unfold r32; omega) | omega) only [j_lit, j_rd, j_nc, j_wr, h0, h2]
  refine ⟨fun z => absurd trivial z, fun _ => H _ (((fr.rf [8] m).si (by decide) 5 x).si (by decide) 6 y) ?_ ?_⟩
  · rw [iq_sq (by omega) (by omega) hy, if_neg (by omega), iq_sq (by omega) (by omega) hx, if_pos ⟨rfl, rfl⟩]
  · rw [iq_sq (by omega) (by omega) hy, if_pos ⟨rfl, rfl⟩]
theorem tS_r {p : Int} (hT : ∀ i, 0 ≤ T i ∧ T i < 256) : -3 ≤ tS T n p ∧ tS T n p < 256 := by
  have := hT (sk T n p)
  unfold tS
  split
  · omega
  · split
    · split <;> omega
    · omega
theorem c_needs {Q : Int32 → zM → Prop} {m : zM} {p x : Int} (ht : tpC m T n) (h8 : at8 m T n p) (h0 : iq m 8 5 = 0) (hx : r32 x) (H : tS T n p = x → Q (J 1) m) (H2 : ∀ m', tS T n p ≠ x → fr [8] m m' → iq m' 8 5 = 1 → iq m' 8 6 = tP T n p → Q (J 0) m') : cI (d + 1) 66 [.ref 8, .int (J x)] w m Q := by
  have hs := tS_r (n := n) (p := p) ht.2.2.2.2
  refine S_Reader_needs ?_
  simp (disch := first | exact hx | (unfold r32; omega) | omega) only [j_lit, j_rd, j_nc, h8.1, J_eq, h0]
  refine ⟨fun z => ⟨fun z2 => absurd trivial z2, fun _ => H z⟩, fun z => ?_⟩
  refine c_refuse h0 h8.2.1 (by unfold r32; omega) (fun m' e1 e2 e3 => ?_)
  simp (disch := first | exact hx | (unfold r32; omega) | omega) only [j_lit, j_rd, j_nc, e2, J_eq]
  exact ⟨fun _ => H2 m' z e1 e2 e3, fun z => by omega⟩
theorem c_passes {Q : Int32 → zM → Prop} {m : zM} {p x : Int} (ht : tpC m T n) (h8 : at8 m T n p) (h0 : iq m 8 5 = 0) (hp : 0 ≤ p ∧ p ≤ n) (hx : r32 x) (H : ∀ m', tS T n p = x → f8 m m' → at8 m' T n (tB T n p) → Q (J 1) m') (H2 : ∀ m', tS T n p ≠ x → fr [8] m m' → iq m' 8 5 = 1 → iq m' 8 6 = tP T n p → Q (J 0) m') : cI (d + 4) 67 [.ref 8, .int (J x)] w m Q := by
  have hk := tok_bd (T := T) hp.2
  refine S_Reader_passes ?_
  refine c_needs ht h8 h0 hx (fun e => ?_) (fun m' e1 e2 e3 e4 => ?_)
  · simp (disch := first | (unfold r32; omega) | omega) only [j_lit, J_eq]
    exact ⟨fun _ => c_next ht h8.2.2.1 (by omega) (fun m' e1 e2 => H m' e e1 e2), fun z => by omega⟩
  · simp (disch := first | (unfold r32; omega) | omega) only [j_lit, J_eq]
    exact ⟨fun z => absurd trivial z, fun _ => H2 m' e1 e2 e3 e4⟩
theorem c_isKind {Q : Int32 → zM → Prop} {m : zM} {c : Int} (hc : 0 ≤ c ∧ c < 256) (H : Q (J (if kb c ≠ -1 ∨ c = 120 then 1 else 0)) m) : cI d 69 [.int (J c)] w m Q := by
  have hk := kb_no (c := c)
  refine S_Reader_isKind ?_
  simp (disch := first | (unfold r32; omega) | omega) only [j_lit, J_eq]
  have yes : (c = 97 ∨ c = 100 ∨ c = 110 ∨ c = 111 ∨ c = 112 ∨ c = 118 ∨ c = 120) → Q (J 1) m := by
    intro z
    by_cases a : c = 120
    · rw [if_pos (Or.inr a)] at H; exact H
    · rw [if_pos (Or.inl (hk.mp (by omega)))] at H; exact H
  have no : ¬ (c = 97 ∨ c = 100 ∨ c = 110 ∨ c = 111 ∨ c = 112 ∨ c = 118 ∨ c = 120) → Q (J 0) m := by
    intro z
    rw [if_neg (fun y => by rcases y with y | y; · have := hk.mpr y; omega
                            · omega)] at H
    exact H
  repeat' (first | exact yes (by omega) | exact no (by omega) | (refine ⟨fun _ => ?_, fun _ => ?_⟩))
theorem c_kindHere {Q : Int32 → zM → Prop} {m : zM} {p : Int} (ht : tpC m T n) (h8 : at8 m T n p) (hp : 0 ≤ p ∧ p ≤ n) (H : Q (J (if tS T n p = -2 then kl (tL T n p) else 0)) m) : cI (d + 3) 68 [.ref 8] w m Q := by
  have hs := tS_r (n := n) (p := p) ht.2.2.2.2
  refine S_Reader_kindHere ?_
  simp (disch := first | (unfold r32; omega) | omega) only [j_lit, j_rd, jl_rd, j_nc, h8.1, J_eq, j_ops]
  refine ⟨fun z => ?_, fun z => ?_⟩
  · rw [if_neg z] at H; exact H
  · rw [if_pos z] at H
    obtain ⟨hw, _⟩ := tL_wd hp.2 z ht.2.2.2.2
    have hwr := h8.2.2.2 z
    have hl := hw.1
    rw [hwr]
    refine c_lettersOf hw ?_
    simp (disch := first | (unfold r32; omega) | omega) only [J_eq, jl_rd, j_nc, hwr]
    refine ⟨fun a => ?_, fun a => ?_⟩
    · refine c_letterAt (d := d + 1) hw (by omega) (by unfold r32; omega) ?_
      have hg := getD_bd hw 0
      rw [show (0 : Int).toNat = 0 from rfl]
      generalize hx : (tL T n p).getD 0 0 = x at *
      rw [j_ops.1]
      refine c_isKind (by omega) ?_
      have hk := kb_no (c := 96 + x)
      have ek : kl (tL T n p) = if x = 1 ∨ x = 4 ∨ x = 14 ∨ x = 15 ∨ x = 16 ∨ x = 22 then x + 96 else 0 := by
        unfold kl
        rw [hx]
        by_cases b : x = 1 ∨ x = 4 ∨ x = 14 ∨ x = 15 ∨ x = 16 ∨ x = 22
        · rw [if_pos b, if_pos ⟨by omega, b⟩]
        · rw [if_neg b, if_neg (fun z => b z.2)]
      rw [ek] at H
      by_cases b : x = 1 ∨ x = 4 ∨ x = 14 ∨ x = 15 ∨ x = 16 ∨ x = 22
      · rw [if_pos b] at H
        rw [if_pos (Or.inl (hk.mp (by omega)))]
        simp (disch := first | (unfold r32; omega) | omega) only [J_eq]
        refine ⟨fun y => by omega, fun _ => ⟨fun y => by omega, fun _ => ?_⟩⟩
        rw [show 96 + x = x + 96 by omega]
        exact H
      · rw [if_neg b] at H
        by_cases c : 96 + x = 120
        · rw [if_pos (Or.inr c)]
          simp (disch := first | (unfold r32; omega) | omega) only [J_eq]
          exact ⟨fun y => by omega, fun _ => ⟨fun _ => H, fun y => absurd c y⟩⟩
        · rw [if_neg (fun y => by rcases y with y | y; · have := hk.mpr y; omega
                                  · exact c y)]
          simp (disch := first | (unfold r32; omega) | omega) only [J_eq]
          exact ⟨fun _ => H, fun y => absurd trivial y⟩
    · rw [show kl (tL T n p) = 0 from if_neg (fun z => by omega)] at H
      exact H
end ND
