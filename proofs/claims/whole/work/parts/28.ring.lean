/-! the eight that can be come back to -/
def past (m : zM) (p : Int) : Int → Int := fun k => lq m 263 (1906 * p + k)
def RG (C : Int) (w : Nat × Nat × Nat) (m : zM) : Prop := 0 ≤ iq m 3 10 ∧ iq m 3 10 < 10 ∧ 0 ≤ iq m 3 11 ∧ iq m 3 11 ≤ 8 ∧ iq m 261 2 = iq m 3 11 ∧ w.2.1 = tb (iq m 3 10) ∧ TR C m w.2.1 (lq m 262) ∧ ∀ j, 0 ≤ j → j < iq m 3 11 → TR C m (tb ((iq m 3 10 - 1 - j) % 10)) (past m (iq m 3 11 - 1 - j))
theorem tb_bd {i : Int} (h0 : 0 ≤ i) (h1 : i < 10) : 9 ≤ tb i ∧ tb i + 21 ≤ 220 ∧ (tb i + 21 ≤ 51 ∨ 52 ≤ tb i) := by
  unfold tb
  split
  · omega
  · split
    · omega
    · omega
theorem tb_ap {i j : Int} (h0 : 0 ≤ i) (h1 : i < 10) (h2 : 0 ≤ j) (h3 : j < 10) (h : i ≠ j) : tb i + 21 ≤ tb j ∨ tb j + 21 ≤ tb i := zT_ap (tb_T h0 h1) (tb_T h2 h3) (fun q => h (tb_inj h0 h1 h2 h3 q))
/-- the rows of one slot stay -/
theorem TV.rows {m m' : zM} {b : Nat} (h : ∀ c, b ≤ c → c < b + 21 → m'.1 c = m.1 c ∧ m'.2 c = m.2 c) : TV m b m' b := by
  have hi : ∀ c z, b ≤ c → c < b + 21 → iq m' c z = iq m c z := fun c z h1 h2 => by unfold iq; rw [(h c h1 h2).1]
  have hl : ∀ c z, b ≤ c → c < b + 21 → lq m' c z = lq m c z := fun c z h1 h2 => by unfold lq; rw [(h c h1 h2).2]
  refine ⟨⟨hi _ _ (by omega) (by omega), fun k _ _ => ⟨hl _ _ (by omega) (by omega), hl _ _ (by omega) (by omega)⟩⟩, ⟨hi _ _ (by omega) (by omega), fun k _ _ => ⟨hl _ _ (by omega) (by omega), hl _ _ (by omega) (by omega)⟩⟩, ⟨hi _ _ (by omega) (by omega), hi _ _ (by omega) (by omega), fun k _ _ => ⟨hl _ _ (by omega) (by omega), hl _ _ (by omega) (by omega)⟩⟩, ⟨hi _ _ (by omega) (by omega), fun k _ _ => hi _ _ (by omega) (by omega), hi _ _ (by omega) (by omega), fun k _ _ => ⟨hl _ _ (by omega) (by omega), hi _ _ (by omega) (by omega)⟩⟩, ⟨hi _ _ (by omega) (by omega), fun k _ _ => ⟨hl _ _ (by omega) (by omega), hi _ _ (by omega) (by omega)⟩⟩, ⟨hi _ _ (by omega) (by omega), hi _ _ (by omega) (by omega), hi _ _ (by omega) (by omega), fun k _ _ => ⟨hi _ _ (by omega) (by omega), hi _ _ (by omega) (by omega)⟩⟩, ⟨fun k _ _ => hi _ _ (by omega) (by omega), hi _ _ (by omega) (by omega), hi _ _ (by omega) (by omega), hi _ _ (by omega) (by omega)⟩⟩
/-- what is told and kept stays, where its rows stay -/
theorem RG.stay {C C' : Int} {w : Nat × Nat × Nat} {m m' : zM} (h : RG C w m) (hC : C ≤ C') (e1 : iq m' 3 10 = iq m 3 10) (e2 : iq m' 3 11 = iq m 3 11) (e3 : iq m' 261 2 = iq m 261 2) (e4 : ∀ k, 0 ≤ k → k < 1906 → lq m' 262 k = lq m 262 k) (e5 : ∀ k, 0 ≤ k → k < 15248 → lq m' 263 k = lq m 263 k) {x : Nat} (hx : ∀ b, 9 ≤ b → b < 220 → b < x ∨ x + 21 ≤ b → m'.1 b = m.1 b ∧ m'.2 b = m.2 b) (hx2 : x = tb ((iq m 3 10 + 1) % 10) ∨ 220 ≤ x) (w' : Nat × Nat × Nat) (hw : w'.2.1 = w.2.1) : RG C' w' m' := by
  obtain ⟨h1, h2, h3, h4, h5, h6, h7, h8⟩ := h
  have ap : ∀ i, 0 ≤ i → i < 10 → i ≠ (iq m 3 10 + 1) % 10 → ∀ c, tb i ≤ c → c < tb i + 21 → m'.1 c = m.1 c ∧ m'.2 c = m.2 c := by
    intro i g0 g1 g2 c g3 g4
    have b1 := tb_bd g0 g1
    refine hx c (by omega) (by omega) ?_
    rcases hx2 with hx2 | hx2
    · have := tb_ap g0 g1 (j := (iq m 3 10 + 1) % 10) (by omega) (by omega) g2
      omega
    · omega
  refine ⟨by omega, by omega, by omega, by omega, by omega, by rw [e1, hw]; exact h6, ?_, fun j g0 g1 => ?_⟩
  · rw [hw]
    have := (h7.view (TV.rows (m' := m') (by rw [h6]; exact ap _ h1 h2 (by omega)))).row (N' := lq m' 262) e4
    exact this.grow hC
  · rw [e1, e2]
    rw [e2] at g1
    refine (((h8 j g0 g1).view (TV.rows (m' := m') (ap _ (by omega) (by omega) (by omega)))).row (N' := past m' _) (fun k k0 k1 => ?_)).grow hC
    exact e5 _ (by omega) (by omega)
section RI
variable {d : Nat} {w : Nat × Nat × Nat} {C : Int}
theorem c_begin {Q : Nat × Nat × Nat → zM → Prop} {m : zM} (hR : RG C w m) (H : ∀ m', fo (tb ((iq m 3 10 + 1) % 10)) 21 m m' → TR C m' (tb ((iq m 3 10 + 1) % 10)) (lq m 262) → RG C (w.1, w.2.1, tb ((iq m 3 10 + 1) % 10)) m' → Q (w.1, w.2.1, tb ((iq m 3 10 + 1) % 10)) m') : cVw (d + 3) 145 [.ref 3] w m Q := by
  have h := hR
  obtain ⟨h1, h2, h3, h4, h5, h6, h7, h8⟩ := h
  have hn : 0 ≤ (iq m 3 10 + 1) % 10 ∧ (iq m 3 10 + 1) % 10 < 10 := by omega
  have hT := tb_T hn.1 hn.2
  have hTn : zT w.2.1 := by rw [h6]; exact tb_T h1 h2
  refine S_T_beginChange ⟨by decide, ?_⟩
  simp (disch := omega) only [j_lit, j_rd, j_nc, j_ops, J_mod]
  refine c_slotAt hn.1 hn.2 ⟨zT_n hT, zT_n hT, zT_n hTn, zT_k hT, ?_⟩
  have hne : tb ((iq m 3 10 + 1) % 10) ≠ w.2.1 := by
    rw [h6]
    intro q
    have := tb_inj hn.1 hn.2 h1 h2 q
    omega
  refine c_ToldCopy hT hTn hne h7 (fun m' f v => ?_)
  have bb := tb_bd hn.1 hn.2
  have rows : ∀ b, b < 9 ∨ 220 ≤ b → m'.1 b = m.1 b ∧ m'.2 b = m.2 b := fun b hb => f b (by omega)
  have hi : ∀ b z, b < 9 ∨ 220 ≤ b → iq m' b z = iq m b z := fun b z hb => by unfold iq; rw [(rows b hb).1]
  have hl : ∀ b z, b < 9 ∨ 220 ≤ b → lq m' b z = lq m b z := fun b z hb => by unfold lq; rw [(rows b hb).2]
  refine H m' f (h7.view v) (hR.stay (Int.le_refl _) (hi _ _ (by omega)) (hi _ _ (by omega)) (hi _ _ (by omega)) (fun k _ _ => hl _ _ (by omega)) (fun k _ _ => hl _ _ (by omega)) (x := tb ((iq m 3 10 + 1) % 10)) (fun b _ _ hb => f b hb) (Or.inl rfl) _ rfl)
theorem c_min {Q : Int32 → zM → Prop} {m : zM} {a b : Int} (ha : r32 a) (hb : r32 b) (H : Q (J (if a ≤ b then a else b)) m) : cI d 292 [.int (J a), .int (J b)] w m Q := by
  refine S_JM_min ?_
  simp (disch := first | exact ha | exact hb) only [J_lt, J_le]
  refine ⟨fun q => ?_, fun q => ?_⟩
  · first | (rw [if_neg (by omega)] at H; exact H) | (rw [if_pos (by omega)] at H; exact H)
  · first | (rw [if_neg (by omega)] at H; exact H) | (rw [if_pos (by omega)] at H; exact H)
/-- what keepChange leaves -/
def kc (m : zM) : zM := sq (sq (sq m 3 10 ((iq m 3 10 + 1) % 10)) 3 11 (if iq m 3 11 + 1 ≤ 8 then iq m 3 11 + 1 else 8)) 3 14 0
theorem c_keep {Q : Nat × Nat × Nat → zM → Prop} {m : zM} (hT : zT w.2.2) (h1 : 0 ≤ iq m 3 10 ∧ iq m 3 10 < 10) (h2 : 0 ≤ iq m 3 11 ∧ iq m 3 11 ≤ 8) (H : Q (w.1, w.2.2, w.2.2) (kc m)) : cVw (d + 1) 146 [.ref 3] w m Q := by
  refine S_T_keepChange hT ⟨by decide, zT_n hT, ?_⟩
  simp (disch := omega) only [j_lit, j_rd, j_nc, j_ops, J_mod, j_wr]
  refine c_min (by unfold r32; omega) (by unfold r32; omega) ?_
  simp only [j_wr, j_nc]
  exact H
theorem kc_facts (m : zM) (h : 0 ≤ iq m 3 11 ∧ iq m 3 11 ≤ 8) : iq (kc m) 3 10 = (iq m 3 10 + 1) % 10 ∧ iq (kc m) 3 11 = (if iq m 3 11 + 1 ≤ 8 then iq m 3 11 + 1 else 8) ∧ iq (kc m) 3 14 = 0 ∧ (∀ z, 0 ≤ z → z ≠ 10 → z ≠ 11 → z ≠ 14 → iq (kc m) 3 z = iq m 3 z) ∧ (∀ b, b ≠ 3 → (kc m).1 b = m.1 b) ∧ (kc m).2 = m.2 := by
  have r1 : r32 ((iq m 3 10 + 1) % 10) := by unfold r32; omega
  have r2 : r32 (if iq m 3 11 + 1 ≤ 8 then iq m 3 11 + 1 else 8) := by unfold r32; split <;> omega
  unfold kc
  refine ⟨?_, ?_, ?_, fun z hz z1 z2 z3 => ?_, fun b hb => ?_, rfl⟩
  · rw [iq_sq (by omega) (by omega) (by unfold r32; omega), if_neg (by omega), iq_sq (by omega) (by omega) r2, if_neg (by omega), iq_sq (by omega) (by omega) r1, if_pos ⟨rfl, rfl⟩]
  · rw [iq_sq (by omega) (by omega) (by unfold r32; omega), if_neg (by omega), iq_sq (by omega) (by omega) r2, if_pos ⟨rfl, rfl⟩]
  · rw [iq_sq (by omega) (by omega) (by unfold r32; omega), if_pos ⟨rfl, rfl⟩]
  · rw [iq_sq (by omega) (by omega) (by unfold r32; omega), if_neg (by omega), iq_sq (by omega) (by omega) r2, if_neg (by omega), iq_sq (by omega) (by omega) r1, if_neg (by omega)]
  · have h1 := (fo_sq (sq (sq m 3 10 ((iq m 3 10 + 1) % 10)) 3 11 (if iq m 3 11 + 1 ≤ 8 then iq m 3 11 + 1 else 8)) 3 14 0 b (by omega)).1
    have h2 := (fo_sq (sq m 3 10 ((iq m 3 10 + 1) % 10)) 3 11 (if iq m 3 11 + 1 ≤ 8 then iq m 3 11 + 1 else 8) b (by omega)).1
    have h3 := (fo_sq m 3 10 ((iq m 3 10 + 1) % 10) b (by omega)).1
    exact h1.trans (h2.trans h3)
end RI
