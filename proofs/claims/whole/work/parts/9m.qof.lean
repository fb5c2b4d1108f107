/-! of: both sides -/
def dI (N : Int → Int) (t a : Int) : Prop := ∃ m, 0 ≤ m ∧ m < Mn N ∧ pkm N m = tr N t ∧ dcN N (mk N m) = a
/-- a sentence begins -/
def sbg (N : Int → Int) (a j : Int) : Prop := j = 0 ∨ N (669 + (N (260 + a) + j)) ≠ N (669 + (N (260 + a) + j - 1))
noncomputable def ores (N : Int → Int) (a c : Int) : Int := if 0 ≤ a ∧ a < N 259 then (if c = 0 then N (261 + a) - N (260 + a) else if c = 1 then cnt (sbg N a) (N (261 + a) - N (260 + a)).toNat else if c = 2 then cnt (fun m => dcN N (mk N m) = a) (Mn N).toNat else if c = 3 then cnt (fun t => dI N t a) (Zn N).toNat else -1) else -1
theorem bit_dec : ∀ V : Fin 256, ∀ a : Fin 8, V.val / 2 ^ a.val &&& 1 = if V.val.testBit a.val = true then 1 else 0 := by decide +kernel
theorem J_bitAt {V a : Nat} (hV : V < 256) (ha : a < 8) : J ((V : Int) / 2 ^ a) &&& J 1 = J (bi (V.testBit a = true)) := by
  have e : (V : Int) / 2 ^ a = ((V / 2 ^ a : Nat) : Int) := by
    rw [Int.natCast_ediv]
    congr 1
  have hle : V / 2 ^ a ≤ V := Nat.div_le_self _ _
  have h1 : J 1 = J ((1 : Nat) : Int) := rfl
  rw [e, h1, J_and (by omega) (by decide), bit_dec ⟨V, hV⟩ ⟨a, ha⟩]
  show J (((if V.testBit a = true then 1 else 0 : Nat)) : Int) = _
  by_cases g : V.testBit a = true
  · rw [if_pos g, bi_1 g]; rfl
  · rw [if_neg g, bi_0 g]; rfl
section QOF
variable {d : Nat} {w : Nat × Nat × Nat} {C : Int} {N : Int → Int} {mv : zM} {b : Nat}
theorem sn_in (h : TR C mv b N) {a j : Int} (ha : 0 ≤ a ∧ a < N 259) (hj : 0 < j ∧ j < N (261 + a) - N (260 + a)) : sn N (N (260 + a) + j - 1) (N (260 + a) + j) ↔ ¬ sbg N a j := by
  have hD := h.2.2.2.1
  have b1 := trD_r hD (dc := a) (by omega) (by omega)
  have b2 := trD_m hD (e := a + 1) (dc := N 259) (by omega) (by omega) (by omega)
  rw [show 260 + (a + 1) = 261 + a by omega] at b2
  have eW : N (260 + N 259) = wW N := rfl
  have e1 : dcN N (N (260 + a) + j - 1) = a := dc_is hD ⟨ha.1, ha.2, by omega, by omega⟩
  have e2 : dcN N (N (260 + a) + j) = a := dc_is hD ⟨ha.1, ha.2, by omega, by omega⟩
  have hs := sd_dc h (i := N (260 + a) + j - 1) (j := N (260 + a) + j) (by omega) (by omega) (by omega)
  constructor
  · intro z g
    rcases g with g | g
    · omega
    · exact g z.1.symm
  · intro g
    refine ⟨?_, hs.mpr (e1.trans e2.symm)⟩
    refine Classical.byContradiction (fun q => g (Or.inr (fun y => q y.symm)))
theorem c_docSent {Q : Int32 → zM → Prop} {m : zM} {a : Int} (hb : zT b) (h : TR C m b N) (ha : 0 ≤ a ∧ a < N 259) (H : Q (J (cnt (sbg N a) (N (261 + a) - N (260 + a)).toNat)) m) : cI (d + 2) 111 [.ref b, .int (J a)] w m Q := by
  have hD := h.2.2.2.1
  have d8 := hD.2.1
  have b1 := trD_r hD (dc := a) (by omega) (by omega)
  have b2 := trD_m hD (e := a + 1) (dc := N 259) (by omega) (by omega) (by omega)
  have b3 := (hD.2.2.2.2.1 a ha.1 ha.2)
  rw [show 260 + (a + 1) = 261 + a by omega] at b2
  have eW : N (260 + N 259) = wW N := rfl
  have hW := h.words
  refine S_Told_docSentences hb (c_docFirst hb hD ha.1 (by omega) ?_)
  simp only [j_lit]
  have key : ∀ (z : Nat) (j : Int), 0 ≤ j → j + z = N (261 + a) - N (260 + a) → W_Told_docSentences_8 (d + 1) b (J a) (J (N (260 + a))) (J (cnt (sbg N a) j.toNat)) (J (N (260 + a) + j)) w m Q := by
    intro z
    induction z with
    | zero =>
      intro j j0 hz
      refine S_Told_docSentences_8 hb (c_at (n := 8) (by rcases hb with rfl | rfl | rfl | rfl | rfl | rfl | rfl | rfl | rfl | rfl <;> rfl) (by decide) (by unfold r32; omega) (by omega) ?_)
      rw [b3.2]
      simp (disch := first | (unfold r32; omega) | omega) only [J_le]
      rw [show N (261 + a) - N (260 + a) = j by omega] at H
      exact ⟨fun _ => H, fun q => by omega⟩
    | succ z ih =>
      intro j j0 hz
      have nx1 : sbg N a j → W_Told_docSentences_8 (d + 1) b (J a) (J (N (260 + a))) (J (cnt (sbg N a) j.toNat + 1)) (J (N (260 + a) + j + 1)) w m Q := fun g => by
        have := ih (j + 1) (by omega) (by omega)
        rw [cnt_z _ j0, bi_1 g, ← Int.add_assoc] at this
        exact this
      have nx0 : ¬ sbg N a j → W_Told_docSentences_8 (d + 1) b (J a) (J (N (260 + a))) (J (cnt (sbg N a) j.toNat)) (J (N (260 + a) + j + 1)) w m Q := fun g => by
        have := ih (j + 1) (by omega) (by omega)
        rw [cnt_z _ j0, bi_0 g, ← Int.add_assoc, Int.add_zero] at this
        exact this
      refine S_Told_docSentences_8 hb (c_at (n := 8) (by rcases hb with rfl | rfl | rfl | rfl | rfl | rfl | rfl | rfl | rfl | rfl <;> rfl) (by decide) (by unfold r32; omega) (by omega) ?_)
      rw [b3.2]
      simp (disch := first | (unfold r32; omega) | omega) only [j_lit, j_ops, J_le, J_eq]
      refine ⟨fun q => by omega, fun _ => ⟨fun q => by omega, fun _ => ⟨fun q => nx1 (Or.inl (by omega)), fun q => c_one1 (d := d) hb h (by unfold r32; omega) (by unfold r32; omega) (by omega) (fun _ _ g => ?_) (fun g => ?_)⟩⟩⟩
      · simp (disch := first | (unfold r32; omega) | omega) only [j_lit, j_ops, J_eq]
        exact ⟨fun _ => nx0 ((sn_in h ha ⟨by omega, by omega⟩).mp g), fun y => by first | omega | exact absurd y (by simp)⟩
      · simp (disch := first | (unfold r32; omega) | omega) only [j_lit, j_ops, J_eq]
        refine ⟨fun y => absurd trivial y, fun _ => nx1 (Classical.byContradiction (fun y => g ⟨by omega, by omega, (sn_in h ha ⟨by omega, by omega⟩).mpr y⟩))⟩
  have := key (N (261 + a) - N (260 + a)).toNat 0 (by omega) (by omega)
  rw [Int.add_zero] at this
  exact this
theorem dc_mk (h : TR C mv b N) {a i : Int} (ha : 0 ≤ a ∧ a < N 259) (i0 : 0 ≤ i) (i1 : i < wW N) : dcN N i = a ↔ N (260 + a) ≤ i ∧ i < N (261 + a) := by
  have hD := h.2.2.2.1
  constructor
  · intro e
    have := dc_ex hD i0 i1
    rw [e] at this
    exact ⟨this.2.2.1, this.2.2.2⟩
  · intro g
    exact dc_is hD ⟨ha.1, ha.2, g.1, g.2⟩
theorem c_starting {Q : Int32 → zM → Prop} {m : zM} {a : Int} (h : TR C mv b N) (hF : MF N m) (ha : 0 ≤ a ∧ a < N 259) (H : Q (J (cnt (fun x => dcN N (mk N x) = a) (Mn N).toNat)) m) : cI (d + 1) 15 [.ref 228, .int (J (N (260 + a))), .int (J (N (261 + a)))] w m Q := by
  have hM := Mn_b h
  have hW := h.words
  have hD := h.2.2.2.1
  have d8 := hD.2.1
  have b1 := trD_r hD (dc := a) (by omega) (by omega)
  have b2 := trD_r hD (dc := a + 1) (by omega) (by omega)
  rw [show 260 + (a + 1) = 261 + a by omega] at b2
  refine S_Matches_startingIn ?_
  simp only [j_lit]
  have key : ∀ (z : Nat) (x : Int), 0 ≤ x → x + z = Mn N → W_Matches_startingIn_4 d (J (N (260 + a))) (J (N (261 + a))) (J (cnt (fun x => dcN N (mk N x) = a) x.toNat)) (J x) w m Q := by
    intro z
    induction z with
    | zero =>
      intro x x0 hz
      refine S_Matches_startingIn_4 ?_
      simp (disch := first | (unfold r32; omega) | omega) only [j_lit, j_ops, j_rd, j_nc, hF.1, J_le]
      rw [show Mn N = x by omega] at H
      exact ⟨fun _ => H, fun q => by omega⟩
    | succ z ih =>
      intro x x0 hz
      have bd := mk_bd h x0 (by omega : x < Mn N)
      have eq := dc_mk h ha bd.1 (by omega : mk N x < wW N)
      have e31 := (hF.2 x x0 (by omega)).1
      refine S_Matches_startingIn_4 ?_
      simp (disch := first | (unfold r32; omega) | omega) only [j_lit, j_ops, j_rd, j_nc, hF.1, J_le]
      refine ⟨fun q => by omega, fun _ => c_at (n := 1200) rfl (by decide) (by unfold r32; omega) (by omega) ?_⟩
      rw [e31]
      have nx0 : ¬ (N (260 + a) ≤ mk N x ∧ mk N x < N (261 + a)) → W_Matches_startingIn_4 d (J (N (260 + a))) (J (N (261 + a))) (J (cnt (fun x => dcN N (mk N x) = a) x.toNat)) (J (x + 1)) w m Q := fun g => by
        have := ih (x + 1) (by omega) (by omega)
        rw [cnt_z _ x0, bi_0 (fun y => g (eq.mp y)), Int.add_zero] at this
        exact this
      simp (disch := first | (unfold r32; omega) | omega) only [J_lt]
      refine ⟨fun q => nx0 (by omega), fun q => c_at (n := 1200) rfl (by decide) (by unfold r32; omega) (by omega) ?_⟩
      rw [e31]
      simp (disch := first | (unfold r32; omega) | omega) only [J_le]
      refine ⟨fun q2 => nx0 (by omega), fun q2 => ?_⟩
      have := ih (x + 1) (by omega) (by omega)
      rw [cnt_z _ x0, bi_1 (eq.mpr ⟨by omega, by omega⟩)] at this
      exact this
  exact key (Mn N).toNat 0 (by omega) (by omega)
theorem c_inDoc {Q : Int32 → zM → Prop} {m : zM} {a : Int} (h : TR C mv b N) (hT : DT0 m N) (ha : 0 ≤ a ∧ a < N 259) (H : Q (J (cnt (fun t => dI N t a) (Zn N).toNat)) m) : cI (d + 1) 92 [.ref 237, .int (J a)] w m Q := by
  have hM := Mn_b h
  have hZ := Zn_b h
  have d8 := h.2.2.2.1.2.1
  refine S_Terms_inDoc ?_
  simp only [j_lit]
  have key : ∀ (z : Nat) (x : Int), 0 ≤ x → x + z = Zn N → W_Terms_inDoc_4 d (J a) (J (cnt (fun t => dI N t a) x.toNat)) (J x) w m Q := by
    intro z
    induction z with
    | zero =>
      intro x x0 hz
      refine S_Terms_inDoc_4 ?_
      simp (disch := first | (unfold r32; omega) | omega) only [j_lit, j_ops, j_rd, j_nc, hT.1, J_le]
      rw [show Zn N = x by omega] at H
      exact ⟨fun _ => H, fun q => by omega⟩
    | succ z ih =>
      intro x x0 hz
      obtain ⟨V, v1, v2, v3⟩ := (hT.2.1 x x0 (by omega)).2.2.2.2.1
      have hbit := v3 a.toNat
      rw [show ((a.toNat : Nat) : Int) = a by omega] at hbit
      refine S_Terms_inDoc_4 ?_
      simp (disch := first | (unfold r32; omega) | omega) only [j_lit, j_ops, j_rd, j_nc, hT.1, J_le]
      refine ⟨fun q => by omega, fun _ => c_at (n := 1200) rfl (by decide) (by unfold r32; omega) (by omega) ?_⟩
      rw [v1, J_ushr' (by omega) (by omega) ha.1 (by omega), J_bitAt v2 (by omega), j_ops.1]
      have := ih (x + 1) (by omega) (by omega)
      rw [cnt_z _ x0, show bi (dI N x a) = bi (V.testBit a.toNat = true) from bi_congr hbit.symm] at this
      exact this
  exact key (Zn N).toNat 0 (by omega) (by omega)
theorem c_ofQ {Q : Int32 → zM → Prop} {m : zM} {a c : Int} (ra : r32 a) (rc : r32 c) (hI : IVN C w m N) (H : ∀ m', IVN C w m' N → Q (J (ores N a c)) m') : cI (d + 9) 125 [.ref 3, .int (J a), .int (J c)] w m Q := by
  have hb := hI.zT
  have hT := hI.2.2.2.2.1
  have hD := hT.2.2.2.1
  have e9 := hD.2.2.1
  have d8 := hD.2.1
  have d0 := hD.1
  have no : ¬ (0 ≤ a ∧ a < N 259) → Q (J (-1)) m := fun q => by have := H m hI; unfold ores at this; rw [if_neg q] at this; exact this
  refine S_T_of hb ?_
  simp (disch := first | exact ra | exact rc | (unfold r32; omega) | omega) only [j_lit, j_ops, J_eq, J_lt, j_rd, j_nc, e9]
  refine ⟨fun q => no (by omega), fun q => ⟨fun q1 => ?_, fun q1 => no (by omega)⟩⟩
  have ha : 0 ≤ a ∧ a < N 259 := ⟨by omega, q1⟩
  have U : ores N a c = (if c = 0 then N (261 + a) - N (260 + a) else if c = 1 then cnt (sbg N a) (N (261 + a) - N (260 + a)).toNat else if c = 2 then cnt (fun m => dcN N (mk N m) = a) (Mn N).toNat else if c = 3 then cnt (fun t => dI N t a) (Zn N).toNat else -1) := by
    unfold ores; rw [if_pos ha]
  have fin : ∀ v m', IVN C w m' N → ores N a c = v → Q (J v) m' := fun v m' h e => by rw [← e]; exact H m' h
  refine ⟨fun z => c_docSize (d := d + 6) hb hD ha.1 ha.2 (fin _ m hI (by rw [U, if_pos z])), fun z => ⟨fun z1 => c_docSent (d := d + 6) hb hT ha (fin _ m hI (by rw [U, if_neg z, if_pos z1])), fun z1 => ⟨fun z2 => ?_, fun z2 => ⟨fun z3 => ?_, fun z3 => fin _ m hI (by rw [U, if_neg z, if_neg z1, if_neg z2, if_neg z3])⟩⟩⟩⟩
  · refine c_Ldraw (d := d) hI (fun m1 hI1 g hd hk h61 => ?_)
    have hT1 := hI1.2.2.2.2.1
    have hD1 := hT1.2.2.2.1
    refine c_docFirst (d := d + 7) hb hD1 ha.1 (by omega) (c_docFirst (d := d + 7) hb hD1 ha.1 (by omega) (c_docSize (d := d + 6) hb hD1 ha.1 ha.2 ?_))
    rw [j_ops.1, show N (260 + a) + (N (261 + a) - N (260 + a)) = N (261 + a) by omega]
    exact c_starting (d := d + 7) hT1 hd.2.1.1 ha (fin _ m1 hI1 (by rw [U, if_neg z, if_neg z1, if_pos z2]))
  · refine c_Ldraw (d := d) hI (fun m1 hI1 g hd hk h61 => ?_)
    exact c_inDoc (d := d + 7) hI1.2.2.2.2.1 hd.2.2.1 ha (fin _ m1 hI1 (by rw [U, if_neg z, if_neg z1, if_neg z2, if_pos z3]))
end QOF
