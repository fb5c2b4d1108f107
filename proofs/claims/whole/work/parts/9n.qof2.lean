/-! of: the reference, both -/
section QO2
variable {d : Nat} {w : Nat × Nat × Nat} {C : Int} {N : Int → Int} {mv : zM} {b : Nat}
theorem c_one01 {Q : Int32 → zM → Prop} {m : zM} {v : Int} (hv : v = 0 ∨ v = 1) (H : Q (J v) m) : cI d 182 [.int (J v)] w m Q := by
  refine S_M_one ?_
  rcases hv with rfl | rfl
  · simp (disch := first | (unfold r32; omega) | omega) only [j_lit, j_ops, J_eq]
    exact ⟨fun _ => H, fun y => absurd trivial y⟩
  · simp (disch := first | (unfold r32; omega) | omega) only [j_lit, j_ops, J_eq]
    exact ⟨fun y => by first | omega | exact absurd y (by simp), fun _ => H⟩
theorem c_Mof45 {Q : Int32 → zM → Prop} {m : zM} {a : Int} (h : TR C mv b N) (hR : rowM m N) (ha : 0 ≤ a ∧ a < N 259) (H : Q (J (cnt (sbg N a) (N (261 + a) - N (260 + a)).toNat)) m) : W_M_of_45 d (J (N (260 + a))) (J (N (261 + a))) (J 0) (J (N (260 + a))) w m Q := by
  have hD := h.2.2.2.1
  have d8 := hD.2.1
  have b1 := trD_r hD (dc := a) (by omega) (by omega)
  have b2 := trD_m hD (e := a + 1) (dc := N 259) (by omega) (by omega) (by omega)
  have b3 := (hD.2.2.2.2.1 a ha.1 ha.2).1
  rw [show 260 + (a + 1) = 261 + a by omega] at b2
  have eW : N (260 + N 259) = wW N := rfl
  have hW := h.words
  have key : ∀ (z : Nat) (j : Int), 0 ≤ j → j + z = N (261 + a) - N (260 + a) → W_M_of_45 d (J (N (260 + a))) (J (N (261 + a))) (J (cnt (sbg N a) j.toNat)) (J (N (260 + a) + j)) w m Q := by
    intro z
    induction z with
    | zero =>
      intro j j0 hz
      refine S_M_of_45 ?_
      simp (disch := first | (unfold r32; omega) | omega) only [J_le]
      rw [show N (261 + a) - N (260 + a) = j by omega] at H
      exact ⟨fun _ => H, fun q => by omega⟩
    | succ z ih =>
      intro j j0 hz
      have nx1 : sbg N a j → W_M_of_45 d (J (N (260 + a))) (J (N (261 + a))) (J (cnt (sbg N a) j.toNat + 1)) (J (N (260 + a) + j + 1)) w m Q := fun g => by
        have := ih (j + 1) (by omega) (by omega)
        rw [cnt_z _ j0, bi_1 g, ← Int.add_assoc] at this
        exact this
      have nx0 : ¬ sbg N a j → W_M_of_45 d (J (N (260 + a))) (J (N (261 + a))) (J (cnt (sbg N a) j.toNat + 0)) (J (N (260 + a) + j + 1)) w m Q := fun g => by
        have := ih (j + 1) (by omega) (by omega)
        rw [cnt_z _ j0, bi_0 g, ← Int.add_assoc] at this
        exact this
      have q1 := (hD.2.2.2.2.2.2.2.1 (N (260 + a) + j) (by omega) (by omega)).2.2.2
      have r1 := hR (669 + (N (260 + a) + j)) (by omega) (by omega)
      refine S_M_of_45 ?_
      by_cases hj : j = 0
      · simp (disch := first | (unfold r32; omega) | omega) only [j_lit, j_ops, J_le, J_eq]
        refine ⟨fun q => by omega, fun _ => ⟨fun q => c_one01 (Or.inr rfl) ?_, fun q => by omega⟩⟩
        rw [j_ops.1]
        exact nx1 (Or.inl hj)
      · have q2 := (hD.2.2.2.2.2.2.2.1 (N (260 + a) + j - 1) (by omega) (by omega)).2.2.2
        have r2 := hR (669 + (N (260 + a) + j) - 1) (by omega) (by omega)
        have e2 : N (669 + (N (260 + a) + j) - 1) = N (669 + (N (260 + a) + j - 1)) := by rw [show 669 + (N (260 + a) + j) - 1 = 669 + (N (260 + a) + j - 1) by omega]
        rw [e2] at r2
        simp (disch := first | (unfold r32; omega) | (unfold r64; omega) | omega) only [j_lit, j_ops, J_le, J_eq, vp_J, J_cl, jl_rd, lq_tn, r1, r2, JL_eq]
        refine ⟨fun q => by omega, fun _ => ⟨fun q => by omega, fun q => ⟨by omega, by omega, fun q3 => c_one01 (Or.inl rfl) ?_, fun q3 => c_one01 (Or.inr rfl) ?_⟩⟩⟩
        · rw [j_ops.1]
          exact nx0 (fun z => by
            rcases z with z | z
            · exact hj z
            · exact z q3)
        · rw [j_ops.1]
          exact nx1 (Or.inr q3)
  have := key (N (261 + a) - N (260 + a)).toNat 0 (by omega) (by omega)
  rw [Int.add_zero] at this
  exact this
theorem c_Mof106 {Q : Int32 → zM → Prop} {m : zM} {a : Int} (h : TR C mv b N) (hM : MRF N m) (hC : DMC N m) (ha : 0 ≤ a ∧ a < N 259) (H : Q (J (cnt (fun t => dI N t a) (Zn N).toNat)) m) : W_M_of_106 d (J a) (J 3) (J 0) (J 0) w m Q := by
  have hMb := Mn_b h
  have hZ := Zn_b h
  have d8 := h.2.2.2.1.2.1
  have key : ∀ (z : Nat) (x : Int), 0 ≤ x → x + z = Zn N → W_M_of_106 d (J a) (J 3) (J (cnt (fun t => dI N t a) x.toNat)) (J x) w m Q := by
    intro z
    induction z with
    | zero =>
      intro x x0 hz
      refine S_M_of_106 ?_
      simp (disch := first | (unfold r32; omega) | omega) only [j_lit, j_ops, j_rd, j_nc, hM.2.1, J_le]
      rw [show Zn N = x by omega] at H
      exact ⟨fun _ => H, fun q => by omega⟩
    | succ z ih =>
      intro x x0 hz
      obtain ⟨V, v1, v2, v3⟩ := (hC.2 x x0 (by omega)).2.2.1
      have hbit := v3 a.toNat
      rw [show ((a.toNat : Nat) : Int) = a by omega] at hbit
      have hs := J_sar' (a := (V : Int)) (by unfold r32; omega) ha.1 (by omega : a < 32)
      have hba := J_bitAt v2 (by omega : a.toNat < 8)
      refine S_M_of_106 ?_
      simp (disch := first | (unfold r32; omega) | omega) only [j_lit, j_ops, j_rd, j_nc, hM.2.1, J_le, J_eq, vp_J, J_cl, iq_tn, v1, hs, hba]
      refine ⟨fun q => by omega, fun _ => ⟨fun q => by first | omega | exact absurd trivial q, fun _ => ⟨by omega, ?_⟩⟩⟩
      have := ih (x + 1) (by omega) (by omega)
      rw [cnt_z _ x0, show bi (dI N x a) = bi (V.testBit a.toNat = true) from bi_congr hbit.symm] at this
      exact this
  exact key (Zn N).toNat 0 (by omega) (by omega)
theorem c_Mof79 {Q : Int32 → zM → Prop} {m : zM} {a : Int} (h : TR C mv b N) (hB : DMB m N) (hM : MRF N m) (ha : 0 ≤ a ∧ a < N 259) (H : Q (J (cnt (fun x => dcN N (mk N x) = a) (Mn N).toNat)) m) : W_M_of_79 d (J a) (J 2) (J 0) (J 0) w m Q := by
  have hMb := Mn_b h
  have hZ := Zn_b h
  have d8 := h.2.2.2.1.2.1
  have hW := h.words
  have key : ∀ (z : Nat) (x : Int), 0 ≤ x → x + z = Mn N → W_M_of_79 d (J a) (J 2) (J (cnt (fun x => dcN N (mk N x) = a) x.toNat)) (J x) w m Q := by
    intro z
    induction z with
    | zero =>
      intro x x0 hz
      refine S_M_of_79 ?_
      simp (disch := first | (unfold r32; omega) | omega) only [j_lit, j_ops, j_rd, j_nc, hM.1, J_le]
      refine ⟨fun _ => S_M_of_106 ?_, fun q => by omega⟩
      simp (disch := first | (unfold r32; omega) | omega) only [j_lit, j_ops, j_rd, j_nc, hM.2.1, J_le, J_eq]
      rw [show Mn N = x by omega] at H
      exact ⟨fun _ => H, fun _ => ⟨fun _ => H, fun y => by first | omega | exact absurd y (by simp)⟩⟩
    | succ z ih =>
      intro x x0 hz
      have bd := mk_bd h x0 (by omega : x < Mn N)
      have e72 := (hM.2.2.1 x x0 (by omega)).1
      have e70 := (hB.2.2.1 (mk N x) bd.1 (by omega)).2.2.2.2.1
      have hdc := dc_ex h.2.2.2.1 bd.1 (by omega : mk N x < wW N)
      have dl := hdc.1
      have dh := hdc.2.1
      refine S_M_of_79 ?_
      simp (disch := first | (unfold r32; omega) | omega) only [j_lit, j_ops, j_rd, j_nc, hM.1, J_le, J_eq, vp_J, J_cl, iq_tn, e72, e70]
      refine ⟨fun q => by omega, fun _ => ⟨fun q => by first | omega | exact absurd trivial q, fun _ => ⟨by omega, by omega, fun q => c_one01 (Or.inl rfl) ?_, fun q => c_one01 (Or.inr rfl) ?_⟩⟩⟩
      · have := ih (x + 1) (by omega) (by omega)
        rw [cnt_z _ x0, bi_0 q] at this
        rw [j_ops.1]
        exact this
      · have := ih (x + 1) (by omega) (by omega)
        rw [cnt_z _ x0, bi_1 q] at this
        rw [j_ops.1]
        exact this
  exact key (Mn N).toNat 0 (by omega) (by omega)
theorem c_M_ofQ {Q : Int32 → zM → Prop} {m : zM} {a c : Int} (ra : r32 a) (rc : r32 c) (hI : IVN C w m N) (H : ∀ m', IVN C w m' N → Q (J (ores N a c)) m') : cI (d + 6) 269 [.ref 261, .int (J a), .int (J c)] w m Q := by
  have hT := hI.2.2.2.2.1
  have hR := hI.2.2.2.1
  have hD := hT.2.2.2.1
  have d8 := hD.2.1
  have d0 := hD.1
  refine S_M_of (c_M_isDoc (d := d + 4) ra hR ⟨d0, d8⟩ ?_)
  by_cases ha : 0 ≤ a ∧ a < N 259
  · rw [if_pos ha]
    have U : ores N a c = (if c = 0 then N (261 + a) - N (260 + a) else if c = 1 then cnt (sbg N a) (N (261 + a) - N (260 + a)).toNat else if c = 2 then cnt (fun m => dcN N (mk N m) = a) (Mn N).toNat else if c = 3 then cnt (fun t => dI N t a) (Zn N).toNat else -1) := by
      unfold ores; rw [if_pos ha]
    have fin : ∀ v m', IVN C w m' N → ores N a c = v → Q (J v) m' := fun v m' h e => by rw [← e]; exact H m' h
    simp (disch := first | exact ra | exact rc | (unfold r32; omega) | omega) only [j_lit, jl_lit, j_ops, J_eq, J_64]
    refine ⟨fun y => by first | omega | exact absurd y (by simp), fun _ => c_isIn (r64_32 rc) (by unfold r64; omega) (by unfold r64; omega) ?_⟩
    by_cases hc : 0 ≤ c ∧ c ≤ 3
    · rw [if_pos hc]
      simp (disch := first | exact ra | exact rc | (unfold r32; omega) | omega) only [j_lit, j_ops, J_eq]
      refine ⟨fun _ => c_Llays (d := d) hI (fun m1 hI1 g hd h3 => ?_), fun y => by first | omega | exact absurd y (by simp)⟩
      have hT1 := hI1.2.2.2.2.1
      have hR1 := hI1.2.2.2.1
      have r1 := hR1 (260 + a) (by omega) (by omega)
      have r2 := hR1 (261 + a) (by omega) (by omega)
      simp (disch := first | exact ra | exact rc | (unfold r32; omega) | omega) only [j_lit, j_ops, J_eq, vp_J, J_cl, jl_rd, lq_tn, show 260 + a + 1 = 261 + a by omega, r1, r2, JL_32]
      refine ⟨by omega, by omega, fun q => ⟨fun q1 => ?_, fun q1 => c_Mof45 hT1 hR1 ha (fin _ m1 hI1 (by rw [U, if_neg q, if_pos q1]))⟩, fun q => fin _ m1 hI1 (by rw [U, if_pos q])⟩
      by_cases q2 : c = 2
      · rw [q2]
        exact c_Mof79 hT1 hd.1 hd.2.1 ha (fin _ m1 hI1 (by rw [U, if_neg q, if_neg q1, if_pos q2]))
      · have q3 : c = 3 := by omega
        have go : W_M_of_106 (d + 5) (J a) (J 3) (J 0) (J 0) w m1 Q := c_Mof106 hT1 hd.2.1 hd.2.2.1 ha (fin _ m1 hI1 (by rw [U, if_neg q, if_neg q1, if_neg q2, if_pos q3]))
        rw [q3]
        refine S_M_of_79 ?_
        simp (disch := first | (unfold r32; omega) | omega) only [j_lit, j_ops, J_eq]
        exact ⟨fun _ => go, fun _ => ⟨fun _ => go, fun y => by first | omega | exact absurd y (by simp)⟩⟩
    · rw [if_neg hc]
      simp (disch := first | exact ra | exact rc | (unfold r32; omega) | omega) only [j_lit, j_ops, J_eq]
      exact ⟨fun y => absurd trivial y, fun _ => fin _ m hI (by rw [U, if_neg (by omega), if_neg (by omega), if_neg (by omega), if_neg (by omega)])⟩
  · rw [if_neg ha]
    have V : ores N a c = -1 := by unfold ores; rw [if_neg ha]
    simp (disch := first | exact ra | exact rc | (unfold r32; omega) | omega) only [j_lit, j_ops, J_eq]
    refine ⟨fun _ => ?_, fun y => absurd trivial y⟩
    have := H m hI
    rw [V] at this
    exact this
theorem p_of {P : Int32 → Int32 → zM → Prop} {m : zM} {a c : Int} (ra : r32 a) (rc : r32 c) (hI : IV C w m) (H : ∀ v m', IV C w m' → P v v m') : cI (d + 9) 125 [.ref 3, .int (J a), .int (J c)] w m (fun x m1 => cI (d + 9) 269 [.ref 261, .int (J a), .int (J c)] w m1 (fun y m2 => P x y m2)) := by
  obtain ⟨N, hI⟩ := hI
  exact c_ofQ ra rc hI (fun m1 hI1 => c_M_ofQ (d := d + 3) ra rc hI1 (fun m2 hI2 => H _ m2 ⟨N, hI2⟩))
end QO2
