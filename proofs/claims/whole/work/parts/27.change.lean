/-! how a change is begun, kept, undone -/
section CH
variable {d : Nat} {w : Nat × Nat × Nat} {a o : Nat} {C : Int} {N : Int → Int}
theorem c_ToldCopy {Q : zM → Prop} {m : zM} (ha : zT a) (ho : zT o) (hne : a ≠ o) (hT : TR C m o N) (H : ∀ m', fo a 21 m m' → TV m o m' a → Q m') : cV (d + 2) 102 [.ref a, .ref o] w m Q := by
  have hap := zT_ap ha ho hne
  obtain ⟨⟨l1, l2, l3, -⟩, ⟨e1, e2, e3, -⟩, ⟨s1, s2, s3, s4, s5, -⟩, ⟨d1, d2, d3, d4, d5, d6, d7, -⟩, ⟨g1, g2, g3, -⟩, ⟨p1, p2, p3, -⟩, -⟩ := hT
  have dn : 0 ≤ N (260 + N 259) := by
    have mono : ∀ k : Nat, (k : Int) ≤ N 259 → 0 ≤ N (260 + k) := by
      intro k
      induction k with
      | zero => intro _; rw [show (260 : Int) + ((0 : Nat) : Int) = 260 from rfl, d4]; exact Int.le_refl 0
      | succ k ih =>
        intro h
        have := (d5 k (by omega) (by omega)).1
        have h2 := ih (by omega)
        rw [show (260 : Int) + ((k + 1 : Nat) : Int) = 261 + k by omega]
        omega
    have := mono (N 259).toNat (by omega)
    rwa [show (((N 259).toNat : Nat) : Int) = N 259 by omega] at this
  refine S_Told_copyFrom ha ho ?_
  refine c_PairsCopy (zT_lex ha) (zT_lex ho) (by decide) (by omega) (by omega) (fun m1 f1 q1 r1 => ?_)
  have i1 : ∀ b z, b < a + 1 ∨ a + 4 ≤ b → iq m1 b z = iq m b z := fun b z h => f1.i (by omega) z
  have j1 : ∀ b z, b < a + 1 ∨ a + 4 ≤ b → lq m1 b z = lq m b z := fun b z h => f1.l (by omega) z
  refine c_PairsCopy (zT_end ha) (zT_end ho) (by decide) (by omega) (by rw [i1 _ _ (by omega)]; omega) (fun m2 f2 q2 r2 => ?_)
  have i2 : ∀ b z, b < a + 4 ∨ a + 7 ≤ b → iq m2 b z = iq m1 b z := fun b z h => f2.i (by omega) z
  have j2 : ∀ b z, b < a + 4 ∨ a + 7 ≤ b → lq m2 b z = lq m1 b z := fun b z h => f2.l (by omega) z
  refine c_PairsCopy (zT_sam ha) (zT_sam ho) (by decide) (by omega) (by rw [i2 _ _ (by omega), i1 _ _ (by omega)]; omega) (fun m3 f3 q3 r3 => ?_)
  have i3 : ∀ b z, b < a + 7 ∨ a + 10 ≤ b → iq m3 b z = iq m2 b z := fun b z h => f3.i (by omega) z
  have j3 : ∀ b z, b < a + 7 ∨ a + 10 ≤ b → lq m3 b z = lq m2 b z := fun b z h => f3.l (by omega) z
  refine c_ProseCopy (zT_pr ha) (zT_pr ho) (by omega) (by rw [i3 _ _ (by omega), i2 _ _ (by omega), i1 _ _ (by omega)]; omega) (fun m4 f4 q4 r4 => ?_)
  have i4 : ∀ b z, b < a + 10 ∨ a + 13 ≤ b → iq m4 b z = iq m3 b z := fun b z h => f4.i (by omega) z
  have j4 : ∀ b z, b < a + 10 ∨ a + 13 ≤ b → lq m4 b z = lq m3 b z := fun b z h => f4.l (by omega) z
  simp only [j_lit]
  refine c_copy (zT_de ho) (zT_de ha) (by decide) (by decide) (by omega) (by decide) (fun m5 f5 g5 r5 => ?_)
  have i5 : ∀ b z, b < a + 13 ∨ a + 14 ≤ b → iq m5 b z = iq m4 b z := fun b z h => f5.i (by simp; omega) z
  have j5 : ∀ b z, lq m5 b z = lq m4 b z := fun b z => by unfold lq; rw [g5]
  refine c_ProseCopy (zT_ge ha) (zT_ge ho) (by omega) (by rw [i5 _ _ (by omega), i4 _ _ (by omega), i3 _ _ (by omega), i2 _ _ (by omega), i1 _ _ (by omega)]; omega) (fun m6 f6 q6 r6 => ?_)
  have i6 : ∀ b z, b < a + 14 ∨ a + 17 ≤ b → iq m6 b z = iq m5 b z := fun b z h => f6.i (by omega) z
  have j6 : ∀ b z, b < a + 14 ∨ a + 17 ≤ b → lq m6 b z = lq m5 b z := fun b z h => f6.l (by omega) z
  refine c_PatternCopy (zT_pt ha) (zT_pt ho) (by omega) (by rw [i6 _ _ (by omega), i5 _ _ (by omega), i4 _ _ (by omega), i3 _ _ (by omega), i2 _ _ (by omega), i1 _ _ (by omega)]; omega) (fun m7 f7 q7 q72 q73 r7 => ?_)
  have i7 : ∀ b z, b < a + 17 ∨ a + 20 ≤ b → iq m7 b z = iq m6 b z := fun b z h => f7.i (by omega) z
  have j7 : ∀ b z, b < a + 17 ∨ a + 20 ≤ b → lq m7 b z = lq m6 b z := fun b z h => f7.l (by omega) z
  refine c_copy (zT_we ho) (zT_we ha) (by decide) (by decide) (by omega) (by decide) (fun m8 f8 g8 r8 => ?_)
  have i8 : ∀ b z, b < a + 20 ∨ a + 21 ≤ b → iq m8 b z = iq m7 b z := fun b z h => f8.i (by simp; omega) z
  have j8 : ∀ b z, lq m8 b z = lq m7 b z := fun b z => by unfold lq; rw [g8]
  simp only [j_rd, j_nc, j_wr]
  generalize hm9 : sq m8 a 8 (iq m8 o 8) = m9
  have s9 : ∀ b z, 0 ≤ z → iq m9 b z = if b = a ∧ z = 8 then iq m8 o 8 else iq m8 b z := fun b z h => by rw [← hm9, iq_sq (by decide) h (iq_r _ _ _)]
  have k9 : fo a 1 m8 m9 := by rw [← hm9]; exact fo_sq _ _ _ _
  generalize hm10 : sq m9 a 9 (iq m9 o 9) = m10
  have s10 : ∀ b z, 0 ≤ z → iq m10 b z = if b = a ∧ z = 9 then iq m9 o 9 else iq m9 b z := fun b z h => by rw [← hm10, iq_sq (by decide) h (iq_r _ _ _)]
  have k10 : fo a 1 m9 m10 := by rw [← hm10]; exact fo_sq _ _ _ _
  generalize hm11 : sq m10 a 10 (iq m10 o 10) = m11
  have s11 : ∀ b z, 0 ≤ z → iq m11 b z = if b = a ∧ z = 10 then iq m10 o 10 else iq m10 b z := fun b z h => by rw [← hm11, iq_sq (by decide) h (iq_r _ _ _)]
  have k11 : fo a 1 m10 m11 := by rw [← hm11]; exact fo_sq _ _ _ _
  generalize hm12 : sq m11 a 11 (iq m11 o 11) = m12
  have s12 : ∀ b z, 0 ≤ z → iq m12 b z = if b = a ∧ z = 11 then iq m11 o 11 else iq m11 b z := fun b z h => by rw [← hm12, iq_sq (by decide) h (iq_r _ _ _)]
  have k12 : fo a 1 m11 m12 := by rw [← hm12]; exact fo_sq _ _ _ _
  generalize hm13 : sq m12 a 12 (iq m12 o 12) = m13
  have s13 : ∀ b z, 0 ≤ z → iq m13 b z = if b = a ∧ z = 12 then iq m12 o 12 else iq m12 b z := fun b z h => by rw [← hm13, iq_sq (by decide) h (iq_r _ _ _)]
  have k13 : fo a 1 m12 m13 := by rw [← hm13]; exact fo_sq _ _ _ _
  have kk : fo a 1 m8 m13 := (((k9.tr k10).tr k11).tr k12).tr k13
  have i9 : ∀ b z, ¬ b = a → iq m13 b z = iq m8 b z := fun b z h => kk.i (by omega) z
  have j9 : ∀ b z, lq m13 b z = lq m8 b z := fun b z => by rw [← hm13, ← hm12, ← hm11, ← hm10, ← hm9]; rfl
  have u0 : ∀ b z, b < a ∨ a + 21 ≤ b → iq m8 b z = iq m b z := fun b z h => by rw [i8 _ _ (by omega), i7 _ _ (by omega), i6 _ _ (by omega), i5 _ _ (by omega), i4 _ _ (by omega), i3 _ _ (by omega), i2 _ _ (by omega), i1 _ _ (by omega)]
  refine H m13 (((((((((f1.mo (by omega) (by omega)).tr (f2.mo (by omega) (by omega))).tr (f3.mo (by omega) (by omega))).tr (f4.mo (by omega) (by omega))).tr (f5.fo (by simp))).tr (f6.mo (by omega) (by omega))).tr (f7.mo (by omega) (by omega))).tr (f8.fo (by simp))).tr (kk.mo (by omega) (by omega))) ?_
  refine ⟨⟨?_, fun k h0 h1 => ⟨?_, ?_⟩⟩, ⟨?_, fun k h0 h1 => ⟨?_, ?_⟩⟩, ⟨?_, ?_, fun k h0 h1 => ⟨?_, ?_⟩⟩, ⟨?_, fun k h0 h1 => ?_, ?_, fun k h0 h1 => ⟨?_, ?_⟩⟩, ⟨?_, fun k h0 h1 => ⟨?_, ?_⟩⟩, ⟨?_, ?_, ?_, fun k h0 h1 => ⟨?_, ?_⟩⟩, ⟨fun k h0 h1 => ?_, ?_, ?_, ?_⟩⟩
  · rw [i9 _ _ (by omega), i8 _ _ (by omega), i7 _ _ (by omega), i6 _ _ (by omega), i5 _ _ (by omega), i4 _ _ (by omega), i3 _ _ (by omega), i2 _ _ (by omega), q1]
  · rw [j9, j8, j7 _ _ (by omega), j6 _ _ (by omega), j5, j4 _ _ (by omega), j3 _ _ (by omega), j2 _ _ (by omega), (r1 k h0 h1).1]
  · rw [j9, j8, j7 _ _ (by omega), j6 _ _ (by omega), j5, j4 _ _ (by omega), j3 _ _ (by omega), j2 _ _ (by omega), (r1 k h0 h1).2]
  · rw [i9 _ _ (by omega), i8 _ _ (by omega), i7 _ _ (by omega), i6 _ _ (by omega), i5 _ _ (by omega), i4 _ _ (by omega), i3 _ _ (by omega), q2, i1 _ _ (by omega)]
  · rw [← i1 (o + 4) 2 (by omega)] at h1
    rw [j9, j8, j7 _ _ (by omega), j6 _ _ (by omega), j5, j4 _ _ (by omega), j3 _ _ (by omega), (r2 k h0 h1).1, j1 _ _ (by omega)]
  · rw [← i1 (o + 4) 2 (by omega)] at h1
    rw [j9, j8, j7 _ _ (by omega), j6 _ _ (by omega), j5, j4 _ _ (by omega), j3 _ _ (by omega), (r2 k h0 h1).2, j1 _ _ (by omega)]
  · rw [s13 _ _ (by omega), if_neg (by omega), s12 _ _ (by omega), if_neg (by omega), s11 _ _ (by omega), if_neg (by omega), s10 _ _ (by omega), if_neg (by omega), s9 _ _ (by omega), if_pos ⟨rfl, rfl⟩, u0 _ _ (by omega)]
  · rw [i9 _ _ (by omega), i8 _ _ (by omega), i7 _ _ (by omega), i6 _ _ (by omega), i5 _ _ (by omega), i4 _ _ (by omega), q3, i2 _ _ (by omega), i1 _ _ (by omega)]
  · rw [← i1 (o + 7) 2 (by omega), ← i2 (o + 7) 2 (by omega)] at h1
    rw [j9, j8, j7 _ _ (by omega), j6 _ _ (by omega), j5, j4 _ _ (by omega), (r3 k h0 h1).1, j2 _ _ (by omega), j1 _ _ (by omega)]
  · rw [← i1 (o + 7) 2 (by omega), ← i2 (o + 7) 2 (by omega)] at h1
    rw [j9, j8, j7 _ _ (by omega), j6 _ _ (by omega), j5, j4 _ _ (by omega), (r3 k h0 h1).2, j2 _ _ (by omega), j1 _ _ (by omega)]
  · rw [s13 _ _ (by omega), if_neg (by omega), s12 _ _ (by omega), if_neg (by omega), s11 _ _ (by omega), if_neg (by omega), s10 _ _ (by omega), if_pos ⟨rfl, rfl⟩, s9 _ _ (by omega), if_neg (by omega), u0 _ _ (by omega)]
  · rw [i9 _ _ (by omega), i8 _ _ (by omega), i7 _ _ (by omega), i6 _ _ (by omega), r5 k h0 h1, i4 _ _ (by omega), i3 _ _ (by omega), i2 _ _ (by omega), i1 _ _ (by omega)]
  · rw [i9 _ _ (by omega), i8 _ _ (by omega), i7 _ _ (by omega), i6 _ _ (by omega), i5 _ _ (by omega), q4, i3 _ _ (by omega), i2 _ _ (by omega), i1 _ _ (by omega)]
  · rw [← i1 (o + 10) 2 (by omega), ← i2 (o + 10) 2 (by omega), ← i3 (o + 10) 2 (by omega)] at h1
    rw [j9, j8, j7 _ _ (by omega), j6 _ _ (by omega), j5, (r4 k h0 h1).1, j3 _ _ (by omega), j2 _ _ (by omega), j1 _ _ (by omega)]
  · rw [← i1 (o + 10) 2 (by omega), ← i2 (o + 10) 2 (by omega), ← i3 (o + 10) 2 (by omega)] at h1
    rw [i9 _ _ (by omega), i8 _ _ (by omega), i7 _ _ (by omega), i6 _ _ (by omega), i5 _ _ (by omega), (r4 k h0 h1).2, i3 _ _ (by omega), i2 _ _ (by omega), i1 _ _ (by omega)]
  · rw [i9 _ _ (by omega), i8 _ _ (by omega), i7 _ _ (by omega), q6, i5 _ _ (by omega), i4 _ _ (by omega), i3 _ _ (by omega), i2 _ _ (by omega), i1 _ _ (by omega)]
  · rw [← i1 (o + 14) 2 (by omega), ← i2 (o + 14) 2 (by omega), ← i3 (o + 14) 2 (by omega), ← i4 (o + 14) 2 (by omega), ← i5 (o + 14) 2 (by omega)] at h1
    rw [j9, j8, j7 _ _ (by omega), (r6 k h0 h1).1, j5, j4 _ _ (by omega), j3 _ _ (by omega), j2 _ _ (by omega), j1 _ _ (by omega)]
  · rw [← i1 (o + 14) 2 (by omega), ← i2 (o + 14) 2 (by omega), ← i3 (o + 14) 2 (by omega), ← i4 (o + 14) 2 (by omega), ← i5 (o + 14) 2 (by omega)] at h1
    rw [i9 _ _ (by omega), i8 _ _ (by omega), i7 _ _ (by omega), (r6 k h0 h1).2, i5 _ _ (by omega), i4 _ _ (by omega), i3 _ _ (by omega), i2 _ _ (by omega), i1 _ _ (by omega)]
  · rw [i9 _ _ (by omega), i8 _ _ (by omega), q7, i6 _ _ (by omega), i5 _ _ (by omega), i4 _ _ (by omega), i3 _ _ (by omega), i2 _ _ (by omega), i1 _ _ (by omega)]
  · rw [i9 _ _ (by omega), i8 _ _ (by omega), q72, i6 _ _ (by omega), i5 _ _ (by omega), i4 _ _ (by omega), i3 _ _ (by omega), i2 _ _ (by omega), i1 _ _ (by omega)]
  · rw [i9 _ _ (by omega), i8 _ _ (by omega), q73, i6 _ _ (by omega), i5 _ _ (by omega), i4 _ _ (by omega), i3 _ _ (by omega), i2 _ _ (by omega), i1 _ _ (by omega)]
  · rw [← i1 (o + 17) 2 (by omega), ← i2 (o + 17) 2 (by omega), ← i3 (o + 17) 2 (by omega), ← i4 (o + 17) 2 (by omega), ← i5 (o + 17) 2 (by omega), ← i6 (o + 17) 2 (by omega)] at h1
    rw [i9 _ _ (by omega), i8 _ _ (by omega), (r7 k h0 h1).1, i6 _ _ (by omega), i5 _ _ (by omega), i4 _ _ (by omega), i3 _ _ (by omega), i2 _ _ (by omega), i1 _ _ (by omega)]
  · rw [← i1 (o + 17) 2 (by omega), ← i2 (o + 17) 2 (by omega), ← i3 (o + 17) 2 (by omega), ← i4 (o + 17) 2 (by omega), ← i5 (o + 17) 2 (by omega), ← i6 (o + 17) 2 (by omega)] at h1
    rw [i9 _ _ (by omega), i8 _ _ (by omega), (r7 k h0 h1).2, i6 _ _ (by omega), i5 _ _ (by omega), i4 _ _ (by omega), i3 _ _ (by omega), i2 _ _ (by omega), i1 _ _ (by omega)]
  · rw [i9 _ _ (by omega), r8 k (by omega) (by omega), i7 _ _ (by omega), i6 _ _ (by omega), i5 _ _ (by omega), i4 _ _ (by omega), i3 _ _ (by omega), i2 _ _ (by omega), i1 _ _ (by omega)]
  · rw [s13 _ _ (by omega), if_neg (by omega), s12 _ _ (by omega), if_neg (by omega), s11 _ _ (by omega), if_pos ⟨rfl, rfl⟩, s10 _ _ (by omega), if_neg (by omega), s9 _ _ (by omega), if_neg (by omega), u0 _ _ (by omega)]
  · rw [s13 _ _ (by omega), if_neg (by omega), s12 _ _ (by omega), if_pos ⟨rfl, rfl⟩, s11 _ _ (by omega), if_neg (by omega), s10 _ _ (by omega), if_neg (by omega), s9 _ _ (by omega), if_neg (by omega), u0 _ _ (by omega)]
  · rw [s13 _ _ (by omega), if_pos ⟨rfl, rfl⟩, s12 _ _ (by omega), if_neg (by omega), s11 _ _ (by omega), if_neg (by omega), s10 _ _ (by omega), if_neg (by omega), s9 _ _ (by omega), if_neg (by omega), u0 _ _ (by omega)]
/-- the ring's slots -/
def tb (i : Int) : Nat := if i = 0 then 9 else if i = 1 then 30 else (52 + 21 * (i - 2)).toNat
theorem tb_T {i : Int} (h0 : 0 ≤ i) (h1 : i < 10) : zT (tb i) := by
  unfold tb zT
  split
  · omega
  · split
    · omega
    · omega
theorem tb_inj {i j : Int} (h0 : 0 ≤ i) (h1 : i < 10) (h2 : 0 ≤ j) (h3 : j < 10) (h : tb i = tb j) : i = j := by
  unfold tb at h
  split at h <;> split at h <;> (try split at h) <;> (try split at h) <;> omega
theorem tb_R {nw dr : Nat} {i : Int} (h0 : 0 ≤ i) (h1 : i < 10) : zR nw dr 51 i.toNat = tb i := by
  have : i = 0 ∨ i = 1 ∨ i = 2 ∨ i = 3 ∨ i = 4 ∨ i = 5 ∨ i = 6 ∨ i = 7 ∨ i = 8 ∨ i = 9 := by omega
  rcases this with rfl | rfl | rfl | rfl | rfl | rfl | rfl | rfl | rfl | rfl <;> rfl
theorem c_slotAt {Q : Nat → zM → Prop} {m : zM} {i : Int} (h0 : 0 ≤ i) (h1 : i < 10) (H : Q (tb i) m) : cR d 144 [.ref 3, .int (J i)] w m Q := by
  refine S_T_slotAt ?_
  simp (disch := first | (unfold r32; omega) | omega) only [j_lit, ofn_J, j_nc, J_lt, J_le, vp_J, J_cl]
  have := zT_n (tb_T h0 h1)
  rw [tb_R h0 h1]
  exact ⟨fun q => by omega, fun _ => ⟨fun q => by omega, fun _ => ⟨⟨by omega, this⟩, H⟩⟩⟩
theorem J_div {a b : Int} (ha : 0 ≤ a) (ha2 : a < 2147483648) (hb : 0 < b) (hb2 : b < 2147483648) : J a / J b = J (a / b) := by
  have h1 : a / b ≤ a := Int.ediv_le_self _ ha
  have h2 : 0 ≤ a / b := Int.ediv_nonneg ha (by omega)
  rw [← Int32.toInt_inj, J_toInt ⟨by omega, by omega⟩, Int32.toInt_div_of_ne_right, J_toInt ⟨by omega, by omega⟩, J_toInt ⟨by omega, by omega⟩, Int.tdiv_eq_ediv_of_nonneg ha]
  intro h
  have := congrArg Int32.toInt h
  rw [J_toInt ⟨by omega, by omega⟩] at this
  have h3 : (-1 : Int32).toInt = -1 := by decide
  omega
theorem J_mod {a b : Int} (ha : 0 ≤ a) (ha2 : a < 2147483648) (hb : 0 < b) (hb2 : b < 2147483648) : J a - J a / J b * J b = J (a % b) := by
  rw [J_div ha ha2 hb hb2, j_ops.2.2.1, j_ops.2.1, Int.emod_def, Int.mul_comm]
end CH
