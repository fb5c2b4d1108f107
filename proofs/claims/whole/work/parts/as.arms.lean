/-! the law's arms
-/
section ARMS
variable {z C : Int} {w : Nat × Nat × Nat} {m : zM} {Q : mm_Q}
/-- behind an arm -/
def lK (C : Int) (w0 : Nat) : Nat × Nat × Nat → zM → Prop := fun w1 m2 => w1.1 = w0 ∧ ∃ C', C ≤ C' ∧ C' ≤ C + 602 ∧ IV C' w1 m2
theorem lj (x : Int32) : r32 x.toInt := r32_of x
theorem lJ (x : Int32) : x = J x.toInt := (J_of x).symm
theorem l_in {c : Nat} (h0 : 0 ≤ z) (h1 : z ≤ (w.1 : Int) - 6) (hw : w.1 ≤ 3072) (hc : c ≤ 5) : vp_in (J z + Int32.ofNat c) w.1 := by
  have e : Int32.ofNat c = J (c : Int) := ofn_J c
  have hr : r32 (z + c) := by unfold r32; omega
  rw [e, j_ops.1, vp_J hr]
  omega
theorem arm_22 (h0 : 0 ≤ z) (h1 : z ≤ (w.1 : Int) - 6) (hw : w.1 ≤ 3072) (hC : 0 ≤ C ∧ C ≤ 10000000) (hI : IV C w m) (HK : ∀ w1 m2, lK C w.1 w1 m2 → mm_W 51 293 747 (lL (J z)) [] (zE w1 m2) Q) : mm_W 51 293 22 (lL (J z)) [] (zE w m) Q := by
  have hin : ∀ q ∈ ([(1, false), (2, false), (3, false), (4, false), (5, false)] : List (Nat × Bool)), vp_in (J z + Int32.ofNat q.1) w.1 := fun q hq => l_in h0 h1 hw (by revert q; decide)
  refine law_armI (d := 50) (l := [(1, false), (2, false), (3, false), (4, false), (5, false)]) (k1 := 115) (k2 := 198) (K := lK C w.1) (by decide +kernel) hin ?_ (fun w1 m2 _ _ h => HK w1 m2 h)
  show cIw 50 115 [.ref 3, .int (lval m (J z) (1, false)), .int (lval m (J z) (2, false)), .int (lval m (J z) (3, false)), .int (lval m (J z) (4, false)), .int (lval m (J z) (5, false))] w m (fun x w1 m1 => cI 50 198 [.ref 261, .int (lval m (J z) (1, false)), .int (lval m (J z) (2, false)), .int (lval m (J z) (3, false)), .int (lval m (J z) (4, false)), .int (lval m (J z) (5, false))] w1 m1 (fun y m2 => x = y ∧ lK C w.1 w1 m2))
  rw [lJ (lval m (J z) (1, false)), lJ (lval m (J z) (2, false)), lJ (lval m (J z) (3, false)), lJ (lval m (J z) (4, false)), lJ (lval m (J z) (5, false))]
  exact cI_w (i_feed (d := 46) (P := fun x y m2 => x = y ∧ lK C w.1 w m2) (lj _) (lj _) (lj _) (lj _) (lj _) hI (fun v m2 h => ⟨rfl, rfl, C, by omega, by omega, h⟩)) (fun _ _ h => h)
theorem arm_79 (h0 : 0 ≤ z) (h1 : z ≤ (w.1 : Int) - 6) (hw : w.1 ≤ 3072) (hC : 0 ≤ C ∧ C ≤ 10000000) (hI : IV C w m) (HK : ∀ w1 m2, lK C w.1 w1 m2 → mm_W 51 293 747 (lL (J z)) [] (zE w1 m2) Q) : mm_W 51 293 79 (lL (J z)) [] (zE w m) Q := by
  have hin : ∀ q ∈ ([(1, false)] : List (Nat × Bool)), vp_in (J z + Int32.ofNat q.1) w.1 := fun q hq => l_in h0 h1 hw (by revert q; decide)
  refine law_armI (d := 50) (l := [(1, false)]) (k1 := 116) (k2 := 199) (K := lK C w.1) (by decide +kernel) hin ?_ (fun w1 m2 _ _ h => HK w1 m2 h)
  show cIw 50 116 [.ref 3, .int (lval m (J z) (1, false))] w m (fun x w1 m1 => cI 50 199 [.ref 261, .int (lval m (J z) (1, false))] w1 m1 (fun y m2 => x = y ∧ lK C w.1 w1 m2))
  rw [lJ (lval m (J z) (1, false))]
  exact cI_w (i_end (d := 49) (P := fun x y m2 => x = y ∧ lK C w.1 w m2) (lj _) hI (fun v m2 h => ⟨rfl, rfl, C, by omega, by omega, h⟩)) (fun _ _ h => h)
theorem arm_96 (h0 : 0 ≤ z) (h1 : z ≤ (w.1 : Int) - 6) (hw : w.1 ≤ 3072) (hC : 0 ≤ C ∧ C ≤ 10000000) (hI : IV C w m) (HK : ∀ w1 m2, lK C w.1 w1 m2 → mm_W 51 293 747 (lL (J z)) [] (zE w1 m2) Q) : mm_W 51 293 96 (lL (J z)) [] (zE w m) Q := by
  have hin : ∀ q ∈ ([(1, false)] : List (Nat × Bool)), vp_in (J z + Int32.ofNat q.1) w.1 := fun q hq => l_in h0 h1 hw (by revert q; decide)
  refine law_armI (d := 50) (l := [(1, false)]) (k1 := 117) (k2 := 222) (K := lK C w.1) (by decide +kernel) hin ?_ (fun w1 m2 _ _ h => HK w1 m2 h)
  show cIw 50 117 [.ref 3, .int (lval m (J z) (1, false))] w m (fun x w1 m1 => cI 50 222 [.ref 261, .int (lval m (J z) (1, false))] w1 m1 (fun y m2 => x = y ∧ lK C w.1 w1 m2))
  rw [lJ (lval m (J z) (1, false))]
  exact i_text (d := 20) (P := fun x y w1 m2 => x = y ∧ lK C w.1 w1 m2) (lj _) hI (fun v w1 m2 hw1 h => ⟨rfl, hw1, C, by omega, by omega, h⟩)
theorem arm_113 (h0 : 0 ≤ z) (h1 : z ≤ (w.1 : Int) - 6) (hw : w.1 ≤ 3072) (hC : 0 ≤ C ∧ C ≤ 10000000) (hI : IV C w m) (HK : ∀ w1 m2, lK C w.1 w1 m2 → mm_W 51 293 747 (lL (J z)) [] (zE w1 m2) Q) : mm_W 51 293 113 (lL (J z)) [] (zE w m) Q := by
  have hin : ∀ q ∈ ([] : List (Nat × Bool)), vp_in (J z + Int32.ofNat q.1) w.1 := fun q hq => l_in h0 h1 hw (by revert q; decide)
  refine law_armI (d := 50) (l := []) (k1 := 118) (k2 := 224) (K := lK C w.1) (by decide +kernel) hin ?_ (fun w1 m2 _ _ h => HK w1 m2 h)
  show cIw 50 118 [.ref 3] w m (fun x w1 m1 => cI 50 224 [.ref 261] w1 m1 (fun y m2 => x = y ∧ lK C w.1 w1 m2))
  exact i_doc (d := 20) (P := fun x y w1 m2 => x = y ∧ lK C w.1 w1 m2) hC hI (fun v w1 m2 C1 hc1 hc2 hw1 h => ⟨rfl, hw1, C1, hc1, hc2, h⟩)
theorem arm_120 (h0 : 0 ≤ z) (h1 : z ≤ (w.1 : Int) - 6) (hw : w.1 ≤ 3072) (hC : 0 ≤ C ∧ C ≤ 10000000) (hI : IV C w m) (HK : ∀ w1 m2, lK C w.1 w1 m2 → mm_W 51 293 747 (lL (J z)) [] (zE w1 m2) Q) : mm_W 51 293 120 (lL (J z)) [] (zE w m) Q := by
  have hin : ∀ q ∈ ([(1, false)] : List (Nat × Bool)), vp_in (J z + Int32.ofNat q.1) w.1 := fun q hq => l_in h0 h1 hw (by revert q; decide)
  refine law_armI (d := 50) (l := [(1, false)]) (k1 := 119) (k2 := 226) (K := lK C w.1) (by decide +kernel) hin ?_ (fun w1 m2 _ _ h => HK w1 m2 h)
  show cIw 50 119 [.ref 3, .int (lval m (J z) (1, false))] w m (fun x w1 m1 => cI 50 226 [.ref 261, .int (lval m (J z) (1, false))] w1 m1 (fun y m2 => x = y ∧ lK C w.1 w1 m2))
  rw [lJ (lval m (J z) (1, false))]
  exact i_drop (d := 45) (P := fun x y w1 m2 => x = y ∧ lK C w.1 w1 m2) (lj _) hI (fun v w1 m2 hw1 h => ⟨rfl, hw1, C, by omega, by omega, h⟩)
theorem arm_137 (h0 : 0 ≤ z) (h1 : z ≤ (w.1 : Int) - 6) (hw : w.1 ≤ 3072) (hC : 0 ≤ C ∧ C ≤ 10000000) (hI : IV C w m) (HK : ∀ w1 m2, lK C w.1 w1 m2 → mm_W 51 293 747 (lL (J z)) [] (zE w1 m2) Q) : mm_W 51 293 137 (lL (J z)) [] (zE w m) Q := by
  have hin : ∀ q ∈ ([(1, false)] : List (Nat × Bool)), vp_in (J z + Int32.ofNat q.1) w.1 := fun q hq => l_in h0 h1 hw (by revert q; decide)
  refine law_armI (d := 50) (l := [(1, false)]) (k1 := 120) (k2 := 227) (K := lK C w.1) (by decide +kernel) hin ?_ (fun w1 m2 _ _ h => HK w1 m2 h)
  show cIw 50 120 [.ref 3, .int (lval m (J z) (1, false))] w m (fun x w1 m1 => cI 50 227 [.ref 261, .int (lval m (J z) (1, false))] w1 m1 (fun y m2 => x = y ∧ lK C w.1 w1 m2))
  rw [lJ (lval m (J z) (1, false))]
  exact cI_w (i_fault (d := 50) (P := fun x y m2 => x = y ∧ lK C w.1 w m2) (lj _) hI (fun v m2 h => ⟨rfl, rfl, C, by omega, by omega, h⟩)) (fun _ _ h => h)
theorem arm_154 (h0 : 0 ≤ z) (h1 : z ≤ (w.1 : Int) - 6) (hw : w.1 ≤ 3072) (hC : 0 ≤ C ∧ C ≤ 10000000) (hI : IV C w m) (HK : ∀ w1 m2, lK C w.1 w1 m2 → mm_W 51 293 747 (lL (J z)) [] (zE w1 m2) Q) : mm_W 51 293 154 (lL (J z)) [] (zE w m) Q := by
  have hin : ∀ q ∈ ([(1, false), (2, false)] : List (Nat × Bool)), vp_in (J z + Int32.ofNat q.1) w.1 := fun q hq => l_in h0 h1 hw (by revert q; decide)
  refine law_armI (d := 50) (l := [(1, false), (2, false)]) (k1 := 121) (k2 := 228) (K := lK C w.1) (by decide +kernel) hin ?_ (fun w1 m2 _ _ h => HK w1 m2 h)
  show cIw 50 121 [.ref 3, .int (lval m (J z) (1, false)), .int (lval m (J z) (2, false))] w m (fun x w1 m1 => cI 50 228 [.ref 261, .int (lval m (J z) (1, false)), .int (lval m (J z) (2, false))] w1 m1 (fun y m2 => x = y ∧ lK C w.1 w1 m2))
  rw [lJ (lval m (J z) (1, false)), lJ (lval m (J z) (2, false))]
  exact i_lengths (d := 46) (P := fun x y w1 m2 => x = y ∧ lK C w.1 w1 m2) (lj _) (lj _) hI (fun v w1 m2 hw1 h => ⟨rfl, hw1, C, by omega, by omega, h⟩)
theorem arm_181 (h0 : 0 ≤ z) (h1 : z ≤ (w.1 : Int) - 6) (hw : w.1 ≤ 3072) (hC : 0 ≤ C ∧ C ≤ 10000000) (hI : IV C w m) (HK : ∀ w1 m2, lK C w.1 w1 m2 → mm_W 51 293 747 (lL (J z)) [] (zE w1 m2) Q) : mm_W 51 293 181 (lL (J z)) [] (zE w m) Q := by
  have hin : ∀ q ∈ ([(1, false), (2, false)] : List (Nat × Bool)), vp_in (J z + Int32.ofNat q.1) w.1 := fun q hq => l_in h0 h1 hw (by revert q; decide)
  refine law_armI (d := 50) (l := [(1, false), (2, false)]) (k1 := 122) (k2 := 229) (K := lK C w.1) (by decide +kernel) hin ?_ (fun w1 m2 _ _ h => HK w1 m2 h)
  show cIw 50 122 [.ref 3, .int (lval m (J z) (1, false)), .int (lval m (J z) (2, false))] w m (fun x w1 m1 => cI 50 229 [.ref 261, .int (lval m (J z) (1, false)), .int (lval m (J z) (2, false))] w1 m1 (fun y m2 => x = y ∧ lK C w.1 w1 m2))
  rw [lJ (lval m (J z) (1, false)), lJ (lval m (J z) (2, false))]
  exact i_weight (d := 46) (P := fun x y w1 m2 => x = y ∧ lK C w.1 w1 m2) (lj _) (lj _) hI (fun v w1 m2 hw1 h => ⟨rfl, hw1, C, by omega, by omega, h⟩)
theorem arm_208 (h0 : 0 ≤ z) (h1 : z ≤ (w.1 : Int) - 6) (hw : w.1 ≤ 3072) (hC : 0 ≤ C ∧ C ≤ 10000000) (hI : IV C w m) (HK : ∀ w1 m2, lK C w.1 w1 m2 → mm_W 51 293 747 (lL (J z)) [] (zE w1 m2) Q) : mm_W 51 293 208 (lL (J z)) [] (zE w m) Q := by
  have hin : ∀ q ∈ ([(1, false)] : List (Nat × Bool)), vp_in (J z + Int32.ofNat q.1) w.1 := fun q hq => l_in h0 h1 hw (by revert q; decide)
  refine law_armI (d := 50) (l := [(1, false)]) (k1 := 123) (k2 := 230) (K := lK C w.1) (by decide +kernel) hin ?_ (fun w1 m2 _ _ h => HK w1 m2 h)
  show cIw 50 123 [.ref 3, .int (lval m (J z) (1, false))] w m (fun x w1 m1 => cI 50 230 [.ref 261, .int (lval m (J z) (1, false))] w1 m1 (fun y m2 => x = y ∧ lK C w.1 w1 m2))
  rw [lJ (lval m (J z) (1, false))]
  exact i_wide (d := 46) (P := fun x y w1 m2 => x = y ∧ lK C w.1 w1 m2) (lj _) hI (fun v w1 m2 hw1 h => ⟨rfl, hw1, C, by omega, by omega, h⟩)
theorem arm_225 (h0 : 0 ≤ z) (h1 : z ≤ (w.1 : Int) - 6) (hw : w.1 ≤ 3072) (hC : 0 ≤ C ∧ C ≤ 10000000) (hI : IV C w m) (HK : ∀ w1 m2, lK C w.1 w1 m2 → mm_W 51 293 747 (lL (J z)) [] (zE w1 m2) Q) : mm_W 51 293 225 (lL (J z)) [] (zE w m) Q := by
  have hin : ∀ q ∈ ([] : List (Nat × Bool)), vp_in (J z + Int32.ofNat q.1) w.1 := fun q hq => l_in h0 h1 hw (by revert q; decide)
  refine law_armI (d := 50) (l := []) (k1 := 124) (k2 := 186) (K := lK C w.1) (by decide +kernel) hin ?_ (fun w1 m2 _ _ h => HK w1 m2 h)
  show cIw 50 124 [.ref 3] w m (fun x w1 m1 => cI 50 186 [.ref 261] w1 m1 (fun y m2 => x = y ∧ lK C w.1 w1 m2))
  exact i_undo (d := 49) (P := fun x y w1 m2 => x = y ∧ lK C w.1 w1 m2)  hI (fun v w1 m2 hw1 h => ⟨rfl, hw1, C, by omega, by omega, h⟩)
theorem arm_232 (h0 : 0 ≤ z) (h1 : z ≤ (w.1 : Int) - 6) (hw : w.1 ≤ 3072) (hC : 0 ≤ C ∧ C ≤ 10000000) (hI : IV C w m) (HK : ∀ w1 m2, lK C w.1 w1 m2 → mm_W 51 293 747 (lL (J z)) [] (zE w1 m2) Q) : mm_W 51 293 232 (lL (J z)) [] (zE w m) Q := by
  have hin : ∀ q ∈ ([(1, false), (2, false)] : List (Nat × Bool)), vp_in (J z + Int32.ofNat q.1) w.1 := fun q hq => l_in h0 h1 hw (by revert q; decide)
  refine law_armI (d := 50) (l := [(1, false), (2, false)]) (k1 := 125) (k2 := 269) (K := lK C w.1) (by decide +kernel) hin ?_ (fun w1 m2 _ _ h => HK w1 m2 h)
  show cIw 50 125 [.ref 3, .int (lval m (J z) (1, false)), .int (lval m (J z) (2, false))] w m (fun x w1 m1 => cI 50 269 [.ref 261, .int (lval m (J z) (1, false)), .int (lval m (J z) (2, false))] w1 m1 (fun y m2 => x = y ∧ lK C w.1 w1 m2))
  rw [lJ (lval m (J z) (1, false)), lJ (lval m (J z) (2, false))]
  exact cI_w (p_of (d := 41) (P := fun x y m2 => x = y ∧ lK C w.1 w m2) (lj _) (lj _) hI (fun v m2 h => ⟨rfl, rfl, C, by omega, by omega, h⟩)) (fun _ _ h => h)
theorem arm_259 (h0 : 0 ≤ z) (h1 : z ≤ (w.1 : Int) - 6) (hw : w.1 ≤ 3072) (hC : 0 ≤ C ∧ C ≤ 10000000) (hI : IV C w m) (HK : ∀ w1 m2, lK C w.1 w1 m2 → mm_W 51 293 747 (lL (J z)) [] (zE w1 m2) Q) : mm_W 51 293 259 (lL (J z)) [] (zE w m) Q := by
  have hin : ∀ q ∈ ([(1, false), (2, false), (3, true)] : List (Nat × Bool)), vp_in (J z + Int32.ofNat q.1) w.1 := fun q hq => l_in h0 h1 hw (by revert q; decide)
  refine law_armI (d := 50) (l := [(1, false), (2, false), (3, true)]) (k1 := 126) (k2 := 267) (K := lK C w.1) (by decide +kernel) hin ?_ (fun w1 m2 _ _ h => HK w1 m2 h)
  show cIw 50 126 [.ref 3, .int (lval m (J z) (1, false)), .int (lval m (J z) (2, false)), .int (lval m (J z) (3, true))] w m (fun x w1 m1 => cI 50 267 [.ref 261, .int (lval m (J z) (1, false)), .int (lval m (J z) (2, false)), .int (lval m (J z) (3, true))] w1 m1 (fun y m2 => x = y ∧ lK C w.1 w1 m2))
  rw [lJ (lval m (J z) (1, false)), lJ (lval m (J z) (2, false)), lJ (lval m (J z) (3, true))]
  exact cI_w (p_word (d := 41) (P := fun x y m2 => x = y ∧ lK C w.1 w m2) (lj _) (lj _) (lj _) hI (fun v m2 h => ⟨rfl, rfl, C, by omega, by omega, h⟩)) (fun _ _ h => h)
theorem arm_304 (h0 : 0 ≤ z) (h1 : z ≤ (w.1 : Int) - 6) (hw : w.1 ≤ 3072) (hC : 0 ≤ C ∧ C ≤ 10000000) (hI : IV C w m) (HK : ∀ w1 m2, lK C w.1 w1 m2 → mm_W 51 293 747 (lL (J z)) [] (zE w1 m2) Q) : mm_W 51 293 304 (lL (J z)) [] (zE w m) Q := by
  have hin : ∀ q ∈ ([(1, false), (2, false)] : List (Nat × Bool)), vp_in (J z + Int32.ofNat q.1) w.1 := fun q hq => l_in h0 h1 hw (by revert q; decide)
  refine law_armI (d := 50) (l := [(1, false), (2, false)]) (k1 := 127) (k2 := 268) (K := lK C w.1) (by decide +kernel) hin ?_ (fun w1 m2 _ _ h => HK w1 m2 h)
  show cIw 50 127 [.ref 3, .int (lval m (J z) (1, false)), .int (lval m (J z) (2, false))] w m (fun x w1 m1 => cI 50 268 [.ref 261, .int (lval m (J z) (1, false)), .int (lval m (J z) (2, false))] w1 m1 (fun y m2 => x = y ∧ lK C w.1 w1 m2))
  rw [lJ (lval m (J z) (1, false)), lJ (lval m (J z) (2, false))]
  exact cI_w (p_kindAt (d := 41) (P := fun x y m2 => x = y ∧ lK C w.1 w m2) (lj _) (lj _) hI (fun v m2 h => ⟨rfl, rfl, C, by omega, by omega, h⟩)) (fun _ _ h => h)
theorem arm_331 (h0 : 0 ≤ z) (h1 : z ≤ (w.1 : Int) - 6) (hw : w.1 ≤ 3072) (hC : 0 ≤ C ∧ C ≤ 10000000) (hI : IV C w m) (HK : ∀ w1 m2, lK C w.1 w1 m2 → mm_W 51 293 747 (lL (J z)) [] (zE w1 m2) Q) : mm_W 51 293 331 (lL (J z)) [] (zE w m) Q := by
  have hin : ∀ q ∈ ([(1, false), (2, false)] : List (Nat × Bool)), vp_in (J z + Int32.ofNat q.1) w.1 := fun q hq => l_in h0 h1 hw (by revert q; decide)
  refine law_armI (d := 50) (l := [(1, false), (2, false)]) (k1 := 128) (k2 := 270) (K := lK C w.1) (by decide +kernel) hin ?_ (fun w1 m2 _ _ h => HK w1 m2 h)
  show cIw 50 128 [.ref 3, .int (lval m (J z) (1, false)), .int (lval m (J z) (2, false))] w m (fun x w1 m1 => cI 50 270 [.ref 261, .int (lval m (J z) (1, false)), .int (lval m (J z) (2, false))] w1 m1 (fun y m2 => x = y ∧ lK C w.1 w1 m2))
  rw [lJ (lval m (J z) (1, false)), lJ (lval m (J z) (2, false))]
  exact cI_w (p_match (d := 41) (P := fun x y m2 => x = y ∧ lK C w.1 w m2) (lj _) (lj _) hI (fun v m2 h => ⟨rfl, rfl, C, by omega, by omega, h⟩)) (fun _ _ h => h)
theorem arm_358 (h0 : 0 ≤ z) (h1 : z ≤ (w.1 : Int) - 6) (hw : w.1 ≤ 3072) (hC : 0 ≤ C ∧ C ≤ 10000000) (hI : IV C w m) (HK : ∀ w1 m2, lK C w.1 w1 m2 → mm_W 51 293 747 (lL (J z)) [] (zE w1 m2) Q) : mm_W 51 293 358 (lL (J z)) [] (zE w m) Q := by
  have hin : ∀ q ∈ ([(1, false), (2, true)] : List (Nat × Bool)), vp_in (J z + Int32.ofNat q.1) w.1 := fun q hq => l_in h0 h1 hw (by revert q; decide)
  refine law_armI (d := 50) (l := [(1, false), (2, true)]) (k1 := 129) (k2 := 274) (K := lK C w.1) (by decide +kernel) hin ?_ (fun w1 m2 _ _ h => HK w1 m2 h)
  show cIw 50 129 [.ref 3, .int (lval m (J z) (1, false)), .int (lval m (J z) (2, true))] w m (fun x w1 m1 => cI 50 274 [.ref 261, .int (lval m (J z) (1, false)), .int (lval m (J z) (2, true))] w1 m1 (fun y m2 => x = y ∧ lK C w.1 w1 m2))
  rw [lJ (lval m (J z) (1, false)), lJ (lval m (J z) (2, true))]
  exact cI_w (p_term (d := 41) (P := fun x y m2 => x = y ∧ lK C w.1 w m2) (lj _) (lj _) hI (fun v m2 h => ⟨rfl, rfl, C, by omega, by omega, h⟩)) (fun _ _ h => h)
theorem arm_393 (h0 : 0 ≤ z) (h1 : z ≤ (w.1 : Int) - 6) (hw : w.1 ≤ 3072) (hC : 0 ≤ C ∧ C ≤ 10000000) (hI : IV C w m) (HK : ∀ w1 m2, lK C w.1 w1 m2 → mm_W 51 293 747 (lL (J z)) [] (zE w1 m2) Q) : mm_W 51 293 393 (lL (J z)) [] (zE w m) Q := by
  have hin : ∀ q ∈ ([(1, false)] : List (Nat × Bool)), vp_in (J z + Int32.ofNat q.1) w.1 := fun q hq => l_in h0 h1 hw (by revert q; decide)
  refine law_armI (d := 50) (l := [(1, false)]) (k1 := 130) (k2 := 265) (K := lK C w.1) (by decide +kernel) hin ?_ (fun w1 m2 _ _ h => HK w1 m2 h)
  show cIw 50 130 [.ref 3, .int (lval m (J z) (1, false))] w m (fun x w1 m1 => cI 50 265 [.ref 261, .int (lval m (J z) (1, false))] w1 m1 (fun y m2 => x = y ∧ lK C w.1 w1 m2))
  rw [lJ (lval m (J z) (1, false))]
  exact cI_w (i_slate (d := 49) (P := fun x y m2 => x = y ∧ lK C w.1 w m2) (lj _) hI (fun v m2 h => ⟨rfl, rfl, C, by omega, by omega, h⟩)) (fun _ _ h => h)
theorem arm_410 (h0 : 0 ≤ z) (h1 : z ≤ (w.1 : Int) - 6) (hw : w.1 ≤ 3072) (hC : 0 ≤ C ∧ C ≤ 10000000) (hI : IV C w m) (HK : ∀ w1 m2, lK C w.1 w1 m2 → mm_W 51 293 747 (lL (J z)) [] (zE w1 m2) Q) : mm_W 51 293 410 (lL (J z)) [] (zE w m) Q := by
  have hin : ∀ q ∈ ([] : List (Nat × Bool)), vp_in (J z + Int32.ofNat q.1) w.1 := fun q hq => l_in h0 h1 hw (by revert q; decide)
  refine law_armI (d := 50) (l := []) (k1 := 131) (k2 := 275) (K := lK C w.1) (by decide +kernel) hin ?_ (fun w1 m2 _ _ h => HK w1 m2 h)
  show cIw 50 131 [.ref 3] w m (fun x w1 m1 => cI 50 275 [.ref 261] w1 m1 (fun y m2 => x = y ∧ lK C w.1 w1 m2))
  exact cI_w (p_find (d := 40) (P := fun x y m2 => x = y ∧ lK C w.1 w m2)  hI (fun v m2 h => ⟨rfl, rfl, C, by omega, by omega, h⟩)) (fun _ _ h => h)
theorem arm_417 (h0 : 0 ≤ z) (h1 : z ≤ (w.1 : Int) - 6) (hw : w.1 ≤ 3072) (hC : 0 ≤ C ∧ C ≤ 10000000) (hI : IV C w m) (HK : ∀ w1 m2, lK C w.1 w1 m2 → mm_W 51 293 747 (lL (J z)) [] (zE w1 m2) Q) : mm_W 51 293 417 (lL (J z)) [] (zE w m) Q := by
  have hin : ∀ q ∈ ([(1, false), (2, false)] : List (Nat × Bool)), vp_in (J z + Int32.ofNat q.1) w.1 := fun q hq => l_in h0 h1 hw (by revert q; decide)
  refine law_armI (d := 50) (l := [(1, false), (2, false)]) (k1 := 132) (k2 := 277) (K := lK C w.1) (by decide +kernel) hin ?_ (fun w1 m2 _ _ h => HK w1 m2 h)
  show cIw 50 132 [.ref 3, .int (lval m (J z) (1, false)), .int (lval m (J z) (2, false))] w m (fun x w1 m1 => cI 50 277 [.ref 261, .int (lval m (J z) (1, false)), .int (lval m (J z) (2, false))] w1 m1 (fun y m2 => x = y ∧ lK C w.1 w1 m2))
  rw [lJ (lval m (J z) (1, false)), lJ (lval m (J z) (2, false))]
  exact cI_w (p_told (d := 41) (P := fun x y m2 => x = y ∧ lK C w.1 w m2) (lj _) (lj _) hI (fun v m2 h => ⟨rfl, rfl, C, by omega, by omega, h⟩)) (fun _ _ h => h)
theorem arm_444 (h0 : 0 ≤ z) (h1 : z ≤ (w.1 : Int) - 6) (hw : w.1 ≤ 3072) (hC : 0 ≤ C ∧ C ≤ 10000000) (hI : IV C w m) (HK : ∀ w1 m2, lK C w.1 w1 m2 → mm_W 51 293 747 (lL (J z)) [] (zE w1 m2) Q) : mm_W 51 293 444 (lL (J z)) [] (zE w m) Q := by
  have hin : ∀ q ∈ ([(1, false), (2, false), (3, true)] : List (Nat × Bool)), vp_in (J z + Int32.ofNat q.1) w.1 := fun q hq => l_in h0 h1 hw (by revert q; decide)
  refine law_armL (d := 50) (l := [(1, false), (2, false), (3, true)]) (k1 := 133) (k2 := 258) (K := fun m2 => IV C w m2) (by decide +kernel) hin ?_ (fun m2 _ h => HK w m2 ⟨rfl, C, by omega, by omega, h⟩)
  show cL 50 133 [.ref 3, .int (lval m (J z) (1, false)), .int (lval m (J z) (2, false)), .int (lval m (J z) (3, true))] w m (fun x m1 => cL 50 258 [.ref 261, .int (lval m (J z) (1, false)), .int (lval m (J z) (2, false)), .int (lval m (J z) (3, true))] w m1 (fun y m2 => x = y ∧ IV C w m2))
  rw [lJ (lval m (J z) (1, false)), lJ (lval m (J z) (2, false)), lJ (lval m (J z) (3, true))]
  exact p_measure (d := 40) (P := fun x y m2 => x = y ∧ IV C w m2) (lj _) (lj _) (lj _) hI (fun v m2 h => ⟨rfl, h⟩)
theorem arm_489 (h0 : 0 ≤ z) (h1 : z ≤ (w.1 : Int) - 6) (hw : w.1 ≤ 3072) (hC : 0 ≤ C ∧ C ≤ 10000000) (hI : IV C w m) (HK : ∀ w1 m2, lK C w.1 w1 m2 → mm_W 51 293 747 (lL (J z)) [] (zE w1 m2) Q) : mm_W 51 293 489 (lL (J z)) [] (zE w m) Q := by
  have hin : ∀ q ∈ ([(1, false), (2, false)] : List (Nat × Bool)), vp_in (J z + Int32.ofNat q.1) w.1 := fun q hq => l_in h0 h1 hw (by revert q; decide)
  refine law_armI (d := 50) (l := [(1, false), (2, false)]) (k1 := 134) (k2 := 259) (K := lK C w.1) (by decide +kernel) hin ?_ (fun w1 m2 _ _ h => HK w1 m2 h)
  show cIw 50 134 [.ref 3, .int (lval m (J z) (1, false)), .int (lval m (J z) (2, false))] w m (fun x w1 m1 => cI 50 259 [.ref 261, .int (lval m (J z) (1, false)), .int (lval m (J z) (2, false))] w1 m1 (fun y m2 => x = y ∧ lK C w.1 w1 m2))
  rw [lJ (lval m (J z) (1, false)), lJ (lval m (J z) (2, false))]
  exact cI_w (p_share (d := 40) (P := fun x y m2 => x = y ∧ lK C w.1 w m2) (lj _) (lj _) hI (fun v m2 h => ⟨rfl, rfl, C, by omega, by omega, h⟩)) (fun _ _ h => h)
theorem arm_516 (h0 : 0 ≤ z) (h1 : z ≤ (w.1 : Int) - 6) (hw : w.1 ≤ 3072) (hC : 0 ≤ C ∧ C ≤ 10000000) (hI : IV C w m) (HK : ∀ w1 m2, lK C w.1 w1 m2 → mm_W 51 293 747 (lL (J z)) [] (zE w1 m2) Q) : mm_W 51 293 516 (lL (J z)) [] (zE w m) Q := by
  have hin : ∀ q ∈ ([(1, false), (2, false)] : List (Nat × Bool)), vp_in (J z + Int32.ofNat q.1) w.1 := fun q hq => l_in h0 h1 hw (by revert q; decide)
  refine law_armL (d := 50) (l := [(1, false), (2, false)]) (k1 := 135) (k2 := 260) (K := fun m2 => IV C w m2) (by decide +kernel) hin ?_ (fun m2 _ h => HK w m2 ⟨rfl, C, by omega, by omega, h⟩)
  show cL 50 135 [.ref 3, .int (lval m (J z) (1, false)), .int (lval m (J z) (2, false))] w m (fun x m1 => cL 50 260 [.ref 261, .int (lval m (J z) (1, false)), .int (lval m (J z) (2, false))] w m1 (fun y m2 => x = y ∧ IV C w m2))
  rw [lJ (lval m (J z) (1, false)), lJ (lval m (J z) (2, false))]
  exact p_rest (d := 40) (P := fun x y m2 => x = y ∧ IV C w m2) (lj _) (lj _) hI (fun v m2 h => ⟨rfl, h⟩)
theorem arm_543 (h0 : 0 ≤ z) (h1 : z ≤ (w.1 : Int) - 6) (hw : w.1 ≤ 3072) (hC : 0 ≤ C ∧ C ≤ 10000000) (hI : IV C w m) (HK : ∀ w1 m2, lK C w.1 w1 m2 → mm_W 51 293 747 (lL (J z)) [] (zE w1 m2) Q) : mm_W 51 293 543 (lL (J z)) [] (zE w m) Q := by
  have hin : ∀ q ∈ ([(1, false), (2, false)] : List (Nat × Bool)), vp_in (J z + Int32.ofNat q.1) w.1 := fun q hq => l_in h0 h1 hw (by revert q; decide)
  refine law_armI (d := 50) (l := [(1, false), (2, false)]) (k1 := 136) (k2 := 261) (K := lK C w.1) (by decide +kernel) hin ?_ (fun w1 m2 _ _ h => HK w1 m2 h)
  show cIw 50 136 [.ref 3, .int (lval m (J z) (1, false)), .int (lval m (J z) (2, false))] w m (fun x w1 m1 => cI 50 261 [.ref 261, .int (lval m (J z) (1, false)), .int (lval m (J z) (2, false))] w1 m1 (fun y m2 => x = y ∧ lK C w.1 w1 m2))
  rw [lJ (lval m (J z) (1, false)), lJ (lval m (J z) (2, false))]
  exact cI_w (p_ranked (d := 41) (P := fun x y m2 => x = y ∧ lK C w.1 w m2) (lj _) (lj _) hI (fun v m2 h => ⟨rfl, rfl, C, by omega, by omega, h⟩)) (fun _ _ h => h)
theorem arm_570 (h0 : 0 ≤ z) (h1 : z ≤ (w.1 : Int) - 6) (hw : w.1 ≤ 3072) (hC : 0 ≤ C ∧ C ≤ 10000000) (hI : IV C w m) (HK : ∀ w1 m2, lK C w.1 w1 m2 → mm_W 51 293 747 (lL (J z)) [] (zE w1 m2) Q) : mm_W 51 293 570 (lL (J z)) [] (zE w m) Q := by
  have hin : ∀ q ∈ ([(1, false), (2, false)] : List (Nat × Bool)), vp_in (J z + Int32.ofNat q.1) w.1 := fun q hq => l_in h0 h1 hw (by revert q; decide)
  refine law_armI (d := 50) (l := [(1, false), (2, false)]) (k1 := 137) (k2 := 262) (K := lK C w.1) (by decide +kernel) hin ?_ (fun w1 m2 _ _ h => HK w1 m2 h)
  show cIw 50 137 [.ref 3, .int (lval m (J z) (1, false)), .int (lval m (J z) (2, false))] w m (fun x w1 m1 => cI 50 262 [.ref 261, .int (lval m (J z) (1, false)), .int (lval m (J z) (2, false))] w1 m1 (fun y m2 => x = y ∧ lK C w.1 w1 m2))
  rw [lJ (lval m (J z) (1, false)), lJ (lval m (J z) (2, false))]
  exact cI_w (p_rank (d := 41) (P := fun x y m2 => x = y ∧ lK C w.1 w m2) (lj _) (lj _) hI (fun v m2 h => ⟨rfl, rfl, C, by omega, by omega, h⟩)) (fun _ _ h => h)
theorem arm_597 (h0 : 0 ≤ z) (h1 : z ≤ (w.1 : Int) - 6) (hw : w.1 ≤ 3072) (hC : 0 ≤ C ∧ C ≤ 10000000) (hI : IV C w m) (HK : ∀ w1 m2, lK C w.1 w1 m2 → mm_W 51 293 747 (lL (J z)) [] (zE w1 m2) Q) : mm_W 51 293 597 (lL (J z)) [] (zE w m) Q := by
  have hin : ∀ q ∈ ([(1, false), (2, false)] : List (Nat × Bool)), vp_in (J z + Int32.ofNat q.1) w.1 := fun q hq => l_in h0 h1 hw (by revert q; decide)
  refine law_armI (d := 50) (l := [(1, false), (2, false)]) (k1 := 138) (k2 := 278) (K := lK C w.1) (by decide +kernel) hin ?_ (fun w1 m2 _ _ h => HK w1 m2 h)
  show cIw 50 138 [.ref 3, .int (lval m (J z) (1, false)), .int (lval m (J z) (2, false))] w m (fun x w1 m1 => cI 50 278 [.ref 261, .int (lval m (J z) (1, false)), .int (lval m (J z) (2, false))] w1 m1 (fun y m2 => x = y ∧ lK C w.1 w1 m2))
  rw [lJ (lval m (J z) (1, false)), lJ (lval m (J z) (2, false))]
  exact cI_w (p_longer (d := 41) (P := fun x y m2 => x = y ∧ lK C w.1 w m2) (lj _) (lj _) hI (fun v m2 h => ⟨rfl, rfl, C, by omega, by omega, h⟩)) (fun _ _ h => h)
theorem arm_624 (h0 : 0 ≤ z) (h1 : z ≤ (w.1 : Int) - 6) (hw : w.1 ≤ 3072) (hC : 0 ≤ C ∧ C ≤ 10000000) (hI : IV C w m) (HK : ∀ w1 m2, lK C w.1 w1 m2 → mm_W 51 293 747 (lL (J z)) [] (zE w1 m2) Q) : mm_W 51 293 624 (lL (J z)) [] (zE w m) Q := by
  have hin : ∀ q ∈ ([(1, false), (2, false)] : List (Nat × Bool)), vp_in (J z + Int32.ofNat q.1) w.1 := fun q hq => l_in h0 h1 hw (by revert q; decide)
  refine law_armI (d := 50) (l := [(1, false), (2, false)]) (k1 := 139) (k2 := 279) (K := lK C w.1) (by decide +kernel) hin ?_ (fun w1 m2 _ _ h => HK w1 m2 h)
  show cIw 50 139 [.ref 3, .int (lval m (J z) (1, false)), .int (lval m (J z) (2, false))] w m (fun x w1 m1 => cI 50 279 [.ref 261, .int (lval m (J z) (1, false)), .int (lval m (J z) (2, false))] w1 m1 (fun y m2 => x = y ∧ lK C w.1 w1 m2))
  rw [lJ (lval m (J z) (1, false)), lJ (lval m (J z) (2, false))]
  exact cI_w (p_around (d := 41) (P := fun x y m2 => x = y ∧ lK C w.1 w m2) (lj _) (lj _) hI (fun v m2 h => ⟨rfl, rfl, C, by omega, by omega, h⟩)) (fun _ _ h => h)
theorem arm_651 (h0 : 0 ≤ z) (h1 : z ≤ (w.1 : Int) - 6) (hw : w.1 ≤ 3072) (hC : 0 ≤ C ∧ C ≤ 10000000) (hI : IV C w m) (HK : ∀ w1 m2, lK C w.1 w1 m2 → mm_W 51 293 747 (lL (J z)) [] (zE w1 m2) Q) : mm_W 51 293 651 (lL (J z)) [] (zE w m) Q := by
  have hin : ∀ q ∈ ([(1, true)] : List (Nat × Bool)), vp_in (J z + Int32.ofNat q.1) w.1 := fun q hq => l_in h0 h1 hw (by revert q; decide)
  refine law_armL (d := 50) (l := [(1, true)]) (k1 := 140) (k2 := 280) (K := fun m2 => IV C w m2) (by decide +kernel) hin ?_ (fun m2 _ h => HK w m2 ⟨rfl, C, by omega, by omega, h⟩)
  show cL 50 140 [.ref 3, .int (lval m (J z) (1, true))] w m (fun x m1 => cL 50 280 [.ref 261, .int (lval m (J z) (1, true))] w m1 (fun y m2 => x = y ∧ IV C w m2))
  rw [lJ (lval m (J z) (1, true))]
  exact p_likely (d := 41) (P := fun x y m2 => x = y ∧ IV C w m2) (lj _) hI (fun v m2 h => ⟨rfl, h⟩)
theorem arm_676 (h0 : 0 ≤ z) (h1 : z ≤ (w.1 : Int) - 6) (hw : w.1 ≤ 3072) (hC : 0 ≤ C ∧ C ≤ 10000000) (hI : IV C w m) (HK : ∀ w1 m2, lK C w.1 w1 m2 → mm_W 51 293 747 (lL (J z)) [] (zE w1 m2) Q) : mm_W 51 293 676 (lL (J z)) [] (zE w m) Q := by
  have hin : ∀ q ∈ ([(1, false), (2, false)] : List (Nat × Bool)), vp_in (J z + Int32.ofNat q.1) w.1 := fun q hq => l_in h0 h1 hw (by revert q; decide)
  refine law_armI (d := 50) (l := [(1, false), (2, false)]) (k1 := 141) (k2 := 281) (K := lK C w.1) (by decide +kernel) hin ?_ (fun w1 m2 _ _ h => HK w1 m2 h)
  show cIw 50 141 [.ref 3, .int (lval m (J z) (1, false)), .int (lval m (J z) (2, false))] w m (fun x w1 m1 => cI 50 281 [.ref 261, .int (lval m (J z) (1, false)), .int (lval m (J z) (2, false))] w1 m1 (fun y m2 => x = y ∧ lK C w.1 w1 m2))
  rw [lJ (lval m (J z) (1, false)), lJ (lval m (J z) (2, false))]
  exact cI_w (p_head (d := 41) (P := fun x y m2 => x = y ∧ lK C w.1 w m2) (lj _) (lj _) hI (fun v m2 h => ⟨rfl, rfl, C, by omega, by omega, h⟩)) (fun _ _ h => h)
theorem arm_703 (h0 : 0 ≤ z) (h1 : z ≤ (w.1 : Int) - 6) (hw : w.1 ≤ 3072) (hC : 0 ≤ C ∧ C ≤ 10000000) (hI : IV C w m) (HK : ∀ w1 m2, lK C w.1 w1 m2 → mm_W 51 293 747 (lL (J z)) [] (zE w1 m2) Q) : mm_W 51 293 703 (lL (J z)) [] (zE w m) Q := by
  have hin : ∀ q ∈ ([(1, false), (2, false)] : List (Nat × Bool)), vp_in (J z + Int32.ofNat q.1) w.1 := fun q hq => l_in h0 h1 hw (by revert q; decide)
  refine law_armI (d := 50) (l := [(1, false), (2, false)]) (k1 := 142) (k2 := 282) (K := lK C w.1) (by decide +kernel) hin ?_ (fun w1 m2 _ _ h => HK w1 m2 h)
  show cIw 50 142 [.ref 3, .int (lval m (J z) (1, false)), .int (lval m (J z) (2, false))] w m (fun x w1 m1 => cI 50 282 [.ref 261, .int (lval m (J z) (1, false)), .int (lval m (J z) (2, false))] w1 m1 (fun y m2 => x = y ∧ lK C w.1 w1 m2))
  rw [lJ (lval m (J z) (1, false)), lJ (lval m (J z) (2, false))]
  exact cI_w (p_cover (d := 41) (P := fun x y m2 => x = y ∧ lK C w.1 w m2) (lj _) (lj _) hI (fun v m2 h => ⟨rfl, rfl, C, by omega, by omega, h⟩)) (fun _ _ h => h)
theorem arm_730 (h0 : 0 ≤ z) (h1 : z ≤ (w.1 : Int) - 6) (hw : w.1 ≤ 3072) (hC : 0 ≤ C ∧ C ≤ 10000000) (hI : IV C w m) (HK : ∀ w1 m2, lK C w.1 w1 m2 → mm_W 51 293 747 (lL (J z)) [] (zE w1 m2) Q) : mm_W 51 293 730 (lL (J z)) [] (zE w m) Q := by
  have hin : ∀ q ∈ ([(1, false)] : List (Nat × Bool)), vp_in (J z + Int32.ofNat q.1) w.1 := fun q hq => l_in h0 h1 hw (by revert q; decide)
  refine law_armI (d := 50) (l := [(1, false)]) (k1 := 143) (k2 := 283) (K := lK C w.1) (by decide +kernel) hin ?_ (fun w1 m2 _ _ h => HK w1 m2 h)
  show cIw 50 143 [.ref 3, .int (lval m (J z) (1, false))] w m (fun x w1 m1 => cI 50 283 [.ref 261, .int (lval m (J z) (1, false))] w1 m1 (fun y m2 => x = y ∧ lK C w.1 w1 m2))
  rw [lJ (lval m (J z) (1, false))]
  exact cI_w (i_look (d := 49) (P := fun x y m2 => x = y ∧ lK C w.1 w m2) (lj _) hI (fun v m2 h => ⟨rfl, rfl, C, by omega, by omega, h⟩)) (fun _ _ h => h)
end ARMS
section LAWLOOP
variable {Q : mm_Q}
theorem law_at10 : ∃ p1 p2 p3 p4 p5 p6 a1 a2 a3 a4 a5 a6 v1 v2 v3 v5, mm_at 293 10 = some (.iload_n a1, p1, [3], v1) ∧ mm_at 293 11 = some (.aload_n a2, p2, [0], v2) ∧ mm_at 293 12 = some (.arraylength, p3, [20], v3) ∧ mm_at 293 13 = some (.bipush a4, p4, a3, .int 6) ∧ mm_at 293 14 = some (.isub, p5, a5, v5) ∧ mm_at 293 15 = some (.if_icmp .gt a6, p6, [749], .null) := ⟨_, _, _, _, _, _, _, _, _, _, _, _, _, _, _, _, rfl, rfl, rfl, rfl, rfl, rfl⟩
theorem law_at16 : ∃ p1 p2 p3 p4 p5 a1 a2 a4 v1 v2 v3 v5 x4 x5, mm_at 293 16 = some (.aload_n a1, p1, [0], v1) ∧ mm_at 293 17 = some (.iload_n a2, p2, [3], v2) ∧ mm_at 293 18 = some (.iaload, p3, [20], v3) ∧ mm_at 293 19 = some (.bipush a4, p4, x4, .int 31) ∧ mm_at 293 20 = some (.iand, p5, x5, v5) := ⟨_, _, _, _, _, _, _, _, _, _, _, _, _, _, rfl, rfl, rfl, rfl, rfl⟩
theorem law_at21 : ∃ p a b c v, mm_at 293 21 = some (.tableswitch a 0 b c, p, [747,22,79,96,113,120,137,154,181,208,225,232,259,304,331,358,393,410,417,444,489,516,543,570,597,624,651,676,703,730], v) := ⟨_, _, _, _, _, rfl⟩
set_option maxRecDepth 100000 in
theorem law_at747 : ∃ p1 p2 p3 p4 a1 a2 a3 a4 v2 v4 x3, mm_at 293 747 = some (.iinc a1 a2, p1, [3], .int 6) ∧ mm_at 293 748 = some (.goto a3, p2, [10], v2) ∧ mm_at 293 749 = some (.iconst a4, p3, x3, .int 1) ∧ mm_at 293 750 = some (.ireturn, p4, [3], v4) := ⟨_, _, _, _, _, _, _, _, _, _, _, rfl, rfl, rfl, rfl⟩
theorem law_loop (HQ : ∀ w m, Q (some (.int 1)) (zE w m)) : ∀ (n : Nat) (z C : Int) (w : Nat × Nat × Nat) (m : zM), 0 ≤ z → z ≤ 3072 → 3072 < z + 6 * n → 0 ≤ C → C ≤ 602 * z → w.1 ≤ 3072 → IV C w m → mm_W 51 293 10 (lL (J z)) [] (zE w m) Q := by
  intro n
  induction n with
  | zero => intro z C w m h0 h1 h2; omega
  | succ n ih =>
    intro z C w m h0 h1 h2 hC0 hC1 hw hI
    obtain ⟨p1, p2, p3, p4, p5, p6, a1, a2, a3, a4, a5, a6, v1, v2, v3, v5, g1, g2, g3, g4, g5, g6⟩ := law_at10
    obtain ⟨q1, q2, q3, q4, b1, b2, b3, b4, u2, u4, x3, k1, k2, k3, k4⟩ := law_at747
    have rw6 : r32 ((w.1 : Int) - 6) := by unfold r32; omega
    have rz : r32 z := by unfold r32; omega
    have e6 : Int32.ofNat w.1 - 6 = J ((w.1 : Int) - 6) := by
      rw [ofn_J, show (6 : Int32) = J 6 from rfl, j_ops.2.1]
    refine law_1 g1 (law_1 g2 (law_1 g3 ⟨rfl, law_1 g4 (law_1 g5 (law_1 g6 ⟨fun _ => ?_, fun hz => ?_⟩))⟩))
    · exact law_1 k3 (law_1 k4 ⟨Or.inr rfl, HQ w m⟩)
    · have hz : ¬ (Int32.ofNat w.1 - 6 < J z) := hz
      rw [e6, J_lt rw6 rz] at hz
      have hz : z ≤ (w.1 : Int) - 6 := by omega
      have HK : ∀ w1 m2, lK C w.1 w1 m2 → mm_W 51 293 747 (lL (J z)) [] (zE w1 m2) Q := by
        intro w1 m2 ⟨hw1, C', c1, c2, hI'⟩
        refine law_1 k1 (law_1 k2 ?_)
        show mm_W 51 293 10 (lL (J z + 6)) [] (zE w1 m2) Q
        rw [show (6 : Int32) = J 6 from rfl, j_ops.1]
        exact ih (z + 6) C' w1 m2 (by omega) (by omega) (by omega) (by omega) (by omega) (by omega) hI'
      obtain ⟨p1, p2, p3, p4, p5, a1, a2, a4, v1, v2, v3, v5, x4, x5, g1, g2, g3, g4, g5⟩ := law_at16
      obtain ⟨p, a, b, c, v, g6⟩ := law_at21
      have hv : vp_in (J z) w.1 := by rw [vp_J rz]; omega
      refine law_1 g1 (law_1 g2 (law_1 g3 ⟨⟨rfl, hv⟩, law_1 g4 (law_1 g5 (law_1 g6 ?_))⟩))
      have hC : 0 ≤ C ∧ C ≤ 10000000 := by omega
      refine swW_all (F := fun t => mm_W 51 293 t (lL (J z)) [] (zE w m) Q) _ _ (HK w m ⟨rfl, C, by omega, by omega, hI⟩) ?_
      show ∀ q ∈ mm_swl 0 [22,79,96,113,120,137,154,181,208,225,232,259,304,331,358,393,410,417,444,489,516,543,570,597,624,651,676,703,730], mm_W 51 293 q.2 (lL (J z)) [] (zE w m) Q
      exact List.forall_mem_cons.mpr ⟨arm_22 h0 hz hw hC hI HK, List.forall_mem_cons.mpr ⟨arm_79 h0 hz hw hC hI HK, List.forall_mem_cons.mpr ⟨arm_96 h0 hz hw hC hI HK, List.forall_mem_cons.mpr ⟨arm_113 h0 hz hw hC hI HK, List.forall_mem_cons.mpr ⟨arm_120 h0 hz hw hC hI HK, List.forall_mem_cons.mpr ⟨arm_137 h0 hz hw hC hI HK, List.forall_mem_cons.mpr ⟨arm_154 h0 hz hw hC hI HK, List.forall_mem_cons.mpr ⟨arm_181 h0 hz hw hC hI HK, List.forall_mem_cons.mpr ⟨arm_208 h0 hz hw hC hI HK, List.forall_mem_cons.mpr ⟨arm_225 h0 hz hw hC hI HK, List.forall_mem_cons.mpr ⟨arm_232 h0 hz hw hC hI HK, List.forall_mem_cons.mpr ⟨arm_259 h0 hz hw hC hI HK, List.forall_mem_cons.mpr ⟨arm_304 h0 hz hw hC hI HK, List.forall_mem_cons.mpr ⟨arm_331 h0 hz hw hC hI HK, List.forall_mem_cons.mpr ⟨arm_358 h0 hz hw hC hI HK, List.forall_mem_cons.mpr ⟨arm_393 h0 hz hw hC hI HK, List.forall_mem_cons.mpr ⟨arm_410 h0 hz hw hC hI HK, List.forall_mem_cons.mpr ⟨arm_417 h0 hz hw hC hI HK, List.forall_mem_cons.mpr ⟨arm_444 h0 hz hw hC hI HK, List.forall_mem_cons.mpr ⟨arm_489 h0 hz hw hC hI HK, List.forall_mem_cons.mpr ⟨arm_516 h0 hz hw hC hI HK, List.forall_mem_cons.mpr ⟨arm_543 h0 hz hw hC hI HK, List.forall_mem_cons.mpr ⟨arm_570 h0 hz hw hC hI HK, List.forall_mem_cons.mpr ⟨arm_597 h0 hz hw hC hI HK, List.forall_mem_cons.mpr ⟨arm_624 h0 hz hw hC hI HK, List.forall_mem_cons.mpr ⟨arm_651 h0 hz hw hC hI HK, List.forall_mem_cons.mpr ⟨arm_676 h0 hz hw hC hI HK, List.forall_mem_cons.mpr ⟨arm_703 h0 hz hw hC hI HK, List.forall_mem_cons.mpr ⟨arm_730 h0 hz hw hC hI HK, fun _ h => absurd h List.not_mem_nil⟩⟩⟩⟩⟩⟩⟩⟩⟩⟩⟩⟩⟩⟩⟩⟩⟩⟩⟩⟩⟩⟩⟩⟩⟩⟩⟩⟩⟩
end LAWLOOP
