/-! told: the reference, but for the number of forms -/
section QT2
variable {d : Nat} {w : Nat × Nat × Nat} {C : Int} {N : Int → Int} {mv : zM} {b : Nat}
theorem c_M_toldQ {Q : Int32 → zM → Prop} {m : zM} {t c : Int} (rt : r32 t) (rc : r32 c) (hI : IVN C w m N) (H4 : c = 4 → ∀ m1, IVN C w m1 N → DM m1 N → 0 ≤ t ∧ t < Zn N → cV (d + 6) 273 [.ref 261, .int (J t)] w m1 (fun m3 => Q (m3.1 261 55) m3)) (H : ∀ m' v, IVN C w m' N → TQs N t c v → Q (J v) m') : cI (d + 7) 277 [.ref 261, .int (J t), .int (J c)] w m Q := by
  refine S_M_told (c_Llays (d := d + 1) hI (fun m0 hI0 _ hd0 _ => ?_))
  have hZ0 := Zn_b hI0.2.2.2.2.1
  have hM0 := Mn_b hI0.2.2.2.2.1
  have e32 := hd0.2.1.2.1
  simp (disch := first | exact rt | exact rc | (unfold r32; omega) | omega) only [j_lit, j_ops, J_eq, j_rd, j_nc, e32]
  refine ⟨fun q => c_M_isTerm (d := d) rt hI0 (fun m1 hI1 hd _ _ hin => ?_) (fun m1 hI1 hd _ _ hin => ?_), fun q => H m0 _ hI0 (by unfold TQs; rw [if_pos q])⟩
  · have hT := hI1.2.2.2.2.1
    have hR := hI1.2.2.2.1
    have hM := Mn_b hT
    have hZ := Zn_b hT
    obtain ⟨e79, e80, e82, e81⟩ := hd.2.2.1.2 t hin.1 hin.2
    obtain ⟨e83, e84, e85⟩ := hd.2.2.2.1 t hin.1 hin.2
    have e78 := (hd.2.1.tlr hT hin.1 hin.2).1
    have fin : ∀ v, TQ N t c v → Q (J v) m1 := fun v hv => H m1 v hI1 (by unfold TQs; rw [if_neg q, if_pos hin]; exact hv)
    simp (disch := first | exact rc | (unfold r32; omega) | omega) only [j_lit, j_ops, J_eq, vp_J, J_cl, iq_tn, j_rd, j_nc, e79, e80, e83, e84, e85, e78]
    refine ⟨fun _ => ⟨fun z0 => ⟨by omega, fin _ ?_⟩, fun z0 => ⟨fun z1 => ⟨by omega, fin _ ?_⟩, fun z1 => ⟨fun z2 => ⟨by omega, fin _ ?_⟩, fun z2 => ⟨fun z3 => ⟨by omega, fin _ ?_⟩, fun z3 => ⟨fun z4 => ?_, fun z4 => ⟨fun z5 => ⟨by omega, fin _ ?_⟩, fun z5 => ⟨fun z6 => ⟨by omega, fin _ ?_⟩, fun z6 => ⟨fun z7 => ⟨by omega, fin _ ?_⟩, fun z7 => ⟨fun z8 => ?_, fun z8 => ⟨fun z9 => ⟨by omega, fin _ ?_⟩, fun z9 => fin _ ?_⟩⟩⟩⟩⟩⟩⟩⟩⟩⟩, fun y => by first | omega | exact absurd y (by simp)⟩
    · unfold TQ; rw [if_pos z0]
    · unfold TQ; rw [if_neg z0, if_pos z1]
    · unfold TQ; rw [if_neg z0, if_neg z1, if_pos z2]
    · unfold TQ; rw [if_neg z0, if_neg z1, if_neg z2, if_pos z3]
    · have := H4 z4 m1 hI1 hd hin
      simp only [j_rd, j_nc] at this
      exact this
    · unfold TQ; rw [if_neg z0, if_neg z1, if_neg z2, if_neg z3, if_neg z4, if_pos z5]
    · unfold TQ; rw [if_neg z0, if_neg z1, if_neg z2, if_neg z3, if_neg z4, if_neg z5, if_pos z6]
    · unfold TQ; rw [if_neg z0, if_neg z1, if_neg z2, if_neg z3, if_neg z4, if_neg z5, if_neg z6, if_pos z7]; exact e82
    · refine c_M_aroundOf (d := d + 4) hT hR hd.1 hd.2.1 hd.2.2.1 hin (fun m2 f2 => ?_)
      have hI2 : IVN C w m2 N := (hI1.ba.fq f2 (by intro c hc; simp at hc; omega)).n (hI1.2.2.2.2.2.1.mv (f2 6 (by simp)).1 (f2 7 (by simp)).1 (f2 294 (by simp)).1 (f2.i (by simp) 54))
      exact H m2 _ hI2 (by unfold TQs TQ; rw [if_neg q, if_pos hin, if_neg z0, if_neg z1, if_neg z2, if_neg z3, if_neg z4, if_neg z5, if_neg z6, if_neg z7, if_pos z8])
    · unfold TQ; rw [if_neg z0, if_neg z1, if_neg z2, if_neg z3, if_neg z4, if_neg z5, if_neg z6, if_neg z7, if_neg z8, if_pos z9]; exact e81
    · unfold TQ; rw [if_neg z0, if_neg z1, if_neg z2, if_neg z3, if_neg z4, if_neg z5, if_neg z6, if_neg z7, if_neg z8, if_neg z9]
  · simp (disch := first | exact rc | (unfold r32; omega) | omega) only [j_lit, j_ops, J_eq]
    exact ⟨fun y => absurd trivial y, fun _ => H m1 _ hI1 (by unfold TQs; rw [if_neg q, if_neg hin])⟩
end QT2
