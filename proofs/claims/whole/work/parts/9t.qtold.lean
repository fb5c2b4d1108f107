/-! told: the class -/
def TQ (N : Int → Int) (t c v : Int) : Prop := if c = 0 then v = ct N t else if c = 1 then v = fe N t else if c = 2 then v = lo N t else if c = 3 then v = tkn N t else if c = 4 then (∃ u, enm u v (FSt N t)) else if c = 5 then v = gn N t else if c = 6 then v = tl N t else if c = 7 then dsP N t v else if c = 8 then v = ua N t else if c = 9 then fsP N t v else v = -1
/-- the answer to told -/
def TQs (N : Int → Int) (t c v : Int) : Prop := if t = -1 then v = Zn N else if 0 ≤ t ∧ t < Zn N then TQ N t c v else v = -1
theorem TQ.uniq {N : Int → Int} {t c v v' : Int} (h : TQ N t c v) (h' : TQ N t c v') : v = v' := by
  unfold TQ at h h'
  by_cases c0 : c = 0
  · rw [if_pos c0] at h h'; omega
  rw [if_neg c0] at h h'
  by_cases c1 : c = 1
  · rw [if_pos c1] at h h'; omega
  rw [if_neg c1] at h h'
  by_cases c2 : c = 2
  · rw [if_pos c2] at h h'; omega
  rw [if_neg c2] at h h'
  by_cases c3 : c = 3
  · rw [if_pos c3] at h h'; omega
  rw [if_neg c3] at h h'
  by_cases c4 : c = 4
  · rw [if_pos c4] at h h'
    obtain ⟨u, hu⟩ := h
    obtain ⟨u', hu'⟩ := h'
    exact (hu.uniq hu').1
  rw [if_neg c4] at h h'
  by_cases c5 : c = 5
  · rw [if_pos c5] at h h'; omega
  rw [if_neg c5] at h h'
  by_cases c6 : c = 6
  · rw [if_pos c6] at h h'; omega
  rw [if_neg c6] at h h'
  by_cases c7 : c = 7
  · rw [if_pos c7] at h h'
    obtain ⟨V, v1, v2, v3⟩ := h
    obtain ⟨V', w1, w2, w3⟩ := h'
    have e : V = V' := Nat.eq_of_testBit_eq (fun i => by
      have a := v3 i
      have b := w3 i
      have c : V.testBit i = true ↔ V'.testBit i = true := a.trans b.symm
      exact Bool.eq_iff_iff.mpr c)
    rw [v1, w1, e]
  rw [if_neg c7] at h h'
  by_cases c8 : c = 8
  · rw [if_pos c8] at h h'; omega
  rw [if_neg c8] at h h'
  by_cases c9 : c = 9
  · rw [if_pos c9] at h h'
    obtain ⟨a1, a2, a3, a4⟩ := h
    obtain ⟨b1, b2, b3, b4⟩ := h'
    have := a4 v' b1 b2 b3
    have := b4 v a1 a2 a3
    omega
  rw [if_neg c9] at h h'
  omega
section QTO
variable {d : Nat} {w : Nat × Nat × Nat} {C : Int} {N : Int → Int} {mv : zM} {b : Nat}
theorem c_toldQ {Q : Int32 → zM → Prop} {m : zM} {t c : Int} (rt : r32 t) (rc : r32 c) (hI : IVN C w m N) (H : ∀ m' v, IVN C w m' N → TQs N t c v → Q (J v) m') : cI (d + 9) 132 [.ref 3, .int (J t), .int (J c)] w m Q := by
  refine S_T_told (c_Ldraw (d := d) hI (fun m1 hI1 _ hd _ h61 => ?_))
  have hT := hI1.2.2.2.2.1
  have hM := Mn_b hT
  have hZ := Zn_b hT
  obtain ⟨hB, hDm, hT0, hU, _⟩ := hd
  simp (disch := first | exact rt | exact rc | (unfold r32; omega) | omega) only [j_lit, j_ops, J_eq, J_lt, j_rd, j_nc, hT0.1]
  have no : t ≠ -1 → ¬ (0 ≤ t ∧ t < Zn N) → Q (J (-1)) m1 := fun q q2 => H m1 _ hI1 (by unfold TQs; rw [if_neg q, if_neg q2])
  refine ⟨fun q => ⟨fun q1 => no q (by omega), fun q1 => ⟨fun q2 => S_Terms_toldOf ?_, fun q2 => no q (by omega)⟩⟩, fun q => H m1 _ hI1 (by unfold TQs; rw [if_pos q])⟩
  have t0 : 0 ≤ t := by omega
  obtain ⟨a1, a2, a3, a4, a5, a6, a7, a8, a9, a10⟩ := hT0.2.1 t t0 q2
  obtain ⟨u1, u2, u3, u4, u5⟩ := hU t t0 q2
  have fin : ∀ v, TQ N t c v → Q (J v) m1 := fun v hv => H m1 v hI1 (by unfold TQs; rw [if_neg q, if_pos ⟨t0, q2⟩]; exact hv)
  have at' : ∀ (a : Nat) (Q' : Int32 → zM → Prop), zAr w a 12 1200 → Q' (J (iq m1 a t)) m1 → cI (d + 7) 156 [.ref a, .int (J t)] w m1 Q' := fun a Q' ha hq => c_at (n := 1200) ha (by decide) rt (by omega) hq
  simp (disch := first | exact rc | (unfold r32; omega) | omega) only [j_lit, j_ops, J_eq]
  refine ⟨fun z0 => at' 240 _ rfl (fin _ ?_), fun z0 => ⟨fun z1 => at' 241 _ rfl (fin _ ?_), fun z1 => ⟨fun z2 => at' 242 _ rfl (fin _ ?_), fun z2 => ⟨fun z3 => at' 243 _ rfl (fin _ ?_), fun z3 => ⟨fun z4 => at' 244 _ rfl (fin _ ?_), fun z4 => ⟨fun z5 => at' 247 _ rfl (fin _ ?_), fun z5 => ⟨fun z6 => c_lengthOf (d := d + 5) hT hT0 t0 q2 (fin _ ?_), fun z6 => ⟨fun z7 => at' 248 _ rfl (fin _ ?_), fun z7 => ⟨fun z8 => at' 249 _ rfl (fin _ ?_), fun z8 => ⟨fun z9 => at' 246 _ rfl (fin _ ?_), fun z9 => fin _ ?_⟩⟩⟩⟩⟩⟩⟩⟩⟩⟩
  · unfold TQ; rw [if_pos z0]; exact a2
  · unfold TQ; rw [if_neg z0, if_pos z1]; exact a3
  · unfold TQ; rw [if_neg z0, if_neg z1, if_pos z2]; exact u1
  · unfold TQ; rw [if_neg z0, if_neg z1, if_neg z2, if_pos z3]; exact u2
  · unfold TQ; rw [if_neg z0, if_neg z1, if_neg z2, if_neg z3, if_pos z4]; exact a6
  · unfold TQ; rw [if_neg z0, if_neg z1, if_neg z2, if_neg z3, if_neg z4, if_pos z5]; exact u3
  · unfold TQ; rw [if_neg z0, if_neg z1, if_neg z2, if_neg z3, if_neg z4, if_neg z5, if_pos z6]
  · unfold TQ; rw [if_neg z0, if_neg z1, if_neg z2, if_neg z3, if_neg z4, if_neg z5, if_neg z6, if_pos z7]; exact a5
  · unfold TQ; rw [if_neg z0, if_neg z1, if_neg z2, if_neg z3, if_neg z4, if_neg z5, if_neg z6, if_neg z7, if_pos z8]; exact u4
  · unfold TQ; rw [if_neg z0, if_neg z1, if_neg z2, if_neg z3, if_neg z4, if_neg z5, if_neg z6, if_neg z7, if_neg z8, if_pos z9]; exact a4
  · unfold TQ; rw [if_neg z0, if_neg z1, if_neg z2, if_neg z3, if_neg z4, if_neg z5, if_neg z6, if_neg z7, if_neg z8, if_neg z9]
end QTO
