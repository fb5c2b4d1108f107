/-! a measure: the class -/
def pc8 (V : Nat) : Int := (if V.testBit 0 = true then 1 else 0) + (if V.testBit 1 = true then 1 else 0) + (if V.testBit 2 = true then 1 else 0) + (if V.testBit 3 = true then 1 else 0) + (if V.testBit 4 = true then 1 else 0) + (if V.testBit 5 = true then 1 else 0) + (if V.testBit 6 = true then 1 else 0) + (if V.testBit 7 = true then 1 else 0)
section BCN
variable {d : Nat} {w : Nat × Nat × Nat}
theorem bc_dec : ∀ V : Fin 256, (fun p0 : Int32 => ((((((((p0 - (((p0).toUInt32 >>> (((1 : Int32)).toUInt32 &&& Int32.toUInt32 31)).toInt32 &&& (1431655765 : Int32))) &&& (858993459 : Int32)) + ((((p0 - (((p0).toUInt32 >>> (((1 : Int32)).toUInt32 &&& Int32.toUInt32 31)).toInt32 &&& (1431655765 : Int32)))).toUInt32 >>> (((2 : Int32)).toUInt32 &&& Int32.toUInt32 31)).toInt32 &&& (858993459 : Int32))) + (((((p0 - (((p0).toUInt32 >>> (((1 : Int32)).toUInt32 &&& Int32.toUInt32 31)).toInt32 &&& (1431655765 : Int32))) &&& (858993459 : Int32)) + ((((p0 - (((p0).toUInt32 >>> (((1 : Int32)).toUInt32 &&& Int32.toUInt32 31)).toInt32 &&& (1431655765 : Int32)))).toUInt32 >>> (((2 : Int32)).toUInt32 &&& Int32.toUInt32 31)).toInt32 &&& (858993459 : Int32)))).toUInt32 >>> (((4 : Int32)).toUInt32 &&& Int32.toUInt32 31)).toInt32) &&& (252645135 : Int32)) + (((((((p0 - (((p0).toUInt32 >>> (((1 : Int32)).toUInt32 &&& Int32.toUInt32 31)).toInt32 &&& (1431655765 : Int32))) &&& (858993459 : Int32)) + ((((p0 - (((p0).toUInt32 >>> (((1 : Int32)).toUInt32 &&& Int32.toUInt32 31)).toInt32 &&& (1431655765 : Int32)))).toUInt32 >>> (((2 : Int32)).toUInt32 &&& Int32.toUInt32 31)).toInt32 &&& (858993459 : Int32))) + (((((p0 - (((p0).toUInt32 >>> (((1 : Int32)).toUInt32 &&& Int32.toUInt32 31)).toInt32 &&& (1431655765 : Int32))) &&& (858993459 : Int32)) + ((((p0 - (((p0).toUInt32 >>> (((1 : Int32)).toUInt32 &&& Int32.toUInt32 31)).toInt32 &&& (1431655765 : Int32)))).toUInt32 >>> (((2 : Int32)).toUInt32 &&& Int32.toUInt32 31)).toInt32 &&& (858993459 : Int32)))).toUInt32 >>> (((4 : Int32)).toUInt32 &&& Int32.toUInt32 31)).toInt32) &&& (252645135 : Int32))).toUInt32 >>> (((8 : Int32)).toUInt32 &&& Int32.toUInt32 31)).toInt32) + ((((((((p0 - (((p0).toUInt32 >>> (((1 : Int32)).toUInt32 &&& Int32.toUInt32 31)).toInt32 &&& (1431655765 : Int32))) &&& (858993459 : Int32)) + ((((p0 - (((p0).toUInt32 >>> (((1 : Int32)).toUInt32 &&& Int32.toUInt32 31)).toInt32 &&& (1431655765 : Int32)))).toUInt32 >>> (((2 : Int32)).toUInt32 &&& Int32.toUInt32 31)).toInt32 &&& (858993459 : Int32))) + (((((p0 - (((p0).toUInt32 >>> (((1 : Int32)).toUInt32 &&& Int32.toUInt32 31)).toInt32 &&& (1431655765 : Int32))) &&& (858993459 : Int32)) + ((((p0 - (((p0).toUInt32 >>> (((1 : Int32)).toUInt32 &&& Int32.toUInt32 31)).toInt32 &&& (1431655765 : Int32)))).toUInt32 >>> (((2 : Int32)).toUInt32 &&& Int32.toUInt32 31)).toInt32 &&& (858993459 : Int32)))).toUInt32 >>> (((4 : Int32)).toUInt32 &&& Int32.toUInt32 31)).toInt32) &&& (252645135 : Int32)) + (((((((p0 - (((p0).toUInt32 >>> (((1 : Int32)).toUInt32 &&& Int32.toUInt32 31)).toInt32 &&& (1431655765 : Int32))) &&& (858993459 : Int32)) + ((((p0 - (((p0).toUInt32 >>> (((1 : Int32)).toUInt32 &&& Int32.toUInt32 31)).toInt32 &&& (1431655765 : Int32)))).toUInt32 >>> (((2 : Int32)).toUInt32 &&& Int32.toUInt32 31)).toInt32 &&& (858993459 : Int32))) + (((((p0 - (((p0).toUInt32 >>> (((1 : Int32)).toUInt32 &&& Int32.toUInt32 31)).toInt32 &&& (1431655765 : Int32))) &&& (858993459 : Int32)) + ((((p0 - (((p0).toUInt32 >>> (((1 : Int32)).toUInt32 &&& Int32.toUInt32 31)).toInt32 &&& (1431655765 : Int32)))).toUInt32 >>> (((2 : Int32)).toUInt32 &&& Int32.toUInt32 31)).toInt32 &&& (858993459 : Int32)))).toUInt32 >>> (((4 : Int32)).toUInt32 &&& Int32.toUInt32 31)).toInt32) &&& (252645135 : Int32))).toUInt32 >>> (((8 : Int32)).toUInt32 &&& Int32.toUInt32 31)).toInt32)).toUInt32 >>> (((16 : Int32)).toUInt32 &&& Int32.toUInt32 31)).toInt32) &&& (63 : Int32))) (J (V.val : Int)) = J (pc8 V.val) := by decide +kernel
theorem c_bitCount {Q : Int32 → zM → Prop} {m : zM} {V : Nat} (hV : V < 256) (H : Q (J (pc8 V)) m) : cI d 288 [.int (J (V : Int))] w m Q := by
  refine S_JI_bitCount ?_
  have := bc_dec ⟨V, hV⟩
  rw [← this] at H
  exact H
end BCN
section WEI
variable {d : Nat} {w : Nat × Nat × Nat} {C : Int} {N : Int → Int} {mv : zM} {b : Nat}
theorem dsP_pc {N : Int → Int} {t v : Int} (h : dsP N t v) : ∃ V : Nat, v = V ∧ V < 256 ∧ pc8 V = dcm N t := by
  obtain ⟨V, v1, v2, v3⟩ := h
  refine ⟨V, v1, v2, ?_⟩
  have e : ∀ e : Nat, (if V.testBit e = true then (1 : Int) else 0) = bi (∃ m, 0 ≤ m ∧ m < Mn N ∧ pkm N m = tr N t ∧ dcN N (mk N m) = (e : Int)) := fun e => by
    rw [bi_ite, propext (v3 e)]
  unfold pc8
  rw [e 0, e 1, e 2, e 3, e 4, e 5, e 6, e 7]
  have e0 : cnt (fun e => ∃ m, 0 ≤ m ∧ m < Mn N ∧ pkm N m = tr N t ∧ dcN N (mk N m) = e) 0 = 0 := rfl
  have s : dcm N t = cnt (fun e => ∃ m, 0 ≤ m ∧ m < Mn N ∧ pkm N m = tr N t ∧ dcN N (mk N m) = e) 0 + bi (∃ m, 0 ≤ m ∧ m < Mn N ∧ pkm N m = tr N t ∧ dcN N (mk N m) = ((0 : Nat) : Int)) + bi (∃ m, 0 ≤ m ∧ m < Mn N ∧ pkm N m = tr N t ∧ dcN N (mk N m) = ((1 : Nat) : Int)) + bi (∃ m, 0 ≤ m ∧ m < Mn N ∧ pkm N m = tr N t ∧ dcN N (mk N m) = ((2 : Nat) : Int)) + bi (∃ m, 0 ≤ m ∧ m < Mn N ∧ pkm N m = tr N t ∧ dcN N (mk N m) = ((3 : Nat) : Int)) + bi (∃ m, 0 ≤ m ∧ m < Mn N ∧ pkm N m = tr N t ∧ dcN N (mk N m) = ((4 : Nat) : Int)) + bi (∃ m, 0 ≤ m ∧ m < Mn N ∧ pkm N m = tr N t ∧ dcN N (mk N m) = ((5 : Nat) : Int)) + bi (∃ m, 0 ≤ m ∧ m < Mn N ∧ pkm N m = tr N t ∧ dcN N (mk N m) = ((6 : Nat) : Int)) + bi (∃ m, 0 ≤ m ∧ m < Mn N ∧ pkm N m = tr N t ∧ dcN N (mk N m) = ((7 : Nat) : Int)) := rfl
  rw [s, e0]
  omega
theorem c_wBelow {Q : Int64 → zM → Prop} {m : zM} {t : Int} (h : TR C mv b N) (hd : DC m N) (t0 : 0 ≤ t) (t1 : t < Zn N) (H : Q (JL (wB N t)) m) : cL (d + 1) 20 [.ref 255, .int (J t)] w m Q := by
  have hm := ms_b h t0 t1
  have hM := Mn_b h
  have hZ := Zn_b h
  have hU := hd.2.2.2.1 t t0 t1
  refine S_Measures_worthBelow (c_at (n := 1200) rfl (by decide) (by unfold r32; omega) (by omega) ?_)
  rw [hU.1]
  simp only [j_lit]
  refine c_max (by unfold r32; omega) (by unfold r32; omega) ?_
  rw [J_64 (by have := hm.2.2.2.2.2.2.2.1; have := hm.2.2.2.2.2.2.2.2.1; unfold wB at *; unfold r32; omega)]
  exact H
theorem c_wAbove {Q : Int64 → zM → Prop} {m : zM} {t : Int} (hI : IVN C w m N) (hd : DC m N) (t0 : 0 ≤ t) (t1 : t < Zn N) (H : Q (JL (wA N t)) m) : cL (d + 3) 19 [.ref 255, .ref w.2.1, .int (J t)] w m Q := by
  have hb := hI.zT
  have h := hI.2.2.2.2.1
  have hm := ms_b h t0 t1
  have hM := Mn_b h
  have hZ := Zn_b h
  have hc := ct_b h t0 t1
  have hU := hd.2.2.2.1 t t0 t1
  have hT0 := hd.2.2.1
  have hl := tl_b h t0 t1
  have hw := h.2.2.2.2.2.2.1 (tl N t) hl.1 hl.2
  refine S_Measures_worthAbove hb (c_lengthOf (d := d) h hT0 t0 t1 (c_at (zT_we hb) (by decide) (by unfold r32; omega) (by omega) (c_at (n := 1200) rfl (by decide) (by unfold r32; omega) (by omega) (c_wBelow (d := d + 1) h hd t0 t1 (c_at (n := 1200) rfl (by decide) (by unfold r32; omega) (by omega) ?_)))))
  rw [hw.1, (hT0.2.1 t t0 t1).2.1, hU.2.1, J_64 (by unfold r32; omega), J_64 (by unfold r32; omega), J_64 (by unfold r32; omega), jl_ops.2.2.1, jl_ops.2.1, jl_ops.2.2.1]
  exact H
theorem c_oAbove {Q : Int64 → zM → Prop} {m : zM} {t : Int} (hI : IVN C w m N) (hd : DC m N) (t0 : 0 ≤ t) (t1 : t < Zn N) (H : Q (JL (oA N t)) m) : cL (d + 1) 21 [.ref 255, .ref w.2.1, .int (J t)] w m Q := by
  have hb := hI.zT
  have h := hI.2.2.2.2.1
  have hm := ms_b h t0 t1
  have hM := Mn_b h
  have hZ := Zn_b h
  have hc := ct_b h t0 t1
  have eG := h.2.2.2.2.1.2.2.1
  have g0 := h.2.2.2.2.1.1
  have g1 := h.2.2.2.2.1.2.1
  refine S_Measures_oddAbove hb (c_at (n := 1200) rfl (by decide) (by unfold r32; omega) (by omega) ?_)
  rw [(hd.2.2.1.2.1 t t0 t1).2.1]
  simp (disch := first | (unfold r32; omega) | omega) only [j_lit, j_rd, j_nc, eG, j_ops, J_64, jl_ops]
  exact H
theorem c_oBelow {Q : Int64 → zM → Prop} {m : zM} {t : Int} (hI : IVN C w m N) (hd : DC m N) (t0 : 0 ≤ t) (t1 : t < Zn N) (H : Q (JL (oB N t)) m) : cL (d + 1) 22 [.ref 255, .ref w.2.1, .int (J t)] w m Q := by
  have hb := hI.zT
  have h := hI.2.2.2.2.1
  have hm := ms_b h t0 t1
  have hM := Mn_b h
  have hZ := Zn_b h
  have hW := h.words
  have e10 := hW.1
  have w0 := hW.2.1
  have w1 := hW.2.2.1
  have hU := hd.2.2.2.1 t t0 t1
  have g0 := hm.2.2.2.2.2.1
  have g1 := hm.2.2.2.2.2.2.1
  refine S_Measures_oddBelow hb (c_at (n := 1200) rfl (by decide) (by unfold r32; omega) (by omega) ?_)
  rw [hU.2.2.1]
  simp (disch := first | (unfold r32; omega) | omega) only [j_lit, j_rd, j_nc, e10, j_ops, J_64, jl_ops]
  exact H
theorem c_weigh {Q : zM → Prop} {m : zM} {t g : Int} (hg : 0 ≤ g ∧ g < 7) (hI : IVN C w m N) (hd : DC m N) (t0 : 0 ≤ t) (t1 : t < Zn N) (H : Q (sl (sl m 255 7 (lwA (mov N g t) (mun N g t))) 255 8 (lwB (mov N g t) (mun N g t)))) : cV (d + 5) 18 [.ref 255, .ref w.2.1, .int (J t), .int (J g)] w m Q := by
  have hb := hI.zT
  have h := hI.2.2.2.2.1
  have hM := Mn_b h
  have hZ := Zn_b h
  have hc := ct_b h t0 t1
  have hU := hd.2.2.2.1 t t0 t1
  have hT0 := hd.2.2.1
  obtain ⟨a1, a2, a3, a4, a5, _⟩ := hT0.2.1 t t0 t1
  have mb := mov_b h g t0 t1
  have hf : 0 ≤ fe N t ∧ fe N t ≤ ((Mn N).toNat : Nat) := cnt_b _ _
  have fin : ∀ a e : Int, a = mov N g t → e = mun N g t → cV (d + 4) 17 [.ref 255, .long (JL a), .long (JL e)] w m Q := fun a e ea ee => by
    rw [ea, ee]
    exact c_set (d := d + 2) (by omega) (by omega) H
  refine S_Measures_weigh ?_
  simp (disch := first | (unfold r32; omega) | omega) only [j_lit, jl_lit, j_ops, J_eq]
  refine ⟨fun q => c_at (n := 1200) rfl (by decide) (by unfold r32; omega) (by omega) ?_, fun q0 => ⟨fun q => c_at (n := 1200) rfl (by decide) (by unfold r32; omega) (by omega) ?_, fun q1 => ⟨fun q => c_wAbove (d := d + 1) hI hd t0 t1 (c_wBelow (d := d + 3) h hd t0 t1 (fin _ _ ?_ ?_)), fun q2 => ⟨fun q => c_oAbove (d := d + 3) hI hd t0 t1 (c_oBelow (d := d + 3) hI hd t0 t1 (fin _ _ ?_ ?_)), fun q3 => ⟨fun q => c_wAbove (d := d + 1) hI hd t0 t1 (c_oAbove (d := d + 3) hI hd t0 t1 (c_wBelow (d := d + 3) h hd t0 t1 (c_oBelow (d := d + 3) hI hd t0 t1 ?_))), fun q4 => ⟨fun q => S_Measures_setNear (c_wBelow (d := d + 2) h hd t0 t1 (c_wAbove (d := d) hI hd t0 t1 (c_at (n := 1200) rfl (by decide) (by unfold r32; omega) (by omega) ?_))), fun q5 => c_at (n := 1200) rfl (by decide) (by unfold r32; omega) (by omega) ?_⟩⟩⟩⟩⟩⟩
  · rw [a2, J_64 (by unfold r32; omega)]
    exact fin _ _ (by unfold mov; rw [if_pos q]) (by unfold mun; rw [if_pos q])
  · rw [a3, J_64 (by unfold r32; omega)]
    exact fin _ _ (by unfold mov; rw [if_neg q0, if_pos q]) (by unfold mun; rw [if_neg q0, if_pos q])
  · unfold mov; rw [if_neg q0, if_neg q1, if_pos q]
  · unfold mun; rw [if_neg q0, if_neg q1, if_pos q]
  · unfold mov; rw [if_neg q0, if_neg q1, if_neg q2, if_pos q]
  · unfold mun; rw [if_neg q0, if_neg q1, if_neg q2, if_pos q]
  · rw [jl_ops.2.2.1, jl_ops.2.2.1]
    exact fin _ _ (by unfold mov; rw [if_neg q0, if_neg q1, if_neg q2, if_neg q3, if_pos q]) (by unfold mun; rw [if_neg q0, if_neg q1, if_neg q2, if_neg q3, if_pos q])
  · have nb := ms_b h t0 t1
    have n0 := nb.2.2.2.2.2.2.2.2.2.2.2.2.2.2.2.1
    have n1 := nb.2.2.2.2.2.2.2.2.2.2.2.2.2.2.2.2.1
    have e19 := hT0.1
    rw [hU.2.2.2.2]
    simp (disch := first | (unfold r32; omega) | omega) only [j_lit, jl_lit, j_rd, j_nc, e19, J_64, jl_ops]
    have fin3 : ∀ a e : Int, a = mov N g t → e = mun N g t → cV (d + 3) 17 [.ref 255, .long (JL a), .long (JL e)] w m Q := fun a e ea ee => by
      rw [ea, ee]
      exact c_set (d := d + 1) (by omega) (by omega) H
    exact fin3 _ _ (by unfold mov; rw [if_neg q0, if_neg q1, if_neg q2, if_neg q3, if_neg q4, if_pos q]) (by unfold mun; rw [if_neg q0, if_neg q1, if_neg q2, if_neg q3, if_neg q4, if_pos q])
  · obtain ⟨V, v1, v2, v3⟩ := dsP_pc a5
    have hdb := dcm_b N t
    rw [v1]
    refine c_bitCount v2 ?_
    rw [v3, J_64 (by unfold r32; omega)]
    exact fin _ _ (by unfold mov; rw [if_neg q0, if_neg q1, if_neg q2, if_neg q3, if_neg q4, if_neg q5]) (by unfold mun; rw [if_neg q0, if_neg q1, if_neg q2, if_neg q3, if_neg q4, if_neg q5])
end WEI
