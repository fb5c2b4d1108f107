/-! a measure: the reference -/
/-- what weighing changes in the reference -/
def MX (m m' : zM) : Prop := fr [261, 289] m m' ∧ ∀ z, iq m' 261 z = iq m 261 z
theorem MX.rf (m : zM) : MX m m := ⟨fr.rf _ m, fun _ => rfl⟩
theorem MX.tr {m m' m'' : zM} (h : MX m m') (h' : MX m' m'') : MX m m'' := ⟨h.1.tr h'.1, fun z => (h'.2 z).trans (h.2 z)⟩
theorem MX.dm {m m' : zM} {N : Int → Int} (f : MX m m') (h : DM m N) : DM m' N := h.mvd f.1 (by intro c hc; simp at hc; omega) (fun z _ => f.2 z)
theorem lw_bd {a b X Y : Int} (hb : 0 < b) (X0 : 0 ≤ X) (Y0 : 0 ≤ Y) (h1 : -Y ≤ a) (h2 : a ≤ X) : -Y ≤ lwA a b ∧ lwA a b ≤ X := by
  obtain ⟨_, _, _, _, p, q⟩ := lw_f (a := a) hb
  by_cases g : 0 ≤ a
  · have := p g; omega
  · have := q (by omega); omega
theorem lw_near {wa wb n Z : Int} (hb : 0 < wb) (hZ : 0 < Z) : lwA (4 * lwA wa wb * Z + n * lwB wa wb) (5 * lwB wa wb * Z) = lwA (4 * wa * Z + n * wb) (5 * wb * Z) ∧ lwB (4 * lwA wa wb * Z + n * lwB wa wb) (5 * lwB wa wb * Z) = lwB (4 * wa * Z + n * wb) (5 * wb * Z) := by
  obtain ⟨b0, _, eA, eB, _, _⟩ := lw_f (a := wa) hb
  refine lw_eq (Int.mul_pos (by omega) hZ) (Int.mul_pos (by omega) hZ) ?_
  generalize lwA wa wb = x at *
  generalize lwB wa wb = y at *
  generalize lwg wa wb = g at *
  have e1 : 4 * wa * Z + n * wb = g * (4 * x * Z + n * y) := by
    rw [eA, eB, Int.mul_add]
    congr 1 <;> ac_rfl
  have e2 : 5 * wb * Z = g * (5 * y * Z) := by rw [eB]; ac_rfl
  rw [e1, e2]
  ac_rfl
section MME
variable {d : Nat} {w : Nat × Nat × Nat} {C : Int} {N : Int → Int} {mv : zM} {b : Nat}
theorem c_putsX {Q : zM → Prop} {m : zM} {a e : Int} (ha : -9223372036854775807 < a ∧ a < 9223372036854775807) (he : 0 < e ∧ e < 9223372036854775807) (H : ∀ m', MX m m' → lq m' 261 47 = lwA a e → lq m' 261 48 = lwB a e → Q m') : cV (d + 1) 246 [.ref 261, .long (JL a), .long (JL e)] w m Q := by
  obtain ⟨b0, b1, _, _, b2, b3⟩ := lw_f (a := a) he.1
  have ra : r64 (lwA a e) := by
    unfold r64
    by_cases g : 0 ≤ a
    · have := b2 g; omega
    · have := b3 (by omega); omega
  refine c_puts ha he (H _ ⟨((fr.rf _ m).sll (by simp) _ _).sll (by simp) _ _, fun z => rfl⟩ ?_ ?_)
  · rw [lq_ne (Or.inr (by omega)) (by omega) (by omega), lq_eq ra]
  · rw [lq_eq (by unfold r64; omega)]
theorem c_worth {Q : zM → Prop} {m : zM} {t : Int} (h : TR C mv b N) (hR : rowM m N) (hd : DM m N) (ht : 0 ≤ t ∧ t < Zn N) (H : ∀ m', MX m m' → lq m' 261 47 = lwA (wA N t) (wB N t) → lq m' 261 48 = lwB (wA N t) (wB N t) → Q m') : cV (d + 2) 247 [.ref 261, .int (J t)] w m Q := by
  obtain ⟨l0, l1, k0, k1, kz, g0, g1, wb0, wb1, wa0, wa1, _⟩ := ms_b h ht.1 ht.2
  have hM := Mn_b h
  have hZ := Zn_b h
  have hc := ct_b h ht.1 ht.2
  obtain ⟨e83, e84, e85⟩ := hd.2.2.2.1 t ht.1 ht.2
  have e79 := (hd.2.2.1.2 t ht.1 ht.2).1
  have e78 := (hd.2.1.tlr h ht.1 ht.2).1
  have hl := tl_b h ht.1 ht.2
  have hw := (h.2.2.2.2.2.2.1 (tl N t) hl.1 hl.2).2
  have r1 := hR (1900 + tl N t) (by omega) (by omega)
  refine S_M_worth ?_
  simp (disch := first | (unfold r32; omega) | (unfold r64; omega) | omega) only [j_lit, jl_lit, j_ops, vp_J, J_cl, iq_tn, lq_tn, j_rd, jl_rd, j_nc, e78, e79, e83, e84, r1, J_eq, J_64, jl_ops]
  refine ⟨by omega, by omega, by omega, fun q => ⟨by omega, by omega, by omega, by omega, ?_⟩, fun q => ⟨by omega, ?_⟩⟩
  · have eB : lo N t = wB N t := by
      unfold wB
      by_cases g : 1 < lo N t
      · rw [if_pos g]
      · rw [if_neg g]; omega
    have eA : N (1900 + tl N t) * (ct N t * lo N t - tkn N t) = wA N t := by unfold wA; rw [← eB]
    rw [eA, eB]
    exact c_putsX (by omega) (by omega) H
  · have eB : wB N t = 1 := by unfold wB; rw [if_neg (by omega)]
    have eA : N (1900 + tl N t) * ct N t = wA N t := by unfold wA; rw [eB, kz q, Int.mul_one, Int.sub_zero]
    rw [eA]
    rw [eB] at H
    exact c_putsX (by omega) (by omega) H
theorem c_odd {Q : zM → Prop} {m : zM} {t : Int} (h : TR C mv b N) (hR : rowM m N) (hd : DM m N) (ht : 0 ≤ t ∧ t < Zn N) (H : ∀ m', MX m m' → lq m' 261 47 = lwA (oA N t) (oB N t) → lq m' 261 48 = lwB (oA N t) (oB N t) → Q m') : cV (d + 2) 248 [.ref 261, .int (J t)] w m Q := by
  obtain ⟨l0, l1, k0, k1, kz, g0, g1, wb0, wb1, wa0, wa1, oa0, oa1, ob0, ob1, n0, n1, z0, z1, y0, y1, x0, x1⟩ := ms_b h ht.1 ht.2
  have hM := Mn_b h
  have hZ := Zn_b h
  have hc := ct_b h ht.1 ht.2
  obtain ⟨e83, e84, e85⟩ := hd.2.2.2.1 t ht.1 ht.2
  have e79 := (hd.2.2.1.2 t ht.1 ht.2).1
  have r1 := hR 1069 (by omega) (by omega)
  have e21 := hd.1.1
  refine S_M_odd ?_
  have hr1 : lq m 262 (((1069 : Int).toNat : Nat) : Int) = N 1069 := by rw [lq_tn]; exact r1
  simp (disch := first | (unfold r32; omega) | (unfold r64; omega) | omega) only [j_lit, jl_lit, j_ops, vp_J, J_cl, iq_tn, lq_tn, j_rd, jl_rd, j_nc, e79, e85, e21, r1, J_64, jl_ops]
  exact ⟨by omega, by omega, by omega, c_putsX (a := oA N t) (e := oB N t) (by omega) (by omega) H⟩
theorem c_Mnear {Q : zM → Prop} {m0 : zM} {t : Int} (h : TR C mv b N) (hR : rowM m0 N) (hd : DM m0 N) (ht : 0 ≤ t ∧ t < Zn N) (H : ∀ m', MX m0 m' → lq m' 261 47 = lwA (4 * wA N t * Zn N + nr N t * wB N t) (5 * wB N t * Zn N) → lq m' 261 48 = lwB (4 * wA N t * Zn N + nr N t * wB N t) (5 * wB N t * Zn N) → Q m') : cV (d + 3) 249 [.ref 261, .int (J t)] w m0 Q := by
  obtain ⟨l0, l1, k0, k1, kz, g0, g1, wb0, wb1, wa0, wa1, oa0, oa1, ob0, ob1, n0, n1, z0, z1, _⟩ := ms_b h ht.1 ht.2
  have hM := Mn_b h
  have hBk := BS_k h
  have hW := h.words
  have hK0 := eK_0 (BS_b h)
  refine S_M_near (c_surrounds (d := d + 1) h hR hd.1 hd.2.1 hd.2.2.1 ht (fun m f h2 => ?_))
  have fx : MX m0 m := ⟨f.mo (by simp), f.i (by simp)⟩
  have hd1 := fx.dm hd
  have e43 := hd1.1.2.1
  simp only [j_lit, jl_lit]
  have key : ∀ (z : Nat) (x : Int), 0 ≤ x → x + z = eK (BS N) → W_M_near_7 (d + 2) (J t) (JL (sm (fun x => tm N t x * lk N x) x.toNat)) (J x) w m Q := by
    intro z
    induction z with
    | zero =>
      intro x x0 hz
      have eS : sm (fun x => tm N t x * lk N x) x.toNat = nr N t := by rw [nr_tm h t, show x = eK (BS N) by omega]
      rw [eS]
      refine S_M_near_7 ?_
      simp (disch := first | (unfold r32; omega) | omega) only [j_lit, jl_lit, j_ops, j_rd, j_nc, e43, J_le]
      refine ⟨fun _ => c_worth (d := d) h (hR.fr f (by simp)) hd1 ht (fun m1 f1 e47 e48 => ?_), fun q => by omega⟩
      have e32 := (f1.dm hd1).2.1.2.1
      simp only [jl_lit, j_lit, j_rd, jl_rd, j_nc, e47, e48, e32]
      rw [J_64 (by unfold r32; omega)]
      simp only [jl_ops]
      have b1 := lw_f (a := wA N t) (b := wB N t) (by omega)
      have b2 := lw_bd (a := wA N t) (b := wB N t) (X := 2073600) (Y := 10800) (by omega) (by omega) (by omega) (by omega) wa1
      have p3 := mul_in (k := Zn N) (x := 4 * lwA (wA N t) (wB N t)) (K := 1200) (X := 8294400) (Y := 43200) (by omega) z1 (by omega) (by omega) (by omega) (by omega)
      rw [Int.mul_comm (Zn N)] at p3
      have p4 := mul_in (k := lwB (wA N t) (wB N t)) (x := nr N t) (K := 1199) (X := 8640000) (Y := 0) (by omega) (by omega) (by omega) (by omega) (by omega) n1
      rw [Int.mul_comm (lwB (wA N t) (wB N t))] at p4
      have p5 := mul_pos2 (k := 5 * lwB (wA N t) (wB N t)) (x := Zn N) (K := 5995) (X := 1200) (by omega) (by omega) z0 z1
      have el := lw_near (wa := wA N t) (wb := wB N t) (n := nr N t) (Z := Zn N) (by omega) (by omega)
      refine c_putsX (by omega) (by omega) (fun m2 f2 e1 e2 => H m2 (fx.tr (f1.tr f2)) ?_ ?_)
      · rw [e1]; exact el.1
      · rw [e2]; exact el.2
    | succ z ih =>
      intro x x0 hz
      have tb : 0 ≤ tm N t x ∧ tm N t x ≤ (Mn N).toNat * 6 := tmk_b h t x (Mn N).toNat
      have kb := lk_b h x
      have e89 := h2 x x0 (by omega)
      have e88 := hd1.2.2.2.2 x x0 (by omega)
      refine S_M_near_7 ?_
      simp (disch := first | (unfold r32; omega) | omega) only [j_lit, jl_lit, j_ops, vp_J, J_cl, iq_tn, j_rd, j_nc, e43, e89, e88, J_le, J_64, jl_ops]
      refine ⟨fun q => by omega, fun _ => ⟨by omega, by omega, ?_⟩⟩
      have := ih (x + 1) (by omega) (by omega)
      rw [sm_z _ x0] at this
      exact this
  exact key (eK (BS N)).toNat 0 (by omega) (by omega)
theorem c_M_bitsOf {Q : Int32 → zM → Prop} {m : zM} {V : Nat} (hV : V < 256) (H : Q (J (pc8 V)) m) : cI d 251 [.int (J (V : Int))] w m Q := by
  have pb : ∀ k : Nat, k ≤ 8 → 0 ≤ cnt (fun e => V.testBit e.toNat = true) k ∧ cnt (fun e => V.testBit e.toNat = true) k ≤ k := fun k _ => cnt_b _ k
  have e8 : cnt (fun e => V.testBit e.toNat = true) 8 = pc8 V := by
    have e0 : cnt (fun e => V.testBit e.toNat = true) 0 = 0 := rfl
    have s : cnt (fun e => V.testBit e.toNat = true) 8 = cnt (fun e => V.testBit e.toNat = true) 0 + bi (V.testBit 0 = true) + bi (V.testBit 1 = true) + bi (V.testBit 2 = true) + bi (V.testBit 3 = true) + bi (V.testBit 4 = true) + bi (V.testBit 5 = true) + bi (V.testBit 6 = true) + bi (V.testBit 7 = true) := rfl
    rw [s, e0]
    unfold pc8
    rw [bi_ite, bi_ite, bi_ite, bi_ite, bi_ite, bi_ite, bi_ite, bi_ite]
    omega
  refine S_M_bitsOf ?_
  simp only [j_lit]
  have key : ∀ (z k : Nat), k + z = 8 → W_M_bitsOf_4 d (J (V : Int)) (J (cnt (fun e => V.testBit e.toNat = true) k)) (J (k : Int)) w m Q := by
    intro z
    induction z with
    | zero =>
      intro k hk
      rw [show k = 8 by omega, e8]
      refine S_M_bitsOf_4 ?_
      simp (disch := first | (unfold r32; omega) | omega) only [j_lit, j_ops, J_le]
      exact ⟨fun _ => H, fun q => by omega⟩
    | succ z ih =>
      intro k hk
      have := ih (k + 1) (by omega)
      refine S_M_bitsOf_4 ?_
      have e1 : J (V : Int) >>> (J (k : Int) &&& 31) = J ((V : Int) / 2 ^ k) := by
        have := J_sar (a := (V : Int)) (by unfold r32; omega) (s := (k : Int)) (by omega) (by omega)
        rw [this, Int.toNat_natCast]
      rw [e1, show (1 : Int32) = J 1 from rfl, J_bitAt hV (by omega), j_ops.1, j_ops.1, show (8 : Int32) = J 8 from rfl, J_le (by unfold r32; omega) (by unfold r32; omega)]
      refine ⟨fun q => by omega, fun _ => ?_⟩
      have s : cnt (fun e => V.testBit e.toNat = true) (k + 1) = cnt (fun e => V.testBit e.toNat = true) k + bi (V.testBit k = true) := rfl
      rw [s] at this
      exact this
  exact key 8 0 (by omega)
theorem c_measures {Q : zM → Prop} {m : zM} {t g : Int} (hg : 0 ≤ g ∧ g < 7) (h : TR C mv b N) (hR : rowM m N) (hd : DM m N) (ht : 0 ≤ t ∧ t < Zn N) (H : ∀ m', MX m m' → lq m' 261 47 = lwA (mov N g t) (mun N g t) → lq m' 261 48 = lwB (mov N g t) (mun N g t) → Q m') : cV (d + 4) 250 [.ref 261, .int (J t), .int (J g)] w m Q := by
  obtain ⟨l0, l1, k0, k1, kz, g0, g1, wb0, wb1, wa0, wa1, oa0, oa1, ob0, ob1, n0, n1, z0, z1, _⟩ := ms_b h ht.1 ht.2
  have hM := Mn_b h
  have hZ := Zn_b h
  have hc := ct_b h ht.1 ht.2
  have mb := mov_b h g ht.1 ht.2
  have hf : 0 ≤ fe N t ∧ fe N t ≤ ((Mn N).toNat : Nat) := cnt_b _ _
  obtain ⟨e79, e80, e82, e81⟩ := hd.2.2.1.2 t ht.1 ht.2
  have fin : ∀ a e : Int, a = mov N g t → e = mun N g t → cV (d + 3) 246 [.ref 261, .long (JL a), .long (JL e)] w m Q := fun a e ea ee => by
    rw [ea, ee]
    exact c_putsX (d := d + 2) (by omega) (by omega) H
  refine S_M_measures ?_
  simp (disch := first | (unfold r32; omega) | omega) only [j_lit, jl_lit, j_ops, vp_J, J_cl, iq_tn, j_rd, jl_rd, j_nc, e79, e80, J_eq, J_64]
  refine ⟨fun q => ⟨by omega, fin _ _ ?_ ?_⟩, fun q0 => ⟨fun q => ⟨by omega, fin _ _ ?_ ?_⟩, fun q1 => ⟨fun q => c_worth (d := d + 1) h hR hd ht (fun m1 f1 e47 e48 => H m1 f1 ?_ ?_), fun q2 => ⟨fun q => c_odd (d := d + 1) h hR hd ht (fun m1 f1 e47 e48 => H m1 f1 ?_ ?_), fun q3 => ⟨fun q => c_worth (d := d + 1) h hR hd ht (fun m1 f1 e47 e48 => c_odd (d := d + 1) h (hR.fr f1.1 (by simp)) (f1.dm hd) ht (fun m2 f2 e47' e48' => ?_)), fun q4 => ⟨fun q => c_Mnear (d := d) h hR hd ht (fun m1 f1 e47 e48 => H m1 f1 ?_ ?_), fun q5 => ⟨by omega, ?_⟩⟩⟩⟩⟩⟩⟩
  · unfold mov; rw [if_pos q]
  · unfold mun; rw [if_pos q]
  · unfold mov; rw [if_neg q0, if_pos q]
  · unfold mun; rw [if_neg q0, if_pos q]
  · rw [e47]; unfold mov mun; rw [if_neg q0, if_neg q1, if_pos q, if_neg q0, if_neg q1, if_pos q]
  · rw [e48]; unfold mov mun; rw [if_neg q0, if_neg q1, if_pos q, if_neg q0, if_neg q1, if_pos q]
  · rw [e47]; unfold mov mun; rw [if_neg q0, if_neg q1, if_neg q2, if_pos q, if_neg q0, if_neg q1, if_neg q2, if_pos q]
  · rw [e48]; unfold mov mun; rw [if_neg q0, if_neg q1, if_neg q2, if_pos q, if_neg q0, if_neg q1, if_neg q2, if_pos q]
  · have b1 := lw_f (a := wA N t) (b := wB N t) (by omega)
    have b2 := lw_bd (a := wA N t) (b := wB N t) (X := 2073600) (Y := 10800) (by omega) (by omega) (by omega) (by omega) wa1
    have b3 := lw_f (a := oA N t) (b := oB N t) (by omega)
    have b4 := lw_bd (a := oA N t) (b := oB N t) (X := 57840) (Y := 0) (by omega) (by omega) (by omega) (by omega) oa1
    have p1 := mul_in (k := lwA (oA N t) (oB N t)) (x := lwA (wA N t) (wB N t)) (K := 57840) (X := 2073600) (Y := 10800) (by omega) b4.2 (by omega) (by omega) b2.1 b2.2
    rw [Int.mul_comm (lwA (oA N t) (oB N t))] at p1
    have p2 := mul_pos2 (k := lwB (wA N t) (wB N t)) (x := lwB (oA N t) (oB N t)) (K := 1199) (X := 58081) (by omega) (by omega) (by omega) (by omega)
    have el := lw_mul (a := wA N t) (b := wB N t) (c := oA N t) (e := oB N t) (by omega) (by omega)
    rw [e47, e48, e47', e48', jl_ops.2.2.1, jl_ops.2.2.1]
    refine c_putsX (d := d + 2) (by omega) (by omega) (fun m3 f3 y1 y2 => H m3 (f1.tr (f2.tr f3)) ?_ ?_)
    · rw [y1, el.1]; unfold mov mun; rw [if_neg q0, if_neg q1, if_neg q2, if_neg q3, if_pos q, if_neg q0, if_neg q1, if_neg q2, if_neg q3, if_pos q]
    · rw [y2, el.2]; unfold mov mun; rw [if_neg q0, if_neg q1, if_neg q2, if_neg q3, if_pos q, if_neg q0, if_neg q1, if_neg q2, if_neg q3, if_pos q]
  · rw [e47]; unfold mov mun; rw [if_neg q0, if_neg q1, if_neg q2, if_neg q3, if_neg q4, if_pos q, if_neg q0, if_neg q1, if_neg q2, if_neg q3, if_neg q4, if_pos q]
  · rw [e48]; unfold mov mun; rw [if_neg q0, if_neg q1, if_neg q2, if_neg q3, if_neg q4, if_pos q, if_neg q0, if_neg q1, if_neg q2, if_neg q3, if_neg q4, if_pos q]
  · obtain ⟨V, v1, v2, v3⟩ := dsP_pc e82
    have hdb := dcm_b N t
    rw [v1]
    refine c_M_bitsOf v2 ?_
    rw [v3, J_64 (by unfold r32; omega)]
    exact fin _ _ (by unfold mov; rw [if_neg q0, if_neg q1, if_neg q2, if_neg q3, if_neg q4, if_neg q5]) (by unfold mun; rw [if_neg q0, if_neg q1, if_neg q2, if_neg q3, if_neg q4, if_neg q5])
end MME
