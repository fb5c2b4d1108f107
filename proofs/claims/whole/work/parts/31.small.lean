/-! lengths, weight, wide: both sides -/
theorem c_isIn {d : Nat} {w : Nat × Nat × Nat} {m : zM} {Q : Int32 → zM → Prop} {a b c : Int} (ha : r64 a) (hb : r64 b) (hc : r64 c) (H : Q (J (if b ≤ a ∧ a ≤ c then 1 else 0)) m) : cI d 181 [.long (JL a), .long (JL b), .long (JL c)] w m Q := by
  refine S_M_isIn ?_
  simp (disch := first | exact ha | exact hb | exact hc) only [j_lit, JL_lt]
  refine ⟨fun q => ?_, fun q => ⟨fun q2 => ?_, fun q2 => ?_⟩⟩
  · rw [if_neg (by omega)] at H; exact H
  · rw [if_neg (by omega)] at H; exact H
  · rw [if_pos (by omega)] at H; exact H
theorem r64_32 {a : Int} (h : r32 a) : r64 a := by unfold r32 at h; unfold r64; omega
/-- the reference's keeping, as one fact -/
def KP (m m' : zM) (v : Int) : Prop := (∀ b, b ≠ 261 → b ≠ 263 → m'.1 b = m.1 b ∧ m'.2 b = m.2 b) ∧ m'.1 263 = m.1 263 ∧ m'.2 261 = m.2 261 ∧ iq m' 261 2 = v ∧ iq m' 261 20 = 0 ∧ (∀ y, 0 ≤ y → y ≠ 2 → y ≠ 20 → iq m' 261 y = iq m 261 y) ∧ (∀ y, 0 ≤ y → y < 1906 → lq m' 263 (1906 * (v - 1) + y) = lq m 262 y) ∧ (∀ y, 0 ≤ y → y < 1906 * (v - 1) → lq m' 263 y = lq m 263 (y + 1906 * (iq m 261 2 + 1 - v)))
theorem c_keepsK {d : Nat} {w : Nat × Nat × Nat} {Q : zM → Prop} {m : zM} (hu : 0 ≤ iq m 261 2 ∧ iq m 261 2 ≤ 8) (H : ∀ m', KP m m' (if iq m 261 2 + 1 ≤ 8 then iq m 261 2 + 1 else 8) → Q m') : cV d 185 [.ref 261] w m Q :=
  c_M_keeps rfl hu (fun m' v hv a1 a2 a3 a4 a5 a6 a7 a8 => H m' (by rw [← hv]; exact ⟨a1, a2, a3, a4, a5, a6, a7, a8⟩))
/-- a change of what is told, and of nothing else that counts -/
def CH0 (C : Int) (w : Nat × Nat × Nat) (m : zM) (w' : Nat × Nat × Nat) (m' : zM) : Prop := RG C w' m' ∧ w'.1 = w.1 ∧ iq m' 3 14 = 0 ∧ iq m' 261 20 = 0 ∧ (∀ z, 0 ≤ z → z ≠ 10 → z ≠ 11 → z ≠ 14 → iq m' 3 z = iq m 3 z) ∧ (∀ z, 0 ≤ z → z ≠ 2 → z ≠ 20 → iq m' 261 z = iq m 261 z) ∧ (∀ c, c < 9 ∨ 220 ≤ c → c ≠ 3 → c ≠ 261 → c ≠ 262 → c ≠ 263 → m'.1 c = m.1 c ∧ m'.2 c = m.2 c)
theorem fr.rowi {S : List Nat} {m m' : zM} (h : fr S m m') {b : Nat} (hb : b ∉ S) : m'.1 b = m.1 b ∧ m'.2 b = m.2 b := h b hb
section SM
variable {d : Nat} {w : Nat × Nat × Nat} {C C' : Int}
theorem TR.we {ma mb : zM} {x : Nat} {N N' : Int → Int} (t : TR C ma x N) (s : sr ma mb x 1 19) (s8 : iq mb x 8 = iq ma x 8) (s9 : iq mb x 9 = iq ma x 9) (e : ∀ k, 0 ≤ k → k < 1898 → N' k = N k) (hw : trW mb x N') : TR C mb x N' := by
  obtain ⟨t1, t2, t3, t4, t5, t6, t7⟩ := t
  have sub : ∀ i j, 1 ≤ i → j ≤ 19 → sr ma mb x i j := fun i j hi hj c h1 h2 => s c (by omega) (by omega)
  exact ⟨trL_c t1 (sub _ _ (by decide) (by decide)) (fun k k0 k1 => e k (by omega) (by omega)), trE_c t2 (sub _ _ (by decide) (by decide)) (fun k k0 k1 => e k (by omega) (by omega)), trS_c t3 (sub _ _ (by decide) (by decide)) s8 (fun k k0 k1 => e k (by omega) (by omega)), trD_c t4 (Int.le_refl _) (sub _ _ (by decide) (by decide)) s9 (fun k k0 k1 => e k (by omega) (by omega)), trG_c t5 (sub _ _ (by decide) (by decide)) (fun k k0 k1 => e k (by omega) (by omega)), trP_c t6 (sub _ _ (by decide) (by decide)) (fun k k0 k1 => e k (by omega) (by omega)), hw⟩
theorem ch_keep {m mb md me : zM} {x : Nat} (hR : RG C w m) (hC : C ≤ C') (hx : x = tb ((iq m 3 10 + 1) % 10)) (fb : fo x 21 m mb) (hk : KP (kc mb) md (if iq (kc mb) 261 2 + 1 ≤ 8 then iq (kc mb) 261 2 + 1 else 8)) (fe : fr [262] md me) (hT : TR C' mb x (lq me 262)) : CH0 C' w m (w.1, x, x) me := by
  obtain ⟨h1, h2, h3, h4, h5, h6, h7, h8⟩ := id hR
  have hn : 0 ≤ (iq m 3 10 + 1) % 10 ∧ (iq m 3 10 + 1) % 10 < 10 := by omega
  have bb := tb_bd hn.1 hn.2
  rw [← hx] at bb
  have b3 : ∀ z, iq mb 3 z = iq m 3 z := fun z => fb.i (by omega) z
  have b261 : ∀ z, iq mb 261 z = iq m 261 z := fun z => fb.i (by omega) z
  obtain ⟨c1, c2, c3, c4, c5, c6⟩ := kc_facts mb (by rw [b3]; omega)
  obtain ⟨k1, k2, k3, k4, k5, k6, k7, k8⟩ := hk
  have ec : iq (kc mb) 261 2 = iq m 3 11 := by
    have : iq (kc mb) 261 2 = iq mb 261 2 := by unfold iq; rw [c5 261 (by omega)]
    rw [this, b261, h5]
  rw [ec] at k4 k7 k8
  have rows : ∀ c, c ≠ 3 → c ≠ 261 → c ≠ 262 → c ≠ 263 → me.1 c = mb.1 c ∧ me.2 c = mb.2 c := by
    intro c q1 q2 q3 q4
    have e1 := fe c (by simp; exact q3)
    have e2 := k1 c q2 q4
    refine ⟨e1.1.trans (e2.1.trans (c5 c q1)), e1.2.trans (e2.2.trans ?_)⟩
    rw [c6]
  have r3 : ∀ z, iq me 3 z = iq (kc mb) 3 z := fun z => by
    unfold iq
    rw [(fe 3 (by simp)).1, (k1 3 (by omega) (by omega)).1]
  have r261 : ∀ z, iq me 261 z = iq md 261 z := fun z => fe.i (by simp) z
  have s261 : ∀ z, iq (kc mb) 261 z = iq m 261 z := fun z => by
    have : iq (kc mb) 261 z = iq mb 261 z := by unfold iq; rw [c5 261 (by omega)]
    rw [this, b261]
  refine ⟨?_, rfl, ?_, ?_, fun z z0 z1 z2 z3 => ?_, fun z z0 z1 z2 => ?_, fun c q1 q2 q3 q4 q5 => ?_⟩
  · refine hR.keep (v := if iq m 3 11 + 1 ≤ 8 then iq m 3 11 + 1 else 8) hC hx rfl ?_ ?_ ?_ (fun c q1 q2 q3 => ?_) (fun y q1 q2 => ?_) (fun y q1 q2 => ?_) ?_
    · rw [r3, c1, b3]
    · rw [r3, c2, b3]
    · rw [r261, k4]
    · have e1 := rows c (by omega) (by omega) (by omega) (by omega)
      have e2 := fb c q3
      exact ⟨e1.1.trans e2.1, e1.2.trans e2.2⟩
    · have e1 : ∀ z, lq me 263 z = lq md 263 z := fun z => fe.l (by simp) z
      rw [e1, k7 y q1 q2]
      unfold lq
      rw [c6, (fb 262 (by omega)).2]
    · have e1 : ∀ z, lq me 263 z = lq md 263 z := fun z => fe.l (by simp) z
      rw [e1, k8 y q1 q2]
      unfold lq
      rw [c6, (fb 263 (by omega)).2]
    · exact hT.view (TV.rows (fun c q1 q2 => rows c (by omega) (by omega) (by omega) (by omega)))
  · rw [r3, c3]
  · rw [r261, k5]
  · rw [r3, c4 z z0 z1 z2 z3, b3]
  · rw [r261, k6 z z0 z1 z2, s261]
  · have e1 := rows c q2 q3 q4 q5
    have e2 := fb c (by omega)
    exact ⟨e1.1.trans e2.1, e1.2.trans e2.2⟩
theorem kc_in {m mb : zM} {x : Nat} (hR : RG C w m) (hx : x = tb ((iq m 3 10 + 1) % 10)) (fb : fo x 21 m mb) : (0 ≤ iq mb 3 10 ∧ iq mb 3 10 < 10) ∧ (0 ≤ iq mb 3 11 ∧ iq mb 3 11 ≤ 8) ∧ (0 ≤ iq (kc mb) 261 2 ∧ iq (kc mb) 261 2 ≤ 8) := by
  obtain ⟨h1, h2, h3, h4, h5, h6, h7, h8⟩ := id hR
  have hn : 0 ≤ (iq m 3 10 + 1) % 10 ∧ (iq m 3 10 + 1) % 10 < 10 := by omega
  have bb := tb_bd hn.1 hn.2
  rw [← hx] at bb
  have b3 : ∀ z, iq mb 3 z = iq m 3 z := fun z => fb.i (by omega) z
  have b261 : ∀ z, iq mb 261 z = iq m 261 z := fun z => fb.i (by omega) z
  obtain ⟨c1, c2, c3, c4, c5, c6⟩ := kc_facts mb (by rw [b3]; omega)
  have ec : iq (kc mb) 261 2 = iq mb 261 2 := by unfold iq; rw [c5 261 (by omega)]
  rw [ec, b261, b3, b3, h5]
  omega
theorem ch_262 {m mb md : zM} {x : Nat} {u : Int} (hR : RG C w m) (hx : x = tb ((iq m 3 10 + 1) % 10)) (fb : fo x 21 m mb) (hk : KP (kc mb) md u) : (∀ k, lq md 262 k = lq m 262 k) ∧ ∀ k, lq (kc mb) 262 k = lq m 262 k := by
  obtain ⟨h1, h2, h3, h4, h5, h6, h7, h8⟩ := id hR
  have hn : 0 ≤ (iq m 3 10 + 1) % 10 ∧ (iq m 3 10 + 1) % 10 < 10 := by omega
  have bb := tb_bd hn.1 hn.2
  rw [← hx] at bb
  have b3 : iq mb 3 11 = iq m 3 11 := fb.i (by omega) _
  have k6 := (kc_facts mb (by rw [b3]; omega)).2.2.2.2.2
  have q : ∀ k, lq (kc mb) 262 k = lq m 262 k := fun k => by
    unfold lq
    rw [k6, (fb 262 (by omega)).2]
  refine ⟨fun k => ?_, q⟩
  rw [← q k]
  unfold lq
  rw [(hk.1 262 (by omega) (by omega)).2]
theorem kc_262 {m mb : zM} {x : Nat} (hR : RG C w m) (hx : x = tb ((iq m 3 10 + 1) % 10)) (fb : fo x 21 m mb) : ∀ k, lq (kc mb) 262 k = lq m 262 k := by
  obtain ⟨h1, h2, h3, h4, h5, h6, h7, h8⟩ := id hR
  have hn : 0 ≤ (iq m 3 10 + 1) % 10 ∧ (iq m 3 10 + 1) % 10 < 10 := by omega
  have bb := tb_bd hn.1 hn.2
  rw [← hx] at bb
  have b3 : iq mb 3 11 = iq m 3 11 := fb.i (by omega) _
  have k6 := (kc_facts mb (by rw [b3]; omega)).2.2.2.2.2
  intro k
  unfold lq
  rw [k6, (fb 262 (by omega)).2]
theorem p_wide {P : Int32 → Int32 → Nat × Nat × Nat → zM → Prop} {m : zM} {v : Int} (hv : r32 v) (hR : RG C w m) (H0 : P (J 0) (J 0) w m) (H1 : ∀ w' m', CH0 C w m w' m' → P (J 1) (J 1) w' m') :
    cIw (d + 4) 123 [.ref 3, .int (J v)] w m (fun x w1 m1 => cI (d + 4) 230 [.ref 261, .int (J v)] w1 m1 (fun y m2 => P x y w1 m2)) := by
  obtain ⟨h1, h2, h3, h4, h5, h6, h7, h8⟩ := id hR
  have hTn : zT w.2.1 := by rw [h6]; exact tb_T h1 h2
  have eN : iq m w.2.1 12 = lq m 262 1900 := h7.2.2.2.2.2.2.2.2.2.1
  have hn : 0 ≤ (iq m 3 10 + 1) % 10 ∧ (iq m 3 10 + 1) % 10 < 10 := by omega
  have rj : (¬ (0 ≤ v ∧ v ≤ 3) ∨ lq m 262 1900 = v) → cI (d + 4) 230 [.ref 261, .int (J v)] w m (fun y m2 => P (J 0) y w m2) := by
    clear h1 h2 h3 h4 h5 h6 h7 h8 hn eN H1 hR hTn
    intro q3
    refine S_M_wide ?_
    simp (disch := first | exact hv | (unfold r32; omega) | (unfold r64; omega) | omega) only [j_lit, jl_lit, J_64]
    refine c_isIn (r64_32 hv) (by unfold r64; omega) (by unfold r64; omega) ?_
    by_cases hin : 0 ≤ v ∧ v ≤ 3
    · rw [if_pos hin]
      simp (disch := first | exact hv | exact r64_32 hv | exact lq_r _ _ _ | (unfold r32; omega) | (unfold r64; omega) | omega) only [j_lit, jl_lit, J_eq, vp_J, J_cl, jl_rd, lq_tn, J_64, JL_eq]
      rcases q3 with q3 | q3
      · exact absurd hin q3
      · exact ⟨fun z => by omega, fun _ => ⟨by omega, fun z => absurd q3 z, fun _ => H0⟩⟩
    · rw [if_neg hin]
      exact ⟨fun _ => H0, fun z => absurd rfl z⟩
  refine S_T_wide hTn ?_
  simp (disch := first | exact hv | exact iq_r _ _ _ | (unfold r32; omega) | omega) only [j_lit, J_lt, J_eq, j_rd, j_nc, j_wr]
  refine ⟨fun q => rj (Or.inl (by omega)), fun q => ⟨fun q2 => rj (Or.inl (by omega)), fun q2 => ⟨fun q3 => ?_, fun q3 => rj (Or.inr (by omega))⟩⟩⟩
  refine c_begin hR (fun ma fa ta _ => ?_)
  generalize hx : tb ((iq m 3 10 + 1) % 10) = x at *
  have hT : zT x := by rw [← hx]; exact tb_T hn.1 hn.2
  refine ⟨zT_n hT, zT_k hT, ?_⟩
  have fb : fo x 21 m (sq ma x 12 v) := fa.tr ((fo_sq ma x 12 v).mo (by omega) (by omega))
  obtain ⟨i1, i2, i3⟩ := kc_in hR hx.symm fb
  have e262 := kc_262 hR hx.symm fb
  rw [eN] at q3
  refine c_keep hT i1 i2 ?_
  refine S_M_wide ?_
  simp (disch := first | exact hv | (unfold r32; omega) | (unfold r64; omega) | omega) only [j_lit, jl_lit, J_64]
  refine c_isIn (r64_32 hv) (by unfold r64; omega) (by unfold r64; omega) ?_
  rw [if_pos (by omega)]
  simp (disch := first | exact hv | exact r64_32 hv | exact lq_r _ _ _ | (unfold r32; omega) | (unfold r64; omega) | omega) only [j_lit, jl_lit, J_eq, vp_J, J_cl, jl_rd, lq_tn, J_64, JL_eq, jl_wr, sl_tn, e262]
  refine ⟨fun z => by omega, fun _ => ⟨by omega, fun _ => ?_, fun z => by omega⟩⟩
  refine c_keepsK i3 (fun md hk => ⟨by omega, H1 _ _ ?_⟩)
  refine ch_keep hR (Int.le_refl _) hx.symm fb hk (((fr.rf [262] md).sll (by simp) _ _)) ?_
  have e1 := (ch_262 hR hx.symm fb hk).1
  have eNN : ∀ k, 0 ≤ k → lq (sl md 262 1900 v) 262 k = if k = 1900 then v else lq m 262 k := by
    intro k k0
    rw [lq_sl (by omega) k0 (r64_32 hv), e1]
    simp
  have srr : sr ma (sq ma x 12 v) x 1 20 := fun c q1 q2 => fo_sq ma _ 12 v c (by omega)
  have sf : ∀ z, 0 ≤ z → z ≠ 12 → iq (sq ma x 12 v) x z = iq ma x z := fun z z0 z1 => by rw [iq_sq (by omega) z0 hv, if_neg (by omega)]
  have ta7 := ta.2.2.2.2.2.2
  refine TR.we ta (fun c a1 a2 => srr c a1 (by omega)) (sf 8 (by omega) (by omega)) (sf 9 (by omega) (by omega)) (fun k k0 k1 => by rw [eNN k k0, if_neg (by omega)]) ?_
  obtain ⟨u1, u2, u3, u4, u5, u6, u7, u8, u9⟩ := ta7
  have f9 := eNN 1898 (by omega)
  have f10 := eNN 1899 (by omega)
  have f11 := eNN 1900 (by omega)
  rw [if_neg (by omega)] at f9 f10
  rw [if_pos rfl] at f11
  have s10 := sf 10 (by omega) (by omega)
  have s11 := sf 11 (by omega) (by omega)
  have s12 : iq (sq ma x 12 v) x 12 = v := by rw [iq_sq (by omega) (by omega) hv, if_pos ⟨rfl, rfl⟩]
  refine ⟨fun k k0 k1 => ?_, by omega, by omega, by omega, by omega, by omega, by omega, by omega, by omega⟩
  rw [eNN _ (by omega), if_neg (by omega), srr.i (by omega) (by omega)]
  exact u1 k k0 k1
theorem p_weight {P : Int32 → Int32 → Nat × Nat × Nat → zM → Prop} {m : zM} {l v : Int} (hl : r32 l) (hv : r32 v) (hR : RG C w m) (H0 : P (J 0) (J 0) w m) (H1 : ∀ w' m', CH0 C w m w' m' → P (J 1) (J 1) w' m') :
    cIw (d + 4) 122 [.ref 3, .int (J l), .int (J v)] w m (fun x w1 m1 => cI (d + 4) 229 [.ref 261, .int (J l), .int (J v)] w1 m1 (fun y m2 => P x y w1 m2)) := by
  obtain ⟨h1, h2, h3, h4, h5, h6, h7, h8⟩ := id hR
  have hTn : zT w.2.1 := by rw [h6]; exact tb_T h1 h2
  have eN := h7.2.2.2.2.2.2.1
  have hn : 0 ≤ (iq m 3 10 + 1) % 10 ∧ (iq m 3 10 + 1) % 10 < 10 := by omega
  have rj : (¬ (1 ≤ l ∧ l ≤ 5 ∧ 0 ≤ v ∧ v ≤ 9) ∨ lq m 262 (1900 + l) = v) → cI (d + 4) 229 [.ref 261, .int (J l), .int (J v)] w m (fun y m2 => P (J 0) y w m2) := by
    clear h1 h2 h3 h4 h5 h6 h7 h8 hn eN H1 hR hTn
    intro q3
    refine S_M_weight ?_
    simp (disch := first | exact hv | exact hl | (unfold r32; omega) | (unfold r64; omega) | omega) only [j_lit, jl_lit, J_64]
    refine c_isIn (r64_32 hl) (by unfold r64; omega) (by unfold r64; omega) ?_
    by_cases hin : 1 ≤ l ∧ l ≤ 5
    · rw [if_pos hin]
      refine ⟨fun z => absurd z (by decide), fun _ => c_isIn (r64_32 hv) (by unfold r64; omega) (by unfold r64; omega) ?_⟩
      by_cases hin2 : 0 ≤ v ∧ v ≤ 9
      · rw [if_pos hin2]
        simp (disch := first | exact hv | exact r64_32 hv | exact lq_r _ _ _ | (unfold r32; omega) | (unfold r64; omega) | omega) only [j_lit, jl_lit, J_eq, vp_J, J_cl, jl_rd, lq_tn, J_64, JL_eq, j_ops]
        rcases q3 with q3 | q3
        · omega
        · exact ⟨fun z => by omega, fun _ => ⟨by omega, fun z => absurd q3 z, fun _ => H0⟩⟩
      · rw [if_neg hin2]
        exact ⟨fun _ => H0, fun z => absurd rfl z⟩
    · rw [if_neg hin]
      exact ⟨fun _ => H0, fun z => absurd rfl z⟩
  refine S_T_weight hTn ?_
  simp (disch := first | exact hv | exact hl | exact iq_r _ _ _ | (unfold r32; omega) | omega) only [j_lit, J_lt, J_le, J_eq, j_rd, j_nc, j_wr]
  refine ⟨fun q => rj (Or.inl (by omega)), fun q => ⟨fun q2 => rj (Or.inl (by omega)), fun q2 => ⟨fun q3 => rj (Or.inl (by omega)), fun q3 => ⟨fun q4 => ?_, fun q4 => rj (Or.inl (by omega))⟩⟩⟩⟩
  refine c_at (zT_we hTn) (by decide) hl (by omega) ?_
  have eNl := (eN l (by omega) (by omega)).1
  simp (disch := first | exact hv | exact iq_r _ _ _) only [J_eq]
  refine ⟨fun q5 => ?_, fun q5 => rj (Or.inr (by omega))⟩
  refine c_begin hR (fun ma fa ta _ => ?_)
  generalize hx : tb ((iq m 3 10 + 1) % 10) = x at *
  have hT : zT x := by rw [← hx]; exact tb_T hn.1 hn.2
  have e7 : zR w.2.1 x x 7 = x + 20 := zT_e7 (w := (w.1, w.2.1, x)) hT
  refine ⟨zT_n hT, ⟨zT_k hT, by show ¬ zR w.2.1 x x 7 = 0; omega⟩, ?_⟩
  show cV (d + 3) 158 [.ref (zR w.2.1 x x 7), _, _] _ _ _
  rw [e7]
  refine c_put (zT_we hT) (by decide) hl (by omega) ?_
  have fb : fo x 21 m (sq ma (x + 20) l v) := fa.tr ((fo_sq ma (x + 20) l v).mo (by omega) (by omega))
  obtain ⟨i1, i2, i3⟩ := kc_in hR hx.symm fb
  have e262 := kc_262 hR hx.symm fb
  refine c_keep hT i1 i2 ?_
  refine S_M_weight ?_
  simp (disch := first | exact hv | exact hl | (unfold r32; omega) | (unfold r64; omega) | omega) only [j_lit, jl_lit, J_64]
  refine c_isIn (r64_32 hl) (by unfold r64; omega) (by unfold r64; omega) ?_
  rw [if_pos (by omega)]
  refine ⟨fun z => absurd z (by decide), fun _ => c_isIn (r64_32 hv) (by unfold r64; omega) (by unfold r64; omega) ?_⟩
  rw [if_pos (by omega)]
  simp (disch := first | exact hv | exact r64_32 hv | exact lq_r _ _ _ | (unfold r32; omega) | (unfold r64; omega) | omega) only [j_lit, jl_lit, J_eq, vp_J, J_cl, jl_rd, lq_tn, J_64, JL_eq, jl_wr, sl_tn, e262, j_ops]
  refine ⟨fun z => by omega, fun _ => ⟨by omega, fun _ => ?_, fun z => by omega⟩⟩
  refine c_keepsK i3 (fun md hk => ⟨by omega, H1 _ _ ?_⟩)
  refine ch_keep hR (Int.le_refl _) hx.symm fb hk (((fr.rf [262] md).sll (by simp) _ _)) ?_
  have e1 := (ch_262 hR hx.symm fb hk).1
  have eNN : ∀ k, 0 ≤ k → lq (sl md 262 (1900 + l) v) 262 k = if k = 1900 + l then v else lq m 262 k := by
    intro k k0
    rw [lq_sl (by omega) k0 (r64_32 hv), e1]
    simp
  have srr : sr ma (sq ma (x + 20) l v) x 0 19 := fun c q1 q2 => fo_sq ma _ _ v c (by omega)
  have ta7 := ta.2.2.2.2.2.2
  refine TR.we ta (fun c a1 a2 => srr c (by omega) a2) (srr.i (by omega) (by omega) 8) (srr.i (by omega) (by omega) 9) (fun k k0 k1 => by rw [eNN k k0, if_neg (by omega)]) ?_
  obtain ⟨u1, u2, u3, u4, u5, u6, u7, u8, u9⟩ := ta7
  have f9 := eNN 1898 (by omega)
  have f10 := eNN 1899 (by omega)
  have f11 := eNN 1900 (by omega)
  rw [if_neg (by omega)] at f9 f10 f11
  have s10 := srr.i (c := x) (by omega) (by omega) 10
  have s11 := srr.i (c := x) (by omega) (by omega) 11
  have s12 := srr.i (c := x) (by omega) (by omega) 12
  refine ⟨fun k k0 k1 => ?_, by omega, by omega, by omega, by omega, by omega, by omega, by omega, by omega⟩
  rw [eNN _ (by omega), iq_sq (by omega) (by omega) hv]
  by_cases e : k = l
  · rw [if_pos ⟨rfl, e⟩, if_pos (by omega)]
    omega
  · rw [if_neg (by omega), if_neg (by omega)]
    exact u1 k k0 k1
theorem p_lengths {P : Int32 → Int32 → Nat × Nat × Nat → zM → Prop} {m : zM} {l v : Int} (hl : r32 l) (hv : r32 v) (hR : RG C w m) (H0 : P (J 0) (J 0) w m) (H1 : ∀ w' m', CH0 C w m w' m' → P (J 1) (J 1) w' m') :
    cIw (d + 4) 121 [.ref 3, .int (J l), .int (J v)] w m (fun x w1 m1 => cI (d + 4) 228 [.ref 261, .int (J l), .int (J v)] w1 m1 (fun y m2 => P x y w1 m2)) := by
  obtain ⟨h1, h2, h3, h4, h5, h6, h7, h8⟩ := id hR
  have hTn : zT w.2.1 := by rw [h6]; exact tb_T h1 h2
  have eN1 : iq m w.2.1 10 = lq m 262 1898 := h7.2.2.2.2.2.2.2.1
  have eN2 : iq m w.2.1 11 = lq m 262 1899 := h7.2.2.2.2.2.2.2.2.1
  have hn : 0 ≤ (iq m 3 10 + 1) % 10 ∧ (iq m 3 10 + 1) % 10 < 10 := by omega
  have rj : (¬ (1 ≤ l ∧ l ≤ v ∧ v ≤ 5) ∨ (lq m 262 1898 = l ∧ lq m 262 1899 = v)) → cI (d + 4) 228 [.ref 261, .int (J l), .int (J v)] w m (fun y m2 => P (J 0) y w m2) := by
    clear h1 h2 h3 h4 h5 h6 h7 h8 hn eN1 eN2 H1 hR hTn
    intro q3
    refine S_M_lengths ?_
    simp (disch := first | exact hv | exact hl | (unfold r32; omega) | (unfold r64; omega) | omega) only [j_lit, jl_lit, J_64]
    refine c_isIn (r64_32 hl) (by unfold r64; omega) (by unfold r64; omega) ?_
    by_cases hin : 1 ≤ l ∧ l ≤ 5
    · rw [if_pos hin]
      refine ⟨fun z => absurd z (by decide), fun _ => c_isIn (r64_32 hv) (r64_32 hl) (by unfold r64; omega) ?_⟩
      by_cases hin2 : l ≤ v ∧ v ≤ 5
      · rw [if_pos hin2]
        simp (disch := first | exact hv | exact r64_32 hv | exact r64_32 hl | exact lq_r _ _ _ | (unfold r32; omega) | (unfold r64; omega) | omega) only [j_lit, jl_lit, J_eq, vp_J, J_cl, jl_rd, lq_tn, J_64, JL_eq, j_ops]
        rcases q3 with q3 | q3
        · omega
        · exact ⟨fun z => by omega, fun _ => ⟨by omega, fun z => absurd q3.1 z, fun _ => ⟨by omega, fun z => absurd q3.2 z, fun _ => H0⟩⟩⟩
      · rw [if_neg hin2]
        exact ⟨fun _ => H0, fun z => absurd rfl z⟩
    · rw [if_neg hin]
      exact ⟨fun _ => H0, fun z => absurd rfl z⟩
  have ch : (1 ≤ l ∧ l ≤ v ∧ v ≤ 5) → ¬ (lq m 262 1898 = l ∧ lq m 262 1899 = v) → cVw (d + 3) 145 [.ref 3] w m (fun w1 m1 => (¬ w1.2.2 = 0) ∧ ((zK w1.1 w1.2.2).1 = 9 ∧ ((¬ w1.2.2 = 0) ∧ ((zK w1.1 w1.2.2).1 = 9 ∧ (cVw (d + 3) 146 [.ref 3] w1 (sq (sq m1 w1.2.2 10 l) w1.2.2 11 v) (fun w2 m2 => cI (d + 4) 228 [.ref 261, .int (J l), .int (J v)] w2 m2 (fun y m3 => P (J 1) y w2 m3))))))) := by
    intro hin hne
    refine c_begin hR (fun ma fa ta _ => ?_)
    generalize hx : tb ((iq m 3 10 + 1) % 10) = x at *
    have hT : zT x := by rw [← hx]; exact tb_T hn.1 hn.2
    refine ⟨zT_n hT, zT_k hT, zT_n hT, zT_k hT, ?_⟩
    have fb : fo x 21 m (sq (sq ma x 10 l) x 11 v) := (fa.tr ((fo_sq ma x 10 l).mo (by omega) (by omega))).tr ((fo_sq _ x 11 v).mo (by omega) (by omega))
    obtain ⟨i1, i2, i3⟩ := kc_in hR hx.symm fb
    have e262 := kc_262 hR hx.symm fb
    refine c_keep hT i1 i2 ?_
    refine S_M_lengths ?_
    simp (disch := first | exact hv | exact hl | (unfold r32; omega) | (unfold r64; omega) | omega) only [j_lit, jl_lit, J_64]
    refine c_isIn (r64_32 hl) (by unfold r64; omega) (by unfold r64; omega) ?_
    rw [if_pos (by omega)]
    refine ⟨fun z => absurd z (by decide), fun _ => c_isIn (r64_32 hv) (r64_32 hl) (by unfold r64; omega) ?_⟩
    rw [if_pos (by omega)]
    simp (disch := first | exact hv | exact r64_32 hv | exact r64_32 hl | exact lq_r _ _ _ | (unfold r32; omega) | (unfold r64; omega) | omega) only [j_lit, jl_lit, J_eq, vp_J, J_cl, jl_rd, lq_tn, J_64, JL_eq, jl_wr, sl_tn, e262, j_ops]
    have fin : cV (d + 3) 185 [.ref 261] (w.1, x, x) (kc (sq (sq ma x 10 l) x 11 v)) (fun m3 => (0 ≤ (1898 : Int) ∧ (1898 : Int) < ((1906 : Nat) : Int)) ∧ ((0 ≤ (1899 : Int) ∧ (1899 : Int) < ((1906 : Nat) : Int)) ∧ P (J 1) (J 1) (w.1, x, x) (sl (sl m3 262 1898 l) 262 1899 v))) := by
      refine c_keepsK i3 (fun md hk => ⟨by omega, by omega, H1 _ _ ?_⟩)
      refine ch_keep hR (Int.le_refl _) hx.symm fb hk ((((fr.rf [262] md).sll (by simp) _ _)).sll (by simp) _ _) ?_
      have e1 := (ch_262 hR hx.symm fb hk).1
      have eNN : ∀ k, 0 ≤ k → lq (sl (sl md 262 1898 l) 262 1899 v) 262 k = if k = 1899 then v else if k = 1898 then l else lq m 262 k := by
        intro k k0
        rw [lq_sl (by omega) k0 (r64_32 hv), lq_sl (by omega) k0 (r64_32 hl), e1]
        simp
      have srr : sr ma (sq (sq ma x 10 l) x 11 v) x 1 20 := fun c q1 q2 => by
        have g1 := fo_sq ma x 10 l c (by omega)
        have g2 := fo_sq (sq ma x 10 l) x 11 v c (by omega)
        exact ⟨g2.1.trans g1.1, g2.2.trans g1.2⟩
      have sf : ∀ z, 0 ≤ z → iq (sq (sq ma x 10 l) x 11 v) x z = if z = 11 then v else if z = 10 then l else iq ma x z := fun z z0 => by
        rw [iq_sq (by omega) z0 hv, iq_sq (by omega) z0 hl]
        simp
      have ta7 := ta.2.2.2.2.2.2
      refine TR.we ta (fun c a1 a2 => srr c a1 (by omega)) (by rw [sf _ (by omega), if_neg (by omega), if_neg (by omega)]) (by rw [sf _ (by omega), if_neg (by omega), if_neg (by omega)]) (fun k k0 k1 => by rw [eNN k k0, if_neg (by omega), if_neg (by omega)]) ?_
      obtain ⟨u1, u2, u3, u4, u5, u6, u7, u8, u9⟩ := ta7
      have f9 := eNN 1898 (by omega)
      have f10 := eNN 1899 (by omega)
      have f11 := eNN 1900 (by omega)
      rw [if_neg (by omega), if_pos rfl] at f9
      rw [if_pos rfl] at f10
      rw [if_neg (by omega), if_neg (by omega)] at f11
      have s10 := sf 10 (by omega)
      have s11 := sf 11 (by omega)
      have s12 := sf 12 (by omega)
      rw [if_neg (by omega), if_pos rfl] at s10
      rw [if_pos rfl] at s11
      rw [if_neg (by omega), if_neg (by omega)] at s12
      refine ⟨fun k k0 k1 => ?_, by omega, by omega, by omega, by omega, by omega, by omega, by omega, by omega⟩
      rw [eNN _ (by omega), if_neg (by omega), if_neg (by omega), srr.i (by omega) (by omega)]
      exact u1 k k0 k1
    refine ⟨fun z => by omega, fun _ => ⟨by omega, fun _ => fin, fun z => ⟨by omega, fun _ => fin, fun z2 => absurd ⟨z, z2⟩ hne⟩⟩⟩
  refine S_T_lengths hTn ?_
  simp (disch := first | exact hv | exact hl | exact iq_r _ _ _ | (unfold r32; omega) | omega) only [j_lit, J_lt, J_le, J_eq, j_rd, j_nc, j_wr]
  refine ⟨fun q => rj (Or.inl (by omega)), fun q => ⟨fun q2 => rj (Or.inl (by omega)), fun q2 => ⟨fun q3 => ⟨fun q4 => ch (by omega) (by omega), fun q4 => ⟨fun q5 => ch (by omega) (by omega), fun q5 => rj (Or.inr (by omega))⟩⟩, fun q3 => rj (Or.inl (by omega))⟩⟩⟩
end SM
