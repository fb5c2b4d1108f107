/-! drop: the reference, and both -/
section DR2
variable {d : Nat} {w : Nat × Nat × Nat} {C : Int}
theorem c_mdrop33 {Q : Int32 → zM → Prop} {m0 : zM} {N : Int → Int} {doc p n s : Int} (hp : 0 ≤ p) (hn : 0 ≤ n) (hs : s ≤ 240) (H : ∀ m', fr [262] m0 m' → rowM m' (dsh N p n (s - n)) → W_M_drop_70 d (J n) (J doc) w m' Q) :
    ∀ (j : Nat) (z : Int) (m : zM), p ≤ z → z + n + j = s → fr [262] m0 m → rowM m (dsh N p n z) → W_M_drop_33 d (J doc) (J n) (J s) (J z) w m Q := by
  intro j
  induction j with
  | zero =>
    intro z m hz hj f hR
    refine S_M_drop_33 ?_
    simp (disch := first | (unfold r32; omega) | omega) only [j_lit, J_le, j_ops]
    rw [show z = s - n by omega] at hR
    exact ⟨fun _ => H m f hR, fun q => by omega⟩
  | succ j ih =>
    intro z m hz hj f hR
    have e1 := hR (269 + (z + n)) (by omega) (by omega)
    have e2 := hR (669 + (z + n)) (by omega) (by omega)
    unfold dsh at e1 e2
    rw [if_neg (by omega), if_neg (by omega)] at e1 e2
    have b1 := lq_r m 262 (269 + (z + n))
    have b2 := lq_r m 262 (669 + (z + n))
    have e3 : lq (sl m 262 (269 + z) (lq m 262 (269 + (z + n)))) 262 (669 + (z + n)) = lq m 262 (669 + (z + n)) := lq_ne (by omega) (by omega) (by omega)
    refine S_M_drop_33 ?_
    simp (disch := first | (unfold r32; omega) | omega) only [j_lit, J_le, j_ops, vp_J, J_cl, jl_rd, lq_tn, jl_wr, sl_tn, show 269 + z + n = 269 + (z + n) by omega, show 669 + z + n = 669 + (z + n) by omega, e3]
    refine ⟨fun q => by omega, fun _ => ⟨by omega, by omega, by omega, by omega, ?_⟩⟩
    refine ih (z + 1) _ (by omega) (by omega) ((f.sll (by simp) _ _).sll (by simp) _ _) ?_
    refine rowM.gs (N := fun y => if y = 269 + z then lq m 262 (269 + (z + n)) else dsh N p n z y) ?_ (by omega) b2 (fun y y0 y1 => ?_)
    · exact hR.gs (by omega) b1 (fun y _ _ => rfl)
    · unfold dsh
      by_cases q : y = 669 + z
      · rw [if_pos q, e2, if_neg (by omega), if_pos (by omega), q, show 669 + z + n = 669 + (z + n) by omega]
      · rw [if_neg q]
        by_cases q2 : y = 269 + z
        · rw [if_pos q2, e1, if_pos (by omega), q2, show 269 + z + n = 269 + (z + n) by omega]
        · rw [if_neg q2]
          by_cases q3 : 269 + p ≤ y ∧ y < 269 + z
          · rw [if_pos q3, if_pos (by omega)]
          · rw [if_neg q3, if_neg (by omega)]
            by_cases q4 : 669 + p ≤ y ∧ y < 669 + z
            · rw [if_pos q4, if_pos (by omega)]
            · rw [if_neg q4, if_neg (by omega)]
theorem c_mdrop70 {Q : Int32 → zM → Prop} {m0 : zM} {M : Int → Int} {doc n c : Int} (hd : 0 ≤ doc) (hn : 0 ≤ n ∧ n ≤ 240) (hc : c ≤ 8) (hM : M 259 = c) (hMb : ∀ e, 0 ≤ e → e ≤ c → 0 ≤ M (260 + e) ∧ M (260 + e) ≤ 240) (H : ∀ m', fr [262] m0 m' → rowM m' (fun y => if y = 259 then c - 1 else dnd M doc n c y) → Q (J (c - 1)) m') :
    ∀ (j : Nat) (z : Int) (m : zM), doc ≤ z → z + j = c → fr [262] m0 m → rowM m (dnd M doc n z) → W_M_drop_70 d (J n) (J z) w m Q := by
  intro j
  induction j with
  | zero =>
    intro z m hz hj f hR
    have e1 := hR 259 (by omega) (by omega)
    have e1' : lq m 262 259 = c := by
      rw [e1]
      unfold dnd
      rw [if_neg (by omega), hM]
    have e2 : lq (sl m 262 259 (c - 1)) 262 259 = c - 1 := lq_eq (by unfold r64; omega)
    refine S_M_drop_70 ?_
    simp (disch := first | (unfold r32; omega) | (unfold r64; omega) | omega) only [j_lit, jl_lit, J_64, JL_le, vp_J, J_cl, jl_rd, lq_tn, jl_wr, sl_tn, e1', jl_ops, e2, JL_32]
    refine ⟨by omega, fun _ => ⟨by omega, by omega, by omega, H _ (f.sll (by simp) _ _) ?_⟩, fun q => by omega⟩
    refine hR.gs (by omega) (by unfold r64; omega) (fun y _ _ => ?_)
    rw [show z = c by omega]
  | succ j ih =>
    intro z m hz hj f hR
    have e1 := hR 259 (by omega) (by omega)
    have e1' : lq m 262 259 = c := by
      rw [e1]
      unfold dnd
      rw [if_neg (by omega), hM]
    have e2 := hR (260 + (z + 1)) (by omega) (by omega)
    have e2' : lq m 262 (260 + (z + 1)) = M (260 + (z + 1)) := by
      rw [e2]
      unfold dnd
      rw [if_neg (by omega)]
    have hb := hMb (z + 1) (by omega) (by omega)
    refine S_M_drop_70 ?_
    simp (disch := first | (unfold r32; omega) | (unfold r64; omega) | omega) only [j_lit, jl_lit, J_64, JL_le, JL_lt, vp_J, J_cl, jl_rd, lq_tn, jl_wr, sl_tn, e1', jl_ops, j_ops, show 260 + z + 1 = 260 + (z + 1) by omega, e2']
    refine ⟨by omega, fun q => by omega, fun _ => ⟨by omega, fun q => by omega, fun _ => ⟨by omega, by omega, ?_⟩⟩⟩
    refine ih (z + 1) _ (by omega) (by omega) (f.sll (by simp) _ _) ?_
    refine hR.gs (by omega) (by unfold r64; omega) (fun y _ _ => ?_)
    unfold dnd
    by_cases q : y = 260 + z
    · rw [if_pos (by omega), if_pos q, q, show 260 + z + 1 = 260 + (z + 1) by omega]
    · rw [if_neg q]
      by_cases q2 : 260 + doc ≤ y ∧ y < 260 + z
      · rw [if_pos q2, if_pos (by omega)]
      · rw [if_neg q2, if_neg (by omega)]
theorem c_M_isDoc {Q : Int32 → zM → Prop} {m : zM} {N : Int → Int} {dc : Int} (hd : r32 dc) (hN : rowM m N) (hc : 0 ≤ N 259 ∧ N 259 ≤ 8) (H : Q (J (if 0 ≤ dc ∧ dc < N 259 then 1 else 0)) m) : cI (d + 1) 225 [.ref 261, .int (J dc)] w m Q := by
  have e1 := hN 259 (by omega) (by omega)
  refine S_M_isDoc ?_
  simp (disch := first | exact hd | (unfold r32; omega) | (unfold r64; omega) | omega) only [j_lit, jl_lit, J_64, vp_J, J_cl, jl_rd, lq_tn, e1, jl_ops]
  refine ⟨by omega, c_isIn (r64_32 hd) (by unfold r64; omega) (by unfold r64; omega) ?_⟩
  by_cases q : 0 ≤ dc ∧ dc < N 259
  · rw [if_pos (by omega)]
    rw [if_pos q] at H
    exact ⟨Or.inr rfl, H⟩
  · rw [if_neg (by omega)]
    rw [if_neg q] at H
    exact ⟨Or.inl rfl, H⟩
theorem p_drop {P : Int32 → Int32 → Nat × Nat × Nat → zM → Prop} {m : zM} {dc : Int} (hd : r32 dc) (hR : RG C w m) (H0 : P (J (-1)) (J (-1)) w m) (H1 : ∀ w' m' v, CH0 C w m w' m' → P v v w' m') :
    cIw (d + 5) 119 [.ref 3, .int (J dc)] w m (fun x w1 m1 => cI (d + 5) 226 [.ref 261, .int (J dc)] w1 m1 (fun y m2 => P x y w1 m2)) := by
  obtain ⟨h1, h2, h3, h4, h5, h6, h7, h8⟩ := id hR
  have hTn : zT w.2.1 := by rw [h6]; exact tb_T h1 h2
  have hD := h7.2.2.2.1
  have e9 : iq m w.2.1 9 = lq m 262 259 := hD.2.2.1
  have hc0 : 0 ≤ lq m 262 259 ∧ lq m 262 259 ≤ 8 := ⟨hD.1, hD.2.1⟩
  have hn : 0 ≤ (iq m 3 10 + 1) % 10 ∧ (iq m 3 10 + 1) % 10 < 10 := by omega
  have rj : ¬ (0 ≤ dc ∧ dc < lq m 262 259) → cI (d + 5) 226 [.ref 261, .int (J dc)] w m (fun y m2 => P (J (-1)) y w m2) := by
    intro q
    refine S_M_drop (c_M_isDoc (N := lq m 262) hd (fun _ _ _ => rfl) hc0 ?_)
    rw [if_neg q]
    simp only [j_lit, j_ops]
    exact ⟨fun z => absurd trivial z, fun _ => H0⟩
  refine S_T_drop hTn ?_
  simp (disch := first | exact hd | (unfold r32; omega) | omega) only [j_lit, J_lt, j_rd, j_nc, e9, j_ops]
  refine ⟨fun q => rj (by omega), fun q => ⟨fun q2 => ?_, fun q2 => rj (by omega)⟩⟩
  refine c_begin (d := d + 1) hR (fun ma fa ta _ => ?_)
  generalize hx : tb ((iq m 3 10 + 1) % 10) = x at *
  have bb := tb_bd hn.1 hn.2
  rw [hx] at bb
  have hT : zT x := by rw [← hx]; exact tb_T hn.1 hn.2
  refine ⟨zT_n hT, zT_k hT, ?_⟩
  obtain ⟨t1, t2, t3, t4, t5, t6, t7⟩ := id ta
  refine c_removeDoc (d := d + 1) hT t4 (by omega) q2 (fun mb f gx hD' => ?_)
  have fb : fo x 21 m mb := fun c hc => by
    have a1 := fa c hc
    have a2 := f c (by simp <;> omega)
    exact ⟨a2.1.trans a1.1, a2.2.trans a1.2⟩
  obtain ⟨i1, i2, i3⟩ := kc_in hR hx.symm fb
  have e262 := kc_262 hR hx.symm fb
  refine c_keep hT i1 i2 ?_
  generalize hN' : drp (lq m 262) dc (lq m 262 (260 + dc)) (lq m 262 (261 + dc) - lq m 262 (260 + dc)) (lq m 262 259) (lq m 262 (260 + lq m 262 259)) = N' at *
  have n9 : N' 259 = lq m 262 259 - 1 := by rw [← hN']; exact if_pos rfl
  have k9 : iq (kc mb) x 9 = lq m 262 259 - 1 := by
    have e : iq (kc mb) x 9 = iq mb x 9 := by
      unfold iq
      rw [(kc_facts mb i2).2.2.2.2.1 x (by omega)]
    rw [e, hD'.2.2.1, n9]
  refine ⟨zT_n hT, zT_k hT, ?_⟩
  show cI (d + 5) 226 [.ref 261, .int (J dc)] (w.1, x, x) (kc mb) (fun y m2 => P (J (iq (kc mb) x 9)) y (w.1, x, x) m2)
  rw [k9]
  have ra := trD_r hD (dc := dc) (by omega) (by omega)
  have rb := trD_r hD (dc := dc + 1) (by omega) (by omega)
  have rm := trD_m hD (e := dc) (dc := dc + 1) (by omega) (by omega) (by omega)
  rw [show 260 + (dc + 1) = 261 + dc by omega] at rb rm
  refine S_M_drop (c_M_isDoc (N := lq m 262) hd (fun k _ _ => e262 k) hc0 ?_)
  rw [if_pos (by omega)]
  refine ⟨fun _ => ?_, fun z => absurd z (by decide)⟩
  refine c_keepsK i3 (fun md hk => ?_)
  have eM := (ch_262 hR hx.symm fb hk).1
  have x1 := eM (260 + dc)
  have x2 := eM (261 + dc)
  simp (disch := first | exact hd | (unfold r32; omega) | omega) only [j_lit, j_ops, vp_J, J_cl, jl_rd, lq_tn, JL_32, show 260 + dc + 1 = 261 + dc by omega, x1, x2]
  refine ⟨by omega, by omega, c_M_wordsOf (N := lq m 262) (fun k _ _ => eM k) hc0 ?_⟩
  refine c_mdrop33 (d := d + 4) (m0 := md) (N := lq m 262) (p := lq m 262 (260 + dc)) (n := lq m 262 (261 + dc) - lq m 262 (260 + dc)) (s := lq m 262 (260 + lq m 262 259)) ra.1 (by omega) ra.2.2 (fun m1 f1 r1 => ?_) (lq m 262 (260 + lq m 262 259) - lq m 262 (261 + dc)).toNat (lq m 262 (260 + dc)) md (by omega) (by omega) (fr.rf _ _) (fun k _ _ => ?_)
  · refine c_mdrop70 (d := d + 4) (m0 := m1) (doc := dc) (n := lq m 262 (261 + dc) - lq m 262 (260 + dc)) (M := dsh (lq m 262) (lq m 262 (260 + dc)) (lq m 262 (261 + dc) - lq m 262 (260 + dc)) (lq m 262 (260 + lq m 262 259) - (lq m 262 (261 + dc) - lq m 262 (260 + dc)))) (c := lq m 262 259) (by omega) (by omega) (by omega) ?_ (fun e e0 e1 => ?_) (fun m2 f2 r2 => ?_) (lq m 262 259 - dc).toNat dc m1 (by omega) (by omega) (fr.rf _ _) (fun k k0 k1 => ?_)
    · unfold dsh
      rw [if_neg (by omega), if_neg (by omega)]
    · have := trD_r hD e0 e1
      unfold dsh
      rw [if_neg (by omega), if_neg (by omega)]
      omega
    · refine H1 _ _ _ ?_
      refine ch_keep hR (Int.le_refl _) hx.symm fb hk (f1.tr f2) ?_
      have e62 : ∀ k, 0 ≤ k → k < 1906 → lq m2 262 k = N' k := fun k k0 k1 => by rw [r2 k k0 k1, ← hN']; rfl
      have low : ∀ z, z < 259 ∨ 1069 ≤ z → N' z = lq m 262 z := fun z hz => by
        rw [← hN']
        unfold drp dnd dsh
        rw [if_neg (by omega), if_neg (by omega), if_neg (by omega), if_neg (by omega)]
      have s0 : ∀ i j : Nat, (j < 10 ∨ 13 < i) → 1 ≤ i → sr ma mb x i j := fun i j hij hi c a1 a2 => f c (by simp <;> omega)
      refine TR.row (N := N') ?_ e62
      exact ⟨trL_c t1 (s0 _ _ (by omega) (by omega)) (fun k a1 a2 => low k (by omega)), trE_c t2 (s0 _ _ (by omega) (by omega)) (fun k a1 a2 => low k (by omega)), trS_c t3 (s0 _ _ (by omega) (by omega)) (gx 8 (by omega) (by omega)) (fun k a1 a2 => low k (by omega)), hD', trG_c t5 (s0 _ _ (by omega) (by omega)) (fun k a1 a2 => low k (by omega)), trP_c t6 (s0 _ _ (by omega) (by omega)) (fun k a1 a2 => low k (by omega)), trW_c t7 (s0 _ _ (by omega) (by omega)) (gx 10 (by omega) (by omega)) (gx 11 (by omega) (by omega)) (gx 12 (by omega) (by omega)) (fun k a1 a2 => low k (by omega))⟩
    · rw [r1 k k0 k1]
      unfold dnd
      rw [if_neg (by omega)]
  · unfold dsh
    rw [if_neg (by omega), if_neg (by omega)]
    exact eM k
end DR2
