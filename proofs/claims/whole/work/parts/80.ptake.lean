/-! what a stretch of words can be by the pattern -/
def tkN (N : Int → Int) (s : Nat) (k : Int) (p : Nat) : Nat := Nat.rec 0 (fun (p : Nat) r => r ||| (if s.testBit p = true ∧ (N (1871 + (p : Int)) = 7 ∨ N (1871 + (p : Int)) = k) then 2 ^ p else 0)) p
def fwN (N : Int → Int) (s : Nat) (p : Nat) : Nat := Nat.rec 0 (fun (p : Nat) r => r ||| (if s.testBit p = true then (N (1883 + (p : Int))).toNat else 0)) p
def tk (N : Int → Int) (s : Nat) (k : Int) : Nat := tkN N s k (N 1870).toNat
def fw (N : Int → Int) (s : Nat) : Nat := fwN N s (N 1870).toNat
theorem tkN_s (N : Int → Int) (s : Nat) (k : Int) (p : Nat) : tkN N s k (p + 1) = tkN N s k p ||| (if s.testBit p = true ∧ (N (1871 + (p : Int)) = 7 ∨ N (1871 + (p : Int)) = k) then 2 ^ p else 0) := rfl
theorem fwN_s (N : Int → Int) (s : Nat) (p : Nat) : fwN N s (p + 1) = fwN N s p ||| (if s.testBit p = true then (N (1883 + (p : Int))).toNat else 0) := rfl
theorem tkN_b (N : Int → Int) (s : Nat) (k : Int) : ∀ p : Nat, p ≤ 12 → tkN N s k p < 4096 := by
  intro p
  induction p with
  | zero => intro _; show 0 < 4096; decide
  | succ p ih =>
    intro h
    rw [tkN_s]
    refine pp_or_lt (ih (by omega)) ?_
    split
    · exact pp_2z (by omega)
    · decide
theorem fwN_b {N : Int → Int} {s z : Nat} (hF : ∀ p : Nat, p < z → (N (1883 + (p : Int))).toNat < 4096) : ∀ p : Nat, p ≤ z → fwN N s p < 4096 := by
  intro p
  induction p with
  | zero => intro _; show 0 < 4096; decide
  | succ p ih =>
    intro h
    rw [fwN_s]
    refine pp_or_lt (ih (by omega)) ?_
    split
    · exact hF p (by omega)
    · decide
/-- what the n-th word behind the first can be -/
noncomputable def hr (N : Int → Int) (k : Int) : Nat → Nat := Nat.rec (tk N (N 1895).toNat (kd N k)) (fun (n : Nat) r => tk N (fw N r) (kd N (k + ((n : Int) + 1))))
theorem hr_s (N : Int → Int) (k : Int) (n : Nat) : hr N k (n + 1) = tk N (fw N (hr N k n)) (kd N (k + ((n : Int) + 1))) := rfl
theorem pkr_iff {c r c' r' : Int} (h : pkr c r) (h' : pkr c' r') : c = c' ↔ r = r' := by
  unfold pkr kr at h h'
  omega
section PTK
variable {d : Nat} {w : Nat × Nat × Nat} {b : Nat} {C : Int} {N : Int → Int}
theorem trP.fw {m : zM} (h : trP m b N) (s : Nat) : fw N s < 4096 := fwN_b (z := (N 1870).toNat) (fun p hp => by
  have := (h.2.2.2.2.2.2.2.2.2 (p : Int) (by omega) (by omega)).2.2
  omega) _ (Nat.le_refl _)
theorem trP.tk {m : zM} (h : trP m b N) (s : Nat) (k : Int) : tk N s k < 4096 := tkN_b N s k _ (by have := h.2.1; omega)
theorem trP.hr {m : zM} (h : trP m b N) (k : Int) (n : Nat) : hr N k n < 4096 := by
  cases n with
  | zero => exact h.tk _ _
  | succ n => exact h.tk _ _
theorem b_ts {s : Nat} (p : Nat) (hs : s < 4096) (hp : p < 32) : ((((J (s : Int)).toUInt32 >>> ((J (p : Int)).toUInt32 &&& Int32.toUInt32 (J 31))).toInt32 &&& J 1) = J 0) ↔ s.testBit p ≠ true := by
  rw [J_ushr' (by omega) (by omega) (by omega) (by omega), J_bsmall.2.2.1, J_eq (by unfold r32; omega) (by unfold r32; omega)]
  have ht := pp_tb_div s p
  have e : ((s : Int) / 2 ^ ((p : Int)).toNat % 2) = ((s / 2 ^ p % 2 : Nat) : Int) := by
    rw [Int.toNat_natCast]
    norm_cast
  rw [e]
  generalize s / 2 ^ p = q at *
  constructor
  · intro h z
    have := ht.mpr z
    omega
  · intro h
    by_cases z : q % 2 = 1
    · exact absurd (ht.mp z) h
    · omega
theorem J_bit {p : Nat} (hp : p < 12) : J 1 <<< (J (p : Int) &&& J 31) = J ((2 ^ p : Nat) : Int) := m_sh ⟨p, hp⟩
theorem c_taking_l {Q : Int32 → zM → Prop} {m : zM} {s : Nat} {kc k : Int} (hb : zT b) (hP : trP m b N) (hs : s < 4096) (hk : pkr kc k) (hk2 : k ≠ 7) (hkr : r32 kc) (H : Q (J ((tk N s k : Nat) : Int)) m) : ∀ (j p : Nat), p + j = (N 1870).toNat → W_Pattern_taking_4 d (b + 17) (J (s : Int)) (J kc) (J ((tkN N s k p : Nat) : Int)) (J (p : Int)) w m Q := by
  obtain ⟨p1, p2, p3, p4, p5, p6, p7, p8, p9, p10⟩ := id hP
  intro j
  induction j with
  | zero =>
    intro p hp
    have e : tkN N s k p = tk N s k := by unfold tk; rw [show p = (N 1870).toNat by omega]
    rw [e]
    refine S_Pattern_taking_4 (zT_pt hb) ?_
    simp (disch := first | (unfold r32; omega) | omega) only [j_lit, J_le, j_rd, j_nc, p3]
    exact ⟨fun _ => H, fun q => by omega⟩
  | succ j ih =>
    intro p hp
    have hb1 := tkN_b N s k p (by omega)
    have hbit := pp_2z (z := p) (by omega)
    obtain ⟨q1, q2, q3, q4⟩ := p10 (p : Int) (by omega) (by omega)
    have go : ∀ v : Nat, v = tkN N s k (p + 1) → W_Pattern_taking_4 d (b + 17) (J (s : Int)) (J kc) (J ((v : Nat) : Int)) (J ((p : Int) + 1)) w m Q := fun v hv => by
      have := ih (p + 1) (by omega)
      rw [← hv, show (((p + 1 : Nat) : Nat) : Int) = (p : Int) + 1 by omega] at this
      exact this
    have hst := tkN_s N s k p
    have kiff := pkr_iff q1 hk
    have hor := J_or (a := tkN N s k p) (b := 2 ^ p) (by omega) (by omega)
    have i1 := iq_r m (b + 18) (p : Int)
    refine S_Pattern_taking_4 (zT_pt hb) ?_
    simp (disch := first | (unfold r32; omega) | omega) only [j_lit, J_le, j_rd, j_nc, p3, b_ts p hs (by omega), J_bit (show p < 12 by omega), hor, j_ops]
    refine ⟨fun q => by omega, fun _ => ⟨fun q => by omega, fun _ => c_at (n := 12) (zT_pt hb).2.2.2.1 (by decide) (by unfold r32; omega) (by omega) ?_⟩⟩
    show (s.testBit p ≠ true → _) ∧ (¬ s.testBit p ≠ true → (J (iq m (b + 18) (p : Int)) = J 46 → _) ∧ (¬ J (iq m (b + 18) (p : Int)) = J 46 → _))
    simp (disch := first | exact i1 | exact hkr | (unfold r32; omega) | omega) only [J_eq]
    refine ⟨fun q => go _ ?_, fun q => ⟨fun q5 => go _ ?_, fun q5 => ⟨fun q6 => go _ ?_, fun q6 => go _ ?_⟩⟩⟩
    · rw [hst, if_neg (fun z => q z.1), Nat.or_zero]
    · have h7 : N (1871 + (p : Int)) = 7 := by
        have := pkr_gk q1
        rw [q5] at this
        exact this
      rw [hst, if_pos ⟨Classical.not_not.mp q, Or.inl h7⟩]
    · rw [hst, if_neg, Nat.or_zero]
      intro z
      rcases z.2 with z | z
      · refine q5 ?_
        exact (pkr_iff q1 (c' := 46) (r' := 7) (Or.inr (Or.inr ⟨rfl, rfl⟩))).mpr z
      · exact q6 (kiff.mpr z)
    · rw [hst, if_pos ⟨Classical.not_not.mp q, Or.inr (kiff.mp q6)⟩]
theorem c_taking {Q : Int32 → zM → Prop} {m : zM} {s : Nat} {kc k : Int} (hb : zT b) (hP : trP m b N) (hs : s < 4096) (hk : pkr kc k) (hk2 : k ≠ 7) (hkr : r32 kc) (H : Q (J ((tk N s k : Nat) : Int)) m) : cI (d + 1) 50 [.ref (b + 17), .int (J (s : Int)), .int (J kc)] w m Q := by
  refine S_Pattern_taking ?_
  simp only [j_lit]
  exact c_taking_l hb hP hs hk hk2 hkr H (N 1870).toNat 0 (by omega)
theorem c_goOn_l {Q : Int32 → zM → Prop} {m : zM} {s : Nat} {kc k : Int} (hb : zT b) (hP : trP m b N) (hs : s < 4096) (hk : pkr kc k) (hk2 : k ≠ 7) (hkr : r32 kc) (H : Q (J ((tk N (fw N s) k : Nat) : Int)) m) : ∀ (j p : Nat), p + j = (N 1870).toNat → W_Pattern_goOn_4 (d + 1) (b + 17) (J (s : Int)) (J kc) (J ((fwN N s p : Nat) : Int)) (J (p : Int)) w m Q := by
  obtain ⟨p1, p2, p3, p4, p5, p6, p7, p8, p9, p10⟩ := id hP
  intro j
  induction j with
  | zero =>
    intro p hp
    have e : fwN N s p = fw N s := by unfold fw; rw [show p = (N 1870).toNat by omega]
    rw [e]
    refine S_Pattern_goOn_4 (zT_pt hb) ?_
    simp (disch := first | (unfold r32; omega) | omega) only [j_lit, J_le, j_rd, j_nc, p3]
    exact ⟨fun _ => c_taking hb hP (hP.fw s) hk hk2 hkr H, fun q => by omega⟩
  | succ j ih =>
    intro p hp
    have hF : ∀ p : Nat, p < (N 1870).toNat → (N (1883 + (p : Int))).toNat < 4096 := fun p hp => by
      have := (p10 (p : Int) (by omega) (by omega)).2.2
      omega
    have hb1 := fwN_b (s := s) hF p (by omega)
    obtain ⟨q1, q2, q3, q4⟩ := p10 (p : Int) (by omega) (by omega)
    have go : ∀ v : Nat, v = fwN N s (p + 1) → W_Pattern_goOn_4 (d + 1) (b + 17) (J (s : Int)) (J kc) (J ((v : Nat) : Int)) (J ((p : Int) + 1)) w m Q := fun v hv => by
      have := ih (p + 1) (by omega)
      rw [← hv, show (((p + 1 : Nat) : Nat) : Int) = (p : Int) + 1 by omega] at this
      exact this
    have hst := fwN_s N s p
    have hor := J_or (a := fwN N s p) (b := (N (1883 + (p : Int))).toNat) (by omega) (by omega)
    refine S_Pattern_goOn_4 (zT_pt hb) ?_
    simp (disch := first | (unfold r32; omega) | omega) only [j_lit, J_le, j_rd, j_nc, p3, b_ts p hs (by omega), j_ops]
    refine ⟨fun q => by omega, fun _ => ⟨fun q => by omega, fun _ => ⟨fun q => go _ (by rw [hst, if_neg q, Nat.or_zero]), fun q => c_at (n := 12) (zT_pt hb).2.2.2.2 (by decide) (by unfold r32; omega) (by omega) ?_⟩⟩⟩
    have e : iq m (b + 17 + 2) (p : Int) = (((N (1883 + (p : Int))).toNat : Nat) : Int) := by
      have : iq m (b + 17 + 2) (p : Int) = N (1883 + (p : Int)) := q2
      omega
    rw [e, hor]
    exact go _ (by rw [hst, if_pos (Classical.not_not.mp q)])
theorem c_goOn {Q : Int32 → zM → Prop} {m : zM} {s : Nat} {kc k : Int} (hb : zT b) (hP : trP m b N) (hs : s < 4096) (hk : pkr kc k) (hk2 : k ≠ 7) (hkr : r32 kc) (H : Q (J ((tk N (fw N s) k : Nat) : Int)) m) : cI (d + 2) 52 [.ref (b + 17), .int (J (s : Int)), .int (J kc)] w m Q := by
  refine S_Pattern_goOn ?_
  simp only [j_lit]
  exact c_goOn_l hb hP hs hk hk2 hkr H (N 1870).toNat 0 (by omega)
theorem c_startBy {Q : Int32 → zM → Prop} {m : zM} {kc k : Int} (hb : zT b) (hP : trP m b N) (hk : pkr kc k) (hk2 : k ≠ 7) (hkr : r32 kc) (H : Q (J ((tk N (N 1895).toNat k : Nat) : Int)) m) : cI (d + 2) 51 [.ref (b + 17), .int (J kc)] w m Q := by
  obtain ⟨p1, p2, p3, p4, p5, p6, p7, p8, p9, p10⟩ := id hP
  refine S_Pattern_startBy (zT_pt hb) ?_
  have e : iq m (b + 17) 3 = (((N 1895).toNat : Nat) : Int) := by omega
  simp only [j_rd, j_nc, e]
  exact c_taking hb hP (by omega) hk hk2 hkr H
theorem c_endsWith {Q : Int32 → zM → Prop} {m : zM} {s : Nat} (hb : zT b) (hP : trP m b N) (hs : s < 4096) (H : Q (J (if s &&& (N 1896).toNat = 0 then 0 else 1)) m) : cI d 53 [.ref (b + 17), .int (J (s : Int))] w m Q := by
  obtain ⟨p1, p2, p3, p4, p5, p6, p7, p8, p9, p10⟩ := id hP
  refine S_Pattern_endsWith (zT_pt hb) ?_
  have e : iq m (b + 17) 4 = (((N 1896).toNat : Nat) : Int) := by omega
  have ha := J_and (a := s) (b := (N 1896).toNat) (by omega) (by omega)
  have hl := pp_and_lt (a := s) (b := (N 1896).toNat) (by omega)
  simp (disch := first | (unfold r32; omega) | omega) only [j_lit, j_rd, j_nc, e, ha, J_eq]
  refine ⟨fun q => ?_, fun q => ?_⟩
  · rw [if_pos (by omega)] at H; exact H
  · rw [if_neg (by omega)] at H; exact H
/-- the reference's -/
theorem c_isPat61 {Q : Int32 → zM → Prop} {m : zM} {mv : zM} {s : Nat} {k n i : Int} (hP : trP mv b N) (hR : rowM m N) (hs : s < 4096) (H : W_M_isPattern_9 d (J k) (J n) (JL ((fw N s : Nat) : Int)) (JL (s : Int)) (J (i + 1)) w m Q) : ∀ (j p : Nat), p + j = (N 1870).toNat → W_M_isPattern_61 d (J k) (J n) (JL ((fwN N s p : Nat) : Int)) (JL (s : Int)) (J i) (J (p : Int)) w m Q := by
  obtain ⟨p1, p2, p3, p4, p5, p6, p7, p8, p9, p10⟩ := id hP
  have r70 := hR 1870 (by omega) (by omega)
  intro j
  induction j with
  | zero =>
    intro p hp
    have e : fwN N s p = fw N s := by unfold fw; rw [show p = (N 1870).toNat by omega]
    rw [e]
    refine S_M_isPattern_61 ?_
    simp (disch := first | (unfold r32; omega) | (unfold r64; omega) | omega) only [j_lit, vp_J, J_cl, jl_rd, lq_tn, r70, J_64, JL_le, j_ops]
    exact ⟨by omega, fun _ => H, fun q => by omega⟩
  | succ j ih =>
    intro p hp
    have hF : ∀ p : Nat, p < (N 1870).toNat → (N (1883 + (p : Int))).toNat < 4096 := fun p hp => by
      have := (p10 (p : Int) (by omega) (by omega)).2.2
      omega
    have hb1 := fwN_b (s := s) hF p (by omega)
    have hFp := hF p (by omega)
    obtain ⟨q1, q2, q3, q4⟩ := p10 (p : Int) (by omega) (by omega)
    have rp := hR (1883 + (p : Int)) (by omega) (by omega)
    have rp' : lq m 262 (1883 + (p : Int)) = (((N (1883 + (p : Int))).toNat : Nat) : Int) := by omega
    have go : ∀ v : Nat, v = fwN N s (p + 1) → W_M_isPattern_61 d (J k) (J n) (JL ((v : Nat) : Int)) (JL (s : Int)) (J i) (J ((p : Int) + 1)) w m Q := fun v hv => by
      have := ih (p + 1) (by omega)
      rw [← hv, show (((p + 1 : Nat) : Nat) : Int) = (p : Int) + 1 by omega] at this
      exact this
    have hst := fwN_s N s p
    have hor := JL_or (a := fwN N s p) (b := (N (1883 + (p : Int))).toNat) (by omega) (by omega)
    refine S_M_isPattern_61 ?_
    simp (disch := first | (unfold r32; omega) | (unfold r64; omega) | omega) only [j_lit, vp_J, J_cl, jl_rd, lq_tn, r70, J_64, JL_le, j_ops]
    refine ⟨by omega, fun q => by omega, fun _ => c_has hs (by omega) ⟨fun hy => ?_, fun hn => ?_⟩⟩
    · simp (disch := first | (unfold r32; omega) | omega) only [J_eq, vp_J, J_cl, jl_rd, lq_tn, rp', hor]
      exact ⟨fun q => by omega, fun _ => ⟨by omega, go _ (by rw [hst, if_pos hy])⟩⟩
    · simp (disch := first | (unfold r32; omega) | omega) only [J_eq]
      exact ⟨fun _ => go _ (by rw [hst, if_neg hn, Nat.or_zero]), fun q => absurd trivial q⟩
theorem JL_bit : ∀ p : Fin 12, JL 1 <<< (JL (p.val : Int) &&& 63) = JL ((2 ^ p.val : Nat) : Int) := by decide
theorem c_isPat16 {Q : Int32 → zM → Prop} {m : zM} {mv : zM} {s : Nat} {k n i : Int} (hP : trP mv b N) (hR : rowM m N) (hs : s < 4096) (hki : 0 ≤ k + i ∧ k + i < 400) (hki2 : r32 k ∧ r32 i) (hkd : iq m 269 (k + i) = kd N (k + i)) (H : W_M_isPattern_61 d (J k) (J n) (JL 0) (JL ((tk N s (kd N (k + i)) : Nat) : Int)) (J i) (J 0) w m Q) : ∀ (j p : Nat), p + j = (N 1870).toNat → W_M_isPattern_16 d (J k) (J n) (JL (s : Int)) (JL ((tkN N s (kd N (k + i)) p : Nat) : Int)) (J i) (J (p : Int)) w m Q := by
  obtain ⟨p1, p2, p3, p4, p5, p6, p7, p8, p9, p10⟩ := id hP
  have r70 := hR 1870 (by omega) (by omega)
  have kr := iq_r m 269 (k + i)
  rw [hkd] at kr
  intro j
  induction j with
  | zero =>
    intro p hp
    have e : tkN N s (kd N (k + i)) p = tk N s (kd N (k + i)) := by unfold tk; rw [show p = (N 1870).toNat by omega]
    rw [e]
    refine S_M_isPattern_16 ?_
    simp (disch := first | (unfold r32; omega) | (unfold r64; omega) | omega) only [j_lit, jl_lit, vp_J, J_cl, jl_rd, lq_tn, r70, J_64, JL_le, j_ops]
    exact ⟨by omega, fun _ => H, fun q => by omega⟩
  | succ j ih =>
    intro p hp
    have hb1 := tkN_b N s (kd N (k + i)) p (by omega)
    have hbit := pp_2z (z := p) (by omega)
    obtain ⟨q1, q2, q3, q4⟩ := p10 (p : Int) (by omega) (by omega)
    have rp := hR (1871 + (p : Int)) (by omega) (by omega)
    have go : ∀ v : Nat, v = tkN N s (kd N (k + i)) (p + 1) → W_M_isPattern_16 d (J k) (J n) (JL (s : Int)) (JL ((v : Nat) : Int)) (J i) (J ((p : Int) + 1)) w m Q := fun v hv => by
      have := ih (p + 1) (by omega)
      rw [← hv, show (((p + 1 : Nat) : Nat) : Int) = (p : Int) + 1 by omega] at this
      exact this
    have hst := tkN_s N s (kd N (k + i)) p
    have hor := JL_or (a := tkN N s (kd N (k + i)) p) (b := 2 ^ p) (by omega) (by omega)
    have hsh : JL 1 <<< (JL (p : Int) &&& 63) = JL ((2 ^ p : Nat) : Int) := JL_bit ⟨p, by omega⟩
    have hNr : r64 (N (1871 + (p : Int))) := by
      have := pkr_gk q1
      have := gk_r (c := iq mv (b + 18) (p : Int))
      unfold r32 at this
      unfold r64
      omega
    have hkr64 : r64 (kd N (k + i)) := r64_32 kr
    refine S_M_isPattern_16 ?_
    simp (disch := first | exact hNr | exact hkr64 | exact kr | (unfold r32; omega) | (unfold r64; omega) | omega) only [j_lit, jl_lit, vp_J, J_cl, jl_rd, lq_tn, r70, J_64, JL_le, j_ops, hsh, hor]
    refine ⟨by omega, fun q => by omega, fun _ => c_has hs (by omega) ⟨fun hy => ?_, fun hn => ?_⟩⟩
    · have h2 := hki2.1
      have h3 := hki2.2
      simp (disch := first | exact hNr | exact hkr64 | exact kr | (unfold r32; omega) | (unfold r64; omega) | omega) only [J_eq, vp_J, J_cl, jl_rd, lq_tn, rp, JL_eq, j_rd, iq_tn, hkd, J_64]
      refine ⟨fun q => by omega, fun _ => ⟨by omega, fun q7 => go _ ?_, fun q7 => ⟨by omega, by omega, fun q8 => go _ ?_, fun q8 => go _ ?_⟩⟩⟩
      · rw [hst, if_pos ⟨hy, Or.inl q7⟩]
      · rw [hst, if_neg, Nat.or_zero]
        intro z
        rcases z.2 with z | z
        · exact q7 z
        · exact q8 z
      · rw [hst, if_pos ⟨hy, Or.inr q8⟩]
    · simp (disch := first | (unfold r32; omega) | omega) only [J_eq]
      exact ⟨fun _ => go _ (by rw [hst, if_neg (fun z => hn z.1), Nat.or_zero]), fun q => absurd trivial q⟩
theorem c_isPat9 {Q : Int32 → zM → Prop} {m : zM} {mv : zM} {k n : Int} (hP : trP mv b N) (hR : rowM m N) (hk : 0 ≤ k) (hn : 1 ≤ n ∧ n ≤ 5 ∧ k + n ≤ 400) (hkd : ∀ i, 0 ≤ i → i < n → iq m 269 (k + i) = kd N (k + i)) (H : Q (J (if hr N k (n - 1).toNat &&& (N 1896).toNat = 0 then 0 else 1)) m) :
    ∀ (j i : Nat), (i : Int) + 1 + j = n → W_M_isPattern_9 d (J k) (J n) (JL ((fw N (hr N k i) : Nat) : Int)) (JL ((hr N k i : Nat) : Int)) (J ((i : Int) + 1)) w m Q := by
  obtain ⟨p1, p2, p3, p4, p5, p6, p7, p8, p9, p10⟩ := id hP
  have r96 := hR 1896 (by omega) (by omega)
  intro j
  induction j with
  | zero =>
    intro i hi
    rw [show (n - 1).toNat = i by omega] at H
    have e : lq m 262 1896 = (((N 1896).toNat : Nat) : Int) := by omega
    have hh := hP.hr k i
    have ha := JL_and (a := hr N k i) (b := (N 1896).toNat) (by omega) (by omega)
    have hl := pp_and_lt (a := hr N k i) (b := (N 1896).toNat) (by omega)
    refine S_M_isPattern_9 ?_
    simp (disch := first | (unfold r32; omega) | (unfold r64; omega) | omega) only [j_lit, jl_lit, J_le, vp_J, J_cl, jl_rd, lq_tn, e, ha, JL_eq]
    refine ⟨fun _ => ⟨by omega, fun q => ?_, fun q => ?_⟩, fun q => by omega⟩
    · rw [if_pos (by omega)] at H; exact H
    · rw [if_neg (by omega)] at H; exact H
  | succ j ih =>
    intro i hi
    have hn3 := hn.2.2
    refine S_M_isPattern_9 ?_
    simp (disch := first | (unfold r32; omega) | omega) only [j_lit, jl_lit, J_le]
    refine ⟨fun q => by omega, fun _ => ?_⟩
    have := c_isPat16 (d := d) (w := w) (Q := Q) (i := (i : Int) + 1) (n := n) hP hR (hP.fw (hr N k i)) (by omega) ⟨by unfold r32; omega, by unfold r32; omega⟩ (hkd _ (by omega) (by omega)) ?_ (N 1870).toNat 0 (by omega)
    · exact this
    · have e : tk N (fw N (hr N k i)) (kd N (k + ((i : Int) + 1))) = hr N k (i + 1) := (hr_s N k i).symm
      rw [e]
      refine c_isPat61 hP hR (hP.hr k (i + 1)) ?_ (N 1870).toNat 0 (by omega)
      have := ih (i + 1) (by omega)
      rw [show (((i + 1 : Nat) : Nat) : Int) + 1 = (i : Int) + 1 + 1 by omega] at this
      exact this
theorem c_isPattern {Q : Int32 → zM → Prop} {m : zM} {mv : zM} {k n : Int} (hP : trP mv b N) (hR : rowM m N) (hk : 0 ≤ k) (hn : 1 ≤ n ∧ n ≤ 5 ∧ k + n ≤ 400) (hkd : ∀ i, 0 ≤ i → i < n → iq m 269 (k + i) = kd N (k + i)) (H : Q (J (if hr N k (n - 1).toNat &&& (N 1896).toNat = 0 then 0 else 1)) m) : cI (d + 1) 232 [.ref 261, .int (J k), .int (J n)] w m Q := by
  obtain ⟨p1, p2, p3, p4, p5, p6, p7, p8, p9, p10⟩ := id hP
  have hn3 := hn.2.2
  have r95 := hR 1895 (by omega) (by omega)
  have e : lq m 262 1895 = (((N 1895).toNat : Nat) : Int) := by omega
  refine S_M_isPattern ?_
  simp (disch := first | (unfold r32; omega) | omega) only [j_lit, jl_lit, vp_J, J_cl, jl_rd, lq_tn, e]
  refine ⟨by omega, S_M_isPattern_9 ?_⟩
  simp (disch := first | (unfold r32; omega) | omega) only [j_lit, jl_lit, J_le]
  refine ⟨fun q => by omega, fun _ => ?_⟩
  have := c_isPat16 (d := d) (w := w) (Q := Q) (i := 0) (n := n) hP hR (s := (N 1895).toNat) (by omega) (by omega) ⟨by unfold r32; omega, by unfold r32; omega⟩ (hkd _ (by omega) (by omega)) ?_ (N 1870).toNat 0 (by omega)
  · exact this
  · have e2 : tk N (N 1895).toNat (kd N (k + 0)) = hr N k 0 := by rw [Int.add_zero]; rfl
    rw [e2]
    refine c_isPat61 hP hR (hP.hr k 0) ?_ (N 1870).toNat 0 (by omega)
    exact c_isPat9 hP hR hk hn hkd H (n - 1).toNat 0 (by omega)
end PTK
