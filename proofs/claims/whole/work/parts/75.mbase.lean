/-! the base of a word, its kind: the reference -/
section MBO
variable {d : Nat} {w : Nat × Nat × Nat} {b : Nat} {C : Int} {N : Int → Int} {m0 : zM}
theorem rep_len {l e bl : List Int} {m : Nat} (he : e.length + 2 ≤ l.length) (hm : m = l.length - e.length) (hd : l.drop m = e) (hb : m + bl.length ≤ 10) : rep l e bl = some (l.take m ++ bl) := by
  unfold rep
  subst hm
  rw [if_neg]
  intro q
  rcases q with q | q | q
  · omega
  · omega
  · exact q hd
theorem rep_no {l e bl : List Int} (h : l.length < e.length + 2 ∨ 10 < l.length - e.length + bl.length ∨ l.drop (l.length - e.length) ≠ e) : rep l e bl = none := if_pos h
theorem en_put {l bl : List Int} {n : Nat} (hn : n ≤ l.length) (hl : l.length ≤ 10) (hb : n + bl.length ≤ 10) (h : wd bl) : eM (l.take n) + eM bl / 27 ^ n = eM (l.take n ++ bl) := by
  have hlen : (l.take n).length = n := by rw [List.length_take]; omega
  show eM (l.take n) + eM bl / 27 ^ n = en 27 10 (l.take n ++ bl)
  rw [en_app 27 10 (l.take n) bl (by omega), hlen]
  have := en_scale 27 n (10 - n) bl (by omega)
  rw [show 10 - n + n = 10 by omega] at this
  show en 27 10 (l.take n) + en 27 10 bl / 27 ^ n = en 27 10 (l.take n) + en 27 (10 - n) bl
  rw [this, Int.mul_ediv_cancel _ (by have := (p27 (n := n) (by omega)).1; omega)]
theorem c_M_baseOf_l {Q : Int64 → zM → Prop} {m : zM} {l : List Int} (hV : TR C m0 b N) (hR : rowM m N) (hl : wd l) (hn : l ≠ []) (H0 : bE N l (N 161).toNat = none → Q (JL (eM l)) m) (H1 : ∀ v, bE N l (N 161).toNat = some v → Q (JL v) m) :
    ∀ (k z : Nat), z + k = (N 161).toNat → bE N l z = none → W_M_baseOf_14 (d + 1) (JL (eM l)) (J (l.length : Int)) (J (z : Int)) w m Q := by
  obtain ⟨t1, t2, t3, t4, t5, t6, t7⟩ := hV
  obtain ⟨e1, e2, e3, e4⟩ := id t2
  have hlb := eM_bd hl
  have h10 := hl.1
  have r61 := hR 161 (by omega) (by omega)
  intro k
  induction k with
  | zero =>
    intro z hz hn
    rw [show (N 161).toNat = z by omega] at H0
    refine S_M_baseOf_14 ?_
    simp (disch := first | (unfold r32; omega) | (unfold r64; omega) | omega) only [j_lit, vp_J, J_cl, jl_rd, lq_tn, r61, J_64, JL_le]
    exact ⟨by omega, fun _ => H0 hn, fun q => by omega⟩
  | succ k ih =>
    intro z hz hn
    obtain ⟨⟨el, we, we0, ce, re⟩, bl, wb, cb, rb⟩ := e4 (z : Int) (by omega) (by omega)
    have hstep : bE N l (z + 1) = bE1 N l z := by rw [bE_s, hn]
    have go : bE1 N l z = none → W_M_baseOf_14 (d + 1) (JL (eM l)) (J (l.length : Int)) (J (((z : Nat) : Int) + 1)) w m Q := fun q => by
      have := ih (z + 1) (by omega) (by rw [hstep, q])
      rw [show (((z + 1 : Nat) : Nat) : Int) = (z : Int) + 1 by omega] at this
      exact this
    unfold bE1 at go hstep
    rw [re, rb, dM_eM we, dM_eM wb] at go hstep
    have r1 : lq m 262 (162 + (z : Int)) = eM el := by rw [hR _ (by omega) (by omega), re]
    have r2 : lq m 262 (170 + (z : Int)) = eM bl := by rw [hR _ (by omega) (by omega), rb]
    have hel := we.1
    have hbl := wb.1
    have heb := eM_bd we
    have hbb := eM_bd wb
    refine S_M_baseOf_14 ?_
    simp (disch := first | (unfold r32; omega) | (unfold r64; omega) | omega) only [j_lit, vp_J, J_cl, jl_rd, lq_tn, r61, J_64, JL_le, j_ops, r1, r2]
    refine ⟨by omega, fun q => by omega, fun _ => ⟨by omega, c_M_lettersOf we ?_⟩⟩
    rw [j_ops.2.1]
    simp (disch := first | (unfold r32; omega) | (unfold r64; omega) | omega) only [J_lt]
    refine ⟨fun q => go (by rw [rep_no (Or.inl (by omega))]), fun q => ?_⟩
    obtain ⟨mm, hmm⟩ : ∃ mm : Nat, mm = l.length - el.length := ⟨_, rfl⟩
    have e : (l.length : Int) - (el.length : Int) = (mm : Int) := by omega
    rw [e]
    refine c_M_tail hl (by omega) ?_
    have hdw : wd (l.drop mm) := ⟨by rw [List.length_drop]; omega, fun x hx => hl.2 x (List.mem_of_mem_drop hx)⟩
    have hdb := eM_bd hdw
    simp (disch := first | (unfold r32; omega) | (unfold r64; omega) | omega) only [JL_eq, jl_rd, lq_tn, r1, r2, vp_J, J_cl]
    refine ⟨by omega, fun q2 => ⟨by omega, c_M_lettersOf wb ?_⟩, fun q2 => go (by rw [rep_no (Or.inr (Or.inr (fun z2 => q2 (by rw [← hmm] at z2; rw [z2]))))])⟩
    have hde : l.drop mm = el := eM_inj hdw we q2
    rw [j_ops.1]
    simp (disch := first | (unfold r32; omega) | (unfold r64; omega) | omega) only [J_le]
    refine ⟨fun q3 => c_M_head hl (by omega) ⟨by omega, c_power (by omega) ?_⟩, fun q3 => go (by rw [rep_no (Or.inr (Or.inl (by omega)))])⟩
    have hrep := rep_len (l := l) (e := el) (bl := bl) (by omega) hmm hde (by omega)
    have ht := rep_wd hl wb hrep
    have hp := p27 (n := mm) (by omega)
    have hput := en_put (l := l) (bl := bl) (n := mm) (by omega) (by omega) (by omega) wb
    have hb2 := eM_bd ht.1
    rw [hrep] at go hstep
    rw [r2, JL_div hbb.1 (by unfold r64; omega) (by omega) (by unfold r64; omega), jl_ops.1, hput]
    refine ⟨fun q4 => ?_, c_lexiconOf (hR 0 (by omega) (by omega)) ⟨t1.1, t1.2.1⟩ (by unfold r64; omega) ?_⟩
    · have q4 : JL (27 ^ mm) = JL 0 := q4
      rw [JL_eq (by unfold r64; omega) (by unfold r64; omega)] at q4
      omega
    · have ef : fi (fun k => lq m 262 (1 + k)) (N 0).toNat (eM (l.take mm ++ bl)) = fi (fun j => N (1 + j)) (N 0).toNat (eM (l.take mm ++ bl)) := fi_congr _ (fun k k0 k1 => hR _ (by omega) (by have := t1.2.1; omega))
      rw [ef]
      have hr2 := fi_r (f := fun j => N (1 + j)) (x := eM (l.take mm ++ bl)) t1.1
      have := t1.2.1
      simp (disch := first | (unfold r32; omega) | omega) only [J_eq]
      refine ⟨fun q5 => go (if_neg (by omega)), fun q5 => c_sameOf hR ⟨t3.1, t3.2.1⟩ (by unfold r64; omega) (H1 _ ?_)⟩
      have e5 : bE N l (z + 1) = some (sof N (eM (l.take mm ++ bl))) := by rw [hstep]; exact if_pos (by omega)
      have := bE_mono e5 k
      rw [show z + 1 + k = (N 161).toNat by omega] at this
      exact this
theorem c_M_baseOf {Q : Int64 → zM → Prop} {m : zM} {c r : Int} (hV : TR C m0 b N) (hR : rowM m N) (hw : ww c r) (H : Q (JL (bsR N r)) m) : cL (d + 2) 193 [.ref 261, .long (JL r)] w m Q := by
  obtain ⟨l, hl, hn, rfl, rfl⟩ := id hw
  have hcr := ww_r hw
  obtain ⟨t1, t2, t3, t4, t5, t6, t7⟩ := id hV
  obtain ⟨s1, s2, s3, s4, s5, s6⟩ := id t3
  have hsr := sof_r (r := eM l) hR ⟨s1, s2⟩ (by unfold r64; omega)
  refine S_M_baseOf (c_sameOf hR ⟨s1, s2⟩ (by unfold r64; omega) ?_)
  simp (disch := first | exact hsr | (unfold r64; omega) | omega) only [JL_eq]
  unfold bsR at H
  unfold sof
  rcases s6 _ _ hw with ⟨g1, g2⟩ | ⟨g1, v, g2, g3, g4⟩
  · rw [g2] at H ⊢
    dsimp only at H ⊢
    refine ⟨fun _ => c_M_lettersOf hl ?_, fun q => absurd rfl q⟩
    have := c_M_baseOf_l (d := d) (w := w) (Q := Q) hV hR hl hn (fun e => ?_) (fun v e => ?_) (N 161).toNat 0 (by omega) rfl
    · exact this
    · rw [dM_eM hl, e] at H
      exact H
    · rw [dM_eM hl, e] at H
      exact H
  · rw [g2] at H ⊢
    exact ⟨fun q => absurd q g3, fun _ => H⟩
theorem c_M_kindOf {Q : Int32 → zM → Prop} {m : zM} {c r : Int} (hV : TR C m0 b N) (hR : rowM m N) (hw : ww c r) (H : 0 ≤ kdR N r → kdR N r ≤ 6 → Q (J (kdR N r)) m) : cI (d + 3) 194 [.ref 261, .long (JL r)] w m Q := by
  have hcr := ww_r hw
  obtain ⟨t1, t2, t3, t4, t5, t6, t7⟩ := id hV
  obtain ⟨cb, hwb⟩ := bsR_ww hV hw
  have hcb := ww_r hwb
  have ef : ∀ x, fi (fun k => lq m 262 (1 + k)) (N 0).toNat x = fi (fun j => N (1 + j)) (N 0).toNat x := fun x => fi_congr _ (fun k k0 k1 => hR _ (by omega) (by have := t1.2.1; omega))
  have hr1 := fi_r (f := fun j => N (1 + j)) (x := r) t1.1
  have hr2 := fi_r (f := fun j => N (1 + j)) (x := bsR N r) t1.1
  have h80 := t1.2.1
  unfold kdR at H
  refine S_M_kindOf (c_lexiconOf (hR 0 (by omega) (by omega)) ⟨t1.1, t1.2.1⟩ (by unfold r64; omega) ?_)
  rw [ef]
  simp (disch := first | (unfold r32; omega) | omega) only [j_lit, J_eq, j_ops]
  refine ⟨fun q => ⟨fun _ => ?_, fun q2 => absurd q2 q⟩, fun q => c_M_baseOf (d := d) hV hR hw (c_lexiconOf (hR 0 (by omega) (by omega)) ⟨t1.1, t1.2.1⟩ (by unfold r64; omega) ?_)⟩
  · rw [if_pos (by omega)] at H
    have hk := kr_r (t1.2.2.2 _ (show 0 ≤ fi (fun j => N (1 + j)) (N 0).toNat r by omega) (by omega)).2
    simp (disch := first | (unfold r32; omega) | omega) only [vp_J, J_cl, jl_rd, lq_tn, JL_32, hR _ (show 0 ≤ 81 + fi (fun j => N (1 + j)) (N 0).toNat r by omega) (by omega)]
    exact ⟨by omega, H (by omega) (by omega)⟩
  · rw [if_neg (by omega)] at H
    rw [ef]
    simp (disch := first | (unfold r32; omega) | omega) only [J_eq]
    refine ⟨fun q2 => ?_, fun q2 => ?_⟩
    · rw [if_pos (by omega)] at H
      have hk := kr_r (t1.2.2.2 _ (show 0 ≤ fi (fun j => N (1 + j)) (N 0).toNat (bsR N r) by omega) (by omega)).2
      simp (disch := first | (unfold r32; omega) | omega) only [j_ops, vp_J, J_cl, jl_rd, lq_tn, JL_32, hR _ (show 0 ≤ 81 + fi (fun j => N (1 + j)) (N 0).toNat (bsR N r) by omega) (by omega)]
      exact ⟨by omega, H (by omega) (by omega)⟩
    · rw [if_neg (by omega)] at H
      exact H (by omega) (by omega)
end MBO
