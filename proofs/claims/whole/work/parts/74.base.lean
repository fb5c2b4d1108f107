/-! the base of a word, its kind -/
noncomputable def dM (r : Int) : List Int := Classical.epsilon (fun l : List Int => wd l ∧ eM l = r)
theorem eM_inj {l l' : List Int} (h : wd l) (h' : wd l') (e : eM l = eM l') : l = l' := ((en_cmp (B := 27) (C := 27) (by decide) (by decide) 10 l l' h.2 h'.2 h.1 h'.1).2).mp e
theorem dM_eM {l : List Int} (h : wd l) : dM (eM l) = l := by
  have := Classical.epsilon_spec (p := fun l' : List Int => wd l' ∧ eM l' = eM l) ⟨l, h, rfl⟩
  exact eM_inj this.1 h this.2
/-- by the first ending that makes it a word of the lexicon -/
noncomputable def bE1 (N : Int → Int) (l : List Int) (k : Int) : Option Int := match rep l (dM (N (162 + k))) (dM (N (170 + k))) with
  | some t => if 0 ≤ fi (fun j => N (1 + j)) (N 0).toNat (eM t) then some (sof N (eM t)) else none
  | none => none
noncomputable def bE (N : Int → Int) (l : List Int) (n : Nat) : Option Int := Nat.rec none (fun k o => match o with | some v => some v | none => bE1 N l k) n
theorem bE_s (N : Int → Int) (l : List Int) (n : Nat) : bE N l (n + 1) = match bE N l n with | some v => some v | none => bE1 N l n := rfl
theorem bE_mono {N : Int → Int} {l : List Int} {v : Int} {z : Nat} (h : bE N l z = some v) : ∀ k : Nat, bE N l (z + k) = some v := by
  intro k
  induction k with
  | zero => exact h
  | succ k ih => rw [← Nat.add_assoc, bE_s, ih]
noncomputable def bsR (N : Int → Int) (r : Int) : Int := match rs N (N 178).toNat r with
  | some v => v
  | none => match bE N (dM r) (N 161).toNat with
    | some v => v
    | none => r
noncomputable def kdR (N : Int → Int) (r : Int) : Int :=
  if 0 ≤ fi (fun j => N (1 + j)) (N 0).toNat r then N (81 + fi (fun j => N (1 + j)) (N 0).toNat r)
  else if 0 ≤ fi (fun j => N (1 + j)) (N 0).toNat (bsR N r) then N (81 + fi (fun j => N (1 + j)) (N 0).toNat (bsR N r)) else 6
section BO
variable {d : Nat} {w : Nat × Nat × Nat} {b : Nat} {C : Int} {N : Int → Int}
theorem c_baseOf_l {Q : Int64 → zM → Prop} {m : zM} {l : List Int} (hb : zT b) (hN : TR C m b N) (hl : wd l) (hn : l ≠ []) (H0 : bE N l (N 161).toNat = none → Q (JL (eC l)) m) (H1 : ∀ v cv, bE N l (N 161).toNat = some v → ww cv v → Q (JL cv) m) :
    ∀ (k z : Nat), z + k = (N 161).toNat → bE N l z = none → W_Told_baseOf_11 (d + 3) b (JL (eC l)) (J (z : Int)) w m Q := by
  obtain ⟨t1, t2, t3, t4, t5, t6, t7⟩ := hN
  obtain ⟨e1, e2, e3, e4⟩ := id t2
  have hlb := eC_bd hl
  intro k
  induction k with
  | zero =>
    intro z hz hn
    rw [show (N 161).toNat = z by omega] at H0
    refine S_Told_baseOf_11 hb ?_
    simp (disch := first | (unfold r32; omega) | omega) only [j_lit, J_le, j_rd, j_nc, e3]
    exact ⟨fun _ => H0 hn, fun q => by omega⟩
  | succ k ih =>
    intro z hz hn
    obtain ⟨⟨el, we, we0, ce, re⟩, bl, wb, cb, rb⟩ := e4 (z : Int) (by omega) (by omega)
    have hstep : bE N l (z + 1) = bE1 N l z := by rw [bE_s, hn]
    have de : dM (N (162 + (z : Int))) = el := by rw [re, dM_eM we]
    have db : dM (N (170 + (z : Int))) = bl := by rw [rb, dM_eM wb]
    have go : bE1 N l z = none → W_Told_baseOf_11 (d + 3) b (JL (eC l)) (J (((z : Nat) : Int) + 1)) w m Q := fun q => by
      have := ih (z + 1) (by omega) (by rw [hstep, q])
      rw [show (((z + 1 : Nat) : Nat) : Int) = (z : Int) + 1 by omega] at this
      exact this
    refine S_Told_baseOf_11 hb ?_
    simp (disch := first | (unfold r32; omega) | omega) only [j_lit, J_le, j_rd, j_nc, e3, j_ops]
    refine ⟨fun q => by omega, fun _ => c_atl (zT_end hb).2.2.2.1 (by decide) (by unfold r32; omega) (by omega) (c_atl (zT_end hb).2.2.2.2 (by decide) (by unfold r32; omega) (by omega) ?_)⟩
    have ce' : lq m (b + 4 + 1) (z : Int) = eC el := ce
    have cb' : lq m (b + 4 + 2) (z : Int) = eC bl := cb
    rw [ce', cb']
    refine c_replaced (d := d) hl we wb ?_
    unfold bE1 at go hstep
    rw [de, db] at go hstep
    cases hr : rep l el bl with
    | none =>
      rw [hr] at go
      simp only [jl_lit]
      exact ⟨fun _ => go rfl, fun q => absurd trivial q⟩
    | some t =>
      rw [hr] at go hstep
      have ht := rep_wd hl wb hr
      have htb := eC_bd ht.1
      have htp := eC_pos ht.1 ht.2
      have hww : ww (eC t) (eM t) := ⟨t, ht.1, ht.2, rfl, rfl⟩
      simp (disch := first | (unfold r64; omega) | omega) only [jl_lit, JL_eq]
      refine ⟨fun q => by omega, fun _ => ?_⟩
      refine c_indexOf (d := d + 2) (zT_lex hb) (by decide) t1.2.2.1 ⟨t1.1, t1.2.1⟩ (by unfold r64; omega) ?_
      have ef : fi (lq m (b + 1 + 1)) (N 0).toNat (eC t) = fi (fun j => N (1 + j)) (N 0).toNat (eM t) := lset_fi t1 hww
      rw [ef]
      have hr2 := fi_r (f := fun j => N (1 + j)) (x := eM t) t1.1
      have := t1.2.1
      simp (disch := first | (unfold r32; omega) | omega) only [j_lit, J_lt]
      refine ⟨fun q => go (if_neg (by omega)), fun q => ?_⟩
      refine c_sameAs (d := d + 1) hb t3 hww (fun cv hcv _ => H1 _ cv ?_ hcv)
      have e5 : bE N l (z + 1) = some (sof N (eM t)) := by rw [hstep]; exact if_pos (by omega)
      have := bE_mono e5 k
      rw [show z + 1 + k = (N 161).toNat by omega] at this
      exact this
theorem c_baseOf {Q : Int64 → zM → Prop} {m : zM} {c r : Int} (hb : zT b) (hN : TR C m b N) (hw : ww c r) (H : ∀ cb, ww cb (bsR N r) → Q (JL cb) m) : cL (d + 4) 105 [.ref b, .long (JL c)] w m Q := by
  obtain ⟨l, hl, hn, rfl, rfl⟩ := id hw
  obtain ⟨t1, t2, t3, t4, t5, t6, t7⟩ := id hN
  obtain ⟨s1, s2, s3, s4, s5, s6⟩ := id t3
  have hcr := ww_r hw
  have hsl := s6 _ _ hw
  have hf := fi_r (f := lq m (b + 8)) (x := eC l) s4
  refine S_Told_baseOf hb (c_indexOf (d := d + 2) (zT_sam hb) (by decide) rfl ⟨s4, by omega⟩ (by unfold r64; omega) ?_)
  show (J (fi (lq m (b + 8)) (iq m (b + 7) 2).toNat (eC l)) < 0 → _) ∧ (¬ J (fi (lq m (b + 8)) (iq m (b + 7) 2).toNat (eC l)) < 0 → _)
  unfold SL at hsl
  simp (disch := first | (unfold r32; omega) | omega) only [j_lit, J_lt]
  rcases hsl with ⟨g1, g2⟩ | ⟨g1, v, g2, g3, g4⟩
  · refine ⟨fun _ => ?_, fun q => by omega⟩
    have := c_baseOf_l (d := d) (w := w) (Q := Q) hb hN hl hn (fun e => ?_) (fun v cv e hcv => ?_) (N 161).toNat 0 (by omega) rfl
    · exact this
    · refine H (eC l) ?_
      unfold bsR
      rw [g2, dM_eM hl]
      dsimp only
      rw [e]
      exact hw
    · refine H cv ?_
      unfold bsR
      rw [g2, dM_eM hl]
      dsimp only
      rw [e]
      exact hcv
  · refine ⟨fun q => by omega, fun _ => c_sameAs (d := d + 1) hb t3 hw (fun ca hca _ => H ca ?_)⟩
    unfold bsR
    rw [g2]
    unfold sof at hca
    rw [g2] at hca
    exact hca
theorem bsR_ww {m : zM} {c r : Int} (hN : TR C m b N) (hw : ww c r) : ∃ cb, ww cb (bsR N r) := by
  obtain ⟨l, hl, hn, rfl, rfl⟩ := id hw
  obtain ⟨t1, t2, t3, t4, t5, t6, t7⟩ := id hN
  obtain ⟨s1, s2, s3, s4, s5, s6⟩ := id t3
  have sofw : ∀ t, wd t → t ≠ [] → ∃ cb, ww cb (sof N (eM t)) := fun t ht hn => by
    have hsl := s6 _ _ (⟨t, ht, hn, rfl, rfl⟩ : ww (eC t) (eM t))
    unfold sof
    rcases hsl with ⟨g1, g2⟩ | ⟨g1, v, g2, g3, g4⟩
    · rw [g2]; exact ⟨eC t, t, ht, hn, rfl, rfl⟩
    · rw [g2]; exact ⟨_, g4⟩
  unfold bsR
  rcases s6 _ _ hw with ⟨g1, g2⟩ | ⟨g1, v, g2, g3, g4⟩
  · rw [g2, dM_eM hl]
    dsimp only
    have key : ∀ n : Nat, (n : Int) ≤ N 161 → ∀ v, bE N l n = some v → ∃ cb, ww cb v := by
      intro n
      induction n with
      | zero => intro _ v h; cases h
      | succ n ih =>
        intro hn1 v h
        rw [bE_s] at h
        cases hb : bE N l n with
        | some u => rw [hb] at h; exact ih (by omega) v (by rw [hb]; exact h)
        | none =>
          rw [hb] at h
          obtain ⟨⟨el, we, we0, ce, re⟩, bl, wb, cb, rb⟩ := t2.2.2.2 (n : Int) (by omega) (by omega)
          have h : bE1 N l n = some v := h
          unfold bE1 at h
          rw [re, rb, dM_eM we, dM_eM wb] at h
          cases hr : rep l el bl with
          | none => rw [hr] at h; cases h
          | some t =>
            rw [hr] at h
            dsimp only at h
            have ht := rep_wd hl wb hr
            split at h
            · injection h with h
              rw [← h]
              exact sofw t ht.1 ht.2
            · cases h
    cases hb : bE N l (N 161).toNat with
    | none => exact ⟨_, hw⟩
    | some v => exact key (N 161).toNat (by have := t2.1; omega) v hb
  · rw [g2]; exact ⟨_, g4⟩
theorem c_kindOf {Q : Int32 → zM → Prop} {m : zM} {c r cb : Int} (hb : zT b) (hN : TR C m b N) (hw : ww c r) (hwb : ww cb (bsR N r)) (H : ∀ kc, pkr kc (kdR N r) → r32 kc → Q (J kc) m) : cI (d + 4) 106 [.ref b, .long (JL c), .long (JL cb)] w m Q := by
  obtain ⟨t1, t2, t3, t4, t5, t6, t7⟩ := id hN
  have hc := ww_r hw
  have hcb := ww_r hwb
  have ef := lset_fi t1 hw
  have efb := lset_fi t1 hwb
  have hr1 := fi_r (f := fun j => N (1 + j)) (x := r) t1.1
  have hr2 := fi_r (f := fun j => N (1 + j)) (x := bsR N r) t1.1
  have h80 := t1.2.1
  unfold kdR at H
  refine S_Told_kindOf hb (c_indexOf (d := d + 2) (zT_lex hb) (by decide) t1.2.2.1 ⟨t1.1, t1.2.1⟩ (by unfold r64; omega) ?_)
  have ef' : fi (lq m (b + 1 + 1)) (N 0).toNat c = fi (fun j => N (1 + j)) (N 0).toNat r := ef
  rw [ef']
  simp (disch := first | (unfold r32; omega) | omega) only [j_lit, J_le]
  refine ⟨fun q => ⟨fun _ => ?_, fun q2 => absurd q q2⟩, fun q => c_indexOf (d := d + 2) (zT_lex hb) (by decide) t1.2.2.1 ⟨t1.1, t1.2.1⟩ (by unfold r64; omega) ?_⟩
  · rw [if_pos q] at H
    have hk := (t1.2.2.2 _ q (by omega)).2
    have hkk := kr_r hk
    refine c_atl (zT_lex hb).2.2.2.2 (by decide) (by unfold r32; omega) (by omega) ?_
    rw [JL_32]
    exact H _ (Or.inl hk) (by show r32 (lq m (b + 3) _); unfold r32; omega)
  · rw [if_neg q] at H
    have efb' : fi (lq m (b + 1 + 1)) (N 0).toNat cb = fi (fun j => N (1 + j)) (N 0).toNat (bsR N r) := efb
    rw [efb']
    simp (disch := first | (unfold r32; omega) | omega) only [j_lit, J_le]
    refine ⟨fun q2 => ?_, fun q2 => ?_⟩
    · rw [if_pos q2] at H
      have hk := (t1.2.2.2 _ q2 (by omega)).2
      have hkk := kr_r hk
      refine c_atl (zT_lex hb).2.2.2.2 (by decide) (by unfold r32; omega) (by omega) ?_
      rw [JL_32]
      exact H _ (Or.inl hk) (by show r32 (lq m (b + 3) _); unfold r32; omega)
    · rw [if_neg q2] at H
      exact H 120 (Or.inr (Or.inl ⟨rfl, rfl⟩)) (by unfold r32; omega)
end BO
