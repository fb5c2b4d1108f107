/-! the words that are the same, as they are told, and the class's reading of them -/
def sadd (N : Int → Int) (r v : Int) : Int → Int := fun z => if z = 178 then N 178 + 1 else if z = 219 + N 178 then v else if z = 179 + N 178 then r else N z
def sof (N : Int → Int) (r : Int) : Int := match rs N (N 178).toNat r with | some v => v | none => r
def SXr (T : Int → Int) (n : Int) (R : Option Int → Int → (Int → Int) → Int → Int → (Int → Int) → Prop) : Prop :=
  (∀ {p : Int} {N : Int → Int}, tS T n p = -1 → R none p N 0 (-1) N) ∧
  (∀ {p : Int} {N : Int → Int}, tS T n p ≠ -1 → tS T n p ≠ -2 → R none p N 1 (tP T n p) N) ∧
  (∀ {p : Int} {N : Int → Int}, tS T n p = -2 → N 178 = 40 → R none p N 2 (tP T n p) N) ∧
  (∀ {p : Int} {N N' : Int → Int} {x y : Int}, tS T n p = -2 → N 178 ≠ 40 → R (some (sof N (eM (tL T n p)))) (tB T n p) (sadd N (eM (tL T n p)) 0) x y N' → R none p N x y N') ∧
  (∀ {k p : Int} {N : Int → Int}, tS T n p ≠ -2 → R (some k) p N 1 (tP T n p) N) ∧
  (∀ {k p : Int} {N : Int → Int}, tS T n p = -2 → N 178 = 40 → R (some k) p N 2 (tP T n p) N) ∧
  (∀ {k p : Int} {N N' : Int → Int} {x y : Int}, tS T n p = -2 → N 178 ≠ 40 → tS T n (tB T n p) ≠ 59 → R (some k) (tB T n p) (sadd N (eM (tL T n p)) k) x y N' → R (some k) p N x y N') ∧
  (∀ {k p : Int} {N N' : Int → Int} {x y : Int}, tS T n p = -2 → N 178 ≠ 40 → tS T n (tB T n p) = 59 → R none (tB T n (tB T n p)) (sadd N (eM (tL T n p)) k) x y N' → R (some k) p N x y N')
def SX (T : Int → Int) (n : Int) (o : Option Int) (p : Int) (N : Int → Int) (x y : Int) (N' : Int → Int) : Prop := ∀ R, SXr T n R → R o p N x y N'
section SI
variable {T : Int → Int} {n : Int}
theorem SX.fin {p : Int} {N : Int → Int} (h0 : tS T n p = -1) : SX T n none p N 0 (-1) N := fun R hR => hR.1 h0
theorem SX.nofirst {p : Int} {N : Int → Int} (h0 : tS T n p ≠ -1) (h1 : tS T n p ≠ -2) : SX T n none p N 1 (tP T n p) N := fun R hR => hR.2.1 h0 h1
theorem SX.full0 {p : Int} {N : Int → Int} (h0 : tS T n p = -2) (h1 : N 178 = 40) : SX T n none p N 2 (tP T n p) N := fun R hR => hR.2.2.1 h0 h1
theorem SX.first {p : Int} {N N' : Int → Int} {x y : Int} (h0 : tS T n p = -2) (h1 : N 178 ≠ 40) (hi : SX T n (some (sof N (eM (tL T n p)))) (tB T n p) (sadd N (eM (tL T n p)) 0) x y N') : SX T n none p N x y N' := fun R hR => hR.2.2.2.1 h0 h1 (hi R hR)
theorem SX.noword {k p : Int} {N : Int → Int} (h0 : tS T n p ≠ -2) : SX T n (some k) p N 1 (tP T n p) N := fun R hR => hR.2.2.2.2.1 h0
theorem SX.full {k p : Int} {N : Int → Int} (h0 : tS T n p = -2) (h1 : N 178 = 40) : SX T n (some k) p N 2 (tP T n p) N := fun R hR => hR.2.2.2.2.2.1 h0 h1
theorem SX.word {k p : Int} {N N' : Int → Int} {x y : Int} (h0 : tS T n p = -2) (h1 : N 178 ≠ 40) (h2 : tS T n (tB T n p) ≠ 59) (hi : SX T n (some k) (tB T n p) (sadd N (eM (tL T n p)) k) x y N') : SX T n (some k) p N x y N' := fun R hR => hR.2.2.2.2.2.2.1 h0 h1 h2 (hi R hR)
theorem SX.semi {k p : Int} {N N' : Int → Int} {x y : Int} (h0 : tS T n p = -2) (h1 : N 178 ≠ 40) (h2 : tS T n (tB T n p) = 59) (hi : SX T n none (tB T n (tB T n p)) (sadd N (eM (tL T n p)) k) x y N') : SX T n (some k) p N x y N' := fun R hR => hR.2.2.2.2.2.2.2 h0 h1 h2 (hi R hR)
end SI
section SS
variable {m : zM} {b : Nat} {N : Int → Int} {c r ca ra : Int}
theorem rs_sadd (h0 : 0 ≤ N 178) (h40 : N 178 < 40) (v r' : Int) : rs (sadd N r v) (N 178 + 1).toNat r' = match rs N (N 178).toNat r' with | some v' => some v' | none => if r = r' ∧ v ≠ 0 ∧ v ≠ r' then some v else none := by
  obtain ⟨k, hk⟩ := Int.eq_ofNat_of_zero_le h0
  have e1 : (N 178 + 1).toNat = k + 1 := by omega
  have e2 : (N 178).toNat = k := by omega
  rw [e1, e2, rs_s]
  have a1 : sadd N r v (179 + (k : Int)) = r := by
    unfold sadd
    rw [if_neg (by omega), if_neg (by omega), if_pos (by omega)]
  have a2 : sadd N r v (219 + (k : Int)) = v := by
    unfold sadd
    rw [if_neg (by omega), if_pos (by omega)]
  have a3 : rs (sadd N r v) k r' = rs N k r' := rs_congr k (fun j g0 g1 => by
    unfold sadd
    constructor
    · rw [if_neg (by omega), if_neg (by omega), if_neg (by omega)]
    · rw [if_neg (by omega), if_neg (by omega), if_neg (by omega)])
  rw [a1, a2, a3]
  cases rs N k r' <;> rfl
theorem sadd_178 (N : Int → Int) (r v : Int) : sadd N r v 178 = N 178 + 1 := if_pos rfl
theorem sadd_o (h0 : 0 ≤ N 178) (h40 : N 178 < 40) (v : Int) : ∀ z, z < 178 ∨ 259 ≤ z → sadd N r v z = N z := by
  intro z hz
  unfold sadd
  rw [if_neg (by omega), if_neg (by omega), if_neg (by omega)]
/-- one more, where nothing new is told by it -/
theorem sadd_stay (h : trS m b N) (h40 : N 178 < 40) {v : Int} (hno : ∀ c', ww c' r → fi (lq m (b + 8)) (iq m (b + 7) 2).toNat c' = -1 → v = 0 ∨ v = r) : trS (sq m b 8 (N 178 + 1)) b (sadd N r v) := by
  obtain ⟨s1, s2, s3, s4, s5, s6⟩ := h
  have z7 : iq (sq m b 8 (N 178 + 1)) (b + 7) 2 = iq m (b + 7) 2 := by rw [iq_sq (by omega) (by omega) (by unfold r32; omega), if_neg (by omega)]
  refine ⟨by rw [sadd_178]; omega, by rw [sadd_178]; omega, ?_, by rw [z7]; exact s4, by rw [z7, sadd_178]; omega, fun c' r' hc => ?_⟩
  · rw [iq_sq (by omega) (by omega) (by unfold r32; omega), if_pos ⟨rfl, rfl⟩, sadd_178]
  · have e1 := rs_sadd (N := N) (r := r) s1 h40 v r'
    unfold SL
    rw [sadd_178, e1, z7]
    have e2 : (fun z => lq (sq m b 8 (N 178 + 1)) (b + 8) z) = lq m (b + 8) := rfl
    rcases s6 c' r' hc with ⟨q1, q2⟩ | ⟨q1, v', q2, q3, q4⟩
    · refine Or.inl ⟨q1, ?_⟩
      rw [q2]
      show (if r = r' ∧ v ≠ 0 ∧ v ≠ r' then some v else none) = none
      refine if_neg (fun z => ?_)
      have := hno c' (by rw [z.1]; exact hc) q1
      omega
    · refine Or.inr ⟨q1, v', ?_, q3, q4⟩
      rw [q2]
theorem sadd_pair (h : trS m b N) (h40 : N 178 < 40) (hw : ww c r) (ha : ww ca ra) (hne : c ≠ ca) (hf : fi (lq m (b + 8)) (iq m (b + 7) 2).toNat c = -1) : trS (pad (b + 7) (sq m b 8 (N 178 + 1)) (iq m (b + 7) 2) c ca) b (sadd N r ra) := by
  obtain ⟨s1, s2, s3, s4, s5, s6⟩ := h
  have hcr := ww_r hw
  have har := ww_r ha
  have hner : r ≠ ra := fun z => hne ((ww_cmp hw ha).2.mpr z)
  have z7 := pad_sz (a := b + 7) (m := sq m b 8 (N 178 + 1)) (s := iq m (b + 7) 2) (x := c) (y := ca) (by unfold r32; omega)
  refine ⟨by rw [sadd_178]; omega, by rw [sadd_178]; omega, ?_, by rw [z7]; omega, by rw [z7, sadd_178]; omega, fun c' r' hc => ?_⟩
  · rw [(pad_fr (a := b + 7) (m := sq m b 8 (N 178 + 1)) (iq m (b + 7) 2) c ca).i (by simp; omega), iq_sq (by omega) (by omega) (by unfold r32; omega), if_pos ⟨rfl, rfl⟩, sadd_178]
  · have e1 := rs_sadd (N := N) (r := r) s1 h40 ra r'
    have hpl := pad_l (a := b + 7) (m := sq m b 8 (N 178 + 1)) (s := iq m (b + 7) 2) (x := c) (y := ca) s4 (by unfold r64; omega) (by unfold r64; omega)
    unfold SL
    rw [sadd_178, e1, z7]
    obtain ⟨k, hk⟩ := Int.eq_ofNat_of_zero_le s4
    have hk1 : (iq m (b + 7) 2 + 1).toNat = k + 1 := by omega
    have hk2 : (iq m (b + 7) 2).toNat = k := by omega
    have ef : fi (lq (pad (b + 7) (sq m b 8 (N 178 + 1)) (iq m (b + 7) 2) c ca) (b + 8)) (k + 1) c' = if 0 ≤ fi (lq m (b + 8)) k c' then fi (lq m (b + 8)) k c' else if c = c' then (k : Int) else -1 := by
      rw [fi_s, fi_congr (g := lq m (b + 8)) k (fun j g0 g1 => ?_)]
      · have := (hpl (k : Int) (by omega)).1
        rw [if_pos hk.symm] at this
        rw [show lq (pad (b + 7) (sq m b 8 (N 178 + 1)) (iq m (b + 7) 2) c ca) (b + 8) (k : Int) = c from this]
      · have := (hpl j g0).1
        rw [if_neg (by omega)] at this
        exact this
    rw [hk1, ef]
    have es := s6 c' r' hc
    unfold SL at es
    rw [hk2] at es
    have ecc := (ww_cmp hw hc).2
    rcases es with ⟨q1, q2⟩ | ⟨q1, v', q2, q3, q4⟩
    · rw [q1, q2, if_neg (by omega)]
      by_cases y : c = c'
      · rw [if_pos y]
        refine Or.inr ⟨by omega, ra, ?_, ?_, ?_⟩
        · show (if r = r' ∧ ra ≠ 0 ∧ ra ≠ r' then some ra else none) = some ra
          exact if_pos ⟨ecc.mp y, by omega, by have := ecc.mp y; omega⟩
        · have := ecc.mp y; omega
        · have := (hpl (k : Int) (by omega)).2
          rw [if_pos hk.symm] at this
          rw [show lq (pad (b + 7) (sq m b 8 (N 178 + 1)) (iq m (b + 7) 2) c ca) (b + 9) (k : Int) = ca from this]
          exact ha
      · rw [if_neg y]
        refine Or.inl ⟨rfl, ?_⟩
        show (if r = r' ∧ ra ≠ 0 ∧ ra ≠ r' then some ra else none) = none
        exact if_neg (fun z => y (ecc.mpr z.1))
    · rw [if_pos q1, q2]
      refine Or.inr ⟨q1, v', rfl, q3, ?_⟩
      have hb := fi_r (f := lq m (b + 8)) (x := c') (s := (k : Int)) (by omega)
      rw [Int.toNat_natCast] at hb
      have := (hpl (fi (lq m (b + 8)) k c') q1).2
      rw [if_neg (by omega)] at this
      rw [show lq (pad (b + 7) (sq m b 8 (N 178 + 1)) (iq m (b + 7) 2) c ca) (b + 9) (fi (lq m (b + 8)) k c') = lq m (b + 9) (fi (lq m (b + 8)) k c') from this]
      exact q4
end SS
