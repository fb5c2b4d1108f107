/-! find: the reference, and both -/
section FNM
variable {d : Nat} {w : Nat × Nat × Nat} {C : Int} {N : Int → Int} {mv : zM} {b : Nat} {T : Int → Int} {n : Int}
/-- the words asked for stand in their row -/
def AK (N : Int → Int) (L : List (List Int)) (m : zM) (c : Int) : Prop := ∀ j : Int, 0 ≤ j → j < c → lq m 297 j = uB N L j ∧ 0 ≤ uB N L j ∧ uB N L j < 4611686018427387904
theorem EQT.k277 (h : TR C mv b N) {m : zM} (hM : MRF N m) {L : List (List Int)} {t : Int} (q : EQT N L t) : ∀ j : Int, 0 ≤ j → j < L.length → uB N L j = bs N (iq m 277 t + j) := fun j j0 j1 => by
  obtain ⟨a0, a1, a2, k, a3, a4, a5, a6⟩ := q
  have tb := tl_b h a0 a1
  have tl := hM.tlr h a0 a1
  rw [a6 j j0 j1]
  exact pk_bs h a3 tl.2.1 (by omega) tb.2 a4 tl.2.2.1 (a5.trans tl.2.2.2.2.2) j j0 (by omega)
theorem EQT.of277 (h : TR C mv b N) {m : zM} (hM : MRF N m) {L : List (List Int)} {t : Int} (t0 : 0 ≤ t) (t1 : t < Zn N) (hl : (L.length : Int) = tl N t) (e : ∀ j : Int, 0 ≤ j → j < L.length → uB N L j = bs N (iq m 277 t + j)) : EQT N L t := by
  have tl := hM.tlr h t0 t1
  exact ⟨t0, t1, hl, iq m 277 t, tl.2.1, tl.2.2.1, tl.2.2.2.2.2.symm, e⟩
/-- the row asked for beside a term -/
theorem c_bes297 {Q : Int32 → zM → Prop} {m : zM} {L : List (List Int)} {t : Int} (h : TR C mv b N) (h6 : h268 N m) (hM : MRF N m) (h5 : L.length ≤ 5) (hA : AK N L m L.length) (ht : 0 ≤ t ∧ t < Zn N) (Hlt : ∀ v, v < 0 → r32 v → (∀ s, EQT N L s → s < t) → Q (J v) m) (Heq : EQT N L t → Q (J 0) m) (Hgt : ∀ v, 0 < v → r32 v → (∀ s, EQT N L s → t < s) → Q (J v) m) : cI d 233 [.ref 261, .ref 297, .int (J 0), .int (J (L.length : Int)), .int (J t)] w m Q := by
  have hW := h.words
  have hMb := Mn_b h
  have hZ := Zn_b h
  have htl := hM.tlr h ht.1 ht.2
  have bd : ∀ i, 0 ≤ i → i < wW N → 0 ≤ bs N i ∧ bs N i < 4611686018427387904 := fun i i0 i1 => by
    obtain ⟨c, hc⟩ := h.bs i0 i1
    have := ww_r hc
    omega
  have hr : 0 ≤ iq m 277 t ∧ 0 ≤ tl N t ∧ tl N t ≤ 5 ∧ iq m 277 t + tl N t ≤ wW N := ⟨htl.2.1, by omega, by omega, htl.2.2.1⟩
  -- a term that is the row, as a stretch
  have st : ∀ s, EQT N L s → 0 ≤ iq m 277 s ∧ 0 ≤ (L.length : Int) ∧ (L.length : Int) ≤ 5 ∧ iq m 277 s + L.length ≤ wW N ∧ (∀ j : Int, 0 ≤ j → j < L.length → uB N L j = bs N (iq m 277 s + j)) ∧ pk N (iq m 277 s) L.length = tr N s := fun s q => by
    have ts := hM.tlr h q.1 q.2.1
    have l1 := q.2.2.1
    refine ⟨ts.2.1, by omega, by omega, by omega, q.k277 h hM, ?_⟩
    rw [l1]
    exact ts.2.2.2.2.2.symm
  have lt_of : ∀ s, EQT N L s → tr N s < tr N t → s < t := fun s q g => (eU_lt (TS_b h) q.1 q.2.1 ht.1 ht.2).mp g
  have gt_of : ∀ s, EQT N L s → tr N t < tr N s → t < s := fun s q g => (eU_lt (TS_b h) ht.1 ht.2 q.1 q.2.1).mp g
  refine c_M_beside (n0 := 6) (A := uB N L) (B := fun i => bs N (iq m 277 t + i)) (r := iq m 277 t) (n' := tl N t) rfl (by decide) rfl htl.1 ⟨ht.1, by omega⟩ ⟨htl.2.1, by omega, by omega, by omega⟩ ⟨by omega, by omega, by omega, by omega⟩ (fun i i0 i1 => by rw [show (0 : Int) + i = i by omega]; exact hA i i0 i1) (fun i i0 i1 => ⟨h6 _ (by omega) (by omega), bd _ (by omega) (by omega)⟩) (fun v v0 v1 hl => Hlt v v0 v1 (fun s q => ?_)) (fun e1 e2 => Heq (EQT.of277 h hM ht.1 ht.2 e1 e2)) (fun v v0 v1 hl => Hgt v v0 v1 (fun s q => ?_))
  · obtain ⟨s1, s2, s3, s4, s5, s6⟩ := st s q
    refine lt_of s q ?_
    rw [← s6, htl.2.2.2.2.2]
    refine pk_lx h ⟨s1, s2, s3, s4⟩ hr ?_
    obtain ⟨i, i0, i1, i2, i3, i4⟩ := hl
    refine ⟨i, i0, i1, i2, fun j j0 j1 => ?_, ?_⟩
    · show bs N (iq m 277 s + j) = bs N (iq m 277 t + j)
      rw [← s5 j j0 (by omega)]
      exact i3 j j0 j1
    · by_cases g : i = L.length
      · exact Or.inl g
      · refine Or.inr ?_
        show bs N (iq m 277 s + i) < bs N (iq m 277 t + i)
        rw [← s5 i i0 (by omega)]
        rcases i4 with y | y
        · exact absurd y g
        · exact y
  · obtain ⟨s1, s2, s3, s4, s5, s6⟩ := st s q
    refine gt_of s q ?_
    rw [← s6, htl.2.2.2.2.2]
    refine pk_lx h hr ⟨s1, s2, s3, s4⟩ ?_
    obtain ⟨i, i0, i1, i2, i3, i4⟩ := hl
    refine ⟨i, i0, i1, i2, fun j j0 j1 => ?_, ?_⟩
    · show bs N (iq m 277 t + j) = bs N (iq m 277 s + j)
      rw [← s5 j j0 (by omega)]
      exact i3 j j0 j1
    · rcases i4 with y | y
      · exact Or.inl y
      · refine Or.inr ?_
        show bs N (iq m 277 t + i) < bs N (iq m 277 s + i)
        rw [← s5 i i0 (by omega)]
        exact y
theorem c_pl297 {Q : Int32 → zM → Prop} {m : zM} {L : List (List Int)} (h : TR C mv b N) (h6 : h268 N m) (hM : MRF N m) (h5 : L.length ≤ 5) (hA : AK N L m L.length) (H : ∀ p, 0 ≤ p → p ≤ Zn N → (∀ s, EQT N L s → s = p) → Q (J p) m) : cI (d + 1) 234 [.ref 261, .ref 297, .int (J 0), .int (J (L.length : Int))] w m Q := by
  have hMb := Mn_b h
  have hZ := Zn_b h
  have e32 := hM.2.1
  have key : ∀ (z : Nat) (lo hi : Int), 0 ≤ lo → lo ≤ hi → hi ≤ Zn N → hi - lo ≤ z → (∀ s, EQT N L s → lo ≤ s ∧ s ≤ hi) → W_M_placeOf_5 d 297 (J 0) (J (L.length : Int)) (J lo) (J hi) w m Q := by
    intro z
    induction z with
    | zero =>
      intro lo hh h0 h1 h2 h3 g1
      refine S_M_placeOf_5 ?_
      simp (disch := first | (unfold r32; omega) | omega) only [j_lit, J_le]
      exact ⟨fun _ => H lo h0 (by omega) (fun s q => by have := g1 s q; omega), fun q => by omega⟩
    | succ z ih =>
      intro lo hh h0 h1 h2 h3 g1
      refine S_M_placeOf_5 ?_
      simp (disch := first | (unfold r32; omega) | omega) only [j_lit, J_le, j_ops, J_sar', e21]
      refine ⟨fun q => H lo h0 (by omega) (fun s q2 => by have := g1 s q2; omega), fun q => ?_⟩
      refine c_bes297 h h6 hM h5 hA ⟨by omega, by omega⟩ (fun v v0 v1 e => ?_) (fun e => ?_) (fun v v0 v1 e => ?_)
      · simp (disch := first | exact v1 | (unfold r32; omega) | omega) only [J_le]
        exact ⟨fun _ => ih lo ((lo + hh) / 2) h0 (by omega) (by omega) (by omega) (fun s q2 => by have := g1 s q2; have := e s q2; omega), fun y => by omega⟩
      · simp (disch := first | (unfold r32; omega) | omega) only [J_le]
        exact ⟨fun _ => ih lo ((lo + hh) / 2) h0 (by omega) (by omega) (by omega) (fun s q2 => by have := g1 s q2; have := q2.uniq h e; omega), fun y => by omega⟩
      · simp (disch := first | exact v1 | (unfold r32; omega) | omega) only [J_le]
        exact ⟨fun y => by omega, fun _ => ih ((lo + hh) / 2 + 1) hh (by omega) (by omega) (by omega) (by omega) (fun s q2 => by have := g1 s q2; have := e s q2; omega)⟩
  refine S_M_placeOf ?_
  simp only [j_lit, j_rd, j_nc, e32]
  exact key (Zn N).toNat 0 (Zn N) (by omega) (by omega) (by omega) (by omega) (fun s q => ⟨q.1, by have := q.2.1; omega⟩)
/-- what reading the asked row changes in the reference -/
def MFd (m m' : zM) : Prop := fr [261, 297] m m' ∧ ∀ z, 0 ≤ z → z ≠ 6 → z ≠ 7 → z ≠ 8 → z ≠ 12 → iq m' 261 z = iq m 261 z
theorem MFd.tp {m m' : zM} (f : MFd m m') (h : tpM m T n) : tpM m' T n := by
  obtain ⟨d1, d2, d3, d4, d5⟩ := h
  exact ⟨d1, d2, (f.2 5 (by omega) (by omega) (by omega) (by omega) (by omega)).trans d3, fun k k0 k1 => (f.1.i (by simp) k).trans (d4 k k0 k1), d5⟩
theorem MFd.dm {m m' : zM} (f : MFd m m') (h : DM m N) : DM m' N := h.mvd f.1 (by intro c hc; simp at hc; omega) (fun z hz => f.2 z (by omega) (by omega) (by omega) (by omega) (by omega))
theorem MFd.g6 {m m' m'' : zM} (f : MFd m m') (g : g6 m' m'') : MFd m m'' := ⟨f.1.tr (fun c hc => g.1 c (by simp at hc; exact hc.1)), fun z z0 z1 z2 z3 z4 => (g.2.1 z z0 z1 z4).trans (f.2 z z0 z1 z2 z3 z4)⟩
theorem MFd.g8 {m m' m'' : zM} (f : MFd m m') (g : g8 m' m'') : MFd m m'' := ⟨f.1.tr (fun c hc => g.1 c (by simp at hc; exact hc.1)), fun z z0 z1 z2 z3 z4 => (g.2.1 z z0 z1 z2 z3 z4).trans (f.2 z z0 z1 z2 z3 z4)⟩
theorem c_mf8 {Q : Int32 → zM → Prop} {m0 : zM} (h : TR C mv b N) (hR : rowM m0 N) (hd : DM m0 N) (ht : tpM m0 T n) (H : ∀ m v, MFd m0 m → FQ N (wl T n 601 0) v → Q (J v) (sq m 261 5 0)) :
    ∀ (k c : Nat) (p : Int) (m : zM), 0 ≤ p → p ≤ n → n - p < k → MFd m0 m → iq m 261 7 = 0 → iq m 261 6 = p → (∀ L, wl T n 601 0 = some L → c ≤ L.length ∧ wl T n k p = some (L.drop c) ∧ AK N L m (if c < 6 then c else 6)) → (wl T n 601 0 = none → wl T n k p = none) → W_M_find_8 (d + 2) (J (if c < 6 then (c : Int) else 6)) (J 1) w m Q := by
  have hMb := Mn_b h
  have hZ := Zn_b h
  intro k
  induction k with
  | zero => intro c p m p0 pn hk f h7 h6 hL hN; omega
  | succ k ih =>
    intro c p m p0 pn hk f h7 h6 hL hN
    have tb := tok_bd (T := T) pn
    have tC1 := tC_1 (T := T) (n := n) (p := p) ht.2.2.2.2 (c := -1) (by omega) (by omega)
    have tCr := tC_r (n := n) (p := p) ht.2.2.2.2
    have cb : 0 ≤ (if c < 6 then (c : Int) else 6) ∧ (if c < 6 then (c : Int) else 6) ≤ 6 := by split <;> omega
    have ws := wl_s T n k p
    refine S_M_find_8 ?_
    simp (disch := first | (unfold r32; omega) | omega) only [j_lit, j_ops, J_eq]
    refine ⟨fun y => by omega, fun _ => c_see' (f.tp ht) (Or.inl h6) ⟨p0, pn⟩ (fun m1 f1 _ _ e6 => ?_)⟩
    have g1 : MFd m0 m1 := f.g6 f1
    have h7' : iq m1 261 7 = 0 := (f1.2.1 7 (by omega) (by omega) (by omega)).trans h7
    simp (disch := first | (unfold r32; omega) | omega) only [j_lit, j_ops, J_eq, J_le, j_wr, j_nc]
    refine ⟨fun q => ⟨fun y => by omega, fun _ => ?_⟩, fun q => ?_⟩
    · -- the tape's end
      have qs := tC1.mp q
      have fin : ∀ v, FQ N (wl T n 601 0) v → Q (J v) (sq m1 261 5 0) := fun v hv => H m1 v g1 hv
      rcases hw : wl T n 601 0 with _ | L
      · have := hN hw
        rw [ws, if_pos qs] at this
        exact absurd this (by simp)
      · obtain ⟨a1, a2, a3⟩ := hL L hw
        rw [ws, if_pos qs] at a2
        have a2 := Option.some.inj a2
        have al : L.length = c := by
          have := congrArg List.length a2
          rw [List.length_drop] at this
          simp at this
          omega
        have no : (∀ t, ¬ EQT N L t) → Q (J (-1)) (sq m1 261 5 0) := fun g => fin _ (Or.inr ⟨rfl, fun L' t e q2 => by
          rw [hw] at e
          have eL : L = L' := Option.some.inj e
          rw [← eL] at q2
          exact g t q2⟩)
        have yes : ∀ t, EQT N L t → Q (J t) (sq m1 261 5 0) := fun t g => fin _ (Or.inl ⟨L, hw, g⟩)
        refine ⟨fun q0 => no (fun t g => ?_), fun q0 => ⟨fun q5 => ?_, fun q5 => no (fun t g => ?_)⟩⟩
        · have := tl_b h g.1 g.2.1
          have l1 := g.2.2.1
          split at q0 <;> omega
        · have c5 : c ≤ 5 := by split at q5 <;> omega
          rw [if_pos (by omega)] at a3
          rw [if_pos (by omega), show (c : Int) = (L.length : Int) by omega]
          -- onto the machine with the tape emptied
          have g2 : MFd m1 (sq m1 261 5 0) → True := fun _ => trivial
          have i61 : ∀ z, 0 ≤ z → z ≠ 5 → iq (sq m1 261 5 0) 261 z = iq m1 261 z := fun z z0 z1 => iq_ne (Or.inr z1) (by omega) z0
          have fx : fr [261] m1 (sq m1 261 5 0) := (fr.rf _ _).si (by simp) _ _
          have hd2 : DM (sq m1 261 5 0) N := (g1.dm hd).mvd fx (by intro c hc; simp at hc; omega) (fun z hz => i61 z (by omega) (by omega))
          have hA : AK N L (sq m1 261 5 0) L.length := fun j j0 j1 => by
            have := a3 j j0 (by omega)
            rw [lq_sq, (show lq m1 297 j = lq m 297 j from by unfold lq; rw [(f1.1 297 (by omega)).2])]
            exact this
          have h268' : h268 N (sq m1 261 5 0) := fun i i0 i1 => (hd2.1.2.2.1 i i0 i1).1
          have e32 := hd2.2.1.2.1
          refine c_pl297 (d := d + 1) h h268' hd2.2.1 (by omega) hA (fun p2 p20 p21 hp2 => ?_)
          simp (disch := first | (unfold r32; omega) | omega) only [j_lit, J_le, j_rd, j_nc, e32]
          refine ⟨fun y => no (fun t g => by have := hp2 t g; have := g.2.1; omega), fun y => c_bes297 h h268' hd2.2.1 (by omega) hA ⟨p20, by omega⟩ (fun v v0 v1 e => ?_) (fun e => ?_) (fun v v0 v1 e => ?_)⟩
          · simp (disch := first | exact v1 | (unfold r32; omega) | omega) only [j_lit, J_eq]
            exact ⟨fun _ => no (fun t g => by have := hp2 t g; have := e t g; omega), fun y => by omega⟩
          · simp (disch := first | (unfold r32; omega) | omega) only [j_lit, J_eq]
            exact ⟨fun y => absurd trivial y, fun _ => yes p2 e⟩
          · simp (disch := first | exact v1 | (unfold r32; omega) | omega) only [j_lit, J_eq]
            exact ⟨fun _ => no (fun t g => by have := hp2 t g; have := e t g; omega), fun y => by omega⟩
        · have := tl_b h g.1 g.2.1
          have l1 := g.2.2.1
          split at q5 <;> omega
    · have qs : tS T n p ≠ -1 := fun y => q (tC1.mpr y)
      refine c_readWord' (d := d) (g1.tp ht) (Or.inr e6) h7' ⟨p0, pn⟩ (fun m2 s2 f2 _ e6' e11 => ?_) (fun m2 s2 f2 _ _ => ?_)
      · have g3 : MFd m0 m2 := g1.g6 f2
        have hwd := tL_wd pn s2 ht.2.2.2.2
        have h7'' : iq m2 261 7 = 0 := (f2.2.1 7 (by omega) (by omega) (by omega)).trans h7'
        have hd0 : ∀ L, wl T n 601 0 = some L → ∃ M, wl T n k (tB T n p) = some M ∧ L.drop c = tL T n p :: M := fun L e => by
          have a2 := (hL L e).2.1
          rw [ws, if_neg qs, if_pos s2] at a2
          rcases hm : wl T n k (tB T n p) with _ | M
          · rw [hm] at a2; exact absurd a2 (by simp)
          · rw [hm] at a2
            exact ⟨M, rfl, (Option.some.inj a2).symm⟩
        have hget : ∀ L, wl T n 601 0 = some L → c < L.length ∧ uB N L (c : Int) = bsR N (eM (tL T n p)) := fun L e => by
          obtain ⟨M, m1, m2⟩ := hd0 L e
          have hl := congrArg List.length m2
          rw [List.length_drop] at hl
          simp at hl
          have hg2 : L.getD c [] = tL T n p := by
            have := congrArg (fun l => l.getD 0 []) m2
            simp only [List.getD_eq_getElem?_getD, List.getElem?_drop] at this
            rw [List.getD_eq_getElem?_getD]
            simpa using this
          refine ⟨by omega, ?_⟩
          unfold uB
          rw [Int.toNat_natCast, hg2]
        have l297 : ∀ j, lq m2 297 j = lq m 297 j := fun j => by unfold lq; rw [(f2.1 297 (by omega)).2, (f1.1 297 (by omega)).2]
        have next : ∀ (m3 : zM), MFd m0 m3 → iq m3 261 7 = 0 → iq m3 261 6 = tB T n p → (∀ L, wl T n 601 0 = some L → AK N L m3 (if c + 1 < 6 then (c : Int) + 1 else 6)) → W_M_find_8 (d + 2) (J (if c + 1 < 6 then (c : Int) + 1 else 6)) (J 1) w m3 Q := fun m3 f3 e7 e6 hA => by
          have := ih (c + 1) (tB T n p) m3 (by omega) (by omega) (by omega) f3 e7 e6 (fun L e => ?_) (fun e => ?_)
          · exact this
          · obtain ⟨M, m1', m2'⟩ := hd0 L e
            obtain ⟨l1, l2⟩ := hget L e
            refine ⟨by omega, ?_, hA L e⟩
            rw [m1']
            congr 1
            have := congrArg List.tail m2'
            rw [List.tail_drop] at this
            exact this.symm
          · have := hN e
            rw [ws, if_neg qs, if_pos s2] at this
            rcases hm : wl T n k (tB T n p) with _ | M
            · rfl
            · rw [hm] at this; exact absurd this (by simp)
        simp (disch := first | (unfold r32; omega) | omega) only [j_lit, j_ops, J_eq, J_le]
        refine ⟨fun y => by omega, fun _ => ⟨fun q6 => ?_, fun q6 => ?_⟩⟩
        · have c6 : ¬ c < 6 := fun y => by rw [if_pos y] at q6; omega
          have := next m2 g3 h7'' e6' (fun L e => ?_)
          · rw [if_neg (by omega)] at this
            rw [if_neg c6]
            exact this
          · have a3 := (hL L e).2.2
            rw [if_neg c6] at a3
            rw [if_neg (by omega)]
            exact fun j j0 j1 => by rw [l297]; exact a3 j j0 j1
        · have c6 : c < 6 := by
            by_cases y : c < 6
            · exact y
            · rw [if_neg y] at q6; omega
          rw [if_pos c6]
          rw [jl_rd, j_nc.2.2.2.2.2.2.2.2.2.2.2.1, e11]
          have hww : ww (eC (tL T n p)) (eM (tL T n p)) := ⟨_, hwd.1, hwd.2, rfl, rfl⟩
          refine c_M_baseOf (d := d) h (hR.fr g3.1 (by simp)) hww ?_
          obtain ⟨cw, hcw⟩ := bsR_ww h hww
          have rb := ww_r hcw
          simp (disch := first | (unfold r32; omega) | omega) only [j_lit, j_ops, vp_J, J_cl, jl_wr, sl_tn]
          refine ⟨by omega, ?_⟩
          have e1 : (if c + 1 < 6 then (c : Int) + 1 else 6) = (c : Int) + 1 := by split <;> omega
          have := next (sl m2 297 (c : Int) (bsR N (eM (tL T n p)))) ⟨g3.1.sll (by simp) _ _, fun z z0 z1 z2 z3 z4 => g3.2 z z0 z1 z2 z3 z4⟩ h7'' e6' (fun L e => ?_)
          · rw [e1] at this
            exact this
          · rw [e1]
            have a3 := (hL L e).2.2
            rw [if_pos c6] at a3
            obtain ⟨l1, l2⟩ := hget L e
            intro j j0 j1
            by_cases y : j = (c : Int)
            · rw [y, lq_eq (by unfold r64; omega), l2]
              exact ⟨rfl, by omega, by omega⟩
            · rw [lq_ne (Or.inr y) (by omega) j0, l297]
              exact a3 j j0 (by omega)
      · have g3 : MFd m0 m2 := g1.g8 f2
        have none : ∀ L, wl T n 601 0 ≠ some L := fun L e => by
          have := (hL L e).2.1
          rw [ws, if_neg qs, if_neg s2] at this
          exact absurd this (by simp)
        have fin : Q (J (-1)) (sq m2 261 5 0) := H m2 _ g3 (Or.inr ⟨rfl, fun L t e => absurd e (none L)⟩)
        simp (disch := first | (unfold r32; omega) | omega) only [j_lit, j_ops, J_eq]
        refine ⟨fun _ => S_M_find_8 ?_, fun y => absurd trivial y⟩
        simp (disch := first | (unfold r32; omega) | omega) only [j_lit, j_ops, J_eq, j_wr, j_nc]
        exact ⟨fun _ => ⟨fun _ => fin, fun y => absurd trivial y⟩, fun y => absurd trivial y⟩
theorem c_M_find {Q : Int32 → zM → Prop} {m : zM} (h : TR C mv b N) (hR : rowM m N) (hh : iq m 261 20 = 0 ∨ iq m 261 20 = 1 ∧ DM m N) (ht : tpM m T n) (H : ∀ m' v, fr (297 :: SMR) m m' → (∀ z, z = 2 ∨ z = 9 ∨ z = 10 ∨ z = 54 → iq m' 261 z = iq m 261 z) → iq m' 261 20 = 1 → DM m' N → iq m' 261 5 = 0 → FQ N (wl T n 601 0) v → Q (J v) m') : cI (d + 6) 275 [.ref 261] w m Q := by
  -- from a machine that has all laid
  have go : ∀ m1, fr SMR m m1 → (∀ z, z = 2 ∨ z = 5 ∨ z = 9 ∨ z = 10 ∨ z = 54 → iq m1 261 z = iq m 261 z) → iq m1 261 20 = 1 → DM m1 N → cV (d + 5) 200 [.ref 261] w m1 (fun m2 => W_M_find_8 (d + 5) (J 0) (J 1) w m2 Q) := fun m1 f1 e1 e20 hd => by
    obtain ⟨d1, d2, d3, d4, d5⟩ := id ht
    refine S_M_begins ?_
    simp only [j_lit, j_ops, j_wr, j_nc]
    have e6 : iq (sq (sq (sq m1 261 6 0) 261 7 0) 261 8 (-1)) 261 6 = 0 := by rw [iq_ne (Or.inr (by omega)) (by omega) (by omega), iq_ne (Or.inr (by omega)) (by omega) (by omega), iq_eq (by unfold r32; omega)]
    have e7 : iq (sq (sq (sq m1 261 6 0) 261 7 0) 261 8 (-1)) 261 7 = 0 := by rw [iq_ne (Or.inr (by omega)) (by omega) (by omega), iq_eq (by unfold r32; omega)]
    have ez : ∀ z, 0 ≤ z → z ≠ 6 → z ≠ 7 → z ≠ 8 → iq (sq (sq (sq m1 261 6 0) 261 7 0) 261 8 (-1)) 261 z = iq m1 261 z := fun z z0 z1 z2 z3 => by rw [iq_ne (Or.inr z3) (by omega) z0, iq_ne (Or.inr z2) (by omega) z0, iq_ne (Or.inr z1) (by omega) z0]
    have ff : fr [261] m1 (sq (sq (sq m1 261 6 0) 261 7 0) 261 8 (-1)) := (((fr.rf _ m1).si (by simp) _ _).si (by simp) _ _).si (by simp) _ _
    generalize sq (sq (sq m1 261 6 0) 261 7 0) 261 8 (-1) = m2 at *
    have f2 : fr SMR m m2 := f1.tr (ff.mo (by simp))
    have hd2 : DM m2 N := hd.mvd ff (by intro c hc; simp at hc; omega) (fun z hz => ez z (by omega) (by omega) (by omega) (by omega))
    have ht2 : tpM m2 T n := ⟨d1, d2, (ez 5 (by omega) (by omega) (by omega) (by omega)).trans ((e1 5 (by omega)).trans d3), fun k k0 k1 => (f2.i (by simp) k).trans (d4 k k0 k1), d5⟩
    have hR2 : rowM m2 N := hR.fr f2 (by simp)
    have := c_mf8 (d := d + 3) (w := w) (m0 := m2) (Q := Q) h hR2 hd2 ht2 (fun m3 v f3 hv => ?_) 601 0 0 m2 (by omega) (by omega) (by omega) ⟨fr.rf _ _, fun _ _ _ _ _ _ => rfl⟩ e7 e6 (fun L e => ⟨by omega, by rw [List.drop_zero]; exact e, fun j j0 j1 => by simp at j1; omega⟩) (fun e => e)
    · simp only [show (0 : Nat) < 6 by omega, if_true] at this
      exact this
    · have f4 : fr (297 :: SMR) m (sq m3 261 5 0) := (((f2.mo (by simp)).tr (f3.1.mo (by simp))).si (by simp) _ _)
      have e5 : iq (sq m3 261 5 0) 261 5 = 0 := iq_eq (by unfold r32; omega)
      have ez3 : ∀ z, 0 ≤ z → z ≠ 5 → z ≠ 6 → z ≠ 7 → z ≠ 8 → z ≠ 12 → iq (sq m3 261 5 0) 261 z = iq m1 261 z := fun z z0 z1 z2 z3 z4 z5 => by
        rw [iq_ne (Or.inr z1) (by omega) z0, f3.2 z z0 z2 z3 z4 z5, ez z z0 z2 z3 z4]
      have fx : fr [261] m3 (sq m3 261 5 0) := (fr.rf _ _).si (by simp) _ _
      exact H _ v f4 (fun z hz => (ez3 z (by omega) (by omega) (by omega) (by omega) (by omega) (by omega)).trans (e1 z (by omega))) ((ez3 20 (by omega) (by omega) (by omega) (by omega) (by omega) (by omega)).trans e20) ((f3.dm hd2).mvd fx (by intro c hc; simp at hc; omega) (fun z hz => iq_ne (Or.inr (by omega)) (by omega) (by omega))) e5 hv
  refine S_M_find (c_lays (d := d) h hR hh (fun g hd => go m (fr.rf _ _) (fun _ _ => rfl) g hd) (fun g m' f k e20 hd => go m' f (fun z hz => k z (by omega) (by omega) (by omega) (by omega) (by omega) (by omega)) e20 hd))
theorem p_find {P : Int32 → Int32 → zM → Prop} {m : zM} (hI : IV C w m) (H : ∀ v m', IV C w m' → P v v m') : cI (d + 10) 131 [.ref 3] w m (fun x m1 => cI (d + 10) 275 [.ref 261] w m1 (fun y m2 => P x y m2)) := by
  obtain ⟨N, hI⟩ := hI
  refine c_findQ (d := d) hI (fun m1 m2 v T n hI1 hd htM f e4 hv => ?_)
  obtain ⟨h1, h2, h3, h4, h5, h6, h7, h8⟩ := id hI1
  have hb := hI1.zT
  have bb := zT_b hb
  obtain ⟨d1, d2, d3, d4, d5⟩ := id htM
  have hT2 : TR C m2 w.2.1 N := h5.view (TV.rows (fun c c1 c2 => f c (by simp; omega)))
  have hR2 : rowM m2 N := h4.fr f (by simp)
  have i61 : ∀ z, iq m2 261 z = iq m1 261 z := f.i (by simp)
  have hh : iq m2 261 20 = 0 ∨ iq m2 261 20 = 1 ∧ DM m2 N := by
    rcases h8 with g | ⟨g, g1⟩
    · exact Or.inl ((i61 20).trans g)
    · exact Or.inr ⟨(i61 20).trans g, g1.frm f (by intro c hc; simp at hc; omega)⟩
  refine c_M_find (d := d + 4) hT2 hR2 hh ⟨d1, d2, (i61 5).trans d3, fun k k0 k1 => (f.i (by simp) k).trans (d4 k k0 k1), d5⟩ (fun m3 v' f3 e3 e20 hd3 e5 hv' => ?_)
  rw [hv'.uniq h5 hv]
  have ff : fr (4 :: 8 :: 297 :: SMR) m1 m3 := (f.mo (by simp)).tr (f3.mo (by simp))
  have i3 : ∀ z, iq m3 3 z = iq m1 3 z := ff.i (by simp)
  have l62 : ∀ k, lq m3 262 k = lq m1 262 k := ff.l (by simp)
  have l63 : ∀ k, lq m3 263 k = lq m1 263 k := ff.l (by simp)
  have ez : ∀ z, z = 2 ∨ z = 9 ∨ z = 10 ∨ z = 54 → iq m3 261 z = iq m1 261 z := fun z hz => (e3 z hz).trans (i61 z)
  have e4' : iq m3 4 1 = 0 := (f3.i (by simp) 1).trans e4
  refine H _ m3 ⟨N, h1.stay (x := 220) (Int.le_refl _) (i3 10) (i3 11) (ez 2 (by omega)) (fun k _ _ => l62 k) (fun k _ _ => l63 k) (fun c c1 c2 c3 => ff c (by simp; omega)) (Or.inr (Nat.le_refl _)) w rfl, ⟨fun _ => 0, 0, ⟨by omega, by omega, e4', fun k _ _ => by omega, fun k => ⟨Int.le_refl 0, (by decide : (0 : Int) < 256)⟩⟩, by omega, by omega, e5, fun k _ _ => by omega, fun k => ⟨Int.le_refl 0, (by decide : (0 : Int) < 256)⟩⟩, ?_, fun k k0 k1 => (l62 k).trans (h4 k k0 k1), h5.view (TV.rows (fun c c1 c2 => ff c (by simp; omega))), h6.mv (ff 6 (by simp)).1 (ff 7 (by simp)).1 (ff 294 (by simp)).1 (ez 54 (by omega)), ?_, Or.inr ⟨e20, hd3⟩⟩
  · unfold FT
    rw [i3, i3, ez 9 (by omega), ez 10 (by omega)]
    exact h3
  · rcases h7 with q | ⟨q, q1, q2⟩
    · exact Or.inl ((i3 14).trans q)
    · exact Or.inr ⟨(i3 14).trans q, q1.frm ff (by intro c hc; simp at hc; omega), q2.frm ff (by simp) (by simp)⟩
end FNM
