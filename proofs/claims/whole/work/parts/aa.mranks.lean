/-! the reference ranks -/
section MRK
variable {d : Nat} {w : Nat × Nat × Nat} {A : Int → Int → Prop} {n : Int}
theorem c_Mmerge_l {Q : zM → Prop} {m0 : zM} {lo mid hi : Int} (hn : n ≤ 1200) (hA : ord A n) (hb : 0 ≤ lo ∧ hi ≤ n) (h1 : SB A (iq m0 292) lo mid) (h2 : SB A (iq m0 292) mid hi)
    (hcmp : ∀ (m' : zM) (a e : Int) (P : Int32 → zM → Prop), fr [293] m0 m' → 0 ≤ a → a < n → 0 ≤ e → e < n → (A a e → P (J 1) m') → (¬ A a e → P (J 0) m') → cI d 253 [.ref 261, .int (J a), .int (J e)] w m' P)
    (H : ∀ m', fr [293] m0 m' → SB A (iq m' 293) lo hi → (∀ t, 0 ≤ t → (t < lo ∨ hi ≤ t) → iq m' 293 t = iq m0 293 t) → Q m') :
    ∀ (k : Nat) (l r i : Int) (m : zM), hi ≤ i + k → i ≤ hi ∨ k = 0 → fr [293] m0 m → MG A (iq m0 292) (iq m 293) lo mid hi l r i → (∀ t, 0 ≤ t → (t < lo ∨ hi ≤ t) → iq m 293 t = iq m0 293 t) → W_M_merges_6 d (J mid) (J hi) (J l) (J r) (J i) w m Q := by
  intro k
  induction k with
  | zero =>
    intro l r i m hk _ f hM ho
    have ⟨a1, a2, a3, a4, a5, _⟩ := hM
    refine S_M_merges_6 ?_
    simp (disch := first | (unfold r32; omega) | omega) only [j_lit, J_le]
    exact ⟨fun _ => H m f (hM.fin (by omega)) ho, fun q => by omega⟩
  | succ k ih =>
    intro l r i m hk hk2 f hM ho
    have ⟨a1, a2, a3, a4, a5, _⟩ := hM
    have eo : ∀ t, iq m 292 t = iq m0 292 t := f.i (by simp)
    have left : i < hi → l < mid → (r = hi ∨ A (iq m0 292 l) (iq m0 292 r)) → W_M_merges_29 d (J mid) (J hi) (J l) (J r) (J i) (J 1) w m Q := by
      intro q0 hl hr
      have ol := h1.2 l a1 hl
      refine S_M_merges_29 ?_
      simp (disch := first | (unfold r32; omega) | omega) only [j_lit, J_eq]
      refine ⟨fun q => by omega, fun _ => S_M_merges_40 ?_⟩
      simp (disch := first | (unfold r32; omega) | omega) only [j_lit, j_ops, vp_J, J_cl, iq_tn, sq_tn, j_rd, j_wr, eo, J_eq]
      refine ⟨by omega, by omega, fun q => by omega, fun _ => ih (l + 1) r (i + 1) _ (by omega) (by omega) (f.si (by simp) _ _) (hM.left hA hb h1 h2 hl hr (fun t t0 t1 => ?_)) (fun t t0 t1 => ?_)⟩
      · by_cases e : t = i
        · rw [if_pos e, e, iq_eq (by unfold r32; omega)]
        · rw [if_neg e, iq_ne (Or.inr e) (by omega) (by omega)]
      · rw [iq_ne (Or.inr (by omega)) (by omega) t0]
        exact ho t t0 t1
    have right : i < hi → r < hi → (l = mid ∨ A (iq m0 292 r) (iq m0 292 l)) → W_M_merges_29 d (J mid) (J hi) (J l) (J r) (J i) (J 0) w m Q := by
      intro q0 hr hl
      have or_ := h2.2 r a3 hr
      refine S_M_merges_29 ?_
      simp (disch := first | (unfold r32; omega) | omega) only [j_lit, J_eq]
      refine ⟨fun _ => S_M_merges_40 ?_, fun q => absurd trivial q⟩
      simp (disch := first | (unfold r32; omega) | omega) only [j_lit, j_ops, vp_J, J_cl, iq_tn, sq_tn, j_rd, j_wr, eo, J_eq]
      refine ⟨by omega, by omega, fun _ => ih l (r + 1) (i + 1) _ (by omega) (by omega) (f.si (by simp) _ _) (hM.right hA hb h1 h2 hr hl (fun t t0 t1 => ?_)) (fun t t0 t1 => ?_), fun q => absurd trivial q⟩
      · by_cases e : t = i
        · rw [if_pos e, e, iq_eq (by unfold r32; omega)]
        · rw [if_neg e, iq_ne (Or.inr e) (by omega) (by omega)]
      · rw [iq_ne (Or.inr (by omega)) (by omega) t0]
        exact ho t t0 t1
    refine S_M_merges_6 ?_
    simp (disch := first | (unfold r32; omega) | omega) only [j_lit, J_le, J_eq]
    refine ⟨fun q => H m f (hM.fin (by omega)) ho, fun q0 => ⟨fun q => left (by omega) (by omega) (Or.inl (by omega)), fun q => ⟨fun q2 => right (by omega) (by omega) (Or.inl (by omega)), fun q2 => ?_⟩⟩⟩
    have ol := h1.2 l a1 (by omega)
    have or_ := h2.2 r a3 (by omega)
    simp (disch := first | (unfold r32; omega) | omega) only [j_lit, j_ops, vp_J, J_cl, iq_tn, j_rd, eo]
    refine ⟨by omega, by omega, hcmp m _ _ _ f (by omega) (by omega) (by omega) (by omega) (fun g => ?_) (fun g => ?_)⟩
    · exact ⟨fun z => absurd z (by decide), fun _ => left (by omega) (by omega) (Or.inr g)⟩
    · refine ⟨fun _ => right (by omega) (by omega) (Or.inr ?_), fun z => absurd rfl z⟩
      rcases hA.2.2 (iq m0 292 l) (iq m0 292 r) (by omega) (by omega) (by omega) (by omega) (by omega) with z | z
      · exact absurd z g
      · exact z
theorem c_Mmerge {Q : zM → Prop} {m : zM} {lo mid hi : Int} (hn : n ≤ 1200) (hA : ord A n) (hb : 0 ≤ lo ∧ hi ≤ n) (hm : lo ≤ mid ∧ mid ≤ hi) (h1 : SB A (iq m 292) lo mid) (h2 : SB A (iq m 292) mid hi)
    (hcmp : ∀ (m' : zM) (a e : Int) (P : Int32 → zM → Prop), fr [293] m m' → 0 ≤ a → a < n → 0 ≤ e → e < n → (A a e → P (J 1) m') → (¬ A a e → P (J 0) m') → cI d 253 [.ref 261, .int (J a), .int (J e)] w m' P)
    (H : ∀ m', fr [293] m m' → SB A (iq m' 293) lo hi → (∀ t, 0 ≤ t → (t < lo ∨ hi ≤ t) → iq m' 293 t = iq m 293 t) → Q m') : cV (d + 1) 255 [.ref 261, .int (J lo), .int (J mid), .int (J hi)] w m Q :=
  S_M_merges (c_Mmerge_l hn hA hb h1 h2 hcmp H (hi - lo).toNat lo mid lo m (by omega) (by omega) (fr.rf _ _) (MG.zero hm) (fun _ _ _ => rfl))
theorem c_Mpass {Q : zM → Prop} {m0 : zM} {wd : Int} (e32 : iq m0 261 32 = n) (hn : 0 ≤ n ∧ n ≤ 1200) (hA : ord A n) (hw : 1 ≤ wd ∧ wd < 1200) (hB : BK A (iq m0 292) n wd)
    (hcmp : ∀ (m' : zM) (a e : Int) (P : Int32 → zM → Prop), fr [293] m0 m' → 0 ≤ a → a < n → 0 ≤ e → e < n → (A a e → P (J 1) m') → (¬ A a e → P (J 0) m') → cI d 253 [.ref 261, .int (J a), .int (J e)] w m' P)
    (H : ∀ m', fr [293] m0 m' → BK A (iq m' 293) n (2 * wd) → W_M_ranks_69 (d + 1) (J wd) (J 0) w m' Q) :
    ∀ (k : Nat) (q : Nat) (lo : Int) (m : zM), (q : Int) * (2 * wd) = lo → lo ≤ n + 2 * wd → n ≤ lo + k → fr [293] m0 m → (∀ q' : Nat, q' < q → SB A (iq m 293) ((q' : Int) * (2 * wd)) (if (q' : Int) * (2 * wd) + 2 * wd ≤ n then (q' : Int) * (2 * wd) + 2 * wd else n)) → W_M_ranks_39 (d + 1) (J wd) (J lo) w m Q := by
  intro k
  induction k with
  | zero =>
    intro q lo m hlo hl2 hk f hI
    have e32' : iq m 261 32 = n := (f.i (by simp) 32).trans e32
    have q0 : 0 ≤ lo := by rw [← hlo]; exact Int.mul_nonneg (by omega) (by omega)
    refine S_M_ranks_39 ?_
    simp (disch := first | (unfold r32; omega) | omega) only [j_lit, J_le, j_ops, j_rd, j_nc, e32']
    refine ⟨fun _ => H m f (fun q' hq' => hI q' ?_), fun y => by omega⟩
    have : (q' : Int) * (2 * wd) < (q : Int) * (2 * wd) := by omega
    have := Int.lt_of_mul_lt_mul_right this (by omega)
    omega
  | succ k ih =>
    intro q lo m hlo hl2 hk f hI
    have e32' : iq m 261 32 = n := (f.i (by simp) 32).trans e32
    have q0 : 0 ≤ lo := by rw [← hlo]; exact Int.mul_nonneg (by omega) (by omega)
    refine S_M_ranks_39 ?_
    simp (disch := first | (unfold r32; omega) | omega) only [j_lit, J_le, j_ops, j_rd, j_nc, e32']
    refine ⟨fun y => H m f (fun q' hq' => hI q' ?_), fun y => ?_⟩
    · have : (q' : Int) * (2 * wd) < (q : Int) * (2 * wd) := by omega
      have := Int.lt_of_mul_lt_mul_right this (by omega)
      omega
    have eo : ∀ t, iq m 292 t = iq m0 292 t := f.i (by simp)
    have e1 : ((2 * q : Nat) : Int) * wd = lo := by rw [← hlo, Int.natCast_mul, Int.mul_comm ((2 : Nat) : Int) (q : Int), Int.mul_assoc]; rfl
    have e2 : ((2 * q + 1 : Nat) : Int) * wd = lo + wd := by rw [Int.natCast_add, Int.add_mul, e1]; simp
    have b1 := hB (2 * q)
    have b2 := hB (2 * q + 1)
    rw [e1] at b1
    rw [e2] at b2
    have b1 := b1 (by omega)
    refine c_min (by unfold r32; omega) (by unfold r32; omega) ?_
    simp (disch := first | (unfold r32; omega) | omega) only [j_lit, j_ops, j_rd, j_nc, e32']
    refine c_min (by unfold r32; omega) (by unfold r32; omega) ?_
    have hmid : (if n ≤ lo + wd then n else lo + wd) = (if lo + wd ≤ n then lo + wd else n) := by split <;> split <;> omega
    have hhi : (if n ≤ lo + 2 * wd then n else lo + 2 * wd) = (if lo + 2 * wd ≤ n then lo + 2 * wd else n) := by split <;> split <;> omega
    rw [hmid, hhi]
    clear hmid hhi
    generalize hmid : (if lo + wd ≤ n then lo + wd else n) = mid at *
    generalize hhi : (if lo + 2 * wd ≤ n then lo + 2 * wd else n) = hi at *
    have hm : lo ≤ mid ∧ mid ≤ hi ∧ hi ≤ n := by
      rw [← hmid, ← hhi]
      split <;> split <;> omega
    have c1 : SB A (iq m 292) lo mid := b1.congr (fun i _ _ => eo i)
    have c2 : SB A (iq m 292) mid hi := by
      by_cases g : lo + wd < n
      · have b2 := b2 g
        have em : mid = lo + wd := by rw [← hmid, if_pos (by omega)]
        have eh : (if lo + wd + wd ≤ n then lo + wd + wd else n) = hi := by rw [← hhi, show lo + wd + wd = lo + 2 * wd by omega]
        rw [eh] at b2
        rw [em]
        exact b2.congr (fun i _ _ => eo i)
      · have em : mid = n := by rw [← hmid]; split <;> omega
        exact ⟨fun i j _ _ _ => by omega, fun i _ _ => by omega⟩
    refine c_Mmerge (d := d) hn.2 hA ⟨q0, hm.2.2⟩ ⟨hm.1, hm.2.1⟩ c1 c2 (fun m' a e P f' => hcmp m' a e P (f.tr f')) (fun m' f' hS ho => ?_)
    have e3 : ((q + 1 : Nat) : Int) * (2 * wd) = lo + 2 * wd := by rw [Int.natCast_add, Int.add_mul, hlo]; simp
    refine ih (q + 1) (lo + 2 * wd) m' e3 (by omega) (by omega) (f.tr f') (fun q' hq' => ?_)
    by_cases g : q' = q
    · rw [g, hlo, hhi]
      exact hS
    · have le : ((q' + 1 : Nat) : Int) * (2 * wd) ≤ (q : Int) * (2 * wd) := Int.mul_le_mul_of_nonneg_right (by omega) (by omega)
      have e4 : ((q' + 1 : Nat) : Int) * (2 * wd) = (q' : Int) * (2 * wd) + 2 * wd := by rw [Int.natCast_add, Int.add_mul]; simp
      have q'0 : 0 ≤ (q' : Int) * (2 * wd) := Int.mul_nonneg (by omega) (by omega)
      refine (hI q' (by omega)).congr (fun i i0 i1 => ho i (by omega) (Or.inl ?_))
      rw [if_pos (by omega)] at i1
      omega
theorem c_Mcopy {Q : zM → Prop} {m0 : zM} {wd : Int} (e32 : iq m0 261 32 = n) (hn : 0 ≤ n ∧ n ≤ 1200) (H : ∀ m', fr [292] m0 m' → (∀ i, 0 ≤ i → i < n → iq m' 292 i = iq m0 293 i) → W_M_ranks_33 d (J (wd * 2)) w m' Q) :
    ∀ (k : Nat) (z : Int) (m : zM), 0 ≤ z → z + k = n → fr [292] m0 m → (∀ i, 0 ≤ i → i < z → iq m 292 i = iq m0 293 i) → W_M_ranks_69 d (J wd) (J z) w m Q := by
  intro k
  induction k with
  | zero =>
    intro z m z0 hz f hI
    have e32' : iq m 261 32 = n := (f.i (by simp) 32).trans e32
    refine S_M_ranks_69 ?_
    simp (disch := first | (unfold r32; omega) | omega) only [j_lit, J_le, j_ops, j_rd, j_nc, e32']
    exact ⟨fun _ => H m f (fun i i0 i1 => hI i i0 (by omega)), fun y => by omega⟩
  | succ k ih =>
    intro z m z0 hz f hI
    have e32' : iq m 261 32 = n := (f.i (by simp) 32).trans e32
    have e93 : iq m 293 z = iq m0 293 z := f.i (by simp) z
    refine S_M_ranks_69 ?_
    simp (disch := first | (unfold r32; omega) | omega) only [j_lit, J_le, j_ops, vp_J, J_cl, iq_tn, sq_tn, j_wr, j_rd, j_nc, e32', e93]
    refine ⟨fun y => by omega, fun _ => ⟨by omega, by omega, ih (z + 1) _ (by omega) (by omega) (f.si (by simp) _ _) (fun i i0 i1 => ?_)⟩⟩
    by_cases e : i = z
    · rw [e, iq_eq (iq_r _ _ _)]
    · rw [iq_ne (Or.inr e) (by omega) i0]
      exact hI i i0 (by omega)
theorem c_Mwidth {Q : zM → Prop} {m0 : zM} (e32 : iq m0 261 32 = n) (hn : 0 ≤ n ∧ n ≤ 1200) (hA : ord A n)
    (hcmp : ∀ (m' : zM) (a e : Int) (P : Int32 → zM → Prop), fr [292, 293] m0 m' → 0 ≤ a → a < n → 0 ≤ e → e < n → (A a e → P (J 1) m') → (¬ A a e → P (J 0) m') → cI d 253 [.ref 261, .int (J a), .int (J e)] w m' P)
    (H : ∀ m', fr [292, 293] m0 m' → SB A (iq m' 292) 0 n → Q m') :
    ∀ (k : Nat) (wd : Int) (m : zM), 1 ≤ wd → wd ≤ 2400 → n ≤ wd + k → fr [292, 293] m0 m → BK A (iq m 292) n wd → W_M_ranks_33 (d + 1) (J wd) w m Q := by
  intro k
  induction k with
  | zero =>
    intro wd m h1 h2 hk f hB
    have e32' : iq m 261 32 = n := (f.i (by simp) 32).trans e32
    refine S_M_ranks_33 ?_
    simp (disch := first | (unfold r32; omega) | omega) only [j_lit, J_le, j_rd, j_nc, e32']
    exact ⟨fun _ => H m f (hB.done hn.1 (by omega)), fun y => by omega⟩
  | succ k ih =>
    intro wd m h1 h2 hk f hB
    have e32' : iq m 261 32 = n := (f.i (by simp) 32).trans e32
    refine S_M_ranks_33 ?_
    simp (disch := first | (unfold r32; omega) | omega) only [j_lit, J_le, j_rd, j_nc, e32']
    refine ⟨fun y => H m f (hB.done hn.1 y), fun y => ?_⟩
    refine c_Mpass (d := d) (m0 := m) e32' hn hA ⟨h1, by omega⟩ hB (fun m' a e P f' => hcmp m' a e P (f.tr (f'.mo (by simp)))) (fun m' f' hB' => ?_) n.toNat 0 0 m (by simp) (by omega) (by omega) (fr.rf _ _) (fun q' hq' => by omega)
    refine c_Mcopy (m0 := m') ((f'.i (by simp) 32).trans e32') hn (fun m2 f2 hc => ?_) n.toNat 0 m' (by omega) (by omega) (fr.rf _ _) (fun i _ _ => by omega)
    rw [show wd * 2 = 2 * wd by omega]
    refine ih (2 * wd) m2 (by omega) (by omega) (by omega) ((f.tr (f'.mo (by simp))).tr (f2.mo (by simp))) (fun q hq => ?_)
    have q0 : 0 ≤ (q : Int) * (2 * wd) := Int.mul_nonneg (by omega) (by omega)
    refine (hB' q hq).congr (fun i i0 i1 => hc i (by omega) ?_)
    split at i1 <;> omega
end MRK
section MRL
variable {d : Nat} {w : Nat × Nat × Nat} {C : Int} {N : Int → Int} {mv : zM} {b : Nat}
/-- what ranking changes in the reference -/
def MK (m m' : zM) : Prop := fr [261, 289, 290, 291, 292, 293] m m' ∧ ∀ z, iq m' 261 z = iq m 261 z
theorem MK.dm {m m' : zM} {N : Int → Int} (f : MK m m') (h : DM m N) : DM m' N := h.mvd f.1 (by intro c hc; simp at hc; omega) (fun z _ => f.2 z)
theorem MK.tr {m m' m'' : zM} (h : MK m m') (h' : MK m' m'') : MK m m'' := ⟨h.1.tr h'.1, fun z => (h'.2 z).trans (h.2 z)⟩
theorem IVN.mk {m m' : zM} (h : IVN C w m N) (f : MK m m') : IVN C w m' N :=
  h.gx f.1 (by intro c hc; simp at hc; omega) (fun z _ _ _ => f.2 z) (fun _ g => g.frm f.1 (by simp) (by simp))
theorem c_ranks {Q : zM → Prop} {m0 : zM} {g : Int} (hg : 0 ≤ g ∧ g < 7) (hI : IVN C w m0 N) (H : ∀ m', IVN C w m' N → DM m' N → SB (AR N g) (iq m' 292) 0 (Zn N) → Q m') : cV (d + 6) 254 [.ref 261, .int (J g)] w m0 Q := by
  refine S_M_ranks (c_Llays (d := d) hI (fun m1 hI1 _ hd1 _ => ?_))
  have hT := hI1.2.2.2.2.1
  have hR := hI1.2.2.2.1
  have hM := Mn_b hT
  have hZ := Zn_b hT
  have k4 : ∀ (z : Nat) (t : Int) (m : zM), 0 ≤ t → t + z = Zn N → MK m1 m → UD N m 290 291 g t → (∀ i, 0 ≤ i → i < t → iq m 292 i = i) → W_M_ranks_4 (d + 5) (J g) (J t) w m Q := by
    intro z
    induction z with
    | zero =>
      intro t m t0 hz f hU hI4
      have hdm := f.dm hd1
      have e32 := hdm.2.1.2.1
      obtain rfl : t = Zn N := by omega
      refine S_M_ranks_4 ?_
      simp (disch := first | (unfold r32; omega) | omega) only [j_lit, J_le, j_ops, j_rd, j_nc, e32]
      refine ⟨fun _ => c_Mwidth (d := d + 4) (A := AR N g) (m0 := m) e32 ⟨hZ.1, by omega⟩ (AR_ord hT g) (fun m' a e P f' a0 a1 e0 e1 h1 h0 => ?_) (fun m2 f2 hS => ?_) (Zn N).toNat 1 m (by omega) (by omega) (by omega) (fr.rf _ _) (BK.one (fun i i0 i1 => hI4 i i0 i1)), fun y => by omega⟩
      · have f3 : MK m m' := ⟨f'.mo (by simp), f'.i (by simp)⟩
        have hU' : UD N m' 290 291 g (Zn N) := fun t t0 t1 => by rw [f'.l (by simp), f'.l (by simp)]; exact hU t t0 t1
        exact c_M_isAhead (d := d + 2) hT ((f3.dm hdm).2.2.1) hU' a0 a1 e0 e1 h1 h0
      · have f3 : MK m m2 := ⟨f2.mo (by simp), f2.i (by simp)⟩
        exact H m2 (hI1.mk (f.tr f3)) (f3.dm hdm) hS
    | succ z ih =>
      intro t m t0 hz f hU hI4
      have hdm := f.dm hd1
      have e32 := hdm.2.1.2.1
      have rg := lw_rg hT g t0 (show t < Zn N by omega)
      refine S_M_ranks_4 ?_
      simp (disch := first | (unfold r32; omega) | omega) only [j_lit, J_le, j_ops, j_rd, j_nc, e32]
      refine ⟨fun y => by omega, fun _ => c_measures (d := d + 1) hg hT (hR.fr f.1 (by simp)) hdm ⟨t0, by omega⟩ (fun m2 f2 e47 e48 => ?_)⟩
      simp (disch := first | (unfold r32; omega) | omega) only [j_lit, vp_J, J_cl, jl_rd, j_nc, e47, e48, jl_wr, sl_tn, j_wr, sq_tn]
      generalize hA : lwA (mov N g t) (mun N g t) = A at *
      generalize hB : lwB (mov N g t) (mun N g t) = B at *
      have f3 : MK m1 m2 := f.tr ⟨f2.1.mo (by simp), f2.2⟩
      have g90 : ∀ s, lq m2 290 s = lq m 290 s := f2.1.l (by simp)
      have g91 : ∀ s, lq m2 291 s = lq m 291 s := f2.1.l (by simp)
      have g92 : ∀ s, iq m2 292 s = iq m 292 s := f2.1.i (by simp)
      refine ⟨by omega, by omega, by omega, ih (t + 1) _ (by omega) (by omega) ⟨((f3.1.sll (by simp) _ _).sll (by simp) _ _).si (by simp) _ _, fun y => ?_⟩ (fun s s0 s1 => ?_) (fun s s0 s1 => ?_)⟩
      · have : ∀ q : zM, iq (sq q 292 t t) 261 y = iq q 261 y := fun q => ((fr.rf [292] q).si (by simp) t t).i (by simp) y
        rw [this]
        exact f3.2 y
      · rw [lq_sq, lq_sq]
        by_cases y : s = t
        · rw [y, hA, hB]
          refine ⟨?_, lq_eq (by unfold r64; omega)⟩
          rw [lq_ne (by omega) (by omega) (by omega), lq_eq (by unfold r64; omega)]
        · have := hU s s0 (by omega)
          rw [lq_ne (by omega) (by omega) (by omega), lq_ne (Or.inr y) (by omega) (by omega), lq_ne (Or.inr y) (by omega) (by omega), lq_ne (by omega) (by omega) (by omega), g90, g91]
          exact this
      · by_cases y : s = t
        · rw [y, iq_eq (by unfold r32; omega)]
        · rw [iq_ne (Or.inr y) (by omega) s0, iq_sl, iq_sl, g92]
          exact hI4 s s0 (by omega)
  simp only [j_lit]
  exact k4 (Zn N).toNat 0 m1 (by omega) (by omega) ⟨fr.rf _ _, fun _ => rfl⟩ (fun t _ _ => by omega) (fun i _ _ => by omega)
end MRL
