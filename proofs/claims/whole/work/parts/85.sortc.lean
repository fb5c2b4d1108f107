/-! the class sorts: M -/
section SRTM
variable {d : Nat} {w : Nat × Nat × Nat} {A : Int → Int → Prop} {n : Int}
theorem c_mergeM_l {Q : zM → Prop} {m0 : zM} {lo mid hi : Int} (hn : n ≤ 1200) (hA : ord A n) (hb : 0 ≤ lo ∧ hi ≤ n) (h1 : SB A (iq m0 229) lo mid) (h2 : SB A (iq m0 229) mid hi)
    (hcmp : ∀ (m' : zM) (a b : Int) (P : Int32 → zM → Prop), fr [230] m0 m' → 0 ≤ b → b < a → a < n → (A a b → P (J 1) m') → (¬ A a b → P (J 0) m') → cI d 14 [.ref 228, .int (J a), .int (J b)] w m' P)
    (H : ∀ m', fr [230] m0 m' → SB A (iq m' 230) lo hi → (∀ t, 0 ≤ t → (t < lo ∨ hi ≤ t) → iq m' 230 t = iq m0 230 t) → Q m') :
    ∀ (k : Nat) (l r i : Int) (m : zM), hi ≤ i + k → i ≤ hi ∨ k = 0 → fr [230] m0 m → MG A (iq m0 229) (iq m 230) lo mid hi l r i → (∀ t, 0 ≤ t → (t < lo ∨ hi ≤ t) → iq m 230 t = iq m0 230 t) → W_Order_merge_M_6 d (J mid) (J hi) (J l) (J r) (J i) w m Q := by
  intro k
  induction k with
  | zero =>
    intro l r i m hk _ f hM ho
    have ⟨a1, a2, a3, a4, a5, _⟩ := hM
    refine S_Order_merge_M_6 ?_
    simp (disch := first | (unfold r32; omega) | omega) only [j_lit, J_le]
    exact ⟨fun _ => H m f (hM.fin (by omega)) ho, fun q => by omega⟩
  | succ k ih =>
    intro l r i m hk hk2 f hM ho
    have ⟨a1, a2, a3, a4, a5, _⟩ := hM
    have eo : ∀ t, iq m 229 t = iq m0 229 t := f.i (by simp)
    refine S_Order_merge_M_6 ?_
    simp (disch := first | (unfold r32; omega) | omega) only [j_lit, J_le]
    refine ⟨fun q => H m f (hM.fin (by omega)) ho, fun q0 => ?_⟩
    have left : l < mid → (r = hi ∨ A (iq m0 229 l) (iq m0 229 r)) → W_Order_merge_M_29 d (J mid) (J hi) (J l) (J r) (J i) (J 1) w m Q := by
      intro hl hr
      have ol := h1.2 l a1 hl
      refine S_Order_merge_M_29 ?_
      simp (disch := first | (unfold r32; omega) | omega) only [j_lit, J_eq]
      refine ⟨fun q => by omega, fun _ => S_Order_merge_M_40 (c_at (n := 1200) rfl (by decide) (by unfold r32; omega) (by omega) (c_put (n := 1200) rfl (by decide) (by unfold r32; omega) (by omega) ?_))⟩
      rw [eo]
      simp (disch := first | (unfold r32; omega) | omega) only [j_lit, J_eq, j_ops]
      refine ⟨fun q => by omega, fun _ => ih (l + 1) r (i + 1) _ (by omega) (by omega) (f.si (by simp) _ _) (hM.left hA hb h1 h2 hl hr (fun t t0 t1 => ?_)) (fun t t0 t1 => ?_)⟩
      · by_cases e : t = i
        · rw [if_pos e, e, iq_eq (by unfold r32; omega)]
        · rw [if_neg e, iq_ne (Or.inr e) (by omega) (by omega)]
      · rw [iq_ne (Or.inr (by omega)) (by omega) t0]
        exact ho t t0 t1
    have right : r < hi → (l = mid ∨ A (iq m0 229 r) (iq m0 229 l)) → W_Order_merge_M_29 d (J mid) (J hi) (J l) (J r) (J i) (J 0) w m Q := by
      intro hr hl
      have or_ := h2.2 r a3 hr
      refine S_Order_merge_M_29 ?_
      simp (disch := first | (unfold r32; omega) | omega) only [j_lit, J_eq]
      refine ⟨fun _ => S_Order_merge_M_40 (c_at (n := 1200) rfl (by decide) (by unfold r32; omega) (by omega) (c_put (n := 1200) rfl (by decide) (by unfold r32; omega) (by omega) ?_)), fun q => absurd trivial q⟩
      rw [eo]
      simp (disch := first | (unfold r32; omega) | omega) only [j_lit, J_eq, j_ops]
      refine ⟨fun _ => ih l (r + 1) (i + 1) _ (by omega) (by omega) (f.si (by simp) _ _) (hM.right hA hb h1 h2 hr hl (fun t t0 t1 => ?_)) (fun t t0 t1 => ?_), fun q => absurd trivial q⟩
      · by_cases e : t = i
        · rw [if_pos e, e, iq_eq (by unfold r32; omega)]
        · rw [if_neg e, iq_ne (Or.inr e) (by omega) (by omega)]
      · rw [iq_ne (Or.inr (by omega)) (by omega) t0]
        exact ho t t0 t1
    refine ⟨fun q => left (by omega) (Or.inl (by omega)), fun q => ⟨fun q2 => right (by omega) (Or.inl (by omega)), fun q2 => ?_⟩⟩
    have ol := h1.2 l a1 (by omega)
    have or_ := h2.2 r a3 (by omega)
    refine c_at (n := 1200) rfl (by decide) (by unfold r32; omega) (by omega) (c_at (n := 1200) rfl (by decide) (by unfold r32; omega) (by omega) ?_)
    rw [eo, eo]
    refine hcmp m _ _ _ f (by omega) (by omega) (by omega) (fun g => ?_) (fun g => ?_)
    · exact ⟨fun _ => right (by omega) (Or.inr g), fun z => absurd z (by decide)⟩
    · refine ⟨fun z => absurd rfl z, fun _ => left (by omega) (Or.inr ?_)⟩
      rcases hA.2.2 (iq m0 229 l) (iq m0 229 r) (by omega) (by omega) (by omega) (by omega) (by omega) with z | z
      · exact z
      · exact absurd z g
theorem c_mergeM {Q : zM → Prop} {m : zM} {lo mid hi : Int} (hn : n ≤ 1200) (hA : ord A n) (hb : 0 ≤ lo ∧ hi ≤ n) (hm : lo ≤ mid ∧ mid ≤ hi) (h1 : SB A (iq m 229) lo mid) (h2 : SB A (iq m 229) mid hi)
    (hcmp : ∀ (m' : zM) (a b : Int) (P : Int32 → zM → Prop), fr [230] m m' → 0 ≤ b → b < a → a < n → (A a b → P (J 1) m') → (¬ A a b → P (J 0) m') → cI d 14 [.ref 228, .int (J a), .int (J b)] w m' P)
    (H : ∀ m', fr [230] m m' → SB A (iq m' 230) lo hi → (∀ t, 0 ≤ t → (t < lo ∨ hi ≤ t) → iq m' 230 t = iq m 230 t) → Q m') : cV (d + 1) 32 [.ref 228, .int (J lo), .int (J mid), .int (J hi)] w m Q :=
  S_Order_merge_M (c_mergeM_l hn hA hb h1 h2 hcmp H (hi - lo).toNat lo mid lo m (by omega) (by omega) (fr.rf _ _) (MG.zero hm) (fun _ _ _ => rfl))
theorem c_passM {Q : zM → Prop} {m0 : zM} {wd : Int} (hn : 0 ≤ n ∧ n ≤ 1200) (hA : ord A n) (hw : 1 ≤ wd ∧ wd < 1200) (hB : BK A (iq m0 229) n wd)
    (hcmp : ∀ (m' : zM) (a b : Int) (P : Int32 → zM → Prop), fr [230] m0 m' → 0 ≤ b → b < a → a < n → (A a b → P (J 1) m') → (¬ A a b → P (J 0) m') → cI d 14 [.ref 228, .int (J a), .int (J b)] w m' P)
    (H : ∀ m', fr [230] m0 m' → BK A (iq m' 230) n (2 * wd) → cV (d + 1) 161 [.ref 230, .ref 229, .int (J n)] w m' (fun m1 => W_Order_sort_M_14 (d + 1) (J n) (J (wd * 2)) w m1 Q)) :
    ∀ (k : Nat) (q : Nat) (lo : Int) (m : zM), (q : Int) * (2 * wd) = lo → lo ≤ n + 2 * wd → n ≤ lo + k → fr [230] m0 m → (∀ q' : Nat, q' < q → SB A (iq m 230) ((q' : Int) * (2 * wd)) (if (q' : Int) * (2 * wd) + 2 * wd ≤ n then (q' : Int) * (2 * wd) + 2 * wd else n)) → W_Order_sort_M_22 (d + 1) (J n) (J wd) (J lo) w m Q := by
  intro k
  induction k with
  | zero =>
    intro q lo m hlo hl2 hk f hI
    have q0 : 0 ≤ lo := by rw [← hlo]; exact Int.mul_nonneg (by omega) (by omega)
    refine S_Order_sort_M_22 ?_
    simp (disch := first | (unfold r32; omega) | omega) only [j_lit, J_le, j_ops]
    refine ⟨fun _ => H m f (fun q' hq' => hI q' ?_), fun y => by omega⟩
    have : (q' : Int) * (2 * wd) < (q : Int) * (2 * wd) := by omega
    have := Int.lt_of_mul_lt_mul_right this (by omega)
    omega
  | succ k ih =>
    intro q lo m hlo hl2 hk f hI
    have q0 : 0 ≤ lo := by rw [← hlo]; exact Int.mul_nonneg (by omega) (by omega)
    refine S_Order_sort_M_22 ?_
    simp (disch := first | (unfold r32; omega) | omega) only [j_lit, J_le, j_ops]
    refine ⟨fun y => H m f (fun q' hq' => hI q' ?_), fun y => ?_⟩
    · have : (q' : Int) * (2 * wd) < (q : Int) * (2 * wd) := by omega
      have := Int.lt_of_mul_lt_mul_right this (by omega)
      omega
    have eo : ∀ t, iq m 229 t = iq m0 229 t := f.i (by simp)
    have e1 : ((2 * q : Nat) : Int) * wd = lo := by rw [← hlo, Int.natCast_mul, Int.mul_comm ((2 : Nat) : Int) (q : Int), Int.mul_assoc]; rfl
    have e2 : ((2 * q + 1 : Nat) : Int) * wd = lo + wd := by rw [Int.natCast_add, Int.add_mul, e1]; simp
    have b1 := hB (2 * q)
    have b2 := hB (2 * q + 1)
    rw [e1] at b1
    rw [e2] at b2
    have b1 := b1 (by omega)
    refine c_min (by unfold r32; omega) (by unfold r32; omega) (c_min (by unfold r32; omega) (by unfold r32; omega) ?_)
    generalize hmid : (if lo + wd ≤ n then lo + wd else n) = mid at *
    generalize hhi : (if lo + 2 * wd ≤ n then lo + 2 * wd else n) = hi at *
    have hm : lo ≤ mid ∧ mid ≤ hi ∧ hi ≤ n := by
      rw [← hmid, ← hhi]
      split <;> split <;> omega
    have c1 : SB A (iq m 229) lo mid := b1.congr (fun i _ _ => eo i)
    have c2 : SB A (iq m 229) mid hi := by
      by_cases g : lo + wd < n
      · have b2 := b2 g
        have em : mid = lo + wd := by rw [← hmid, if_pos (by omega)]
        have eh : (if lo + wd + wd ≤ n then lo + wd + wd else n) = hi := by rw [← hhi, show lo + wd + wd = lo + 2 * wd by omega]
        rw [eh] at b2
        rw [em]
        exact b2.congr (fun i _ _ => eo i)
      · have em : mid = n := by rw [← hmid]; split <;> omega
        exact ⟨fun i j _ _ _ => by omega, fun i _ _ => by omega⟩
    refine c_mergeM (d := d) hn.2 hA ⟨q0, hm.2.2⟩ ⟨hm.1, hm.2.1⟩ c1 c2 (fun m' a b P f' => hcmp m' a b P (f.tr f')) (fun m' f' hS ho => ?_)
    have e3 : ((q + 1 : Nat) : Int) * (2 * wd) = lo + 2 * wd := by rw [Int.natCast_add, Int.add_mul, hlo]; simp
    refine ih (q + 1) (lo + 2 * wd) m' e3 (by omega) (by omega) (f.tr f') (fun q' hq' => ?_)
    by_cases g : q' = q
    · rw [g, hlo, hhi]
      exact hS
    · have le : ((q' + 1 : Nat) : Int) * (2 * wd) ≤ (q : Int) * (2 * wd) := Int.mul_le_mul_of_nonneg_right (by omega) (by omega)
      have e4 : ((q' + 1 : Nat) : Int) * (2 * wd) = (q' : Int) * (2 * wd) + 2 * wd := by rw [Int.natCast_add, Int.add_mul]; simp
      have q'0 : 0 ≤ (q' : Int) * (2 * wd) := Int.mul_nonneg (by omega) (by omega)
      refine (hI q' (by omega)).congr (fun i i0 i1 => ho i (by omega) (Or.inl ?_))
      rw [if_pos (by omega)] at i1
      omega
theorem c_widthM {Q : zM → Prop} {m0 : zM} (hn : 0 ≤ n ∧ n ≤ 1200) (hA : ord A n)
    (hcmp : ∀ (m' : zM) (a b : Int) (P : Int32 → zM → Prop), fr [229, 230] m0 m' → 0 ≤ b → b < a → a < n → (A a b → P (J 1) m') → (¬ A a b → P (J 0) m') → cI d 14 [.ref 228, .int (J a), .int (J b)] w m' P)
    (H : ∀ m', fr [229, 230] m0 m' → SB A (iq m' 229) 0 n → Q m') :
    ∀ (k : Nat) (wd : Int) (m : zM), 1 ≤ wd → wd ≤ 2400 → n ≤ wd + k → fr [229, 230] m0 m → BK A (iq m 229) n wd → W_Order_sort_M_14 (d + 1) (J n) (J wd) w m Q := by
  intro k
  induction k with
  | zero =>
    intro wd m h1 h2 hk f hB
    refine S_Order_sort_M_14 ?_
    simp (disch := first | (unfold r32; omega) | omega) only [j_lit, J_le]
    exact ⟨fun _ => H m f (hB.done hn.1 (by omega)), fun y => by omega⟩
  | succ k ih =>
    intro wd m h1 h2 hk f hB
    refine S_Order_sort_M_14 ?_
    simp (disch := first | (unfold r32; omega) | omega) only [j_lit, J_le]
    refine ⟨fun y => H m f (hB.done hn.1 y), fun y => ⟨fun y2 => by omega, fun y2 => ?_⟩⟩
    refine c_passM (d := d) (m0 := m) hn hA ⟨h1, by omega⟩ hB (fun m' a b P f' => hcmp m' a b P (f.tr (f'.mo (by simp)))) (fun m' f' hB' => ?_) n.toNat 0 0 m (by simp) (by omega) (by omega) (fr.rf _ _) (fun q' hq' => by omega)
    refine c_copy (n0 := 1200) (n1 := 1200) rfl rfl (by decide) (by decide) (by decide) ⟨hn.1, by omega, by omega⟩ (fun m2 f2 _ hc => ?_)
    rw [show wd * 2 = 2 * wd by omega]
    refine ih (2 * wd) m2 (by omega) (by omega) (by omega) ((f.tr (f'.mo (by simp))).tr (f2.mo (by simp))) (fun q hq => ?_)
    have q0 : 0 ≤ (q : Int) * (2 * wd) := Int.mul_nonneg (by omega) (by omega)
    refine (hB' q hq).congr (fun i i0 i1 => hc i (by omega) ?_)
    split at i1 <;> omega
theorem c_sortM {Q : zM → Prop} {m0 : zM} (hn : 0 ≤ n ∧ n ≤ 1200) (hA : ord A n)
    (hcmp : ∀ (m' : zM) (a b : Int) (P : Int32 → zM → Prop), fr [229, 230] m0 m' → 0 ≤ b → b < a → a < n → (A a b → P (J 1) m') → (¬ A a b → P (J 0) m') → cI d 14 [.ref 228, .int (J a), .int (J b)] w m' P)
    (H : ∀ m', fr [229, 230] m0 m' → SB A (iq m' 229) 0 n → Q m') : cV (d + 2) 31 [.ref 228, .int (J n)] w m0 Q := by
  refine S_Order_sort_M ?_
  simp only [j_lit]
  have key : ∀ (k : Nat) (z : Int) (m : zM), 0 ≤ z → z + k = n → fr [229] m0 m → (∀ i, 0 ≤ i → i < z → iq m 229 i = i) → W_Order_sort_M_2 (d + 1) (J n) (J z) w m Q := by
    intro k
    induction k with
    | zero =>
      intro z m hz hk f hI
      refine S_Order_sort_M_2 ?_
      simp (disch := first | (unfold r32; omega) | omega) only [j_lit, J_le]
      refine ⟨fun _ => ?_, fun y => by omega⟩
      exact c_widthM (m0 := m) hn hA (fun m' a b P f' => hcmp m' a b P ((f.mo (by simp)).tr f')) (fun m' f' hS => H m' ((f.mo (by simp)).tr f') hS) n.toNat 1 m (by omega) (by omega) (by omega) (fr.rf _ _) (BK.one (fun i i0 i1 => hI i i0 (by omega)))
    | succ k ih =>
      intro z m hz hk f hI
      refine S_Order_sort_M_2 ?_
      simp (disch := first | (unfold r32; omega) | omega) only [j_lit, J_le, j_ops]
      refine ⟨fun y => by omega, fun _ => c_put (n := 1200) rfl (by decide) (by unfold r32; omega) (by omega) (ih (z + 1) _ (by omega) (by omega) (f.si (by simp) _ _) (fun i i0 i1 => ?_))⟩
      by_cases e : i = z
      · rw [e, iq_eq (by unfold r32; omega)]
      · rw [iq_ne (Or.inr e) (by omega) i0]
        exact hI i i0 (by omega)
  exact key n.toNat 0 m0 (by omega) (by omega) (fr.rf _ _) (fun i _ _ => by omega)
end SRTM
/-! the class sorts: R -/
section SRTR
variable {d : Nat} {w : Nat × Nat × Nat} {A : Int → Int → Prop} {n : Int}
theorem c_mergeR_l {Q : zM → Prop} {m0 : zM} {lo mid hi : Int} (hn : n ≤ 1200) (hA : ord A n) (hb : 0 ≤ lo ∧ hi ≤ n) (h1 : SB A (iq m0 256) lo mid) (h2 : SB A (iq m0 256) mid hi)
    (hcmp : ∀ (m' : zM) (a b : Int) (P : Int32 → zM → Prop), fr [257] m0 m' → 0 ≤ b → b < a → a < n → (A a b → P (J 1) m') → (¬ A a b → P (J 0) m') → cI d 25 [.ref 255, .int (J a), .int (J b)] w m' P)
    (H : ∀ m', fr [257] m0 m' → SB A (iq m' 257) lo hi → (∀ t, 0 ≤ t → (t < lo ∨ hi ≤ t) → iq m' 257 t = iq m0 257 t) → Q m') :
    ∀ (k : Nat) (l r i : Int) (m : zM), hi ≤ i + k → i ≤ hi ∨ k = 0 → fr [257] m0 m → MG A (iq m0 256) (iq m 257) lo mid hi l r i → (∀ t, 0 ≤ t → (t < lo ∨ hi ≤ t) → iq m 257 t = iq m0 257 t) → W_Order_merge_R_6 d (J mid) (J hi) (J l) (J r) (J i) w m Q := by
  intro k
  induction k with
  | zero =>
    intro l r i m hk _ f hM ho
    have ⟨a1, a2, a3, a4, a5, _⟩ := hM
    refine S_Order_merge_R_6 ?_
    simp (disch := first | (unfold r32; omega) | omega) only [j_lit, J_le]
    exact ⟨fun _ => H m f (hM.fin (by omega)) ho, fun q => by omega⟩
  | succ k ih =>
    intro l r i m hk hk2 f hM ho
    have ⟨a1, a2, a3, a4, a5, _⟩ := hM
    have eo : ∀ t, iq m 256 t = iq m0 256 t := f.i (by simp)
    refine S_Order_merge_R_6 ?_
    simp (disch := first | (unfold r32; omega) | omega) only [j_lit, J_le]
    refine ⟨fun q => H m f (hM.fin (by omega)) ho, fun q0 => ?_⟩
    have left : l < mid → (r = hi ∨ A (iq m0 256 l) (iq m0 256 r)) → W_Order_merge_R_29 d (J mid) (J hi) (J l) (J r) (J i) (J 1) w m Q := by
      intro hl hr
      have ol := h1.2 l a1 hl
      refine S_Order_merge_R_29 ?_
      simp (disch := first | (unfold r32; omega) | omega) only [j_lit, J_eq]
      refine ⟨fun q => by omega, fun _ => S_Order_merge_R_40 (c_at (n := 1200) rfl (by decide) (by unfold r32; omega) (by omega) (c_put (n := 1200) rfl (by decide) (by unfold r32; omega) (by omega) ?_))⟩
      rw [eo]
      simp (disch := first | (unfold r32; omega) | omega) only [j_lit, J_eq, j_ops]
      refine ⟨fun q => by omega, fun _ => ih (l + 1) r (i + 1) _ (by omega) (by omega) (f.si (by simp) _ _) (hM.left hA hb h1 h2 hl hr (fun t t0 t1 => ?_)) (fun t t0 t1 => ?_)⟩
      · by_cases e : t = i
        · rw [if_pos e, e, iq_eq (by unfold r32; omega)]
        · rw [if_neg e, iq_ne (Or.inr e) (by omega) (by omega)]
      · rw [iq_ne (Or.inr (by omega)) (by omega) t0]
        exact ho t t0 t1
    have right : r < hi → (l = mid ∨ A (iq m0 256 r) (iq m0 256 l)) → W_Order_merge_R_29 d (J mid) (J hi) (J l) (J r) (J i) (J 0) w m Q := by
      intro hr hl
      have or_ := h2.2 r a3 hr
      refine S_Order_merge_R_29 ?_
      simp (disch := first | (unfold r32; omega) | omega) only [j_lit, J_eq]
      refine ⟨fun _ => S_Order_merge_R_40 (c_at (n := 1200) rfl (by decide) (by unfold r32; omega) (by omega) (c_put (n := 1200) rfl (by decide) (by unfold r32; omega) (by omega) ?_)), fun q => absurd trivial q⟩
      rw [eo]
      simp (disch := first | (unfold r32; omega) | omega) only [j_lit, J_eq, j_ops]
      refine ⟨fun _ => ih l (r + 1) (i + 1) _ (by omega) (by omega) (f.si (by simp) _ _) (hM.right hA hb h1 h2 hr hl (fun t t0 t1 => ?_)) (fun t t0 t1 => ?_), fun q => absurd trivial q⟩
      · by_cases e : t = i
        · rw [if_pos e, e, iq_eq (by unfold r32; omega)]
        · rw [if_neg e, iq_ne (Or.inr e) (by omega) (by omega)]
      · rw [iq_ne (Or.inr (by omega)) (by omega) t0]
        exact ho t t0 t1
    refine ⟨fun q => left (by omega) (Or.inl (by omega)), fun q => ⟨fun q2 => right (by omega) (Or.inl (by omega)), fun q2 => ?_⟩⟩
    have ol := h1.2 l a1 (by omega)
    have or_ := h2.2 r a3 (by omega)
    refine c_at (n := 1200) rfl (by decide) (by unfold r32; omega) (by omega) (c_at (n := 1200) rfl (by decide) (by unfold r32; omega) (by omega) ?_)
    rw [eo, eo]
    refine hcmp m _ _ _ f (by omega) (by omega) (by omega) (fun g => ?_) (fun g => ?_)
    · exact ⟨fun _ => right (by omega) (Or.inr g), fun z => absurd z (by decide)⟩
    · refine ⟨fun z => absurd rfl z, fun _ => left (by omega) (Or.inr ?_)⟩
      rcases hA.2.2 (iq m0 256 l) (iq m0 256 r) (by omega) (by omega) (by omega) (by omega) (by omega) with z | z
      · exact z
      · exact absurd z g
theorem c_mergeR {Q : zM → Prop} {m : zM} {lo mid hi : Int} (hn : n ≤ 1200) (hA : ord A n) (hb : 0 ≤ lo ∧ hi ≤ n) (hm : lo ≤ mid ∧ mid ≤ hi) (h1 : SB A (iq m 256) lo mid) (h2 : SB A (iq m 256) mid hi)
    (hcmp : ∀ (m' : zM) (a b : Int) (P : Int32 → zM → Prop), fr [257] m m' → 0 ≤ b → b < a → a < n → (A a b → P (J 1) m') → (¬ A a b → P (J 0) m') → cI d 25 [.ref 255, .int (J a), .int (J b)] w m' P)
    (H : ∀ m', fr [257] m m' → SB A (iq m' 257) lo hi → (∀ t, 0 ≤ t → (t < lo ∨ hi ≤ t) → iq m' 257 t = iq m 257 t) → Q m') : cV (d + 1) 32 [.ref 255, .int (J lo), .int (J mid), .int (J hi)] w m Q :=
  S_Order_merge_R (c_mergeR_l hn hA hb h1 h2 hcmp H (hi - lo).toNat lo mid lo m (by omega) (by omega) (fr.rf _ _) (MG.zero hm) (fun _ _ _ => rfl))
theorem c_passR {Q : zM → Prop} {m0 : zM} {wd : Int} (hn : 0 ≤ n ∧ n ≤ 1200) (hA : ord A n) (hw : 1 ≤ wd ∧ wd < 1200) (hB : BK A (iq m0 256) n wd)
    (hcmp : ∀ (m' : zM) (a b : Int) (P : Int32 → zM → Prop), fr [257] m0 m' → 0 ≤ b → b < a → a < n → (A a b → P (J 1) m') → (¬ A a b → P (J 0) m') → cI d 25 [.ref 255, .int (J a), .int (J b)] w m' P)
    (H : ∀ m', fr [257] m0 m' → BK A (iq m' 257) n (2 * wd) → cV (d + 1) 161 [.ref 257, .ref 256, .int (J n)] w m' (fun m1 => W_Order_sort_R_14 (d + 1) (J n) (J (wd * 2)) w m1 Q)) :
    ∀ (k : Nat) (q : Nat) (lo : Int) (m : zM), (q : Int) * (2 * wd) = lo → lo ≤ n + 2 * wd → n ≤ lo + k → fr [257] m0 m → (∀ q' : Nat, q' < q → SB A (iq m 257) ((q' : Int) * (2 * wd)) (if (q' : Int) * (2 * wd) + 2 * wd ≤ n then (q' : Int) * (2 * wd) + 2 * wd else n)) → W_Order_sort_R_22 (d + 1) (J n) (J wd) (J lo) w m Q := by
  intro k
  induction k with
  | zero =>
    intro q lo m hlo hl2 hk f hI
    have q0 : 0 ≤ lo := by rw [← hlo]; exact Int.mul_nonneg (by omega) (by omega)
    refine S_Order_sort_R_22 ?_
    simp (disch := first | (unfold r32; omega) | omega) only [j_lit, J_le, j_ops]
    refine ⟨fun _ => H m f (fun q' hq' => hI q' ?_), fun y => by omega⟩
    have : (q' : Int) * (2 * wd) < (q : Int) * (2 * wd) := by omega
    have := Int.lt_of_mul_lt_mul_right this (by omega)
    omega
  | succ k ih =>
    intro q lo m hlo hl2 hk f hI
    have q0 : 0 ≤ lo := by rw [← hlo]; exact Int.mul_nonneg (by omega) (by omega)
    refine S_Order_sort_R_22 ?_
    simp (disch := first | (unfold r32; omega) | omega) only [j_lit, J_le, j_ops]
    refine ⟨fun y => H m f (fun q' hq' => hI q' ?_), fun y => ?_⟩
    · have : (q' : Int) * (2 * wd) < (q : Int) * (2 * wd) := by omega
      have := Int.lt_of_mul_lt_mul_right this (by omega)
      omega
    have eo : ∀ t, iq m 256 t = iq m0 256 t := f.i (by simp)
    have e1 : ((2 * q : Nat) : Int) * wd = lo := by rw [← hlo, Int.natCast_mul, Int.mul_comm ((2 : Nat) : Int) (q : Int), Int.mul_assoc]; rfl
    have e2 : ((2 * q + 1 : Nat) : Int) * wd = lo + wd := by rw [Int.natCast_add, Int.add_mul, e1]; simp
    have b1 := hB (2 * q)
    have b2 := hB (2 * q + 1)
    rw [e1] at b1
    rw [e2] at b2
    have b1 := b1 (by omega)
    refine c_min (by unfold r32; omega) (by unfold r32; omega) (c_min (by unfold r32; omega) (by unfold r32; omega) ?_)
    generalize hmid : (if lo + wd ≤ n then lo + wd else n) = mid at *
    generalize hhi : (if lo + 2 * wd ≤ n then lo + 2 * wd else n) = hi at *
    have hm : lo ≤ mid ∧ mid ≤ hi ∧ hi ≤ n := by
      rw [← hmid, ← hhi]
      split <;> split <;> omega
    have c1 : SB A (iq m 256) lo mid := b1.congr (fun i _ _ => eo i)
    have c2 : SB A (iq m 256) mid hi := by
      by_cases g : lo + wd < n
      · have b2 := b2 g
        have em : mid = lo + wd := by rw [← hmid, if_pos (by omega)]
        have eh : (if lo + wd + wd ≤ n then lo + wd + wd else n) = hi := by rw [← hhi, show lo + wd + wd = lo + 2 * wd by omega]
        rw [eh] at b2
        rw [em]
        exact b2.congr (fun i _ _ => eo i)
      · have em : mid = n := by rw [← hmid]; split <;> omega
        exact ⟨fun i j _ _ _ => by omega, fun i _ _ => by omega⟩
    refine c_mergeR (d := d) hn.2 hA ⟨q0, hm.2.2⟩ ⟨hm.1, hm.2.1⟩ c1 c2 (fun m' a b P f' => hcmp m' a b P (f.tr f')) (fun m' f' hS ho => ?_)
    have e3 : ((q + 1 : Nat) : Int) * (2 * wd) = lo + 2 * wd := by rw [Int.natCast_add, Int.add_mul, hlo]; simp
    refine ih (q + 1) (lo + 2 * wd) m' e3 (by omega) (by omega) (f.tr f') (fun q' hq' => ?_)
    by_cases g : q' = q
    · rw [g, hlo, hhi]
      exact hS
    · have le : ((q' + 1 : Nat) : Int) * (2 * wd) ≤ (q : Int) * (2 * wd) := Int.mul_le_mul_of_nonneg_right (by omega) (by omega)
      have e4 : ((q' + 1 : Nat) : Int) * (2 * wd) = (q' : Int) * (2 * wd) + 2 * wd := by rw [Int.natCast_add, Int.add_mul]; simp
      have q'0 : 0 ≤ (q' : Int) * (2 * wd) := Int.mul_nonneg (by omega) (by omega)
      refine (hI q' (by omega)).congr (fun i i0 i1 => ho i (by omega) (Or.inl ?_))
      rw [if_pos (by omega)] at i1
      omega
theorem c_widthR {Q : zM → Prop} {m0 : zM} (hn : 0 ≤ n ∧ n ≤ 1200) (hA : ord A n)
    (hcmp : ∀ (m' : zM) (a b : Int) (P : Int32 → zM → Prop), fr [256, 257] m0 m' → 0 ≤ b → b < a → a < n → (A a b → P (J 1) m') → (¬ A a b → P (J 0) m') → cI d 25 [.ref 255, .int (J a), .int (J b)] w m' P)
    (H : ∀ m', fr [256, 257] m0 m' → SB A (iq m' 256) 0 n → Q m') :
    ∀ (k : Nat) (wd : Int) (m : zM), 1 ≤ wd → wd ≤ 2400 → n ≤ wd + k → fr [256, 257] m0 m → BK A (iq m 256) n wd → W_Order_sort_R_14 (d + 1) (J n) (J wd) w m Q := by
  intro k
  induction k with
  | zero =>
    intro wd m h1 h2 hk f hB
    refine S_Order_sort_R_14 ?_
    simp (disch := first | (unfold r32; omega) | omega) only [j_lit, J_le]
    exact ⟨fun _ => H m f (hB.done hn.1 (by omega)), fun y => by omega⟩
  | succ k ih =>
    intro wd m h1 h2 hk f hB
    refine S_Order_sort_R_14 ?_
    simp (disch := first | (unfold r32; omega) | omega) only [j_lit, J_le]
    refine ⟨fun y => H m f (hB.done hn.1 y), fun y => ⟨fun y2 => by omega, fun y2 => ?_⟩⟩
    refine c_passR (d := d) (m0 := m) hn hA ⟨h1, by omega⟩ hB (fun m' a b P f' => hcmp m' a b P (f.tr (f'.mo (by simp)))) (fun m' f' hB' => ?_) n.toNat 0 0 m (by simp) (by omega) (by omega) (fr.rf _ _) (fun q' hq' => by omega)
    refine c_copy (n0 := 1200) (n1 := 1200) rfl rfl (by decide) (by decide) (by decide) ⟨hn.1, by omega, by omega⟩ (fun m2 f2 _ hc => ?_)
    rw [show wd * 2 = 2 * wd by omega]
    refine ih (2 * wd) m2 (by omega) (by omega) (by omega) ((f.tr (f'.mo (by simp))).tr (f2.mo (by simp))) (fun q hq => ?_)
    have q0 : 0 ≤ (q : Int) * (2 * wd) := Int.mul_nonneg (by omega) (by omega)
    refine (hB' q hq).congr (fun i i0 i1 => hc i (by omega) ?_)
    split at i1 <;> omega
theorem c_sortR {Q : zM → Prop} {m0 : zM} (hn : 0 ≤ n ∧ n ≤ 1200) (hA : ord A n)
    (hcmp : ∀ (m' : zM) (a b : Int) (P : Int32 → zM → Prop), fr [256, 257] m0 m' → 0 ≤ b → b < a → a < n → (A a b → P (J 1) m') → (¬ A a b → P (J 0) m') → cI d 25 [.ref 255, .int (J a), .int (J b)] w m' P)
    (H : ∀ m', fr [256, 257] m0 m' → SB A (iq m' 256) 0 n → Q m') : cV (d + 2) 31 [.ref 255, .int (J n)] w m0 Q := by
  refine S_Order_sort_R ?_
  simp only [j_lit]
  have key : ∀ (k : Nat) (z : Int) (m : zM), 0 ≤ z → z + k = n → fr [256] m0 m → (∀ i, 0 ≤ i → i < z → iq m 256 i = i) → W_Order_sort_R_2 (d + 1) (J n) (J z) w m Q := by
    intro k
    induction k with
    | zero =>
      intro z m hz hk f hI
      refine S_Order_sort_R_2 ?_
      simp (disch := first | (unfold r32; omega) | omega) only [j_lit, J_le]
      refine ⟨fun _ => ?_, fun y => by omega⟩
      exact c_widthR (m0 := m) hn hA (fun m' a b P f' => hcmp m' a b P ((f.mo (by simp)).tr f')) (fun m' f' hS => H m' ((f.mo (by simp)).tr f') hS) n.toNat 1 m (by omega) (by omega) (by omega) (fr.rf _ _) (BK.one (fun i i0 i1 => hI i i0 (by omega)))
    | succ k ih =>
      intro z m hz hk f hI
      refine S_Order_sort_R_2 ?_
      simp (disch := first | (unfold r32; omega) | omega) only [j_lit, J_le, j_ops]
      refine ⟨fun y => by omega, fun _ => c_put (n := 1200) rfl (by decide) (by unfold r32; omega) (by omega) (ih (z + 1) _ (by omega) (by omega) (f.si (by simp) _ _) (fun i i0 i1 => ?_))⟩
      by_cases e : i = z
      · rw [e, iq_eq (by unfold r32; omega)]
      · rw [iq_ne (Or.inr e) (by omega) i0]
        exact hI i i0 (by omega)
  exact key n.toNat 0 m0 (by omega) (by omega) (fr.rf _ _) (fun i _ _ => by omega)
end SRTR
