/-! what the small machine's heap says of the machine's -/
/-- what stays the same all along: the script's cell, the text's, the first own cell, the heap at the start, the classes, the script -/
abbrev mm_Z : Type := (Nat × Nat × Nat × Heap) × va_G × (Nat → ClassId) × Nat × (Nat → Int32)
def mm_ad (z : mm_Z) (i : Nat) : Nat := if i = 1 then z.1.1 else if i = 2 then z.1.2.1 else z.1.2.2.1 + (i - 3)
def mm_tr (z : mm_Z) : Value → Value
  | .ref i => .ref (mm_ad z i)
  | v => v
def mm_dc (d : String) : Nat := if d = "I" then 0 else if d = "Z" then 3 else if d = "J" then 1 else 2
def mm_v (z : mm_Z) (h : mm_H) (i ty k : Nat) : Value := if ty = 1 then .long (hL h i k) else if ty = 2 then (if hR h i k = 0 then .null else .ref (mm_ad z (hR h i k))) else .int (hI h i k)
def mm_aty (kd : Nat) : Nat := if kd = 13 then 1 else if kd = 15 then 2 else 0
def mm_cell (z : mm_Z) (h : mm_H) (i : Nat) (H : Heap) : Prop :=
  ((hK h i).1 < 12 ∧ ∃ r, mm_cl[(hK h i).1]? = some r ∧ t_OB (mm_ad z i) (z.2.1.1 (hK h i).1) r.2.2 (z.2.1.2 (hK h i).1) H (fun k => mm_v z h i (mm_dc (r.2.1 k).2.2.1) k)) ∨
  (12 ≤ (hK h i).1 ∧ H[mm_ad z i]? = some (arrV (z.2.2.1 (hK h i).1) (hK h i).2 (fun j => mm_v z h i (mm_aty (hK h i).1) j)))
def mm_Rel (z : mm_Z) (h : mm_H) (H : Heap) : Prop :=
  3 ≤ hN h ∧ H.size + 3 = z.1.2.2.1 + hN h ∧ (∀ q : Nat, q < z.1.2.2.1 → H[q]? = z.1.2.2.2[q]?) ∧ (∀ i, (i < 3 ∨ hN h ≤ i) → 16 ≤ (hK h i).1) ∧ (∀ i, 3 ≤ i → i < hN h → (hK h i).1 < 16 ∧ mm_cell z h i H) ∧ hK h 1 = (20, z.2.2.2.1) ∧ ∀ j, hI h 1 j = z.2.2.2.2 j
theorem mm_ad_ne {z : mm_Z} {i j : Nat} (hi : 3 ≤ i) (hj : 3 ≤ j) (h : i ≠ j) : mm_ad z i ≠ mm_ad z j := by
  unfold mm_ad
  rw [if_neg (by omega), if_neg (by omega), if_neg (by omega), if_neg (by omega)]
  omega
theorem mm_ad_ge {z : mm_Z} {i : Nat} (hi : 3 ≤ i) : z.1.2.2.1 ≤ mm_ad z i := by
  unfold mm_ad
  rw [if_neg (by omega), if_neg (by omega)]
  omega
theorem mm_v_congr {z : mm_Z} {h h' : mm_H} {i : Nat} (hi : ∀ k, hI h' i k = hI h i k) (hl : ∀ k, hL h' i k = hL h i k) (hr : ∀ k, hR h' i k = hR h i k) (ty k : Nat) : mm_v z h' i ty k = mm_v z h i ty k := by
  unfold mm_v
  rw [hi, hl, hr]
theorem mm_cell_congr {z : mm_Z} {h h' : mm_H} {i : Nat} {H H' : Heap} (hk : hK h' i = hK h i) (hi : ∀ k, hI h' i k = hI h i k) (hl : ∀ k, hL h' i k = hL h i k) (hr : ∀ k, hR h' i k = hR h i k) (hH : H'[mm_ad z i]? = H[mm_ad z i]?) (hc : mm_cell z h i H) : mm_cell z h' i H' := by
  unfold mm_cell at hc ⊢
  rw [hk]
  rcases hc with ⟨h1, r, h2, h3⟩ | ⟨h1, h2⟩
  · exact Or.inl ⟨h1, r, h2, (h3.kept hH).to (fun k _ => (mm_v_congr hi hl hr _ _).symm)⟩
  · refine Or.inr ⟨h1, ?_⟩
    rw [hH, h2]
    congr 2
    funext j
    exact (mm_v_congr hi hl hr _ _).symm
/-- a write into the row of one cell -/
theorem mm_Rel.write {z : mm_Z} {h h' : mm_H} {H H' : Heap} (hr : mm_Rel z h H) {a : Nat} (ha : 3 ≤ a) (hN' : hN h' = hN h) (hK' : ∀ i, hK h' i = hK h i) (hI' : ∀ i, i ≠ a → ∀ k, hI h' i k = hI h i k) (hL' : ∀ i, i ≠ a → ∀ k, hL h' i k = hL h i k) (hR' : ∀ i, i ≠ a → ∀ k, hR h' i k = hR h i k)
    (hz : H'.size = H.size) (ho : ∀ q : Nat, q ≠ mm_ad z a → H'[q]? = H[q]?) (hc : mm_cell z h' a H') : mm_Rel z h' H' := by
  obtain ⟨r1, r2, r3, r4, r5, r6, r7⟩ := hr
  have hge := mm_ad_ge (z := z) ha
  refine ⟨by rw [hN']; exact r1, by rw [hz, hN']; exact r2, fun q hq => ?_, fun i hi => ?_, fun i h3 hi => ?_, by rw [hK']; exact r6, fun j => ?_⟩
  · rw [ho q (by omega)]; exact r3 q hq
  · rw [hK']; rw [hN'] at hi; exact r4 i hi
  · rw [hN'] at hi
    refine ⟨by rw [hK']; exact (r5 i h3 hi).1, ?_⟩
    by_cases e : i = a
    · subst e; exact hc
    · exact mm_cell_congr (hK' i) (hI' i e) (hL' i e) (hR' i e) (ho _ (mm_ad_ne h3 ha e)) (r5 i h3 hi).2
  · rw [hI' 1 (by omega)]; exact r7 j
/-- a cell more -/
theorem mm_Rel.alloc {z : mm_Z} {h : mm_H} {H H' : Heap} {kd n : Nat} (hr : mm_Rel z h H) (hkd : kd < 16) (hz : H'.size = H.size + 1) (ho : ∀ q : Nat, q < H.size → H'[q]? = H[q]?) (hc : mm_cell z (hA h kd n) (hN h) H') : mm_Rel z (hA h kd n) H' := by
  obtain ⟨r1, r2, r3, r4, r5, r6, r7⟩ := hr
  have eN : hN (hA h kd n) = hN h + 1 := rfl
  have eK : ∀ i, i ≠ hN h → hK (hA h kd n) i = hK h i := fun i hi => if_neg hi
  have eI : ∀ i, i ≠ hN h → ∀ k, hI (hA h kd n) i k = hI h i k := fun i hi k => if_neg hi
  have eL : ∀ i, i ≠ hN h → ∀ k, hL (hA h kd n) i k = hL h i k := fun i hi k => if_neg hi
  have eR : ∀ i, i ≠ hN h → ∀ k, hR (hA h kd n) i k = hR h i k := fun i hi k => if_neg hi
  refine ⟨by rw [eN]; omega, by rw [hz, eN]; omega, fun q hq => ?_, fun i hi => ?_, fun i h3 hi => ?_, by rw [eK 1 (by omega)]; exact r6, fun j => by rw [eI 1 (by omega)]; exact r7 j⟩
  · rw [ho q (by omega)]; exact r3 q hq
  · rw [eN] at hi; rw [eK i (by omega)]; exact r4 i (by omega)
  · rw [eN] at hi
    by_cases e : i = hN h
    · subst e
      refine ⟨?_, hc⟩
      have : hK (hA h kd n) (hN h) = (kd, n) := if_pos rfl
      rw [this]; exact hkd
    · refine ⟨by rw [eK i e]; exact (r5 i h3 (by omega)).1, mm_cell_congr (eK i e) (eI i e) (eL i e) (eR i e) (ho _ ?_) (r5 i h3 (by omega)).2⟩
      have : mm_ad z i = z.1.2.2.1 + (i - 3) := by unfold mm_ad; rw [if_neg (by omega), if_neg (by omega)]
      omega
theorem mm_Rel.in {z : mm_Z} {h : mm_H} {H : Heap} (hr : mm_Rel z h H) {a : Nat} (hk : (hK h a).1 < 16) : 3 ≤ a ∧ a < hN h := by
  have h4 := hr.2.2.2.1 a
  by_cases e : a < 3 ∨ hN h ≤ a
  · exact absurd (h4 e) (by omega)
  · omega
theorem mm_Rel.obj {z : mm_Z} {h : mm_H} {H : Heap} (hr : mm_Rel z h H) {a ci : Nat} {r : vw_C} (hk : (hK h a).1 = ci) (hci : ci < 12) (hc : mm_cl[ci]? = some r) : t_OB (mm_ad z a) (z.2.1.1 ci) r.2.2 (z.2.1.2 ci) H (fun k => mm_v z h a (mm_dc (r.2.1 k).2.2.1) k) := by
  obtain ⟨h3, h4⟩ := hr.in (a := a) (by omega)
  rcases (hr.2.2.2.2.1 a h3 h4).2 with ⟨_, r', e1, e2⟩ | ⟨e1, _⟩
  · rw [hk] at e1 e2
    have : r' = r := Option.some.inj (e1.symm.trans hc)
    subst this
    exact e2
  · omega
theorem mm_Rel.arr {z : mm_Z} {h : mm_H} {H : Heap} (hr : mm_Rel z h H) {a kd : Nat} (hk : (hK h a).1 = kd) (h1 : 12 ≤ kd) (h2 : kd < 16) : H[mm_ad z a]? = some (arrV (z.2.2.1 kd) (hK h a).2 (fun j => mm_v z h a (mm_aty kd) j)) := by
  obtain ⟨h3, h4⟩ := hr.in (a := a) (by omega)
  rcases (hr.2.2.2.2.1 a h3 h4).2 with ⟨e0, _⟩ | ⟨_, e1⟩
  · omega
  · rw [hk] at e1; exact e1
/-- pairs of place and value that the locals hold -/
def mm_pr (z : mm_Z) : Nat → mm_Lv → List (Nat × Value)
  | _, [] => []
  | i, none :: r => mm_pr z (i + 1) r
  | i, some v :: r => (i, mm_tr z v) :: mm_pr z (i + 1) r
theorem mm_tr_cat (z : mm_Z) (v : Value) : (mm_tr z v).category = v.category := by cases v <;> rfl
theorem mm_is2_cat (v : Value) : mm_is2 (some v) = true ↔ v.category = 2 := by cases v <;> simp [mm_is2, Value.category]
theorem mm_pr_mem (z : mm_Z) : ∀ (L : mm_Lv) (i j : Nat) (v : Value), (j, v) ∈ mm_pr z i L ↔ ∃ k w, j = i + k ∧ mm_lg L k = some (some w) ∧ v = mm_tr z w := by
  intro L
  induction L with
  | nil => intro i j v; simp [mm_pr, mm_lg]
  | cons a r ih =>
    intro i j v
    cases a with
    | none =>
      simp only [mm_pr, ih]
      constructor
      · rintro ⟨k, w, h1, h2, h3⟩
        exact ⟨k + 1, w, by omega, h2, h3⟩
      · rintro ⟨k, w, h1, h2, h3⟩
        cases k with
        | zero => simp [mm_lg] at h2
        | succ k => exact ⟨k, w, by omega, h2, h3⟩
    | some a =>
      simp only [mm_pr, List.mem_cons, ih]
      constructor
      · rintro (h | ⟨k, w, h1, h2, h3⟩)
        · cases h; exact ⟨0, a, by omega, rfl, rfl⟩
        · exact ⟨k + 1, w, by omega, h2, h3⟩
      · rintro ⟨k, w, h1, h2, h3⟩
        cases k with
        | zero => simp [mm_lg] at h2; subst h2; subst h3; exact Or.inl (by simp [h1])
        | succ k => exact Or.inr ⟨k, w, by omega, h2, h3⟩
theorem mm_lg_put (v : Option Value) : ∀ (L : mm_Lv) (k j : Nat) (w : Option Value), mm_lg (mm_put v L k) j = some w → (j = k ∧ w = v) ∨ (j ≠ k ∧ mm_lg L j = some w) := by
  intro L
  induction L with
  | nil => intro k j w h; cases k <;> simp [mm_put, mm_lg] at h
  | cons a r ih =>
    intro k j w h
    cases k with
    | zero =>
      cases j with
      | zero => simp [mm_put, mm_lg] at h; exact Or.inl ⟨rfl, h.symm⟩
      | succ j => exact Or.inr ⟨by omega, h⟩
    | succ k =>
      cases j with
      | zero => exact Or.inr ⟨by omega, h⟩
      | succ j =>
        rcases ih k j w h with ⟨h1, h2⟩ | ⟨h1, h2⟩
        · exact Or.inl ⟨by omega, h2⟩
        · exact Or.inr ⟨by omega, h2⟩
theorem mm_lg_cut : ∀ (L : mm_Lv) (k j : Nat) (w : Value), mm_lg (mm_cut true L k) j = some (some w) → mm_lg L j = some (some w) ∧ ¬ (j + 1 = k ∧ w.category = 2) := by
  intro L
  induction L with
  | nil => intro k j w h; cases k <;> simp [mm_cut, mm_lg] at h
  | cons a r ih =>
    intro k j w h
    match k, j, h with
    | 0, j, h => exact ⟨h, by omega⟩
    | 1, 0, h =>
      have h : some (if mm_is2 a then none else a) = some (some w) := h
      cases hb : mm_is2 a with
      | true => rw [hb] at h; simp at h
      | false =>
        rw [hb] at h
        have e : a = some w := Option.some.inj h
        subst e
        refine ⟨rfl, fun q => ?_⟩
        have := (mm_is2_cat w).mpr q.2
        rw [hb] at this; cases this
    | 1, j + 1, h => exact ⟨h, by omega⟩
    | k + 2, 0, h => exact ⟨h, by omega⟩
    | k + 2, j + 1, h =>
      obtain ⟨h1, h2⟩ := ih (k + 1) j w h
      exact ⟨h1, fun q => h2 ⟨by omega, q.2⟩⟩
/-- a store: of a value of one slot -/
theorem mm_has_st1 {z : mm_Z} {ls : Array Slot} {n k : Nat} {L : mm_Lv} {v : Value} (hv : v.category = 1)
    (h : lv_has ls n ((k, mm_tr z v) :: (mm_pr z 0 L).filter (fun q => !(q.1 == k) && !(q.1 + 1 == k && q.2.category == 2)))) : lv_has ls n (mm_pr z 0 (mm_st L k v)) := by
  refine ⟨h.1, h.2.1, fun q hq => ?_⟩
  obtain ⟨j, w⟩ := q
  obtain ⟨i, w', e1, e2, e3⟩ := (mm_pr_mem z _ _ _ _).mp hq
  have hb : mm_is2 (some v) = false := by
    cases hb : mm_is2 (some v) with
    | false => rfl
    | true => exact absurd ((mm_is2_cat v).mp hb) (by omega)
  unfold mm_st at e2
  rw [hb] at e2
  have e2 : mm_lg (mm_put (some v) (mm_cut true L k) k) i = some (some w') := e2
  have ej : j = i := by omega
  subst ej
  rcases mm_lg_put _ _ _ _ _ e2 with ⟨h1, h2⟩ | ⟨h1, h2⟩
  · cases h2
    subst h1
    exact h.2.2 _ (by rw [e3]; exact List.mem_cons_self)
  · obtain ⟨h3, h4⟩ := mm_lg_cut _ _ _ _ h2
    refine h.2.2 _ (List.mem_cons_of_mem _ (List.mem_filter.mpr ⟨(mm_pr_mem z _ _ _ _).mpr ⟨j, w', by omega, h3, e3⟩, ?_⟩))
    have h5 : ¬ (j + 1 = k ∧ w.category = 2) := by rw [e3, mm_tr_cat]; exact h4
    have h6 : (j == k) = false := by simp [h1]
    by_cases h7 : j + 1 = k
    · have h8 : ¬ w.category = 2 := fun q => h5 ⟨h7, q⟩
      simp [h6, h7, h8]
    · simp [h6, h7]
theorem mm_has_st2 {z : mm_Z} {ls : Array Slot} {n k : Nat} {L : mm_Lv} {v : Value} (hv : v.category = 2)
    (h : lv_has ls n ((k, mm_tr z v) :: (mm_pr z 0 L).filter (fun q => !(q.1 == k) && (!(q.1 == k + 1) && !(q.1 + 1 == k && q.2.category == 2))))) : lv_has ls n (mm_pr z 0 (mm_st L k v)) := by
  refine ⟨h.1, h.2.1, fun q hq => ?_⟩
  obtain ⟨j, w⟩ := q
  obtain ⟨i, w', e1, e2, e3⟩ := (mm_pr_mem z _ _ _ _).mp hq
  have hb : mm_is2 (some v) = true := (mm_is2_cat v).mpr hv
  unfold mm_st at e2
  rw [hb] at e2
  have e2 : mm_lg (mm_put none (mm_put (some v) (mm_cut true L k) k) (k + 1)) i = some (some w') := e2
  have ej : j = i := by omega
  subst ej
  rcases mm_lg_put _ _ _ _ _ e2 with ⟨h1, h2⟩ | ⟨h0, e2⟩
  · cases h2
  rcases mm_lg_put _ _ _ _ _ e2 with ⟨h1, h2⟩ | ⟨h1, h2⟩
  · cases h2
    subst h1
    exact h.2.2 _ (by rw [e3]; exact List.mem_cons_self)
  · obtain ⟨h3, h4⟩ := mm_lg_cut _ _ _ _ h2
    refine h.2.2 _ (List.mem_cons_of_mem _ (List.mem_filter.mpr ⟨(mm_pr_mem z _ _ _ _).mpr ⟨j, w', by omega, h3, e3⟩, ?_⟩))
    have h5 : ¬ (j + 1 = k ∧ w.category = 2) := by rw [e3, mm_tr_cat]; exact h4
    have h6 : (j == k) = false := by simp [h1]
    have h9 : (j == k + 1) = false := by simp [h0]
    by_cases h7 : j + 1 = k
    · have h8 : ¬ w.category = 2 := fun q => h5 ⟨h7, q⟩
      simp [h6, h7, h8]
      omega
    · simp [h6, h7, h9]
theorem mm_has_at {z : mm_Z} {ls : Array Slot} {n k : Nat} {L : mm_Lv} {v : Value} (h : lv_has ls n (mm_pr z 0 L)) (hk : mm_lg L k = some (some v)) : ls[k]? = some (.val (mm_tr z v)) :=
  h.2.2 (k, mm_tr z v) ((mm_pr_mem z _ _ _ _).mpr ⟨k, v, by omega, hk, rfl⟩)
theorem mm_pad_lg : ∀ (n : Nat) (L : mm_Lv) (j : Nat) (w : Value), mm_lg (mm_pad L n) j = some (some w) → mm_lg L j = some (some w) := by
  intro n
  induction n with
  | zero => intro L j w h; simp [mm_pad, mm_lg] at h
  | succ n ih =>
    intro L j w h
    cases L with
    | nil =>
      cases j with
      | zero => simp [mm_pad, mm_lg] at h
      | succ j => have := ih [] j w h; simp [mm_lg] at this
    | cons a r =>
      cases j with
      | zero => exact h
      | succ j => exact ih r j w h
theorem mm_en_args (z : mm_Z) : ∀ (as : List Value) (i j : Nat) (w : Value), mm_lg (mm_en as) j = some (some w) → (i + j, mm_tr z w) ∈ lv_args i (as.map (mm_tr z)) := by
  intro as
  induction as with
  | nil => intro i j w h; simp [mm_en, mm_lg] at h
  | cons a r ih =>
    intro i j w h
    simp only [List.map_cons, lv_args]
    unfold mm_en at h
    cases hb : mm_is2 (some a) with
    | true =>
      rw [hb] at h
      have hc : (mm_tr z a).category = 2 := by rw [mm_tr_cat]; exact (mm_is2_cat a).mp hb
      rw [if_pos hc]
      match j, h with
      | 0, h => have : a = w := Option.some.inj (Option.some.inj h); subst this; exact List.mem_cons_self
      | 1, h => simp [mm_lg] at h
      | j + 2, h => exact List.mem_cons_of_mem _ (by have := ih (i + 2) j w h; rwa [show i + 2 + j = i + (j + 2) by omega] at this)
    | false =>
      rw [hb] at h
      have hc : ¬ (mm_tr z a).category = 2 := fun q => by
        rw [mm_tr_cat] at q
        rw [(mm_is2_cat a).mpr q] at hb
        cases hb
      rw [if_neg hc]
      match j, h with
      | 0, h => have : a = w := Option.some.inj (Option.some.inj h); subst this; exact List.mem_cons_self
      | j + 1, h => exact List.mem_cons_of_mem _ (by have := ih (i + 1) j w h; rwa [show i + 1 + j = i + (j + 1) by omega] at this)
theorem mm_has_entry {z : mm_Z} {ls : Array Slot} {n : Nat} {as : List Value} (h : lv_has ls n (lv_args 0 (as.map (mm_tr z)))) : lv_has ls n (mm_pr z 0 (mm_pad (mm_en as) n)) := by
  refine ⟨h.1, h.2.1, fun q hq => ?_⟩
  obtain ⟨j, w⟩ := q
  obtain ⟨i, w', e1, e2, e3⟩ := (mm_pr_mem z _ _ _ _).mp hq
  have e4 := mm_en_args z as 0 i w' (mm_pad_lg _ _ _ _ e2)
  rw [e3, e1]
  exact h.2.2 _ e4
