/-! rows of numbers as one number: five digits to the base 256, each one more than its number -/
def dl (g : Int → Int) (k : Int) (n : Nat) : List Int := (List.range n).map (fun j : Nat => g (k + (j : Int)) + 1)
def pkf (g : Int → Int) (k n : Int) : Int := en 256 5 (dl g k n.toNat)
def okd (g : Int → Int) (k n : Int) : Prop := ∀ j, 0 ≤ j → j < n → 0 ≤ g (k + j) ∧ g (k + j) < 240
theorem dl_len (g : Int → Int) (k : Int) (n : Nat) : (dl g k n).length = n := by unfold dl; rw [List.length_map, List.length_range]
theorem dl_s (g : Int → Int) (k : Int) (n : Nat) : dl g k (n + 1) = dl g k n ++ [g (k + n) + 1] := by unfold dl; rw [List.range_succ, List.map_append]; rfl
theorem dl_bd {g : Int → Int} {k n : Int} (h : okd g k n) : ∀ x ∈ dl g k n.toNat, 0 ≤ x ∧ x < 256 := by
  intro x hx
  unfold dl at hx
  rw [List.mem_map] at hx
  obtain ⟨j, hj, e⟩ := hx
  rw [List.mem_range] at hj
  have := h j (by omega) (by omega)
  omega
theorem dl_get (g : Int → Int) (k : Int) (n j : Nat) : (dl g k n).getD j 0 = if j < n then g (k + j) + 1 else 0 := by
  by_cases h : j < n
  · rw [if_pos h, List.getD_eq_getElem?_getD, List.getElem?_eq_getElem (by rw [dl_len]; exact h)]
    simp [dl]
  · rw [if_neg h, List.getD_eq_getElem?_getD, List.getElem?_eq_none (by rw [dl_len]; omega)]
    rfl
theorem dl_drop (g : Int → Int) (k : Int) {n i : Nat} (h : i ≤ n) : (dl g k n).drop i = dl g (k + i) (n - i) := by
  refine List.ext_getElem (by rw [List.length_drop, dl_len, dl_len]) (fun j h1 h2 => ?_)
  rw [List.getElem_drop]
  simp only [dl, List.getElem_map, List.getElem_range]
  congr 2
  omega
theorem dl_take (g : Int → Int) (k : Int) {n i : Nat} (h : i ≤ n) : (dl g k n).take i = dl g k i := by
  refine List.ext_getElem (by rw [List.length_take, dl_len, dl_len]; omega) (fun j h1 h2 => ?_)
  rw [List.getElem_take]
  simp only [dl, List.getElem_map, List.getElem_range]
theorem p256 {n : Nat} : (0 : Int) < 256 ^ n := by
  induction n with
  | zero => decide
  | succ n ih => rw [Int.pow_succ]; omega
section PKF
variable {g g' : Int → Int} {k k' n n' : Int}
theorem pkf_0 (g : Int → Int) (k : Int) : pkf g k 0 = 0 := en_nil 256 5
theorem pkf_s (h0 : 0 ≤ n) (h4 : n ≤ 4) : pkf g k (n + 1) = pkf g k n + (g (k + n) + 1) * 256 ^ (4 - n.toNat) := by
  unfold pkf
  rw [show (n + 1).toNat = n.toNat + 1 by omega, dl_s, en_app 256 5 _ _ (by rw [dl_len]; omega), dl_len, show 5 - n.toNat = (4 - n.toNat) + 1 by omega, en_one, show ((n.toNat : Nat) : Int) = n by omega]
theorem pkf_bd (h : okd g k n) : 0 ≤ pkf g k n ∧ pkf g k n < 1099511627776 := by
  have := en_bd (B := 256) (by decide) 5 (dl g k n.toNat) (dl_bd h)
  have e : (256 : Int) ^ 5 = 1099511627776 := by decide
  rw [e] at this
  exact this
/-- the lower digits are 0 -/
theorem pkf_mul (h5 : n ≤ 5) : ∃ A, pkf g k n = A * 256 ^ (5 - n.toNat) ∧ A = en 256 n.toNat (dl g k n.toNat) := by
  refine ⟨_, ?_, rfl⟩
  have := en_scale 256 (5 - n.toNat) n.toNat (dl g k n.toNat) (by rw [dl_len]; omega)
  rw [show n.toNat + (5 - n.toNat) = 5 by omega] at this
  exact this
theorem pkf_dig (h : okd g k n) {j : Nat} (hj : j < 5) : pkf g k n / 256 ^ (4 - j) % 256 = if (j : Int) < n then g (k + j) + 1 else 0 := by
  have := en_dig (B := 256) (by decide) (k := 5) (i := j) (l := dl g k n.toNat) hj (dl_bd h)
  rw [show 5 - 1 - j = 4 - j by omega, dl_get] at this
  unfold pkf
  rw [this]
  by_cases q : (j : Int) < n
  · rw [if_pos q, if_pos (by omega)]
  · rw [if_neg q, if_neg (by omega)]
theorem pkf_inj (h : okd g k n) (h' : okd g' k' n') (h0 : 0 ≤ n) (h0' : 0 ≤ n') (h5 : n ≤ 5) (h5' : n' ≤ 5) : pkf g k n = pkf g' k' n' ↔ n = n' ∧ ∀ j, 0 ≤ j → j < n → g (k + j) = g' (k' + j) := by
  constructor
  · intro e
    have dig : ∀ j : Nat, j < 5 → (if (j : Int) < n then g (k + j) + 1 else 0) = (if (j : Int) < n' then g' (k' + j) + 1 else 0) := fun j hj => by rw [← pkf_dig h hj, ← pkf_dig h' hj, e]
    have hn : n = n' := by
      rcases Int.lt_trichotomy n n' with q | q | q
      · have d := dig n.toNat (by omega)
        rw [if_neg (by omega), if_pos (by omega)] at d
        have := h' (n.toNat : Int) (by omega) (by omega)
        omega
      · exact q
      · have d := dig n'.toNat (by omega)
        rw [if_pos (by omega), if_neg (by omega)] at d
        have := h (n'.toNat : Int) (by omega) (by omega)
        omega
    refine ⟨hn, fun j j0 j1 => ?_⟩
    have d := dig j.toNat (by omega)
    rw [if_pos (by omega), if_pos (by omega), show ((j.toNat : Nat) : Int) = j by omega] at d
    omega
  · intro ⟨hn, e⟩
    unfold pkf
    subst hn
    congr 1
    refine List.ext_getElem (by rw [dl_len, dl_len]) (fun j h1 h2 => ?_)
    rw [dl_len] at h1
    simp only [dl, List.getElem_map, List.getElem_range]
    rw [e j (by omega) (by omega)]
/-- the same up to i, then less -/
theorem pkf_lt1 (h : okd g k n) (h' : okd g' k' n') {i : Int} (h0 : 0 ≤ i) (hn : i < n) (hn' : i < n') (h5 : n ≤ 5) (h5' : n' ≤ 5) (e : ∀ j, 0 ≤ j → j < i → g (k + j) = g' (k' + j)) (hl : g (k + i) < g' (k' + i)) : pkf g k n < pkf g' k' n' := by
  have sp : ∀ {g : Int → Int} {k n : Int}, okd g k n → i < n → n ≤ 5 → ∃ r, pkf g k n = pkf g k i + (g (k + i) + 1) * 256 ^ (4 - i.toNat) + r ∧ 0 ≤ r ∧ r < 256 ^ (4 - i.toNat) := by
    intro g k n h hn h5
    have a := en_app 256 5 (dl g k (i + 1).toNat) ((dl g k n.toNat).drop (i + 1).toNat) (by rw [dl_len]; omega)
    rw [← dl_take g k (n := n.toNat) (by omega), List.take_append_drop] at a
    rw [dl_take g k (by omega), dl_len] at a
    have b := en_bd (B := 256) (by decide) (5 - (i + 1).toNat) ((dl g k n.toNat).drop (i + 1).toNat) (fun x hx => dl_bd h x (List.mem_of_mem_drop hx))
    have c := pkf_s (g := g) (k := k) (n := i) h0 (by omega)
    refine ⟨en 256 (5 - (i + 1).toNat) ((dl g k n.toNat).drop (i + 1).toNat), ?_, ?_⟩
    · rw [← c]; exact a
    · rw [show 4 - i.toNat = 5 - (i + 1).toNat by omega]; exact b
  obtain ⟨r, e1, r0, r1⟩ := sp h hn h5
  obtain ⟨r', e1', r0', r1'⟩ := sp h' hn' h5'
  have eq : pkf g k i = pkf g' k' i := (pkf_inj (fun j a b => h j a (by omega)) (fun j a b => h' j a (by omega)) h0 h0 (by omega) (by omega)).mpr ⟨rfl, e⟩
  have hp := p256 (n := 4 - i.toNat)
  generalize (256 : Int) ^ (4 - i.toNat) = P at *
  have hm : (g (k + i) + 1 + 1) * P ≤ (g' (k' + i) + 1) * P := Int.mul_le_mul_of_nonneg_right (by omega) (by omega)
  rw [Int.add_mul (g (k + i) + 1) 1 P] at hm
  rw [e1, e1', eq]
  omega
/-- the same, and shorter -/
theorem pkf_lt2 (h : okd g k n) (h' : okd g' k' n') (h0 : 0 ≤ n) (hl : n < n') (h5 : n' ≤ 5) (e : ∀ j, 0 ≤ j → j < n → g (k + j) = g' (k' + j)) : pkf g k n < pkf g' k' n' := by
  have a := en_app 256 5 (dl g' k' n.toNat) ((dl g' k' n'.toNat).drop n.toNat) (by rw [dl_len]; omega)
  rw [← dl_take g' k' (n := n'.toNat) (by omega), List.take_append_drop] at a
  rw [dl_take g' k' (by omega), dl_len] at a
  have eq : pkf g k n = pkf g' k' n := (pkf_inj h (fun j a b => h' j a (by omega)) h0 h0 (by omega) (by omega)).mpr ⟨rfl, e⟩
  have hd : (dl g' k' n'.toNat).drop n.toNat = (g' (k' + n) + 1) :: (dl g' k' n'.toNat).drop (n.toNat + 1) := by
    rw [dl_drop g' k' (by omega), dl_drop g' k' (by omega)]
    refine List.ext_getElem (by rw [List.length_cons, dl_len, dl_len]; omega) (fun j h1 h2 => ?_)
    cases j with
    | zero => simp only [dl, List.getElem_map, List.getElem_range, List.getElem_cons_zero]; congr 2; omega
    | succ j => simp only [dl, List.getElem_map, List.getElem_range, List.getElem_cons_succ]; congr 2; omega
  rw [hd, show 5 - n.toNat = (4 - n.toNat) + 1 by omega] at a
  have e2 : en 256 ((4 - n.toNat) + 1) ((g' (k' + n) + 1) :: (dl g' k' n'.toNat).drop (n.toNat + 1)) = (g' (k' + n) + 1) * 256 ^ (4 - n.toNat) + en 256 (4 - n.toNat) ((dl g' k' n'.toNat).drop (n.toNat + 1)) := rfl
  have b := en_bd (B := 256) (by decide) (4 - n.toNat) ((dl g' k' n'.toNat).drop (n.toNat + 1)) (fun x hx => dl_bd h' x (List.mem_of_mem_drop hx))
  have hg := h' n h0 hl
  have hp := p256 (n := 4 - n.toNat)
  have a' : pkf g' k' n' = pkf g' k' n + ((g' (k' + n) + 1) * 256 ^ (4 - n.toNat) + en 256 (4 - n.toNat) ((dl g' k' n'.toNat).drop (n.toNat + 1))) := a
  generalize (256 : Int) ^ (4 - n.toNat) = P at *
  have hm : 1 * P ≤ (g' (k' + n) + 1) * P := Int.mul_le_mul_of_nonneg_right (by omega) (by omega)
  rw [eq, a']
  omega
/-- a stretch of it -/
def prt (x f l : Int) : Int := x * 256 ^ f.toNat % 1099511627776 / 256 ^ (5 - l).toNat * 256 ^ (5 - l).toNat
theorem pkf_prt (h : okd g k n) (h5 : n ≤ 5) {f l : Int} (h0 : 0 ≤ f) (hl : 0 ≤ l) (hfl : f + l ≤ n) : prt (pkf g k n) f l = pkf g (k + f) l := by
  have hb := dl_bd h
  have e1 := en_mod (B := 256) (by decide) (k := 5) (n := f.toNat) (l := dl g k n.toNat) (by omega) hb
  have e2 := en_scale 256 f.toNat (5 - f.toNat) ((dl g k n.toNat).drop f.toNat) (by rw [List.length_drop, dl_len]; omega)
  rw [show 5 - f.toNat + f.toNat = 5 by omega] at e2
  have e3 : pkf g k n * 256 ^ f.toNat % 1099511627776 = en 256 5 ((dl g k n.toNat).drop f.toNat) := by
    rw [e2, ← e1]
    have e : (1099511627776 : Int) = 256 ^ (5 - f.toNat) * 256 ^ f.toNat := by rw [← Int.pow_add, show 5 - f.toNat + f.toNat = 5 by omega]; decide
    rw [e]
    rw [Int.mul_comm (pkf g k n), Int.mul_comm (256 ^ (5 - f.toNat)), Int.mul_emod_mul_of_pos _ _ p256, Int.mul_comm]
    rfl
  have hb2 : ∀ x ∈ (dl g k n.toNat).drop f.toNat, 0 ≤ x ∧ x < 256 := fun x hx => hb x (List.mem_of_mem_drop hx)
  have e4 := en_div (B := 256) (by decide) (k := 5) (n := l.toNat) (l := (dl g k n.toNat).drop f.toNat) (by omega) hb2
  have e5 := en_scale 256 (5 - l.toNat) l.toNat (((dl g k n.toNat).drop f.toNat).take l.toNat) (by rw [List.length_take]; omega)
  rw [show l.toNat + (5 - l.toNat) = 5 by omega] at e5
  unfold prt
  rw [e3, show (5 - l).toNat = 5 - l.toNat by omega, e4, ← e5]
  unfold pkf
  rw [dl_drop g k (by omega), dl_take g _ (by omega), show ((f.toNat : Nat) : Int) = f by omega]
end PKF
