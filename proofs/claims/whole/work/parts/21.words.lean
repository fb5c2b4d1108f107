/-! words: rows of letters 1 .. 26, as numbers of ten digits -/
def en (B : Int) : Nat → List Int → Int
  | 0, _ => 0
  | _ + 1, [] => 0
  | k + 1, x :: r => x * B ^ k + en B k r
def wd (l : List Int) : Prop := l.length ≤ 10 ∧ ∀ x ∈ l, 1 ≤ x ∧ x ≤ 26
theorem en_nil (B : Int) (k : Nat) : en B k [] = 0 := by cases k <;> rfl
theorem en_bd {B : Int} (hB : 1 ≤ B) : ∀ (k : Nat) (l : List Int), (∀ x ∈ l, 0 ≤ x ∧ x < B) → 0 ≤ en B k l ∧ en B k l < B ^ k := by
  intro k
  induction k with
  | zero => intro l _; exact ⟨Int.le_refl 0, by show (0 : Int) < B ^ 0; simp⟩
  | succ k ih =>
    intro l hl
    have hp : (0 : Int) < B ^ k := Int.pow_pos (by omega)
    cases l with
    | nil =>
      refine ⟨Int.le_refl 0, ?_⟩
      show (0 : Int) < B ^ (k + 1)
      exact Int.pow_pos (by omega)
    | cons x r =>
      obtain ⟨h1, h2⟩ := ih r (fun y hy => hl y (List.mem_cons_of_mem _ hy))
      obtain ⟨h3, h4⟩ := hl x List.mem_cons_self
      have e : B ^ (k + 1) = B * B ^ k := Int.pow_succ' ..
      have g1 : 0 ≤ x * B ^ k := Int.mul_nonneg h3 (by omega)
      have g2 : (x + 1) * B ^ k ≤ B * B ^ k := Int.mul_le_mul_of_nonneg_right (by omega) (by omega)
      have g3 : (x + 1) * B ^ k = x * B ^ k + B ^ k := by rw [Int.add_mul, Int.one_mul]
      refine ⟨?_, ?_⟩
      · show 0 ≤ x * B ^ k + en B k r
        omega
      · show x * B ^ k + en B k r < B ^ (k + 1)
        omega
theorem en_app (B : Int) : ∀ (k : Nat) (a b : List Int), a.length ≤ k → en B k (a ++ b) = en B k a + en B (k - a.length) b := by
  intro k
  induction k with
  | zero =>
    intro a b h
    have : a = [] := List.length_eq_zero_iff.mp (by omega)
    subst this
    simp [en]
  | succ k ih =>
    intro a b h
    cases a with
    | nil => rw [en_nil]; simp
    | cons x r =>
      simp only [List.length_cons] at h
      show x * B ^ k + en B k (r ++ b) = x * B ^ k + en B k r + en B (k + 1 - (r.length + 1)) b
      rw [ih r b (by omega), Nat.add_sub_add_right, Int.add_assoc]
theorem en_scale (B : Int) (n : Nat) : ∀ (k : Nat) (x : List Int), x.length ≤ k → en B (k + n) x = en B k x * B ^ n := by
  intro k
  induction k with
  | zero =>
    intro x h
    have : x = [] := List.length_eq_zero_iff.mp (by omega)
    subst this
    rw [en_nil, en_nil, Int.zero_mul]
  | succ k ih =>
    intro x h
    cases x with
    | nil => rw [en_nil, en_nil, Int.zero_mul]
    | cons y r =>
      simp only [List.length_cons] at h
      rw [show k + 1 + n = (k + n) + 1 by omega]
      show y * B ^ (k + n) + en B (k + n) r = (y * B ^ k + en B k r) * B ^ n
      rw [ih r (by omega), Int.add_mul, Int.pow_add, Int.mul_assoc]
theorem en_split (B : Int) {k n : Nat} (l : List Int) (h : n ≤ k) : en B k l = en B n (l.take n) * B ^ (k - n) + en B (k - n) (l.drop n) := by
  by_cases hl : n ≤ l.length
  · have e : (l.take n).length = n := by rw [List.length_take]; omega
    have h1 : en B k (l.take n ++ l.drop n) = _ := en_app B k (l.take n) (l.drop n) (by rw [e]; exact h)
    rw [List.take_append_drop, e] at h1
    rw [h1, ← en_scale B (k - n) n (l.take n) (by omega), show n + (k - n) = k by omega]
  · rw [List.take_of_length_le (by omega), List.drop_of_length_le (by omega), en_nil, Int.add_zero, ← en_scale B (k - n) n l (by omega), show n + (k - n) = k by omega]
theorem en_div {B : Int} (hB : 1 ≤ B) {k n : Nat} {l : List Int} (h : n ≤ k) (hl : ∀ x ∈ l, 0 ≤ x ∧ x < B) : en B k l / B ^ (k - n) = en B n (l.take n) := by
  have hp : (0 : Int) < B ^ (k - n) := Int.pow_pos (by omega)
  obtain ⟨h1, h2⟩ := en_bd hB (k - n) (l.drop n) (fun x hx => hl x (List.mem_of_mem_drop hx))
  rw [en_split B l h, Int.add_comm, Int.add_mul_ediv_right _ _ (by omega), Int.ediv_eq_zero_of_lt h1 h2, Int.zero_add]
theorem en_mod {B : Int} (hB : 1 ≤ B) {k n : Nat} {l : List Int} (h : n ≤ k) (hl : ∀ x ∈ l, 0 ≤ x ∧ x < B) : en B k l % B ^ (k - n) = en B (k - n) (l.drop n) := by
  obtain ⟨h1, h2⟩ := en_bd hB (k - n) (l.drop n) (fun x hx => hl x (List.mem_of_mem_drop hx))
  rw [en_split B l h, Int.add_comm, Int.add_mul_emod_self_right, Int.emod_eq_of_lt h1 h2]
theorem wd_b {l : List Int} (h : wd l) {B : Int} (hB : 27 ≤ B) : ∀ x ∈ l, 0 ≤ x ∧ x < B := fun x hx => by
  have := h.2 x hx
  omega
/-- digit i -/
theorem en_dig {B : Int} (hB : 1 ≤ B) {k i : Nat} {l : List Int} (h : i < k) (hl : ∀ x ∈ l, 0 ≤ x ∧ x < B) : en B k l / B ^ (k - 1 - i) % B = l.getD i 0 := by
  have e1 := en_div (k := k) (n := i + 1) hB (by omega) hl
  rw [show k - 1 - i = k - (i + 1) by omega, e1]
  have e2 := en_mod (k := i + 1) (n := i) (l := l.take (i + 1)) hB (by omega) (fun x hx => hl x (List.mem_of_mem_take hx))
  rw [show i + 1 - i = 1 by omega, Int.pow_one] at e2
  rw [e2]
  cases hi : (l.take (i + 1)).drop i with
  | nil =>
    have hi2 := congrArg List.length hi
    rw [List.length_drop, List.length_take] at hi2
    simp at hi2
    rw [en_nil, List.getD_eq_getElem?_getD, List.getElem?_eq_none (by omega)]
    rfl
  | cons x r =>
    have hx : ((l.take (i + 1)).drop i)[0]? = some x := by rw [hi]; rfl
    rw [List.getElem?_drop, List.getElem?_take] at hx
    rw [if_pos (by omega)] at hx
    simp at hx
    rw [List.getD_eq_getElem?_getD, hx]
    show x * B ^ 0 + en B 0 r = x
    simp [en]
/-- order: the same for both bases -/
theorem en_cmp {B C : Int} (hB : 27 ≤ B) (hC : 27 ≤ C) : ∀ (k : Nat) (l l' : List Int), (∀ x ∈ l, 1 ≤ x ∧ x ≤ 26) → (∀ x ∈ l', 1 ≤ x ∧ x ≤ 26) → l.length ≤ k → l'.length ≤ k → ((en B k l < en B k l' ↔ en C k l < en C k l') ∧ (en B k l = en B k l' ↔ l = l')) := by
  intro k
  induction k with
  | zero =>
    intro l l' _ _ h1 h2
    have e1 : l = [] := List.length_eq_zero_iff.mp (by omega)
    have e2 : l' = [] := List.length_eq_zero_iff.mp (by omega)
    subst e1; subst e2
    simp
  | succ k ih =>
    intro l l' hl hl' h1 h2
    have pB : (0 : Int) < B ^ k := Int.pow_pos (by omega)
    have pC : (0 : Int) < C ^ k := Int.pow_pos (by omega)
    have bd : ∀ (D : Int) (x : Int) (r : List Int), 27 ≤ D → (∀ y ∈ x :: r, 1 ≤ y ∧ y ≤ 26) → 0 ≤ en D k r ∧ en D k r < D ^ k ∧ D ^ k ≤ x * D ^ k := by
      intro D x r hD h
      have g := en_bd (B := D) (by omega) k r (fun y hy => by have := h y (List.mem_cons_of_mem _ hy); omega)
      have hx := h x List.mem_cons_self
      have pD : (0 : Int) < D ^ k := Int.pow_pos (by omega)
      refine ⟨g.1, g.2, ?_⟩
      have := Int.mul_le_mul_of_nonneg_right (a := 1) (b := x) (c := D ^ k) hx.1 (by omega)
      omega
    have step : ∀ (D : Int) (x y : Int) (r s : Int), (0 < D ^ k) → 0 ≤ r → r < D ^ k → 0 ≤ s → s < D ^ k → ((x * D ^ k + r < y * D ^ k + s ↔ (x < y ∨ (x = y ∧ r < s))) ∧ (x * D ^ k + r = y * D ^ k + s ↔ (x = y ∧ r = s))) := by
      intro D x y r s pD r1 r2 s1 s2
      rcases Int.lt_trichotomy x y with h | h | h
      · have := Int.mul_le_mul_of_nonneg_right (a := x + 1) (b := y) (c := D ^ k) (by omega) (by omega)
        rw [Int.add_mul, Int.one_mul] at this
        omega
      · subst h
        omega
      · have := Int.mul_le_mul_of_nonneg_right (a := y + 1) (b := x) (c := D ^ k) (by omega) (by omega)
        rw [Int.add_mul, Int.one_mul] at this
        omega
    cases l with
    | nil =>
      cases l' with
      | nil => simp
      | cons y s =>
        obtain ⟨b1, b2, b3⟩ := bd B y s hB hl'
        obtain ⟨c1, c2, c3⟩ := bd C y s hC hl'
        have e1 : en B (k + 1) [] = 0 := rfl
        have e2 : en C (k + 1) [] = 0 := rfl
        have e3 : en B (k + 1) (y :: s) = y * B ^ k + en B k s := rfl
        have e4 : en C (k + 1) (y :: s) = y * C ^ k + en C k s := rfl
        rw [e1, e2, e3, e4]
        refine ⟨⟨fun _ => by omega, fun _ => by omega⟩, ⟨fun q => by omega, fun q => by cases q⟩⟩
    | cons x r =>
      obtain ⟨d1, d2, d3⟩ := bd B x r hB hl
      obtain ⟨f1, f2, f3⟩ := bd C x r hC hl
      have e5 : en B (k + 1) (x :: r) = x * B ^ k + en B k r := rfl
      have e6 : en C (k + 1) (x :: r) = x * C ^ k + en C k r := rfl
      cases l' with
      | nil =>
        have e1 : en B (k + 1) [] = 0 := rfl
        have e2 : en C (k + 1) [] = 0 := rfl
        rw [e1, e2, e5, e6]
        refine ⟨⟨fun _ => by omega, fun _ => by omega⟩, ⟨fun q => by omega, fun q => by cases q⟩⟩
      | cons y s =>
        obtain ⟨b1, b2, b3⟩ := bd B y s hB hl'
        obtain ⟨c1, c2, c3⟩ := bd C y s hC hl'
        have e3 : en B (k + 1) (y :: s) = y * B ^ k + en B k s := rfl
        have e4 : en C (k + 1) (y :: s) = y * C ^ k + en C k s := rfl
        rw [e3, e4, e5, e6]
        obtain ⟨s1, s2⟩ := step B x y _ _ pB d1 d2 b1 b2
        obtain ⟨s3, s4⟩ := step C x y _ _ pC f1 f2 c1 c2
        simp only [List.length_cons] at h1 h2
        obtain ⟨i1, i2⟩ := ih r s (fun z hz => hl z (List.mem_cons_of_mem _ hz)) (fun z hz => hl' z (List.mem_cons_of_mem _ hz)) (by omega) (by omega)
        rw [s1, s2, s3, i1, i2]
        simp
/-- a word in the class and in the reference -/
abbrev eC (l : List Int) : Int := en 32 10 l
abbrev eM (l : List Int) : Int := en 27 10 l
def ww (c r : Int) : Prop := ∃ l, wd l ∧ l ≠ [] ∧ c = eC l ∧ r = eM l
theorem ww_cmp {c r c' r' : Int} (h : ww c r) (h' : ww c' r') : (c < c' ↔ r < r') ∧ (c = c' ↔ r = r') := by
  obtain ⟨l, ⟨h1, h2⟩, -, rfl, rfl⟩ := h
  obtain ⟨l', ⟨h3, h4⟩, -, rfl, rfl⟩ := h'
  obtain ⟨a1, a2⟩ := en_cmp (B := 32) (C := 27) (by decide) (by decide) 10 l l' h2 h4 h1 h3
  obtain ⟨b1, b2⟩ := en_cmp (B := 27) (C := 32) (by decide) (by decide) 10 l l' h2 h4 h1 h3
  exact ⟨a1, a2.trans b2.symm⟩
theorem eC_bd {l : List Int} (h : wd l) : 0 ≤ eC l ∧ eC l < 1125899906842624 := by
  have := en_bd (B := 32) (by decide) 10 l (wd_b h (by decide))
  simpa using this
theorem eM_bd {l : List Int} (h : wd l) : 0 ≤ eM l ∧ eM l < 205891132094649 := by
  have := en_bd (B := 27) (by decide) 10 l (wd_b h (by decide))
  simpa using this
theorem en_pos {B : Int} (hB : 27 ≤ B) {k : Nat} {l : List Int} (hl : ∀ x ∈ l, 1 ≤ x ∧ x ≤ 26) (h : l ≠ []) : 0 < en B (k + 1) l := by
  cases l with
  | nil => exact absurd rfl h
  | cons x r =>
    have g := en_bd (B := B) (by omega) k r (fun y hy => by have := hl y (List.mem_cons_of_mem _ hy); omega)
    have hx := hl x List.mem_cons_self
    have pD : (0 : Int) < B ^ k := Int.pow_pos (by omega)
    have := Int.mul_le_mul_of_nonneg_right (a := 1) (b := x) (c := B ^ k) hx.1 (by omega)
    show 0 < x * B ^ k + en B k r
    omega
theorem eC_pos {l : List Int} (h : wd l) (hn : l ≠ []) : 0 < eC l := en_pos (k := 9) (by decide) h.2 hn
theorem eM_pos {l : List Int} (h : wd l) (hn : l ≠ []) : 0 < eM l := en_pos (k := 9) (by decide) h.2 hn
theorem wd_nil : wd [] := ⟨by decide, fun x hx => by cases hx⟩
