/-! sorting: pure -/
def ord (A : Int → Int → Prop) (n : Int) : Prop := (∀ a b c, 0 ≤ a → a < n → 0 ≤ b → b < n → 0 ≤ c → c < n → A a b → A b c → A a c) ∧ (∀ a, 0 ≤ a → a < n → ¬ A a a) ∧ ∀ a b, 0 ≤ a → a < n → 0 ≤ b → b < n → a ≠ b → A a b ∨ A b a
/-- sorted numbers a .. b - 1 -/
def SB (A : Int → Int → Prop) (o : Int → Int) (a b : Int) : Prop := (∀ i j, a ≤ i → i < j → j < b → A (o i) (o j)) ∧ ∀ i, a ≤ i → i < b → a ≤ o i ∧ o i < b
theorem SB.congr {A : Int → Int → Prop} {o o' : Int → Int} {a b : Int} (h : SB A o a b) (e : ∀ i, a ≤ i → i < b → o' i = o i) : SB A o' a b :=
  ⟨fun i j i0 i1 i2 => by rw [e i i0 (by omega), e j (by omega) i2]; exact h.1 i j i0 i1 i2, fun i i0 i1 => by rw [e i i0 i1]; exact h.2 i i0 i1⟩
theorem cnt_lt {i : Int} (h0 : 0 ≤ i) : ∀ n : Nat, i ≤ n → cnt (fun k => k < i) n = i := by
  intro n
  induction n with
  | zero => intro h; rw [show i = 0 by omega]; rfl
  | succ n ih =>
    intro h
    show cnt (fun k => k < i) n + bi ((n : Int) < i) = i
    by_cases e : i = n + 1
    · rw [bi_1 (by omega)]
      have : cnt (fun k => k < i) n = cnt (fun k => k < (n : Int)) n := cnt_congr n (fun k k0 k1 => by omega)
      rw [this]
      have key : ∀ m : Nat, ∀ z : Int, (m : Int) ≤ z → cnt (fun k => k < z) m = m := by
        intro m
        induction m with
        | zero => intro z _; rfl
        | succ m ihm =>
          intro z hz
          show cnt (fun k => k < z) m + bi ((m : Int) < z) = _
          rw [ihm z (by omega), bi_1 (by omega)]
          omega
      rw [key n n (by omega)]
      omega
    · rw [bi_0 (by omega), ih (by omega)]
      omega
theorem SB.prm {A : Int → Int → Prop} {o : Int → Int} {n : Nat} (hA : ord A n) (h : SB A o 0 n) : prm o n := ⟨fun i i0 i1 => h.2 i i0 i1, fun i j i0 i1 i2 e => by
  have a := h.1 i j i0 i1 i2
  have b := h.2 j (by omega) i2
  rw [e] at a
  exact hA.2.1 _ b.1 b.2 a⟩
/-- the place of a number in the order is how many are ahead of it -/
theorem SB.rank {A : Int → Int → Prop} {o : Int → Int} {n : Nat} (hA : ord A n) (h : SB A o 0 n) {i : Int} (h0 : 0 ≤ i) (h1 : i < n) : cnt (fun y => A y (o i)) n = i := by
  rw [← prm_cnt (h.prm hA) (fun y => A y (o i))]
  rw [cnt_congr (P' := fun k => k < i) n (fun k k0 k1 => ?_)]
  · exact cnt_lt h0 n (by omega)
  · constructor
    · intro g
      rcases Int.lt_trichotomy k i with q | q | q
      · exact q
      · rw [q] at g
        have b := h.2 i h0 h1
        exact absurd g (hA.2.1 _ b.1 b.2)
      · have g2 := h.1 i k h0 q k1
        have b := h.2 i h0 h1
        have c := h.2 k k0 k1
        exact absurd (hA.1 _ _ _ b.1 b.2 c.1 c.2 b.1 b.2 g2 g) (hA.2.1 _ b.1 b.2)
    · intro g; exact h.1 k i k0 g h1
theorem SB.uniq {A : Int → Int → Prop} {o o' : Int → Int} {n : Nat} (hA : ord A n) (h : SB A o 0 n) (h' : SB A o' 0 n) {i : Int} (h0 : 0 ≤ i) (h1 : i < n) : o i = o' i := by
  have b := h'.2 i h0 h1
  obtain ⟨k, k0, k1, e⟩ := prm_sur (h.prm hA) b.1 b.2
  have r1 := h.rank hA k0 k1
  have r2 := h'.rank hA h0 h1
  rw [e] at r1
  have : k = i := by omega
  rw [this] at e
  exact e
/-- how far two sorted stretches are merged -/
def MG (A : Int → Int → Prop) (o s : Int → Int) (lo mid hi l r i : Int) : Prop := lo ≤ l ∧ l ≤ mid ∧ mid ≤ r ∧ r ≤ hi ∧ i = l + r - mid ∧ (∀ t u, lo ≤ t → t < u → u < i → A (s t) (s u)) ∧ (∀ t, lo ≤ t → t < i → lo ≤ s t ∧ s t < hi) ∧ (∀ t u, lo ≤ t → t < i → l ≤ u → u < mid → A (s t) (o u)) ∧ ∀ t u, lo ≤ t → t < i → r ≤ u → u < hi → A (s t) (o u)
section MG
variable {A : Int → Int → Prop} {o s s' : Int → Int} {lo mid hi l r i n : Int}
theorem MG.left (hA : ord A n) (hb : 0 ≤ lo ∧ hi ≤ n) (h1 : SB A o lo mid) (h2 : SB A o mid hi) (h : MG A o s lo mid hi l r i) (hl : l < mid) (hr : r = hi ∨ A (o l) (o r)) (e : ∀ t, lo ≤ t → t < i + 1 → s' t = if t = i then o l else s t) : MG A o s' lo mid hi (l + 1) r (i + 1) := by
  obtain ⟨a1, a2, a3, a4, a5, a6, a7, a8, a9⟩ := h
  have ol := h1.2 l a1 hl
  refine ⟨by omega, by omega, a3, a4, by omega, fun t u t0 t1 u1 => ?_, fun t t0 t1 => ?_, fun t u t0 t1 u0 u1 => ?_, fun t u t0 t1 u0 u1 => ?_⟩
  · rw [e t t0 (by omega), e u (by omega) u1, if_neg (by omega)]
    by_cases q : u = i
    · rw [if_pos q]; exact a8 t l t0 (by omega) (by omega) hl
    · rw [if_neg q]; exact a6 t u t0 t1 (by omega)
  · rw [e t t0 t1]
    by_cases q : t = i
    · rw [if_pos q]; omega
    · rw [if_neg q]; exact a7 t t0 (by omega)
  · rw [e t t0 t1]
    by_cases q : t = i
    · rw [if_pos q]; exact h1.1 l u a1 (by omega) u1
    · rw [if_neg q]; exact a8 t u t0 (by omega) (by omega) u1
  · rw [e t t0 t1]
    by_cases q : t = i
    · rw [if_pos q]
      rcases hr with hr | hr
      · omega
      · by_cases q2 : u = r
        · rw [q2]; exact hr
        · have or_ := h2.2 r a3 (by omega)
          have ou := h2.2 u (by omega) u1
          exact hA.1 _ _ _ (by omega) (by omega) (by omega) (by omega) (by omega) (by omega) hr (h2.1 r u a3 (by omega) u1)
    · rw [if_neg q]; exact a9 t u t0 (by omega) u0 u1
theorem MG.right (hA : ord A n) (hb : 0 ≤ lo ∧ hi ≤ n) (h1 : SB A o lo mid) (h2 : SB A o mid hi) (h : MG A o s lo mid hi l r i) (hr : r < hi) (hl : l = mid ∨ A (o r) (o l)) (e : ∀ t, lo ≤ t → t < i + 1 → s' t = if t = i then o r else s t) : MG A o s' lo mid hi l (r + 1) (i + 1) := by
  obtain ⟨a1, a2, a3, a4, a5, a6, a7, a8, a9⟩ := h
  have or_ := h2.2 r a3 hr
  refine ⟨a1, a2, by omega, by omega, by omega, fun t u t0 t1 u1 => ?_, fun t t0 t1 => ?_, fun t u t0 t1 u0 u1 => ?_, fun t u t0 t1 u0 u1 => ?_⟩
  · rw [e t t0 (by omega), e u (by omega) u1, if_neg (by omega)]
    by_cases q : u = i
    · rw [if_pos q]; exact a9 t r t0 (by omega) (by omega) hr
    · rw [if_neg q]; exact a6 t u t0 t1 (by omega)
  · rw [e t t0 t1]
    by_cases q : t = i
    · rw [if_pos q]; omega
    · rw [if_neg q]; exact a7 t t0 (by omega)
  · rw [e t t0 t1]
    by_cases q : t = i
    · rw [if_pos q]
      rcases hl with hl | hl
      · omega
      · by_cases q2 : u = l
        · rw [q2]; exact hl
        · have ol := h1.2 l a1 (by omega)
          have ou := h1.2 u (by omega) u1
          exact hA.1 _ _ _ (by omega) (by omega) (by omega) (by omega) (by omega) (by omega) hl (h1.1 l u a1 (by omega) u1)
    · rw [if_neg q]; exact a8 t u t0 (by omega) u0 u1
  · rw [e t t0 t1]
    by_cases q : t = i
    · rw [if_pos q]; exact h2.1 r u a3 (by omega) u1
    · rw [if_neg q]; exact a9 t u t0 (by omega) (by omega) u1
theorem MG.zero (hm : lo ≤ mid ∧ mid ≤ hi) : MG A o s lo mid hi lo mid lo := ⟨by omega, hm.1, by omega, hm.2, by omega, fun t u _ _ _ => by omega, fun t _ _ => by omega, fun t u _ _ _ _ => by omega, fun t u _ _ _ _ => by omega⟩
theorem MG.fin (h : MG A o s lo mid hi l r i) (hi' : hi ≤ i) : SB A s lo hi := by
  obtain ⟨a1, a2, a3, a4, a5, a6, a7, a8, a9⟩ := h
  exact ⟨fun t u t0 t1 u1 => a6 t u t0 t1 (by omega), fun t t0 t1 => a7 t t0 (by omega)⟩
/-- sorted in stretches of a width -/
def BK (A : Int → Int → Prop) (o : Int → Int) (n w : Int) : Prop := ∀ q : Nat, (q : Int) * w < n → SB A o (q * w) (if q * w + w ≤ n then q * w + w else n)
theorem BK.one (hA : ∀ a, 0 ≤ a → a < n → o a = a) : BK A o n 1 := fun q hq => by
  rw [Int.mul_one] at *
  rw [if_pos (by omega)]
  exact ⟨fun i j _ _ _ => by omega, fun i i0 i1 => by have := hA i (by omega) (by omega); omega⟩
theorem BK.done {w : Int} (h : BK A o n w) (hn : 0 ≤ n) (hw : n ≤ w) : SB A o 0 n := by
  rcases Int.lt_or_le 0 n with g | g
  · have := h 0 (by simp; exact g)
    simp only [Int.natCast_zero, Int.zero_mul, Int.zero_add] at this
    by_cases e : w = n
    · rw [if_pos (by omega), e] at this; exact this
    · rw [if_neg (by omega)] at this; exact this
  · exact ⟨fun i j _ _ _ => by omega, fun i _ _ => by omega⟩
end MG
