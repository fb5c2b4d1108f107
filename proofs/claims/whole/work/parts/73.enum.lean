/-! pure: sets of whole numbers in their order, sums, counts -/
def enm (u : Int → Int) (k : Int) (S : Int → Prop) : Prop := 0 ≤ k ∧ (∀ i j, 0 ≤ i → i < j → j < k → u i < u j) ∧ (∀ i, 0 ≤ i → i < k → S (u i)) ∧ ∀ x, S x → ∃ i, 0 ≤ i ∧ i < k ∧ u i = x
theorem enm.low {u u' : Int → Int} {k k' : Int} {S : Int → Prop} (h : enm u k S) (h' : enm u' k' S) : ∀ (n : Nat) (i : Int), i < n → 0 ≤ i → i < k → i < k' ∧ u i = u' i := by
  obtain ⟨a0, a1, a2, a3⟩ := h
  obtain ⟨b0, b1, b2, b3⟩ := h'
  intro n
  induction n with
  | zero => intro i q1 q2; omega
  | succ n ih =>
    intro i q1 q2 q3
    obtain ⟨j', p1, p2, p3⟩ := b3 _ (a2 i q2 q3)
    have hj : i ≤ j' := by
      rcases Int.lt_or_le j' i with g | g
      · have e := (ih j' (by omega) p1 (by omega)).2
        have := a1 j' i p1 g q3
        omega
      · exact g
    have hik : i < k' := by omega
    refine ⟨hik, ?_⟩
    obtain ⟨j, r1, r2, r3⟩ := a3 _ (b2 i q2 hik)
    have hj2 : i ≤ j := by
      rcases Int.lt_or_le j i with g | g
      · have e := (ih j (by omega) r1 (by omega)).2
        have := b1 j i r1 g hik
        omega
      · exact g
    rcases Int.lt_or_le i j' with g | g
    · have x1 := b1 i j' q2 g p2
      rcases Int.lt_or_le i j with g2 | g2
      · have x2 := a1 i j q2 g2 r2
        omega
      · have : j = i := by omega
        rw [this] at r3
        exact r3
    · have : j' = i := by omega
      rw [this] at p3
      exact p3.symm
theorem enm.uniq {u u' : Int → Int} {k k' : Int} {S : Int → Prop} (h : enm u k S) (h' : enm u' k' S) : k = k' ∧ ∀ i, 0 ≤ i → i < k → u i = u' i := by
  refine ⟨?_, fun i a b => (h.low h' (i + 1).toNat i (by omega) a b).2⟩
  rcases Int.lt_trichotomy k k' with g | g | g
  · have := h'.low h (k + 1).toNat k (by have := h.1; omega) h.1 g
    omega
  · exact g
  · have := h.low h' (k' + 1).toNat k' (by have := h'.1; omega) h'.1 g
    omega
theorem enm_ex : ∀ (B : Nat) (S : Int → Prop), (∀ x, S x → 0 ≤ x ∧ x < B) → ∃ p : (Int → Int) × Int, enm p.1 p.2 S := by
  intro B
  induction B with
  | zero => exact fun S h => ⟨(fun _ => 0, 0), by omega, fun i j _ _ _ => by omega, fun i _ _ => by omega, fun x hx => by have := h x hx; omega⟩
  | succ B ih =>
    intro S h
    obtain ⟨⟨u, k⟩, a0, a1, a2, a3⟩ := ih (fun x => S x ∧ x < B) (fun x hx => ⟨(h x hx.1).1, hx.2⟩)
    by_cases q : S B
    · refine ⟨(fun i => if i = k then (B : Int) else u i, k + 1), by omega, fun i j h0 h1 h2 => ?_, fun i h0 h1 => ?_, fun x hx => ?_⟩
      · show (if i = k then (B : Int) else u i) < (if j = k then (B : Int) else u j)
        rw [if_neg (by omega)]
        by_cases e : j = k
        · rw [if_pos e]; exact (a2 i h0 (by omega)).2
        · rw [if_neg e]; exact a1 i j h0 h1 (by omega)
      · show S (if i = k then (B : Int) else u i)
        by_cases e : i = k
        · rw [if_pos e]; exact q
        · rw [if_neg e]; exact (a2 i h0 (by omega)).1
      · by_cases e : x = B
        · exact ⟨k, a0, by omega, by show (if k = k then (B : Int) else u k) = x; rw [if_pos rfl, e]⟩
        · have := h x hx
          obtain ⟨i, b0, b1, b2⟩ := a3 x ⟨hx, by omega⟩
          exact ⟨i, b0, by omega, by show (if i = k then (B : Int) else u i) = x; rw [if_neg (by omega)]; exact b2⟩
    · refine ⟨(u, k), a0, a1, fun i h0 h1 => (a2 i h0 h1).1, fun x hx => a3 x ⟨hx, ?_⟩⟩
      have := h x hx
      rcases Int.lt_trichotomy x B with g | g | g
      · exact g
      · rw [g] at hx; exact absurd hx q
      · omega
/-- a bounded set in its order: its members, how many, the number of one (-1) -/
noncomputable def eP (S : Int → Prop) : (Int → Int) × Int := Classical.epsilon (fun p : (Int → Int) × Int => enm p.1 p.2 S)
noncomputable def eU (S : Int → Prop) : Int → Int := (eP S).1
noncomputable def eK (S : Int → Prop) : Int := (eP S).2
def bnd (S : Int → Prop) : Prop := ∃ B : Nat, ∀ x, S x → 0 ≤ x ∧ x < B
theorem e_spec {S : Int → Prop} (h : bnd S) : enm (eU S) (eK S) S := by
  obtain ⟨B, hB⟩ := h
  exact Classical.epsilon_spec (p := fun p : (Int → Int) × Int => enm p.1 p.2 S) (enm_ex B S hB)
noncomputable def ei (S : Int → Prop) (x : Int) : Int := Classical.epsilon (fun i : Int => (0 ≤ i ∧ i < eK S ∧ eU S i = x) ∨ ((¬ ∃ j, 0 ≤ j ∧ j < eK S ∧ eU S j = x) ∧ i = -1))
theorem ei_o (S : Int → Prop) (x : Int) : (0 ≤ ei S x ∧ ei S x < eK S ∧ eU S (ei S x) = x) ∨ ((¬ ∃ j, 0 ≤ j ∧ j < eK S ∧ eU S j = x) ∧ ei S x = -1) := by
  refine Classical.epsilon_spec (p := fun i : Int => (0 ≤ i ∧ i < eK S ∧ eU S i = x) ∨ ((¬ ∃ j, 0 ≤ j ∧ j < eK S ∧ eU S j = x) ∧ i = -1)) ?_
  by_cases q : ∃ j, 0 ≤ j ∧ j < eK S ∧ eU S j = x
  · obtain ⟨j, h⟩ := q
    exact ⟨j, Or.inl h⟩
  · exact ⟨-1, Or.inr ⟨q, rfl⟩⟩
section EE
variable {S : Int → Prop}
theorem eK_0 (h : bnd S) : 0 ≤ eK S := (e_spec h).1
theorem ei_in (h : bnd S) {x : Int} (hx : S x) : 0 ≤ ei S x ∧ ei S x < eK S ∧ eU S (ei S x) = x := by
  rcases ei_o S x with g | ⟨g, _⟩
  · exact g
  · exact absurd ((e_spec h).2.2.2 x hx) g
theorem ei_no (h : bnd S) {x : Int} (hx : ¬ S x) : ei S x = -1 := by
  rcases ei_o S x with g | ⟨_, g⟩
  · have := (e_spec h).2.2.1 _ g.1 g.2.1
    rw [g.2.2] at this
    exact absurd this hx
  · exact g
theorem eU_inj (h : bnd S) {i j : Int} (h0 : 0 ≤ i) (h1 : i < eK S) (h2 : 0 ≤ j) (h3 : j < eK S) (e : eU S i = eU S j) : i = j := by
  rcases Int.lt_trichotomy i j with g | g | g
  · have := (e_spec h).2.1 i j h0 g h3; omega
  · exact g
  · have := (e_spec h).2.1 j i h2 g h1; omega
theorem ei_at (h : bnd S) {i : Int} (h0 : 0 ≤ i) (h1 : i < eK S) : ei S (eU S i) = i := by
  have := ei_in h ((e_spec h).2.2.1 i h0 h1)
  exact eU_inj h this.1 this.2.1 h0 h1 this.2.2
theorem ei_is (h : bnd S) {i x : Int} (h0 : 0 ≤ i) (h1 : i < eK S) (e : eU S i = x) : ei S x = i := by rw [← e]; exact ei_at h h0 h1
theorem eU_lt (h : bnd S) {i j : Int} (h0 : 0 ≤ i) (h1 : i < eK S) (h2 : 0 ≤ j) (h3 : j < eK S) : eU S i < eU S j ↔ i < j := by
  constructor
  · intro g
    rcases Int.lt_trichotomy i j with q | q | q
    · exact q
    · rw [q] at g; omega
    · have := (e_spec h).2.1 j i h2 q h1; omega
  · intro g; exact (e_spec h).2.1 i j h0 g h3
theorem ei_lt (h : bnd S) {x y : Int} (hx : S x) (hy : S y) : ei S x < ei S y ↔ x < y := by
  have a := ei_in h hx
  have b := ei_in h hy
  rw [← eU_lt h a.1 a.2.1 b.1 b.2.1, a.2.2, b.2.2]
theorem ei_inj (h : bnd S) {x y : Int} (hx : S x) (hy : S y) : ei S x = ei S y ↔ x = y := by
  constructor
  · intro e
    have a := (ei_in h hx).2.2
    rw [e, (ei_in h hy).2.2] at a
    exact a.symm
  · intro e; rw [e]
theorem e_uniq (h : bnd S) {u : Int → Int} {k : Int} (g : enm u k S) : k = eK S ∧ ∀ i, 0 ≤ i → i < k → u i = eU S i := g.uniq (e_spec h)
end EE
theorem enm.ext {u : Int → Int} {k : Int} {S S' : Int → Prop} (h : enm u k S) (e : ∀ x, S x ↔ S' x) : enm u k S' := ⟨h.1, h.2.1, fun i a b => (e _).mp (h.2.2.1 i a b), fun x hx => h.2.2.2 x ((e x).mpr hx)⟩
theorem enm.fn {u u' : Int → Int} {k : Int} {S : Int → Prop} (h : enm u k S) (e : ∀ i, 0 ≤ i → i < k → u' i = u i) : enm u' k S :=
  ⟨h.1, fun i j a b c => by rw [e i a (by omega), e j (by omega) c]; exact h.2.1 i j a b c, fun i a b => by rw [e i a b]; exact h.2.2.1 i a b, fun x hx => by
    obtain ⟨i, a, b, c⟩ := h.2.2.2 x hx
    exact ⟨i, a, b, by rw [e i a b]; exact c⟩⟩
/-- one more, put where it belongs -/
theorem enm.ins {u u' : Int → Int} {k p x : Int} {S : Int → Prop} (h : enm u k S) (hp : 0 ≤ p ∧ p ≤ k) (h1 : ∀ i, 0 ≤ i → i < p → u i < x) (h2 : ∀ i, p ≤ i → i < k → x < u i) (e : ∀ i, 0 ≤ i → i < k + 1 → u' i = if i < p then u i else if i = p then x else u (i - 1)) : enm u' (k + 1) (fun y => S y ∨ y = x) := by
  obtain ⟨a0, a1, a2, a3⟩ := h
  refine ⟨by omega, fun i j q0 q1 q2 => ?_, fun i q0 q1 => ?_, fun y hy => ?_⟩
  · rw [e i q0 (by omega), e j (by omega) q2]
    by_cases c1 : i < p
    · rw [if_pos c1]
      by_cases c2 : j < p
      · rw [if_pos c2]; exact a1 i j q0 q1 (by omega)
      · rw [if_neg c2]
        by_cases c3 : j = p
        · rw [if_pos c3]; exact h1 i q0 c1
        · rw [if_neg c3]
          have := h1 i q0 c1
          have := h2 (j - 1) (by omega) (by omega)
          omega
    · rw [if_neg c1, if_neg (show ¬ j < p by omega), if_neg (show ¬ j = p by omega)]
      by_cases c3 : i = p
      · rw [if_pos c3]; exact h2 (j - 1) (by omega) (by omega)
      · rw [if_neg c3]; exact a1 (i - 1) (j - 1) (by omega) (by omega) (by omega)
  · rw [e i q0 q1]
    by_cases c1 : i < p
    · rw [if_pos c1]; exact Or.inl (a2 i q0 (by omega))
    · rw [if_neg c1]
      by_cases c3 : i = p
      · rw [if_pos c3]; exact Or.inr rfl
      · rw [if_neg c3]; exact Or.inl (a2 (i - 1) (by omega) (by omega))
  · rcases hy with hy | hy
    · obtain ⟨i, b0, b1, b2⟩ := a3 y hy
      by_cases c1 : i < p
      · exact ⟨i, b0, by omega, by rw [e i b0 (by omega), if_pos c1]; exact b2⟩
      · exact ⟨i + 1, by omega, by omega, by rw [e (i + 1) (by omega) (by omega), if_neg (by omega), if_neg (by omega), show i + 1 - 1 = i by omega]; exact b2⟩
    · exact ⟨p, hp.1, by omega, by rw [e p hp.1 (by omega), if_neg (by omega), if_pos rfl, hy]⟩
/-! sums and counts -/
def sm (f : Int → Int) (n : Nat) : Int := Nat.rec 0 (fun k r => r + f k) n
theorem sm_0 (f : Int → Int) : sm f 0 = 0 := rfl
theorem sm_s (f : Int → Int) (n : Nat) : sm f (n + 1) = sm f n + f n := rfl
theorem sm_z (f : Int → Int) {z : Int} (h : 0 ≤ z) : sm f (z + 1).toNat = sm f z.toNat + f z := by
  rw [show (z + 1).toNat = z.toNat + 1 by omega, sm_s, show ((z.toNat : Nat) : Int) = z by omega]
theorem sm_congr {f g : Int → Int} : ∀ n : Nat, (∀ k : Int, 0 ≤ k → k < n → f k = g k) → sm f n = sm g n := by
  intro n
  induction n with
  | zero => intro _; rfl
  | succ n ih => intro h; rw [sm_s, sm_s, ih (fun k a b => h k a (by omega)), h n (by omega) (by omega)]
theorem sm_add (f g : Int → Int) : ∀ n : Nat, sm (fun k => f k + g k) n = sm f n + sm g n := by
  intro n
  induction n with
  | zero => rfl
  | succ n ih => rw [sm_s, sm_s, sm_s, ih]; omega
theorem sm_zero {f : Int → Int} : ∀ n : Nat, (∀ k : Int, 0 ≤ k → k < n → f k = 0) → sm f n = 0 := by
  intro n
  induction n with
  | zero => intro _; rfl
  | succ n ih => intro h; rw [sm_s, ih (fun k a b => h k a (by omega)), h n (by omega) (by omega)]; rfl
theorem sm_mul (c : Int) (f : Int → Int) : ∀ n : Nat, sm (fun k => c * f k) n = c * sm f n := by
  intro n
  induction n with
  | zero => simp [sm_0]
  | succ n ih => rw [sm_s, sm_s, ih, Int.mul_add]
theorem sm_swap (a : Int → Int → Int) (n : Nat) : ∀ m : Nat, sm (fun k => sm (fun x => a k x) n) m = sm (fun x => sm (fun k => a k x) m) n := by
  intro m
  induction m with
  | zero => exact (sm_zero n (fun k _ _ => rfl)).symm
  | succ m ih =>
    rw [sm_s, ih, ← sm_add]
    exact sm_congr n (fun k _ _ => by rw [sm_s])
theorem sm_le {f g : Int → Int} : ∀ n : Nat, (∀ k : Int, 0 ≤ k → k < n → f k ≤ g k) → sm f n ≤ sm g n := by
  intro n
  induction n with
  | zero => intro _; exact Int.le_refl _
  | succ n ih =>
    intro h
    have := ih (fun k a b => h k a (by omega))
    have := h n (by omega) (by omega)
    rw [sm_s, sm_s]
    omega
theorem sm_const (c : Int) : ∀ n : Nat, sm (fun _ => c) n = n * c := by
  intro n
  induction n with
  | zero => simp [sm_0]
  | succ n ih =>
    rw [sm_s, ih]
    have : ((n + 1 : Nat) : Int) = n + 1 := by omega
    rw [this, Int.add_mul]
    omega
/-- one of the summands alone -/
theorem sm_pick {f : Int → Int} {z : Int} (hz : 0 ≤ z) : ∀ n : Nat, z < n → (∀ k : Int, 0 ≤ k → k < n → k ≠ z → f k = 0) → sm f n = f z := by
  intro n
  induction n with
  | zero => intro h; omega
  | succ n ih =>
    intro h1 h2
    rw [sm_s]
    by_cases e : z = n
    · rw [sm_zero n (fun k a b => h2 k a (by omega) (by omega)), e]; omega
    · rw [ih (by omega) (fun k a b c => h2 k a (by omega) c), h2 n (by omega) (by omega) (fun q => e q.symm)]; omega
/-- one summand changed -/
theorem sm_upd {f g : Int → Int} {z : Int} (hz : 0 ≤ z) : ∀ n : Nat, z < n → (∀ k : Int, 0 ≤ k → k < n → k ≠ z → f k = g k) → sm f n = sm g n + (f z - g z) := by
  intro n
  induction n with
  | zero => intro h; omega
  | succ n ih =>
    intro h1 h2
    rw [sm_s, sm_s]
    by_cases e : z = n
    · rw [sm_congr n (fun k a b => h2 k a (by omega) (by omega)), e]; omega
    · rw [ih (by omega) (fun k a b c => h2 k a (by omega) c), h2 n (by omega) (by omega) (fun q => e q.symm)]; omega
noncomputable def bi (p : Prop) : Int := @ite Int p (Classical.propDecidable p) 1 0
theorem bi_1 {p : Prop} (h : p) : bi p = 1 := @if_pos p (Classical.propDecidable p) h Int 1 0
theorem bi_0 {p : Prop} (h : ¬ p) : bi p = 0 := @if_neg p (Classical.propDecidable p) h Int 1 0
theorem bi_b (p : Prop) : 0 ≤ bi p ∧ bi p ≤ 1 := by
  by_cases h : p
  · rw [bi_1 h]; decide
  · rw [bi_0 h]; decide
theorem bi_congr {p q : Prop} (h : p ↔ q) : bi p = bi q := by rw [propext h]
theorem bi_ite {p : Prop} [inst : Decidable p] : (if p then (1 : Int) else 0) = bi p := by
  by_cases h : p
  · rw [if_pos h, bi_1 h]
  · rw [if_neg h, bi_0 h]
noncomputable def cnt (P : Int → Prop) (n : Nat) : Int := sm (fun k => bi (P k)) n
theorem cnt_z (P : Int → Prop) {z : Int} (h : 0 ≤ z) : cnt P (z + 1).toNat = cnt P z.toNat + bi (P z) := sm_z _ h
theorem cnt_congr {P P' : Int → Prop} (n : Nat) (h : ∀ k : Int, 0 ≤ k → k < n → (P k ↔ P' k)) : cnt P n = cnt P' n := sm_congr n (fun k a b => bi_congr (h k a b))
theorem cnt_b (P : Int → Prop) : ∀ n : Nat, 0 ≤ cnt P n ∧ cnt P n ≤ n := by
  intro n
  induction n with
  | zero => exact ⟨Int.le_refl _, Int.le_refl _⟩
  | succ n ih =>
    have := bi_b (P n)
    show 0 ≤ cnt P n + bi (P n) ∧ cnt P n + bi (P n) ≤ (n + 1 : Nat)
    omega
theorem cnt_no {P : Int → Prop} (n : Nat) (h : ∀ k : Int, 0 ≤ k → k < n → ¬ P k) : cnt P n = 0 := sm_zero n (fun k a b => bi_0 (h k a b))
theorem cnt_pos {P : Int → Prop} {z : Int} (hz : 0 ≤ z) (h : P z) : ∀ n : Nat, z < n → 1 ≤ cnt P n := by
  intro n
  induction n with
  | zero => intro q; omega
  | succ n ih =>
    intro q
    have := bi_b (P n)
    have b := cnt_b P n
    show 1 ≤ cnt P n + bi (P n)
    by_cases e : z = n
    · rw [e] at h; rw [bi_1 h]; omega
    · have := ih (by omega); omega
/-- numbers 0 .. n - 1 in another order -/
def prm (o : Int → Int) (n : Nat) : Prop := (∀ i : Int, 0 ≤ i → i < n → 0 ≤ o i ∧ o i < n) ∧ ∀ i j : Int, 0 ≤ i → i < j → j < n → o i ≠ o j
theorem prm_one {o : Int → Int} {n : Nat} (h : prm o n) {x : Int} (h0 : 0 ≤ x) (h1 : x < n) : sm (fun k => bi (o k = x)) n = 1 := by
  have le1 : ∀ y : Int, 0 ≤ y → y < n → sm (fun k => bi (o k = y)) n ≤ 1 := by
    intro y _ _
    by_cases q : ∃ k : Int, 0 ≤ k ∧ k < n ∧ o k = y
    · obtain ⟨k, k0, k1, k2⟩ := q
      rw [sm_pick k0 n k1 (fun j j0 j1 j2 => bi_0 (fun e => ?_)), bi_1 k2]
      · omega
      · rcases Int.lt_trichotomy j k with g | g | g
        · exact h.2 j k j0 g k1 (e.trans k2.symm)
        · exact j2 g
        · exact h.2 k j k0 g j1 (k2.trans e.symm)
    · rw [sm_zero n (fun k k0 k1 => bi_0 (fun e => q ⟨k, k0, k1, e⟩))]
      omega
  have tot : sm (fun y => sm (fun k => bi (o k = y)) n) n = n := by
    rw [← sm_swap (fun k y => bi (o k = y)) n n]
    rw [sm_congr (g := fun _ => 1) n (fun k k0 k1 => ?_), sm_const]
    · omega
    · have hb := h.1 k k0 k1
      rw [sm_pick hb.1 n hb.2 (fun j _ _ j2 => bi_0 (fun e => j2 e.symm)), bi_1 rfl]
  rcases Int.lt_or_le (sm (fun k => bi (o k = x)) n) 1 with g | g
  · have : sm (fun y => sm (fun k => bi (o k = y)) n) n ≤ sm (fun y => 1 - bi (y = x)) n := sm_le n (fun y y0 y1 => by
      by_cases e : y = x
      · rw [bi_1 e, e]; omega
      · rw [bi_0 e]; have := le1 y y0 y1; omega)
    have e2 : sm (fun y => 1 - bi (y = x)) n = sm (fun _ => 1) n + ((1 - bi (x = x)) - 1) := sm_upd h0 n h1 (fun k _ _ k2 => by rw [bi_0 k2]; rfl)
    rw [bi_1 rfl, sm_const] at e2
    omega
  · have := le1 x h0 h1
    omega
theorem prm_sur {o : Int → Int} {n : Nat} (h : prm o n) {x : Int} (h0 : 0 ≤ x) (h1 : x < n) : ∃ k : Int, 0 ≤ k ∧ k < n ∧ o k = x := by
  by_cases q : ∃ k : Int, 0 ≤ k ∧ k < n ∧ o k = x
  · exact q
  · have := prm_one h h0 h1
    rw [sm_zero n (fun k k0 k1 => bi_0 (fun e => q ⟨k, k0, k1, e⟩))] at this
    omega
theorem prm_sum {o : Int → Int} {n : Nat} (h : prm o n) (f : Int → Int) : sm (fun k => f (o k)) n = sm f n := by
  have e1 : sm (fun k => f (o k)) n = sm (fun k => sm (fun x => f x * bi (o k = x)) n) n := sm_congr n (fun k k0 k1 => by
    have hb := h.1 k k0 k1
    rw [sm_pick hb.1 n hb.2 (fun j _ _ j2 => by rw [bi_0 (fun e => j2 e.symm)]; omega), bi_1 rfl]; omega)
  rw [e1, sm_swap (fun k x => f x * bi (o k = x)) n n]
  refine sm_congr n (fun x x0 x1 => ?_)
  rw [sm_mul (f x) (fun k => bi (o k = x)) n, prm_one h x0 x1]
  omega
theorem prm_cnt {o : Int → Int} {n : Nat} (h : prm o n) (P : Int → Prop) : cnt (fun k => P (o k)) n = cnt P n := prm_sum h (fun x => bi (P x))
