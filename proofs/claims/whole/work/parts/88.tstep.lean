/-! the terms, gathered from the sorted matches: pure -/
noncomputable def fkn (N : Int → Int) (o : Int → Int) (k j : Int) : Int := cnt (fun i => pkm N (o i) = pkm N (o j) ∧ pfm N (o i) = pfm N (o j)) k.toNat
def TP (N o : Int → Int) (k R c f s fi dv fo co be : Int) : Prop :=
  c = cnt (fun j => pkm N (o j) = R) k.toNat ∧ f = cnt (fun j => pkm N (o j) = R ∧ ¬ wi N (mk N (o j)) (ml N (o j))) k.toNat ∧
  (0 ≤ s ∧ ∀ j, 0 ≤ j → j < k → (pkm N (o j) = R ↔ s ≤ j ∧ j < s + c)) ∧
  ((∃ j, 0 ≤ j ∧ j < k ∧ pkm N (o j) = R ∧ o j = fi) ∧ ∀ j, 0 ≤ j → j < k → pkm N (o j) = R → fi ≤ o j) ∧
  (∃ V : Nat, dv = V ∧ V < 256 ∧ ∀ e : Nat, V.testBit e = true ↔ ∃ j, 0 ≤ j ∧ j < k ∧ pkm N (o j) = R ∧ dcN N (mk N (o j)) = e) ∧
  (∃ u, enm u fo (fun x => ∃ j, 0 ≤ j ∧ j < k ∧ pkm N (o j) = R ∧ pfm N (o j) = x)) ∧
  ∃ jc, 0 ≤ jc ∧ jc < k ∧ pkm N (o jc) = R ∧ o jc = co ∧ be = fkn N o k jc ∧ ∀ j, 0 ≤ j → j < k → pkm N (o j) = R → fkn N o k j < fkn N o k jc ∨ (fkn N o k j = fkn N o k jc ∧ pfm N (o jc) ≤ pfm N (o j))
section TSP
variable {N o : Int → Int} {k R c f s fi dv fo co be : Int}
theorem fkn_s (hk : 0 ≤ k) (j : Int) : fkn N o (k + 1) j = fkn N o k j + bi (pkm N (o k) = pkm N (o j) ∧ pfm N (o k) = pfm N (o j)) := cnt_z _ hk
theorem TP.skip (hk : 0 ≤ k) (h : TP N o k R c f s fi dv fo co be) (hs : s + c ≤ k) (hne : pkm N (o k) ≠ R) : TP N o (k + 1) R c f s fi dv fo co be := by
  obtain ⟨a1, a2, a3, a4, a5, a6, a7⟩ := h
  have low : ∀ j, 0 ≤ j → j < k + 1 → pkm N (o j) = R → j < k := fun j _ j1 e => by
    by_cases q : j = k
    · rw [q] at e; exact absurd e hne
    · omega
  have fks : ∀ j, pkm N (o j) = R → fkn N o (k + 1) j = fkn N o k j := fun j e => by
    rw [fkn_s hk, bi_0 (fun q => hne (q.1.trans e))]; omega
  refine ⟨?_, ?_, ⟨a3.1, fun j j0 j1 => ?_⟩, ⟨?_, fun j j0 j1 e => a4.2 j j0 (low j j0 j1 e) e⟩, ?_, ?_, ?_⟩
  · rw [cnt_z _ hk, bi_0 hne, a1]; omega
  · rw [cnt_z _ hk, bi_0 (fun q => hne q.1), a2]; omega
  · by_cases q : j = k
    · rw [q]
      exact ⟨fun e => absurd e hne, fun g => by omega⟩
    · exact a3.2 j j0 (by omega)
  · obtain ⟨j, j0, j1, j2, j3⟩ := a4.1
    exact ⟨j, j0, by omega, j2, j3⟩
  · obtain ⟨V, v1, v2, v3⟩ := a5
    refine ⟨V, v1, v2, fun e => (v3 e).trans ⟨fun ⟨j, j0, j1, j2, j3⟩ => ⟨j, j0, by omega, j2, j3⟩, fun ⟨j, j0, j1, j2, j3⟩ => ⟨j, j0, low j j0 j1 j2, j2, j3⟩⟩⟩
  · obtain ⟨u, hu⟩ := a6
    exact ⟨u, hu.ext (fun x => ⟨fun ⟨j, j0, j1, j2, j3⟩ => ⟨j, j0, by omega, j2, j3⟩, fun ⟨j, j0, j1, j2, j3⟩ => ⟨j, j0, low j j0 j1 j2, j2, j3⟩⟩)⟩
  · obtain ⟨jc, c0, c1, c2, c3, c4, c5⟩ := a7
    refine ⟨jc, c0, by omega, c2, c3, by rw [fks jc c2]; exact c4, fun j j0 j1 e => ?_⟩
    rw [fks j e, fks jc c2]
    exact c5 j j0 (low j j0 j1 e) e
theorem bit_e {e v : Nat} : (2 ^ v).testBit e = true ↔ v = e := by
  rw [Nat.testBit_two_pow]
  simp
theorem TP.new {v : Nat} (hk : 0 ≤ k) (hno : ∀ j, 0 ≤ j → j < k → pkm N (o j) ≠ R) (hR : pkm N (o k) = R) (hd : dcN N (mk N (o k)) = v) (hv : v < 8) : TP N o (k + 1) R 1 (1 - bi (wi N (mk N (o k)) (ml N (o k)))) k (o k) ((2 ^ v : Nat) : Int) 1 (o k) 1 := by
  have only : ∀ j, 0 ≤ j → j < k + 1 → pkm N (o j) = R → j = k := fun j j0 j1 e => by
    by_cases q : j = k
    · exact q
    · exact absurd e (hno j j0 (by omega))
  have fk1 : fkn N o (k + 1) k = 1 := by
    rw [fkn_s hk, bi_1 ⟨rfl, rfl⟩]
    have : fkn N o k k = 0 := cnt_no _ (fun j j0 j1 q => hno j j0 (by omega) (q.1.trans hR))
    omega
  refine ⟨?_, ?_, ⟨hk, fun j j0 j1 => ⟨fun e => by have := only j j0 j1 e; omega, fun g => by rw [show j = k by omega]; exact hR⟩⟩, ⟨⟨k, hk, by omega, hR, rfl⟩, fun j j0 j1 e => by rw [only j j0 j1 e]; omega⟩, ⟨2 ^ v, rfl, ?_, fun e => ?_⟩, ⟨fun _ => pfm N (o k), ?_⟩, k, hk, by omega, hR, rfl, fk1.symm, fun j j0 j1 e => ?_⟩
  · rw [cnt_z _ hk, bi_1 hR, cnt_no _ (fun j j0 j1 => hno j j0 (by omega))]
    omega
  · rw [cnt_z _ hk, cnt_no _ (fun j j0 j1 q => hno j j0 (by omega) q.1)]
    by_cases q : wi N (mk N (o k)) (ml N (o k))
    · rw [bi_1 q, bi_0 (fun g => g.2 q)]; omega
    · rw [bi_0 q, bi_1 ⟨hR, q⟩]; omega
  · have := Nat.pow_lt_pow_right (a := 2) (by decide) hv
    exact this
  · rw [bit_e]
    constructor
    · intro g; exact ⟨k, hk, by omega, hR, by rw [hd, g]⟩
    · intro ⟨j, j0, j1, j2, j3⟩
      rw [only j j0 j1 j2, hd] at j3
      omega
  · refine ⟨by omega, fun i j _ _ _ => by omega, fun i i0 i1 => ⟨k, hk, by omega, hR, rfl⟩, fun x ⟨j, j0, j1, j2, j3⟩ => ⟨0, by omega, by omega, ?_⟩⟩
    rw [only j j0 j1 j2] at j3
    exact j3
  · rw [only j j0 j1 e]
    exact Or.inr ⟨rfl, Int.le_refl _⟩
theorem TP.old {v : Nat} {run : Int} (hk : 0 < k) (h : TP N o k R c f s fi dv fo co be) (hs : s + c = k) (hR : pkm N (o k) = R) (hR1 : pkm N (o (k - 1)) = R) (hd : dcN N (mk N (o k)) = v) (hv : v < 8) (hsrt : ∀ j, 0 ≤ j → j < k → pkm N (o j) = R → pfm N (o j) ≤ pfm N (o (k - 1)) ∧ pfm N (o (k - 1)) ≤ pfm N (o k))
    (hrun : run = fkn N o k (k - 1)) {run' fo' co' be' : Int} (e1 : (pfm N (o k) = pfm N (o (k - 1)) ∧ run' = run + 1 ∧ fo' = fo) ∨ (pfm N (o k) ≠ pfm N (o (k - 1)) ∧ run' = 1 ∧ fo' = fo + 1)) (e2 : (be < run' ∧ be' = run' ∧ co' = o k) ∨ (run' ≤ be ∧ be' = be ∧ co' = co)) :
    run' = fkn N o (k + 1) k ∧ ∃ V : Nat, dv = V ∧ V < 256 ∧ TP N o (k + 1) R (c + 1) (f + 1 - bi (wi N (mk N (o k)) (ml N (o k)))) s (if fi ≤ o k then fi else o k) ((V ||| 2 ^ v : Nat) : Int) fo' co' be' := by
  have hk0 : 0 ≤ k := by omega
  obtain ⟨a1, a2, a3, a4, a5, a6, a7⟩ := h
  -- how many have the form of the new one
  have fkk : fkn N o k k + 1 = run' := by
    rcases e1 with ⟨q, r, _⟩ | ⟨q, r, _⟩
    · have : fkn N o k k = fkn N o k (k - 1) := cnt_congr _ (fun j j0 j1 => by rw [hR, hR1, q])
      omega
    · have : fkn N o k k = 0 := cnt_no _ (fun j j0 j1 g => by
        have := hsrt j j0 (by omega) (g.1.trans hR)
        have := g.2
        omega)
      omega
  have hrun' : run' = fkn N o (k + 1) k := by rw [fkn_s hk0, bi_1 ⟨rfl, rfl⟩]; omega
  have fks : ∀ j, pfm N (o j) ≠ pfm N (o k) → fkn N o (k + 1) j = fkn N o k j := fun j e => by
    rw [fkn_s hk0, bi_0 (fun q => e q.2.symm)]; omega
  have fke : ∀ j, pkm N (o j) = R → pfm N (o j) = pfm N (o k) → fkn N o (k + 1) j = run' ∧ fkn N o k j = run' - 1 := fun j e1 e2 => by
    have g : fkn N o k j = fkn N o k k := cnt_congr _ (fun i _ _ => by rw [e1, hR, e2])
    rw [fkn_s hk0, bi_1 ⟨hR.trans e1.symm, e2.symm⟩]
    omega
  refine ⟨hrun', ?_⟩
  obtain ⟨V, v1, v2, v3⟩ := a5
  refine ⟨V, v1, v2, ?_, ?_, ⟨a3.1, fun j j0 j1 => ?_⟩, ⟨?_, fun j j0 j1 e => ?_⟩, ⟨V ||| 2 ^ v, rfl, ?_, fun e => ?_⟩, ?_, ?_⟩
  · rw [cnt_z _ hk0, bi_1 hR, a1]
  · rw [cnt_z _ hk0, a2]
    by_cases q : wi N (mk N (o k)) (ml N (o k))
    · rw [bi_1 q, bi_0 (fun g => g.2 q)]; omega
    · rw [bi_0 q, bi_1 ⟨hR, q⟩]; omega
  · by_cases q : j = k
    · rw [q]
      have hc := (cnt_b (fun j => pkm N (o j) = R) k.toNat).1
      exact ⟨fun _ => by omega, fun _ => hR⟩
    · exact (a3.2 j j0 (by omega)).trans ⟨fun g => by omega, fun g => by omega⟩
  · by_cases q : fi ≤ o k
    · rw [if_pos q]
      obtain ⟨j, j0, j1, j2, j3⟩ := a4.1
      exact ⟨j, j0, by omega, j2, j3⟩
    · rw [if_neg q]
      exact ⟨k, hk0, by omega, hR, rfl⟩
  · by_cases q : j = k
    · rw [q]; split <;> omega
    · have := a4.2 j j0 (by omega) e
      split <;> omega
  · have h2 := Nat.pow_lt_pow_right (a := 2) (by decide) hv
    exact Nat.or_lt_two_pow (n := 8) v2 h2
  · rw [Nat.testBit_or, Bool.or_eq_true, v3 e, bit_e]
    constructor
    · intro g
      rcases g with ⟨j, j0, j1, j2, j3⟩ | g
      · exact ⟨j, j0, by omega, j2, j3⟩
      · exact ⟨k, hk0, by omega, hR, by rw [hd, g]⟩
    · intro ⟨j, j0, j1, j2, j3⟩
      by_cases q : j = k
      · rw [q, hd] at j3; exact Or.inr (by omega)
      · exact Or.inl ⟨j, j0, by omega, j2, j3⟩
  · obtain ⟨u, hu⟩ := a6
    rcases e1 with ⟨q, _, r⟩ | ⟨q, _, r⟩
    · rw [r]
      refine ⟨u, hu.ext (fun x => ⟨fun ⟨j, j0, j1, j2, j3⟩ => ⟨j, j0, by omega, j2, j3⟩, fun ⟨j, j0, j1, j2, j3⟩ => ?_⟩)⟩
      by_cases g : j = k
      · exact ⟨k - 1, by omega, by omega, hR1, by rw [← q, ← g]; exact j3⟩
      · exact ⟨j, j0, by omega, j2, j3⟩
    · rw [r]
      have hins := hu.ins (u' := fun i => if i < fo then u i else if i = fo then pfm N (o k) else u (i - 1)) (p := fo) (x := pfm N (o k)) ⟨hu.1, Int.le_refl _⟩ (fun i i0 i1 => by
        obtain ⟨j, j0, j1, j2, j3⟩ := hu.2.2.1 i i0 i1
        have := hsrt j j0 j1 j2
        omega) (fun i i0 i1 => by omega) (fun i _ _ => rfl)
      refine ⟨_, hins.ext (fun x => ?_)⟩
      constructor
      · intro g
        rcases g with ⟨j, j0, j1, j2, j3⟩ | g
        · exact ⟨j, j0, by omega, j2, j3⟩
        · exact ⟨k, hk0, by omega, hR, g.symm⟩
      · intro ⟨j, j0, j1, j2, j3⟩
        by_cases g : j = k
        · exact Or.inr (by rw [← j3, g])
        · exact Or.inl ⟨j, j0, by omega, j2, j3⟩
  · obtain ⟨jc, c0, c1, c2, c3, c4, c5⟩ := a7
    rcases e2 with ⟨q, r, g⟩ | ⟨q, r, g⟩
    · refine ⟨k, hk0, by omega, hR, g.symm, by rw [r]; exact hrun', fun j j0 j1 e => ?_⟩
      rw [← hrun']
      by_cases z : pfm N (o j) = pfm N (o k)
      · exact Or.inr ⟨(fke j e z).1, by omega⟩
      · rw [fks j z]
        by_cases jk : j = k
        · rw [jk] at z; exact absurd rfl z
        · have := c5 j j0 (by omega) e
          left
          omega
    · have hne : pfm N (o jc) ≠ pfm N (o k) := fun z => by have := (fke jc c2 z).2; omega
      refine ⟨jc, c0, by omega, c2, by rw [g]; exact c3, by rw [r, fks jc hne]; exact c4, fun j j0 j1 e => ?_⟩
      rw [fks jc hne]
      by_cases z : pfm N (o j) = pfm N (o k)
      · have := (fke j e z).1
        have s1 := hsrt jc c0 c1 c2
        rcases Int.lt_or_le (fkn N o (k + 1) j) (fkn N o k jc) with g | g
        · exact Or.inl g
        · exact Or.inr ⟨by omega, by omega⟩
      · by_cases jk : j = k
        · rw [jk] at z; exact absurd rfl z
        · rw [fks j z]; exact c5 j j0 (by omega) e
end TSP
