/-! the reference: a match comes -/
abbrev S6 : List Nat := [261, 272, 273, 276, 277, 278]
def f6 (m m' : zM) : Prop := fr S6 m m' ∧ ∀ z, 0 ≤ z → z ≠ 26 → z ≠ 32 → iq m' 261 z = iq m 261 z
theorem f6.rf (m : zM) : f6 m m := ⟨fr.rf _ _, fun _ _ _ _ => rfl⟩
theorem f6.tr {m m1 m2 : zM} (h : f6 m m1) (g : f6 m1 m2) : f6 m m2 := ⟨h.1.tr g.1, fun z z0 z1 z2 => (g.2 z z0 z1 z2).trans (h.2 z z0 z1 z2)⟩
/-- the matches ahead of x and their terms, so far -/
def RM (N : Int → Int) (m : zM) (s x T : Int) : Prop := RT N m T ∧ iq m 261 26 = s ∧ T ≤ s ∧ enm (fun i => 6 * iq m 272 i + iq m 273 i) s (MSo N x) ∧ (∀ i, 0 ≤ i → i < s → mt N (iq m 272 i) (iq m 273 i)) ∧ enm (rk N m) T (img (fun i => pk N (iq m 272 i) (iq m 273 i)) s) ∧ ∀ y, 0 ≤ y → y < 2400 → iq m 276 y = bi (MSo N x y)
section MCO
variable {d : Nat} {w : Nat × Nat × Nat} {b : Nat} {C : Int} {N : Int → Int} {mv : zM}
theorem MSo_s (N : Int → Int) (x y : Int) (hx : KS N x) : MSo N (x + 1) y ↔ MSo N x y ∨ y = x := by
  constructor
  · intro ⟨g1, g2⟩
    by_cases e : y = x
    · exact Or.inr e
    · exact Or.inl ⟨g1, by omega⟩
  · intro g
    rcases g with ⟨g1, g2⟩ | g
    · exact ⟨g1, by omega⟩
    · rw [g]; exact ⟨hx, by omega⟩
theorem MSo_n (N : Int → Int) (x y : Int) (hx : ¬ KS N x) : MSo N (x + 1) y ↔ MSo N x y := by
  constructor
  · intro ⟨g1, g2⟩
    by_cases e : y = x
    · rw [e] at g1; exact absurd g1 hx
    · exact ⟨g1, by omega⟩
  · intro ⟨g1, g2⟩
    exact ⟨g1, by omega⟩
theorem RM.no {m : zM} {s x T : Int} (h : RM N m s x T) (hx : ¬ KS N x) : RM N m s (x + 1) T := by
  obtain ⟨a1, a2, a3, a4, a5, a6, a7⟩ := h
  exact ⟨a1, a2, a3, a4.ext (fun y => (MSo_n N x y hx).symm), a5, a6, fun y y0 y1 => by rw [a7 y y0 y1]; exact bi_congr (MSo_n N x y hx).symm⟩
/-- what is written where a match comes -/
def CW (m0 m' : zM) (k n p s T : Int) (nw : Prop) : Prop :=
  f6 m0 m' ∧ iq m' 261 26 = s + 1 ∧ (∀ i, 0 ≤ i → iq m' 272 i = if i = s then k else iq m0 272 i) ∧ (∀ i, 0 ≤ i → iq m' 273 i = if i = s then n else iq m0 273 i) ∧ (∀ y, 0 ≤ y → iq m' 276 y = if y = 6 * k + n then 1 else iq m0 276 y) ∧
  (nw → iq m' 261 32 = T + 1 ∧ ∀ i, 0 ≤ i → i < T + 1 → (iq m' 277 i = if i < p then iq m0 277 i else if i = p then k else iq m0 277 (i - 1)) ∧ iq m' 278 i = if i < p then iq m0 278 i else if i = p then n else iq m0 278 (i - 1)) ∧
  (¬ nw → iq m' 261 32 = T ∧ (∀ i, iq m' 277 i = iq m0 277 i) ∧ ∀ i, iq m' 278 i = iq m0 278 i)
theorem c_comes22 {Q : zM → Prop} {m0 : zM} {k n p s T : Int} (hs : 0 ≤ s ∧ s < 1200) (hT : 0 ≤ T ∧ T < 1200) (hp : 0 ≤ p ∧ p ≤ T) (hk : 0 ≤ k ∧ k < 240) (hn : 1 ≤ n ∧ n ≤ 5) (e32 : iq m0 261 32 = T) (e26 : iq m0 261 26 = s) (H : ∀ m', CW m0 m' k n p s T True → Q m') :
    ∀ (j : Nat) (z : Int) (m : zM), z = p + j → z ≤ T → fr [277, 278] m0 m → (∀ i, 0 ≤ i → i < T + 1 → (iq m 277 i = if i ≤ z then (if i = T then iq m 277 i else iq m0 277 i) else iq m0 277 (i - 1)) ∧ iq m 278 i = if i ≤ z then (if i = T then iq m 278 i else iq m0 278 i) else iq m0 278 (i - 1)) → W_M_comes_22 d (J k) (J n) (J p) (J z) w m Q := by
  intro j
  induction j with
  | zero =>
    intro z m hz hzT f hI
    have g32 : iq m 261 32 = T := (f.i (by simp) 32).trans e32
    have g26 : iq m 261 26 = s := (f.i (by simp) 26).trans e26
    refine S_M_comes_22 ?_
    simp (disch := first | (unfold r32; omega) | omega) only [j_lit, J_le, j_ops, vp_J, J_cl, j_rd, j_nc, g32, g26, j_wr, sq_tn]
    refine ⟨fun _ => ⟨by omega, by omega, by omega, by omega, by omega, ?_⟩, fun q => by omega⟩
    have ff : fr S6 m0 (sq (sq (sq (sq (sq (sq (sq m 277 p k) 278 p n) 261 32 (T + 1)) 272 s k) 273 s n) 276 (6 * k + n) 1) 261 26 (s + 1)) := ((((((((f.mo (by simp)).si (by simp) _ _).si (by simp) _ _).si (by simp) _ _).si (by simp) _ _).si (by simp) _ _).si (by simp) _ _).si (by simp) _ _)
    have w61 : ∀ z, 0 ≤ z → z ≠ 26 → z ≠ 32 → iq (sq (sq (sq (sq (sq (sq (sq m 277 p k) 278 p n) 261 32 (T + 1)) 272 s k) 273 s n) 276 (6 * k + n) 1) 261 26 (s + 1)) 261 z = iq m0 261 z := fun z z0 z1 z2 => by
      rw [iq_ne (Or.inr z1) (by omega) z0, iq_ne (by omega) (by omega) z0, iq_ne (by omega) (by omega) z0, iq_ne (by omega) (by omega) z0, iq_ne (Or.inr z2) (by omega) z0, iq_ne (by omega) (by omega) z0, iq_ne (by omega) (by omega) z0]
      exact f.i (by simp) z
    have w26 : iq (sq (sq (sq (sq (sq (sq (sq m 277 p k) 278 p n) 261 32 (T + 1)) 272 s k) 273 s n) 276 (6 * k + n) 1) 261 26 (s + 1)) 261 26 = s + 1 := iq_eq (by unfold r32; omega)
    have w32 : iq (sq (sq (sq (sq (sq (sq (sq m 277 p k) 278 p n) 261 32 (T + 1)) 272 s k) 273 s n) 276 (6 * k + n) 1) 261 26 (s + 1)) 261 32 = T + 1 := by
      rw [iq_ne (by omega) (by omega) (by omega), iq_ne (by omega) (by omega) (by omega), iq_ne (by omega) (by omega) (by omega), iq_ne (by omega) (by omega) (by omega), iq_eq (by unfold r32; omega)]
    have w76 : ∀ y, 0 ≤ y → iq (sq (sq (sq (sq (sq (sq (sq m 277 p k) 278 p n) 261 32 (T + 1)) 272 s k) 273 s n) 276 (6 * k + n) 1) 261 26 (s + 1)) 276 y = if y = 6 * k + n then 1 else iq m0 276 y := fun y y0 => by
      rw [iq_ne (by omega) (by omega) y0]
      by_cases e : y = 6 * k + n
      · rw [if_pos e, e, iq_eq (by unfold r32; omega)]
      · rw [if_neg e, iq_ne (Or.inr e) (by omega) y0, iq_ne (by omega) (by omega) y0, iq_ne (by omega) (by omega) y0, iq_ne (by omega) (by omega) y0, iq_ne (by omega) (by omega) y0, iq_ne (by omega) (by omega) y0]
        exact f.i (by simp) y
    have w73 : ∀ i, 0 ≤ i → iq (sq (sq (sq (sq (sq (sq (sq m 277 p k) 278 p n) 261 32 (T + 1)) 272 s k) 273 s n) 276 (6 * k + n) 1) 261 26 (s + 1)) 273 i = if i = s then n else iq m0 273 i := fun y y0 => by
      rw [iq_ne (by omega) (by omega) y0, iq_ne (by omega) (by omega) y0]
      by_cases e : y = s
      · rw [if_pos e, e, iq_eq (by unfold r32; omega)]
      · rw [if_neg e, iq_ne (Or.inr e) (by omega) y0, iq_ne (by omega) (by omega) y0, iq_ne (by omega) (by omega) y0, iq_ne (by omega) (by omega) y0, iq_ne (by omega) (by omega) y0]
        exact f.i (by simp) y
    have w72 : ∀ i, 0 ≤ i → iq (sq (sq (sq (sq (sq (sq (sq m 277 p k) 278 p n) 261 32 (T + 1)) 272 s k) 273 s n) 276 (6 * k + n) 1) 261 26 (s + 1)) 272 i = if i = s then k else iq m0 272 i := fun y y0 => by
      rw [iq_ne (by omega) (by omega) y0, iq_ne (by omega) (by omega) y0, iq_ne (by omega) (by omega) y0]
      by_cases e : y = s
      · rw [if_pos e, e, iq_eq (by unfold r32; omega)]
      · rw [if_neg e, iq_ne (Or.inr e) (by omega) y0, iq_ne (by omega) (by omega) y0, iq_ne (by omega) (by omega) y0, iq_ne (by omega) (by omega) y0]
        exact f.i (by simp) y
    have w78 : ∀ i, 0 ≤ i → iq (sq (sq (sq (sq (sq (sq (sq m 277 p k) 278 p n) 261 32 (T + 1)) 272 s k) 273 s n) 276 (6 * k + n) 1) 261 26 (s + 1)) 278 i = if i = p then n else iq m 278 i := fun y y0 => by
      rw [iq_ne (by omega) (by omega) y0, iq_ne (by omega) (by omega) y0, iq_ne (by omega) (by omega) y0, iq_ne (by omega) (by omega) y0, iq_ne (by omega) (by omega) y0]
      by_cases e : y = p
      · rw [if_pos e, e, iq_eq (by unfold r32; omega)]
      · rw [if_neg e, iq_ne (Or.inr e) (by omega) y0, iq_ne (by omega) (by omega) y0]
    have w77 : ∀ i, 0 ≤ i → iq (sq (sq (sq (sq (sq (sq (sq m 277 p k) 278 p n) 261 32 (T + 1)) 272 s k) 273 s n) 276 (6 * k + n) 1) 261 26 (s + 1)) 277 i = if i = p then k else iq m 277 i := fun y y0 => by
      rw [iq_ne (by omega) (by omega) y0, iq_ne (by omega) (by omega) y0, iq_ne (by omega) (by omega) y0, iq_ne (by omega) (by omega) y0, iq_ne (by omega) (by omega) y0, iq_ne (by omega) (by omega) y0]
      by_cases e : y = p
      · rw [if_pos e, e, iq_eq (by unfold r32; omega)]
      · rw [if_neg e, iq_ne (Or.inr e) (by omega) y0]
    generalize sq (sq (sq (sq (sq (sq (sq m 277 p k) 278 p n) 261 32 (T + 1)) 272 s k) 273 s n) 276 (6 * k + n) 1) 261 26 (s + 1) = m' at *
    refine H m' ⟨⟨ff, w61⟩, w26, w72, w73, w76, fun _ => ⟨w32, fun i i0 i1 => ?_⟩, fun q => absurd trivial q⟩
    obtain ⟨h1, h2⟩ := hI i i0 i1
    rw [w77 i i0, w78 i i0]
    by_cases e : i = p
    · refine ⟨?_, ?_⟩
      · rw [if_pos e, if_neg (by omega), if_pos e]
      · rw [if_pos e, if_neg (by omega), if_pos e]
    · refine ⟨?_, ?_⟩
      · rw [if_neg e]
        refine h1.trans ?_
        by_cases e2 : i < p
        · rw [if_pos (by omega), if_neg (by omega), if_pos e2]
        · rw [if_neg (by omega), if_neg e2, if_neg e]
      · rw [if_neg e]
        refine h2.trans ?_
        by_cases e2 : i < p
        · rw [if_pos (by omega), if_neg (by omega), if_pos e2]
        · rw [if_neg (by omega), if_neg e2, if_neg e]
  | succ j ih =>
    intro z m hz hzT f hI
    have l1 := iq_r m 277 (z - 1)
    have l2 := iq_r m 278 (z - 1)
    obtain ⟨h1, h2⟩ := hI (z - 1) (by omega) (by omega)
    rw [if_pos (by omega), if_neg (by omega)] at h1 h2
    refine S_M_comes_22 ?_
    simp (disch := first | (unfold r32; omega) | omega) only [j_lit, J_le, j_ops, vp_J, J_cl, j_rd, iq_tn, j_wr, sq_tn]
    refine ⟨fun q => by omega, fun _ => ⟨by omega, by omega, by omega, by omega, ?_⟩⟩
    rw [show z + -1 = z - 1 by omega]
    refine ih (z - 1) _ (by omega) (by omega) ((f.si (by simp) _ _).si (by simp) _ _) (fun i i0 i1 => ?_)
    obtain ⟨g1, g2⟩ := hI i i0 i1
    by_cases q : i = z
    · rw [q, iq_ne (by omega) (by omega) (by omega), iq_eq l1, iq_eq l2, if_neg (by omega), if_neg (by omega)]
      exact ⟨h1, h2⟩
    · rw [iq_ne (by omega) (by omega) i0, iq_ne (Or.inr q) (by omega) i0, iq_ne (Or.inr q) (by omega) i0, iq_ne (by omega) (by omega) i0]
      by_cases q2 : i ≤ z - 1
      · rw [if_pos q2, if_neg (by omega), if_pos q2, if_neg (by omega)]
        rw [if_pos (by omega), if_neg (by omega)] at g1 g2
        exact ⟨g1, g2⟩
      · rw [if_neg q2, if_neg q2]
        rw [if_neg (by omega)] at g1 g2
        exact ⟨g1, g2⟩
theorem CW.rm {m m' : zM} {k n p s T : Int} {nw : Prop} (h : TR C mv b N) (hm : mt N k n) (hs : s < 1200) (hA : RM N m s (6 * k + n) T) (hc : CW m m' k n p s T nw) (hp : 0 ≤ p ∧ p ≤ T) (hlo : ∀ i, 0 ≤ i → i < p → rk N m i < pk N k n) (hnw : nw → ∀ i, p ≤ i → i < T → pk N k n < rk N m i) (hold : ¬ nw → p < T ∧ rk N m p = pk N k n) : ∃ T', RM N m' (s + 1) (6 * k + n + 1) T' := by
  obtain ⟨a1, a2, a3, a4, a5, a6, a7⟩ := hA
  obtain ⟨c1, c2, c3, c4, c5, c6, c7⟩ := hc
  have hb := mt_b h hm
  have hKS : KS N (6 * k + n) := ⟨k, n, hm, rfl⟩
  have hs0 := a4.1
  have r4 : enm (fun i => 6 * iq m' 272 i + iq m' 273 i) (s + 1) (MSo N (6 * k + n + 1)) := by
    have := a4.ins (u' := fun i => 6 * iq m' 272 i + iq m' 273 i) (p := s) (x := 6 * k + n) ⟨hs0, by omega⟩ (fun i i0 i1 => (a4.2.2.1 i i0 i1).2) (fun i i0 i1 => by omega) (fun i i0 i1 => by
      show 6 * iq m' 272 i + iq m' 273 i = _
      rw [c3 i i0, c4 i i0]
      by_cases e : i = s
      · rw [if_pos e, if_pos e, if_neg (by omega), if_pos e]
      · rw [if_neg e, if_neg e, if_pos (by omega)])
    exact this.ext (fun y => (MSo_s N _ y hKS).symm)
  have r5 : ∀ i, 0 ≤ i → i < s + 1 → mt N (iq m' 272 i) (iq m' 273 i) := fun i i0 i1 => by
    rw [c3 i i0, c4 i i0]
    by_cases e : i = s
    · rw [if_pos e, if_pos e]; exact hm
    · rw [if_neg e, if_neg e]; exact a5 i i0 (by omega)
  have r7 : ∀ y, 0 ≤ y → y < 2400 → iq m' 276 y = bi (MSo N (6 * k + n + 1) y) := fun y y0 y1 => by
    rw [c5 y y0, bi_congr (MSo_s N _ y hKS)]
    by_cases e : y = 6 * k + n
    · rw [if_pos e, bi_1 (Or.inr e)]
    · rw [if_neg e, a7 y y0 y1]
      exact bi_congr ⟨fun g => Or.inl g, fun g => by
        rcases g with g | g
        · exact g
        · exact absurd g e⟩
  have himg : ∀ x, img (fun i => pk N (iq m' 272 i) (iq m' 273 i)) (s + 1) x ↔ (img (fun i => pk N (iq m 272 i) (iq m 273 i)) s x ∨ x = pk N k n) := fun x => by
    constructor
    · intro ⟨i, i0, i1, e⟩
      have e' : pk N (iq m' 272 i) (iq m' 273 i) = x := e
      rw [c3 i i0, c4 i i0] at e'
      by_cases g : i = s
      · rw [if_pos g, if_pos g] at e'; exact Or.inr e'.symm
      · rw [if_neg g, if_neg g] at e'; exact Or.inl ⟨i, i0, by omega, e'⟩
    · intro g
      rcases g with ⟨i, i0, i1, e⟩ | g
      · refine ⟨i, i0, by omega, ?_⟩
        show pk N (iq m' 272 i) (iq m' 273 i) = x
        rw [c3 i i0, c4 i i0, if_neg (by omega), if_neg (by omega)]
        exact e
      · refine ⟨s, hs0, by omega, ?_⟩
        show pk N (iq m' 272 s) (iq m' 273 s) = x
        rw [c3 s hs0, c4 s hs0, if_pos rfl, if_pos rfl, g]
  obtain ⟨t1, t2, t3, t4⟩ := a1
  by_cases g : nw
  · obtain ⟨d1, d2⟩ := c6 g
    have hrow : ∀ i, 0 ≤ i → i < T + 1 → (iq m' 277 i = if i < p then iq m 277 i else if i = p then k else iq m 277 (i - 1)) ∧ iq m' 278 i = if i < p then iq m 278 i else if i = p then n else iq m 278 (i - 1) := d2
    refine ⟨T + 1, ⟨d1, by omega, by omega, fun t t0 q1 => ?_⟩, c2, by omega, r4, r5, ?_, r7⟩
    · obtain ⟨x1, x2⟩ := hrow t t0 q1
      rw [x1, x2]
      by_cases e : t < p
      · rw [if_pos e, if_pos e]; exact t4 t t0 (by omega)
      · rw [if_neg e, if_neg e]
        by_cases e2 : t = p
        · rw [if_pos e2, if_pos e2]; omega
        · rw [if_neg e2, if_neg e2]; exact t4 (t - 1) (by omega) (by omega)
    · have := a6.ins (u' := rk N m') (p := p) (x := pk N k n) hp hlo (hnw g) (fun i i0 i1 => by
        obtain ⟨x1, x2⟩ := hrow i i0 i1
        show pk N (iq m' 277 i) (iq m' 278 i) = _
        rw [x1, x2]
        by_cases e : i < p
        · rw [if_pos e, if_pos e, if_pos e]; rfl
        · rw [if_neg e, if_neg e, if_neg e]
          by_cases e2 : i = p
          · rw [if_pos e2, if_pos e2, if_pos e2]
          · rw [if_neg e2, if_neg e2, if_neg e2]; rfl)
      exact this.ext (fun x => (himg x).symm)
  · obtain ⟨d1, d2, d3⟩ := c7 g
    obtain ⟨g1, g2⟩ := hold g
    refine ⟨T, ⟨d1, by omega, by omega, fun t t0 q1 => ?_⟩, c2, by omega, r4, r5, ?_, r7⟩
    · rw [d2, d3]; exact t4 t t0 q1
    · have e : enm (rk N m') T (img (fun i => pk N (iq m 272 i) (iq m 273 i)) s) := a6.fn (fun i _ _ => by
        show pk N (iq m' 277 i) (iq m' 278 i) = pk N (iq m 277 i) (iq m 278 i)
        rw [d2, d3])
      refine e.ext (fun x => ⟨fun y => (himg x).mpr (Or.inl y), fun y => ?_⟩)
      rcases (himg x).mp y with y | y
      · exact y
      · rw [y, ← g2]; exact a6.2.2.1 p hp.1 g1
theorem c_comes {Q : zM → Prop} {m : zM} {k n s T : Int} (h : TR C mv b N) (h6 : h268 N m) (hA : RM N m s (6 * k + n) T) (hm : mt N k n) (hs : s < 1200) (H : ∀ m' T', f6 m m' → RM N m' (s + 1) (6 * k + n + 1) T' → Q m') : cV (d + 2) 235 [.ref 261, .int (J k), .int (J n)] w m Q := by
  have hb := mt_b h hm
  obtain ⟨a1, a2, a3, a4, a5, a6, a7⟩ := id hA
  obtain ⟨t1, t2, t3, t4⟩ := id a1
  have hs0 := a4.1
  have kn : 0 ≤ k ∧ 0 ≤ n ∧ n ≤ 5 ∧ k + n ≤ wW N := ⟨hb.1, by omega, hb.2.2.1, hb.2.2.2.1⟩
  refine S_M_comes (c_M_placeOf (d := d) h h6 a1 a6.2.1 kn (fun p hp => ?_))
  obtain ⟨p0, p1, p2, p3⟩ := hp
  have ins : (∀ i, p ≤ i → i < T → pk N k n < rk N m i) → W_M_comes_22 (d + 1) (J k) (J n) (J p) (J T) w m Q := fun g =>
    c_comes22 (m0 := m) (s := s) ⟨hs0, hs⟩ ⟨t2, by omega⟩ ⟨p0, p1⟩ ⟨hb.1, by omega⟩ ⟨hb.2.1, hb.2.2.1⟩ t1 a2 (fun m' hc => by
      obtain ⟨T', hT'⟩ := hc.rm h hm hs hA ⟨p0, p1⟩ p2 (fun _ => g) (fun q => absurd trivial q)
      exact H m' T' hc.1 hT') (T - p).toNat T m (by omega) (by omega) (fr.rf _ _) (fun i i0 i1 => by
        constructor <;> (rw [if_pos (by omega)]; split <;> rfl))
  simp (disch := first | (unfold r32; omega) | omega) only [j_lit, j_rd, j_nc, t1, J_eq]
  refine ⟨fun q => ins (fun i i0 i1 => by omega), fun q => c_M_bes h h6 a1 ⟨p0, by omega⟩ kn (fun v v0 v1 e => ?_) (fun e => ?_) (fun v v0 v1 e => ?_)⟩
  · simp (disch := first | exact v1 | (unfold r32; omega) | omega) only [j_lit, j_rd, j_nc, t1, J_eq]
    refine ⟨fun y => by omega, fun _ => ins (fun i i0 i1 => ?_)⟩
    by_cases z : i = p
    · rw [z]; exact e
    · have := a6.2.1 p i p0 (by omega) i1
      omega
  · simp (disch := first | (unfold r32; omega) | omega) only [j_lit, j_rd, j_nc, a2, J_eq, vp_J, J_cl, j_ops, j_wr, sq_tn]
    refine ⟨fun _ => ⟨by omega, by omega, by omega, ?_⟩, fun y => absurd trivial y⟩
    have ff : fr S6 m (sq (sq (sq (sq m 272 s k) 273 s n) 276 (6 * k + n) 1) 261 26 (s + 1)) := ((((fr.rf _ m).si (by simp) _ _).si (by simp) _ _).si (by simp) _ _).si (by simp) _ _
    have w61 : ∀ z, 0 ≤ z → z ≠ 26 → iq (sq (sq (sq (sq m 272 s k) 273 s n) 276 (6 * k + n) 1) 261 26 (s + 1)) 261 z = iq m 261 z := fun z z0 z1 => by
      rw [iq_ne (Or.inr z1) (by omega) z0, iq_ne (by omega) (by omega) z0, iq_ne (by omega) (by omega) z0, iq_ne (by omega) (by omega) z0]
    have w26 : iq (sq (sq (sq (sq m 272 s k) 273 s n) 276 (6 * k + n) 1) 261 26 (s + 1)) 261 26 = s + 1 := iq_eq (by unfold r32; omega)
    have w76 : ∀ y, 0 ≤ y → iq (sq (sq (sq (sq m 272 s k) 273 s n) 276 (6 * k + n) 1) 261 26 (s + 1)) 276 y = if y = 6 * k + n then 1 else iq m 276 y := fun y y0 => by
      rw [iq_ne (by omega) (by omega) y0]
      by_cases e : y = 6 * k + n
      · rw [if_pos e, e, iq_eq (by unfold r32; omega)]
      · rw [if_neg e, iq_ne (Or.inr e) (by omega) y0, iq_ne (by omega) (by omega) y0, iq_ne (by omega) (by omega) y0]
    have w73 : ∀ i, 0 ≤ i → iq (sq (sq (sq (sq m 272 s k) 273 s n) 276 (6 * k + n) 1) 261 26 (s + 1)) 273 i = if i = s then n else iq m 273 i := fun y y0 => by
      rw [iq_ne (by omega) (by omega) y0, iq_ne (by omega) (by omega) y0]
      by_cases e : y = s
      · rw [if_pos e, e, iq_eq (by unfold r32; omega)]
      · rw [if_neg e, iq_ne (Or.inr e) (by omega) y0, iq_ne (by omega) (by omega) y0]
    have w72 : ∀ i, 0 ≤ i → iq (sq (sq (sq (sq m 272 s k) 273 s n) 276 (6 * k + n) 1) 261 26 (s + 1)) 272 i = if i = s then k else iq m 272 i := fun y y0 => by
      rw [iq_ne (by omega) (by omega) y0, iq_ne (by omega) (by omega) y0, iq_ne (by omega) (by omega) y0]
      by_cases e : y = s
      · rw [if_pos e, e, iq_eq (by unfold r32; omega)]
      · rw [if_neg e, iq_ne (Or.inr e) (by omega) y0]
    have w77 : ∀ i, iq (sq (sq (sq (sq m 272 s k) 273 s n) 276 (6 * k + n) 1) 261 26 (s + 1)) 277 i = iq m 277 i := fun y => (((((fr.rf [261, 272, 273, 276] m).si (by simp) _ _).si (by simp) _ _).si (by simp) _ _).si (by simp) _ _).i (by simp) y
    have w78 : ∀ i, iq (sq (sq (sq (sq m 272 s k) 273 s n) 276 (6 * k + n) 1) 261 26 (s + 1)) 278 i = iq m 278 i := fun y => (((((fr.rf [261, 272, 273, 276] m).si (by simp) _ _).si (by simp) _ _).si (by simp) _ _).si (by simp) _ _).i (by simp) y
    generalize sq (sq (sq (sq m 272 s k) 273 s n) 276 (6 * k + n) 1) 261 26 (s + 1) = m' at *
    have hc : CW m m' k n p s T False := ⟨⟨ff, fun z z0 z1 _ => w61 z z0 z1⟩, w26, w72, w73, w76, fun q => q.elim, fun _ => ⟨(w61 32 (by omega) (by omega)).trans t1, w77, w78⟩⟩
    obtain ⟨T', hT'⟩ := hc.rm h hm hs hA ⟨p0, p1⟩ p2 (fun q => q.elim) (fun _ => ⟨by omega, e.symm⟩)
    exact H m' T' hc.1 hT'
  · have := p3 p (by omega) (by omega)
    omega
end MCO
