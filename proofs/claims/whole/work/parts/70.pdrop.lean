/-! drop: both -/
/-- words of a DOC go: n from place p on, up to place z -/
def dsh (N : Int → Int) (p n z : Int) : Int → Int := fun y => if 269 + p ≤ y ∧ y < 269 + z then N (y + n) else if 669 + p ≤ y ∧ y < 669 + z then N (y + n) else N y
/-- the ends of the DOCS behind it -/
def dnd (N : Int → Int) (doc n z : Int) : Int → Int := fun y => if 260 + doc ≤ y ∧ y < 260 + z then N (y + 1) - n else N y
def drp (N : Int → Int) (doc p n c s : Int) : Int → Int := fun y => if y = 259 then c - 1 else dnd (dsh N p n (s - n)) doc n c y
section DR
variable {d : Nat} {w : Nat × Nat × Nat} {C : Int}
theorem c_remove_l {Q : zM → Prop} {m0 : zM} {a : Nat} {p n s : Int} (ha : zPr w a) (hp : 0 ≤ p) (hn : 0 ≤ n) (hs : s ≤ 240) (H : ∀ m', fr [a, a + 1, a + 2] m0 m' → iq m' a 2 = s - n → (∀ y, 0 ≤ y → y < s - n → lq m' (a + 1) y = lq m0 (a + 1) (if y < p then y else y + n) ∧ iq m' (a + 2) y = iq m0 (a + 2) (if y < p then y else y + n)) → Q m') :
    ∀ (j : Nat) (z : Int) (m : zM), p ≤ z → z + n + j = s → fr [a + 1, a + 2] m0 m → iq m a 2 = s → (∀ y, 0 ≤ y → lq m (a + 1) y = lq m0 (a + 1) (if p ≤ y ∧ y < z then y + n else y) ∧ iq m (a + 2) y = iq m0 (a + 2) (if p ≤ y ∧ y < z then y + n else y)) → W_Prose_remove_2 d a (J n) (J z) w m Q := by
  intro j
  induction j with
  | zero =>
    intro z m hz hj f h2 hI
    refine S_Prose_remove_2 ha ?_
    simp (disch := first | (unfold r32; omega) | omega) only [j_lit, J_le, j_rd, j_nc, h2, j_ops, j_wr]
    refine ⟨fun _ => H _ ((f.mo (by simp)).si (by simp) _ _) (iq_eq (by unfold r32; omega)) (fun y y0 y1 => ?_), fun q => by omega⟩
    have q := hI y y0
    rw [show lq (sq m a 2 (s - n)) (a + 1) y = lq m (a + 1) y from rfl, iq_ne (Or.inl (by omega)) (by omega) y0]
    by_cases e : y < p
    · rw [if_neg (by omega)] at q
      rw [if_pos e]
      exact q
    · rw [if_pos (by omega)] at q
      rw [if_neg e]
      exact q
  | succ j ih =>
    intro z m hz hj f h2 hI
    refine S_Prose_remove_2 ha ?_
    simp (disch := first | (unfold r32; omega) | omega) only [j_lit, J_le, j_rd, j_nc, h2, j_ops]
    refine ⟨fun q => by omega, fun _ => c_atl ha.2.2.2.1 (by decide) (by unfold r32; omega) (by omega) ?_⟩
    refine c_putl ha.2.2.2.1 (by decide) (by unfold r32; omega) (by omega) ?_
    refine c_at ha.2.2.2.2 (by decide) (by unfold r32; omega) (by omega) ?_
    refine c_put ha.2.2.2.2 (by decide) (by unfold r32; omega) (by omega) ?_
    have l1 := lq_r m (a + 1) (z + n)
    have i1 := iq_r m (a + 2) (z + n)
    have ez := hI (z + n) (by omega)
    rw [if_neg (by omega)] at ez
    have e2 : iq (sl m (a + 1) z (lq m (a + 1) (z + n))) (a + 2) (z + n) = iq m (a + 2) (z + n) := rfl
    rw [e2]
    refine ih (z + 1) _ (by omega) (by omega) ((f.sll (by simp) _ _).si (by simp) _ _) ?_ (fun y y0 => ?_)
    · rw [iq_ne (Or.inl (by omega)) (by omega) (by omega)]
      exact h2
    · have q := hI y y0
      have s1 : lq (sq (sl m (a + 1) z (lq m (a + 1) (z + n))) (a + 2) z (iq m (a + 2) (z + n))) (a + 1) y = lq (sl m (a + 1) z (lq m (a + 1) (z + n))) (a + 1) y := rfl
      rw [s1]
      by_cases e : y = z
      · subst e
        rw [lq_eq l1, iq_eq i1, if_pos (by omega)]
        exact ez
      · rw [lq_ne (Or.inr e) (by omega) y0, iq_ne (Or.inr e) (by omega) y0]
        rw [show iq (sl m (a + 1) z (lq m (a + 1) (z + n))) (a + 2) y = iq m (a + 2) y from rfl]
        by_cases e2 : p ≤ y ∧ y < z
        · rw [if_pos e2] at q
          rw [if_pos (by omega)]
          exact q
        · rw [if_neg e2] at q
          rw [if_neg (by omega)]
          exact q
theorem c_remove {Q : zM → Prop} {m : zM} {a : Nat} {p n s : Int} (ha : zPr w a) (hp : 0 ≤ p) (hn : 0 ≤ n) (hs : s ≤ 240) (h : p + n ≤ s) (h2 : iq m a 2 = s) (H : ∀ m', fr [a, a + 1, a + 2] m m' → iq m' a 2 = s - n → (∀ y, 0 ≤ y → y < s - n → lq m' (a + 1) y = lq m (a + 1) (if y < p then y else y + n) ∧ iq m' (a + 2) y = iq m (a + 2) (if y < p then y else y + n)) → Q m') : cV (d + 1) 60 [.ref a, .int (J p), .int (J n)] w m Q :=
  S_Prose_remove (c_remove_l ha hp hn hs H (s - n - p).toNat p m (by omega) (by omega) (fr.rf _ _) h2 (fun y y0 => by rw [if_neg (by omega)]; exact ⟨rfl, rfl⟩))
theorem c_docFirst {Q : Int32 → zM → Prop} {m : zM} {b : Nat} {N : Int → Int} {dc : Int} (hb : zT b) (h : trD C m b N) (h0 : 0 ≤ dc) (h1 : dc ≤ N 259) (H : Q (J (N (260 + dc))) m) : cI (d + 1) 109 [.ref b, .int (J dc)] w m Q := by
  have h8 := h.2.1
  refine S_Told_docFirst hb ?_
  simp (disch := first | (unfold r32; omega) | omega) only [j_lit, j_ops]
  by_cases e : dc = 0
  · refine c_at_out (zT_de hb) (by decide) (by unfold r32; omega) (by omega) ?_
    rw [e, show (260 : Int) + 0 = 260 by omega, h.2.2.2.1] at H
    exact H
  · refine c_at (zT_de hb) (by decide) (by unfold r32; omega) (by omega) ?_
    have := (h.2.2.2.2.1 (dc - 1) (by omega) (by omega)).2
    rw [this, show 261 + (dc - 1) = 260 + dc by omega]
    exact H
theorem trD_r {m : zM} {b : Nat} {N : Int → Int} (h : trD C m b N) {dc : Int} (h0 : 0 ≤ dc) (h1 : dc ≤ N 259) : 0 ≤ N (260 + dc) ∧ N (260 + dc) ≤ N (260 + N 259) ∧ N (260 + N 259) ≤ 240 := by
  obtain ⟨d1, d2, d3, d4, d5, d6, d7⟩ := h
  have up : ∀ (j : Nat) (e : Int), 0 ≤ e → e + j ≤ N 259 → N (260 + e) ≤ N (260 + (e + j)) := by
    intro j
    induction j with
    | zero => intro e _ _; rw [show e + ((0 : Nat) : Int) = e by omega]; exact Int.le_refl _
    | succ j ih =>
      intro e h0 e1
      have a := ih e h0 (by omega)
      have b := (d5 (e + j) (by omega) (by omega)).1
      rw [show 260 + (e + ((j + 1 : Nat) : Int)) = 261 + (e + j) by omega]
      omega
  have a := up dc.toNat 0 (by omega) (by omega)
  have b := up (N 259 - dc).toNat dc h0 (by omega)
  rw [show (0 : Int) + (dc.toNat : Int) = dc by omega, show (260 : Int) + 0 = 260 by omega, d4] at a
  rw [show dc + ((N 259 - dc).toNat : Int) = N 259 by omega] at b
  exact ⟨a, b, d6⟩
theorem trD_m {m : zM} {b : Nat} {N : Int → Int} (h : trD C m b N) {e dc : Int} (h0 : 0 ≤ e) (h1 : e ≤ dc) (h2 : dc ≤ N 259) : N (260 + e) ≤ N (260 + dc) := by
  obtain ⟨d1, d2, d3, d4, d5, d6, d7⟩ := h
  have up : ∀ (j : Nat) (e : Int), 0 ≤ e → e + j ≤ N 259 → N (260 + e) ≤ N (260 + (e + j)) := by
    intro j
    induction j with
    | zero => intro e _ _; rw [show e + ((0 : Nat) : Int) = e by omega]; exact Int.le_refl _
    | succ j ih =>
      intro e h0 e1
      have a := ih e h0 (by omega)
      have b := (d5 (e + j) (by omega) (by omega)).1
      rw [show 260 + (e + ((j + 1 : Nat) : Int)) = 261 + (e + j) by omega]
      omega
  have b := up (dc - e).toNat e h0 (by omega)
  rw [show e + ((dc - e).toNat : Int) = dc by omega] at b
  exact b
theorem c_docSize {Q : Int32 → zM → Prop} {m : zM} {b : Nat} {N : Int → Int} {dc : Int} (hb : zT b) (h : trD C m b N) (h0 : 0 ≤ dc) (h1 : dc < N 259) (H : Q (J (N (261 + dc) - N (260 + dc))) m) : cI (d + 2) 110 [.ref b, .int (J dc)] w m Q := by
  have h8 := h.2.1
  refine S_Told_docSize hb (c_at (zT_de hb) (by decide) (by unfold r32; omega) (by omega) ?_)
  rw [(h.2.2.2.2.1 dc h0 h1).2]
  refine c_docFirst hb h h0 (by omega) ?_
  rw [j_ops.2.1]
  exact H
theorem c_rmd_l {Q : zM → Prop} {m0 : zM} {b : Nat} {doc n c : Int} (hb : zT b) (hd : 0 ≤ doc) (hc : c ≤ 8) (hn : 0 ≤ n ∧ n ≤ 240) (h9 : iq m0 b 9 = c) (H : ∀ m', fr [b, b + 13] m0 m' → iq m' b 9 = c - 1 → (∀ y, 0 ≤ y → y ≠ 9 → iq m' b y = iq m0 b y) → (∀ y, 0 ≤ y → y < c - 1 → iq m' (b + 13) y = if y < doc then iq m0 (b + 13) y else (J (iq m0 (b + 13) (y + 1) - n)).toInt) → Q m') :
    ∀ (j : Nat) (z : Int) (m : zM), doc ≤ z → z + 1 + j = c → fr [b + 13] m0 m → (∀ y, 0 ≤ y → iq m (b + 13) y = if doc ≤ y ∧ y < z then (J (iq m0 (b + 13) (y + 1) - n)).toInt else iq m0 (b + 13) y) → W_Told_removeDoc_13 (d + 1) b (J n) (J z) w m Q := by
  intro j
  induction j with
  | zero =>
    intro z m hz hj f hI
    have h9m : iq m b 9 = c := (f.i (by simp) 9).trans h9
    refine S_Told_removeDoc_13 hb ?_
    simp (disch := first | (unfold r32; omega) | omega) only [j_lit, J_le, j_rd, j_nc, h9m, j_ops, j_wr]
    refine ⟨fun _ => H _ ((f.mo (by simp)).si (by simp) _ _) (iq_eq (by unfold r32; omega)) (fun y y0 y9 => ?_) (fun y y0 y1 => ?_), fun q => by omega⟩
    · rw [iq_ne (Or.inr y9) (by omega) y0, f.i (by simp)]
    · rw [iq_ne (Or.inl (by omega)) (by omega) y0, hI y y0]
      by_cases e : y < doc
      · rw [if_neg (by omega), if_pos e]
      · rw [if_pos (by omega), if_neg e]
  | succ j ih =>
    intro z m hz hj f hI
    have h9m : iq m b 9 = c := (f.i (by simp) 9).trans h9
    refine S_Told_removeDoc_13 hb ?_
    simp (disch := first | (unfold r32; omega) | omega) only [j_lit, J_le, j_rd, j_nc, h9m, j_ops]
    refine ⟨fun q => by omega, fun _ => c_at (zT_de hb) (by decide) (by unfold r32; omega) (by omega) ?_⟩
    rw [j_ops.2.1]
    refine c_put (zT_de hb) (by decide) (by unfold r32; omega) (by omega) ?_
    have ez := hI (z + 1) (by omega)
    rw [if_neg (by omega)] at ez
    refine ih (z + 1) _ (by omega) (by omega) (f.si (by simp) _ _) (fun y y0 => ?_)
    by_cases e : y = z
    · subst e
      rw [if_pos (by omega), ← ez]
      unfold iq sq zI
      dsimp only
      rw [if_pos ⟨rfl, rfl⟩]
    · rw [iq_ne (Or.inr e) (by omega) y0, hI y y0]
      by_cases e2 : doc ≤ y ∧ y < z
      · rw [if_pos e2, if_pos (by omega)]
      · rw [if_neg e2, if_neg (by omega)]
/-- the class's docs without one -/
theorem c_removeDoc {Q : zM → Prop} {m : zM} {b : Nat} {N : Int → Int} {doc : Int} (hb : zT b) (hD : trD C m b N) (h0 : 0 ≤ doc) (h1 : doc < N 259)
    (H : ∀ m', fr [b, b + 10, b + 11, b + 12, b + 13] m m' → (∀ y, 0 ≤ y → y ≠ 9 → iq m' b y = iq m b y) → trD C m' b (drp N doc (N (260 + doc)) (N (261 + doc) - N (260 + doc)) (N 259) (N (260 + N 259))) → Q m') : cV (d + 3) 108 [.ref b, .int (J doc)] w m Q := by
  obtain ⟨d1, d2, d3, d4, d5, d6, d7, d8, d9⟩ := id hD
  have ra := trD_r hD h0 (by omega)
  have rb := trD_r hD (dc := doc + 1) (by omega) (by omega)
  rw [show 260 + (doc + 1) = 261 + doc by omega] at rb
  have rm := (d5 doc h0 h1).1
  refine S_Told_removeDoc hb (c_docSize (d := d) hb hD h0 h1 (c_docFirst (d := d + 1) hb hD h0 (by omega) ?_))
  refine c_remove (d := d + 1) (zT_pr hb) ra.1 (by omega) d6 (by omega) d7 (fun m1 f1 e2 hI => ?_)
  have e9 : iq m1 b 9 = N 259 := (f1.i (by simp <;> omega) 9).trans d3
  refine c_rmd_l (d := d + 1) (m0 := m1) (c := N 259) (n := N (261 + doc) - N (260 + doc)) hb h0 d2 (by omega) e9 (fun m2 f2 g9 gx g13 => ?_) (N 259 - doc - 1).toNat doc m1 (by omega) (by omega) (fr.rf _ _) (fun y y0 => by rw [if_neg (by omega)])
  refine H m2 ((f1.mo (by simp)).tr (f2.mo (by simp))) (fun y y0 y9 => (gx y y0 y9).trans (f1.i (by simp <;> omega) y)) ?_
  generalize hn : N (261 + doc) - N (260 + doc) = n at *
  generalize hp : N (260 + doc) = p at *
  generalize hs : N (260 + N 259) = s at *
  generalize hc : N 259 = c at *
  -- the new row, its parts
  have n259 : drp N doc p n c s 259 = c - 1 := if_pos rfl
  have nd : ∀ e, 0 ≤ e → e < c → drp N doc p n c s (260 + e) = if e < doc then N (260 + e) else N (261 + e) - n := fun e g0 g1 => by
    unfold drp dnd dsh
    rw [if_neg (by omega)]
    by_cases q : e < doc
    · rw [if_neg (by omega), if_neg (by omega), if_neg (by omega), if_pos q]
    · rw [if_pos (by omega), if_neg (by omega), if_neg (by omega), if_neg q, show 260 + e + 1 = 261 + e by omega]
  have nw : ∀ k, 0 ≤ k → k < s - n → drp N doc p n c s (269 + k) = N (269 + (if k < p then k else k + n)) ∧ drp N doc p n c s (669 + k) = N (669 + (if k < p then k else k + n)) := fun k g0 g1 => by
    have e1 : drp N doc p n c s (269 + k) = if 269 + p ≤ 269 + k ∧ 269 + k < 269 + (s - n) then N (269 + k + n) else if 669 + p ≤ 269 + k ∧ 269 + k < 669 + (s - n) then N (269 + k + n) else N (269 + k) := by
      unfold drp dnd dsh
      rw [if_neg (show ¬ 269 + k = 259 by omega), if_neg (show ¬ (260 + doc ≤ 269 + k ∧ 269 + k < 260 + c) by omega)]
    have e2 : drp N doc p n c s (669 + k) = if 269 + p ≤ 669 + k ∧ 669 + k < 269 + (s - n) then N (669 + k + n) else if 669 + p ≤ 669 + k ∧ 669 + k < 669 + (s - n) then N (669 + k + n) else N (669 + k) := by
      unfold drp dnd dsh
      rw [if_neg (show ¬ 669 + k = 259 by omega), if_neg (show ¬ (260 + doc ≤ 669 + k ∧ 669 + k < 260 + c) by omega)]
    rw [e1, e2]
    by_cases q : k < p
    · rw [if_pos q]
      refine ⟨?_, ?_⟩
      · rw [if_neg (by omega), if_neg (by omega)]
      · rw [if_neg (by omega), if_neg (by omega)]
    · rw [if_neg q]
      refine ⟨?_, ?_⟩
      · rw [if_pos (by omega), show 269 + k + n = 269 + (k + n) by omega]
      · rw [if_neg (by omega), if_pos (by omega), show 669 + k + n = 669 + (k + n) by omega]
  have hlast : drp N doc p n c s (260 + (c - 1)) = s - n := by
    rw [nd _ (by omega) (by omega), if_neg (by omega), show 261 + (c - 1) = 260 + c by omega, hs]
  have r10 : iq m2 (b + 10) 2 = s - n := (f2.i (by simp) 2).trans e2
  have iw : ∀ k, 0 ≤ k → k < s - n → lq m2 (b + 11) k = lq m (b + 11) (if k < p then k else k + n) ∧ iq m2 (b + 12) k = iq m (b + 12) (if k < p then k else k + n) := fun k g0 g1 => by
    rw [f2.l (by simp), f2.i (by simp)]
    exact hI k g0 g1
  have i13 : ∀ y, 0 ≤ y → y < c → iq m1 (b + 13) y = N (261 + y) := fun y g0 g1 => (f1.i (by simp) y).trans (d5 y g0 g1).2
  have phi : ∀ k, 0 ≤ k → k < s - n → 0 ≤ (if k < p then k else k + n) ∧ (if k < p then k else k + n) < s := fun k g0 g1 => by split <;> omega
  have rr : ∀ e, 0 ≤ e → e ≤ c → 0 ≤ N (260 + e) ∧ N (260 + e) ≤ s := fun e g0 g1 => by
    have := trD_r hD (dc := e) g0 (by omega)
    rw [hc, hs] at this
    exact ⟨this.1, this.2.1⟩
  have lo : ∀ e, 0 ≤ e → e ≤ doc → N (260 + e) ≤ p := fun e g0 g1 => by
    have := trD_m hD g0 g1 (by omega)
    omega
  have hi : ∀ e, doc < e → e ≤ c → p + n ≤ N (260 + e) := fun e g0 g1 => by
    have := trD_m hD (e := doc + 1) (dc := e) (by omega) (by omega) (by omega)
    rw [show 260 + (doc + 1) = 261 + doc by omega] at this
    omega
  refine ⟨by omega, by omega, by rw [n259]; exact g9, ?_, fun e g0 g1 => ?_, by rw [n259, hlast]; omega, by rw [n259, hlast]; exact r10, fun k g0 g1 => ?_, fun i j g0 g1 g2 => ?_⟩
  · by_cases q : doc = 0
    · have := nd 0 (by omega) (by omega)
      rw [if_neg (by omega)] at this
      rw [show (260 : Int) = 260 + 0 by omega, this]
      subst q
      rw [show (260 : Int) + 0 = 260 by omega, d4] at hp
      omega
    · have := nd 0 (by omega) (by omega)
      rw [if_pos (by omega)] at this
      rw [show (260 : Int) = 260 + 0 by omega, this]
      exact d4
  · rw [n259] at g1
    have a1 := nd e g0 (by omega)
    have a2 := nd (e + 1) (by omega) (by omega)
    rw [show 260 + (e + 1) = 261 + e by omega] at a2
    have a3 := g13 e g0 (by omega)
    have a4 := d5 e g0 (by omega)
    rw [a1, a2, a3]
    by_cases q : e < doc
    · rw [if_pos q, if_pos q, i13 e g0 (by omega)]
      by_cases q2 : e + 1 < doc
      · rw [if_pos q2]
        exact ⟨a4.1, rfl⟩
      · rw [if_neg q2]
        have : e + 1 = doc := by omega
        rw [show 261 + e = 260 + doc by omega, hp, show 261 + (e + 1) = 261 + doc by omega]
        rw [show 261 + e = 260 + doc by omega, hp] at a4
        exact ⟨by omega, by omega⟩
    · rw [if_neg q, if_neg q, if_neg (by omega), i13 (e + 1) (by omega) (by omega)]
      have a5 := d5 (e + 1) (by omega) (by omega)
      rw [show 260 + (e + 1) = 261 + e by omega] at a5
      have a6 := rr (e + 1 + 1) (by omega) (by omega)
      rw [show 260 + (e + 1 + 1) = 261 + (e + 1) by omega] at a6
      rw [J_toInt (by unfold r32; omega)]
      exact ⟨by omega, rfl⟩
  · rw [n259, hlast] at g1
    have a := nw k g0 g1
    have b2 := iw k g0 g1
    have c2 := phi k g0 g1
    rw [a.1, a.2, b2.1, b2.2]
    exact d8 _ c2.1 c2.2
  · rw [n259, hlast] at g2
    have a := nw i g0 (by omega)
    have a2 := nw j (by omega) g2
    have b2 := iw i g0 (by omega)
    have b3 := iw j (by omega) g2
    have c2 := phi i g0 (by omega)
    have c3 := phi j (by omega) g2
    rw [a.2, a2.2, b2.2, b3.2]
    have key := d9 (if i < p then i else i + n) (if j < p then j else j + n) c2.1 (by split <;> split <;> omega) c3.2
    refine ⟨key.1, key.2.trans ?_⟩
    have sde : sd (drp N doc p n c s) i j ↔ sd N (if i < p then i else i + n) (if j < p then j else j + n) := by
      unfold sd
      rw [n259, hc]
      constructor
      · intro q e e0 e1
        by_cases e2 : e ≤ doc
        · have l1 := lo e e0 e2
          have q1 := q e e0 (by omega)
          rw [nd e e0 (by omega)] at q1
          have q2 : (if e < doc then N (260 + e) else N (261 + e) - n) = N (260 + e) := by
            split
            · rfl
            · rw [show e = doc by omega]; omega
          rw [q2] at q1
          split <;> split <;> omega
        · have l1 := hi e (by omega) e1
          have q1 := q (e - 1) (by omega) (by omega)
          rw [nd (e - 1) (by omega) (by omega), if_neg (by omega), show 261 + (e - 1) = 260 + e by omega] at q1
          split <;> split <;> omega
      · intro q e e0 e1
        rw [nd e e0 (by omega)]
        by_cases e2 : e < doc
        · rw [if_pos e2]
          have l1 := lo e e0 (by omega)
          have q1 := q e e0 (by omega)
          revert q1
          split <;> split <;> intro q1 <;> omega
        · rw [if_neg e2]
          have l1 := hi (e + 1) (by omega) (by omega)
          have q1 := q (e + 1) (by omega) (by omega)
          rw [show 260 + (e + 1) = 261 + e by omega] at q1 l1
          revert q1
          split <;> split <;> intro q1 <;> omega
    rw [sde]
end DR
