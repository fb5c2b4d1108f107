/-! the matches: pure; and the class's -/
def sn (N : Int → Int) (i j : Int) : Prop := N (669 + i) = N (669 + j) ∧ sd N i j
/-- stretches of words, and those that are matches -/
def sOK (N : Int → Int) (k n : Int) : Prop := 0 ≤ k ∧ k + n ≤ wW N ∧ ∀ j, 0 ≤ j → j < n → sn N k (k + j)
def mt (N : Int → Int) (k n : Int) : Prop := 1 ≤ n ∧ N 1898 ≤ n ∧ n ≤ N 1899 ∧ sOK N k n ∧ hr N k (n - 1).toNat &&& (N 1896).toNat ≠ 0
def KS (N : Int → Int) : Int → Prop := fun x => ∃ k n, mt N k n ∧ x = 6 * k + n
noncomputable def Mn (N : Int → Int) : Int := eK (KS N)
noncomputable def mk (N : Int → Int) (m : Int) : Int := eU (KS N) m / 6
noncomputable def ml (N : Int → Int) (m : Int) : Int := eU (KS N) m % 6
noncomputable def pk (N : Int → Int) (k n : Int) : Int := pkf (idb N) k n
noncomputable def pf (N : Int → Int) (k n : Int) : Int := pkf (fid N) k n
/-- of match m: its row, its form -/
noncomputable def pkm (N : Int → Int) (m : Int) : Int := pk N (mk N m) (ml N m)
noncomputable def pfm (N : Int → Int) (m : Int) : Int := pf N (mk N m) (ml N m)
section MTP
variable {C : Int} {N : Int → Int} {m : zM} {b : Nat}
theorem mt_b (h : TR C m b N) {k n : Int} (hm : mt N k n) : 0 ≤ k ∧ 1 ≤ n ∧ n ≤ 5 ∧ k + n ≤ wW N ∧ wW N ≤ 240 := by
  have h7 := h.2.2.2.2.2.2
  have w := h.words
  exact ⟨hm.2.2.2.1.1, hm.1, by have := hm.2.2.1; have := h7.2.2.2.2.2.2.1; omega, hm.2.2.2.1.2.1, w.2.2.1⟩
theorem KS_b (h : TR C m b N) : bnd (KS N) := ⟨2000, fun x hx => by
  obtain ⟨k, n, hm, e⟩ := hx
  have := mt_b h hm
  omega⟩
theorem mkl (h : TR C m b N) {i : Int} (h0 : 0 ≤ i) (h1 : i < Mn N) : mt N (mk N i) (ml N i) ∧ eU (KS N) i = 6 * mk N i + ml N i := by
  obtain ⟨k, n, hm, e⟩ := (e_spec (KS_b h)).2.2.1 i h0 h1
  have hb := mt_b h hm
  have e1 : mk N i = k := by unfold mk; rw [e]; omega
  have e2 : ml N i = n := by unfold ml; rw [e]; omega
  rw [e1, e2]
  exact ⟨hm, e⟩
theorem mkl_u (h : TR C m b N) {u v : Int → Int} {s : Int} (he : enm (fun i => 6 * u i + v i) s (KS N)) (hv : ∀ i, 0 ≤ i → i < s → 1 ≤ v i ∧ v i ≤ 5) : s = Mn N ∧ ∀ i, 0 ≤ i → i < s → u i = mk N i ∧ v i = ml N i := by
  have g := e_uniq (KS_b h) he
  refine ⟨g.1, fun i a c => ?_⟩
  have e := g.2 i a c
  have hv := hv i a c
  unfold mk ml
  rw [← e]
  omega
theorem id_b (h : TR C m b N) {i : Int} (h0 : 0 ≤ i) (h1 : i < wW N) : 0 ≤ idb N i ∧ idb N i < eK (BS N) := by
  have := ei_in (BS_b h) (x := bs N i) ⟨i, h0, h1, rfl⟩
  exact ⟨this.1, this.2.1⟩
theorem img_k {S : Int → Prop} (hb : bnd S) {h : Int → Int} {n : Int} (hn : 0 ≤ n) (hS : ∀ x, S x ↔ img h n x) : eK S ≤ n := by
  have key : ∀ j : Nat, ∀ u : Int → Int, ∀ s : Int, enm u s (img h (j : Int)) → s ≤ j := by
    intro j
    induction j with
    | zero =>
      intro u s he
      rcases Int.lt_or_le 0 s with g | g
      · obtain ⟨i, a, c, _⟩ := he.2.2.1 0 (by omega) g
        omega
      · omega
    | succ j ih =>
      intro u s he
      by_cases q : img h (j : Int) (h j)
      · have e2 : enm u s (img h (j : Int)) := he.ext (fun x => by
          rw [show (((j + 1 : Nat) : Nat) : Int) = (j : Int) + 1 by omega, img_s h (by omega)]
          exact ⟨fun g => by rcases g with g | g; · exact g
                             · rw [g]; exact q, fun g => Or.inl g⟩)
        have := ih u s e2
        omega
      · obtain ⟨p, p0, p1, p2⟩ := he.2.2.2 (h j) ⟨j, by omega, by omega, rfl⟩
        have hu : enm (fun i => if i < p then u i else u (i + 1)) (s - 1) (img h (j : Int)) := by
          refine ⟨by omega, fun i i' a c e => ?_, fun i a c => ?_, fun x hx => ?_⟩
          · show (if i < p then u i else u (i + 1)) < (if i' < p then u i' else u (i' + 1))
            split <;> split <;> first | (exact he.2.1 _ _ (by omega) (by omega) (by omega)) | omega
          · show img h (j : Int) (if i < p then u i else u (i + 1))
            have g : ∀ t, 0 ≤ t → t < s → t ≠ p → img h (j : Int) (u t) := fun t t0 t1 t2 => by
              have := he.2.2.1 t t0 t1
              rw [show (((j + 1 : Nat) : Nat) : Int) = (j : Int) + 1 by omega, img_s h (by omega)] at this
              rcases this with g | g
              · exact g
              · rcases Int.lt_trichotomy t p with z | z | z
                · have := he.2.1 t p t0 z p1; omega
                · exact absurd z t2
                · have := he.2.1 p t p0 z t1; omega
            split
            · exact g i a (by omega) (by omega)
            · exact g (i + 1) (by omega) (by omega) (by omega)
          · obtain ⟨t, t0, t1, t2⟩ := he.2.2.2 x (by rw [show (((j + 1 : Nat) : Nat) : Int) = (j : Int) + 1 by omega, img_s h (by omega)]; exact Or.inl hx)
            have tp : t ≠ p := fun z => by rw [z, p2] at t2; rw [← t2] at hx; exact q hx
            by_cases z : t < p
            · exact ⟨t, t0, by omega, by show (if t < p then u t else u (t + 1)) = x; rw [if_pos z]; exact t2⟩
            · exact ⟨t - 1, by omega, by omega, by show (if t - 1 < p then u (t - 1) else u (t - 1 + 1)) = x; rw [if_neg (by omega), show t - 1 + 1 = t by omega]; exact t2⟩
        have := ih _ _ hu
        omega
  have := key n.toNat (eU S) (eK S) ((e_spec hb).ext (fun x => by rw [show ((n.toNat : Nat) : Int) = n by omega]; exact hS x))
  omega
theorem BS_k (h : TR C m b N) : eK (BS N) ≤ wW N := img_k (BS_b h) h.words.2.1 (fun _ => Iff.rfl)
theorem FO_k (h : TR C m b N) : eK (FO N) ≤ wW N := img_k (FO_b h) h.words.2.1 (fun _ => Iff.rfl)
theorem okd_id (h : TR C m b N) {k n : Int} (h0 : 0 ≤ k) (h1 : k + n ≤ wW N) : okd (idb N) k n := fun j a c => by
  have := id_b h (i := k + j) (by omega) (by omega)
  have := BS_k h
  have := h.words.2.2.1
  omega
theorem okd_f (h : TR C m b N) {k n : Int} (h0 : 0 ≤ k) (h1 : k + n ≤ wW N) : okd (fid N) k n := fun j a c => by
  have := ei_in (FO_b h) (x := wr N (k + j)) ⟨k + j, by omega, by omega, rfl⟩
  have := FO_k h
  have := h.words.2.2.1
  unfold fid
  omega
end MTP
/-- the matches ahead of a place and length -/
def MSo (N : Int → Int) (x : Int) : Int → Prop := fun y => KS N y ∧ y < x
def MA (N : Int → Int) (m : zM) (s x : Int) : Prop := iq m 228 8 = s ∧ enm (fun i => 6 * iq m 231 i + iq m 232 i) s (MSo N x) ∧ s ≤ x ∧ ∀ i, 0 ≤ i → i < s → mt N (iq m 231 i) (iq m 232 i) ∧ lq m 235 i = pk N (iq m 231 i) (iq m 232 i) ∧ lq m 236 i = pf N (iq m 231 i) (iq m 232 i)
section MTC
variable {d : Nat} {w : Nat × Nat × Nat} {b : Nat} {C : Int} {N : Int → Int}
theorem c_one1 {Q : Int32 → zM → Prop} {m : zM} {i j : Int} (hb : zT b) (hN : TR C m b N) (hi : r32 i) (hj : r32 j) (hij : i ≤ j) (H1 : 0 ≤ i → j < wW N → sn N i j → Q (J 1) m) (H0 : ¬ (0 ≤ i ∧ j < wW N ∧ sn N i j) → Q (J 0) m) : cI (d + 1) 59 [.ref (b + 10), .int (J i), .int (J j)] w m Q := by
  obtain ⟨w1, w2, w3, w4⟩ := hN.words
  have hD := hN.2.2.2.1
  refine S_Prose_oneSentence (zT_pr hb) ?_
  simp (disch := first | exact hi | exact hj | (unfold r32; omega) | omega) only [j_lit, J_lt, J_le, j_rd, j_nc, w1]
  refine ⟨fun q => H0 (fun z => by omega), fun q => ⟨fun q2 => H0 (fun z => by omega), fun q2 => ⟨fun q3 => H0 (fun z => by omega), fun q3 => ⟨fun q4 => H0 (fun z => by omega), fun q4 => ?_⟩⟩⟩⟩
  refine c_at (n := 240) (zT_pr hb).2.2.2.2 (by decide) hi (by omega) (c_at (n := 240) (zT_pr hb).2.2.2.2 (by decide) hj (by omega) ?_)
  have e := (hD.2.2.2.2.2.2.2.2 i j (by omega) hij (by show j < wW N; omega)).2
  have i1 := iq_r m (b + 10 + 2) i
  have i2 := iq_r m (b + 10 + 2) j
  simp (disch := first | exact i1 | exact i2) only [J_eq]
  exact ⟨fun q5 => H0 (fun z => q5 (e.mpr z.2.2)), fun q5 => H1 (by omega) (by omega) (e.mp q5)⟩
theorem c_cell {Q : Int64 → zM → Prop} {m : zM} {i n : Int} (hi : 0 ≤ i ∧ i < 100000) (hn : 0 ≤ n ∧ n ≤ 4) (H : Q (JL ((i + 1) * 256 ^ (4 - n.toNat))) m) : cL d 171 [.int (J i), .int (J n)] w m Q := by
  refine S_T_cell ?_
  simp (disch := first | (unfold r32; omega) | omega) only [j_lit, j_ops]
  have e := JL_shl (i + 1) (s := 8 * (4 - n)) (by omega) (by omega)
  have e2 : (2 : Int) ^ (8 * (4 - n)).toNat = 256 ^ (4 - n.toNat) := by
    rw [show (8 * (4 - n)).toNat = 8 * (4 - n.toNat) by omega, Int.pow_mul]
    rfl
  rw [e2] at e
  rw [J_64 (by unfold r32; omega), e]
  exact H
/-- one digit more -/
theorem pk_or {g : Int → Int} {k n : Int} (h : okd g k (n + 1)) (h0 : 0 ≤ n) (h4 : n ≤ 4) : JL (pkf g k n) ||| JL ((g (k + n) + 1) * 256 ^ (4 - n.toNat)) = JL (pkf g k (n + 1)) := by
  obtain ⟨A, e, eA⟩ := pkf_mul (g := g) (k := k) (n := n) (by omega)
  have hbd := pkf_bd h
  have hs := pkf_s (g := g) (k := k) h0 h4
  have hg := h n h0 (by omega)
  have hA : 0 ≤ A := by rw [eA]; exact (en_bd (B := 256) (by decide) _ _ (dl_bd (fun j a c => h j a (by omega)))).1
  have hp := p256 (n := 4 - n.toNat)
  have e2 : (256 : Int) ^ (5 - n.toNat) = 2 ^ (8 * (5 - n.toNat)) := by rw [Int.pow_mul]; rfl
  have e3 : (256 : Int) ^ (5 - n.toNat) = 256 ^ (4 - n.toNat) * 256 := by rw [← Int.pow_succ, show (4 - n.toNat).succ = 5 - n.toNat by omega]
  have hlt : (g (k + n) + 1) * 256 ^ (4 - n.toNat) < 2 ^ (8 * (5 - n.toNat)) := by
    rw [← e2, e3]
    generalize (256 : Int) ^ (4 - n.toNat) = P at *
    have : (g (k + n) + 1) * P ≤ 255 * P := Int.mul_le_mul_of_nonneg_right (by omega) (by omega)
    omega
  have hge : 0 ≤ (g (k + n) + 1) * 256 ^ (4 - n.toNat) := Int.mul_nonneg (by omega) (by omega)
  rw [hs, e, e2]
  rw [hs, e, e2] at hbd
  exact JL_oradd hA hge hlt (by omega)
theorem MA.frm {S : List Nat} {m m' : zM} {s x : Int} (h : MA N m s x) (f : fr S m m') (h1 : 228 ∉ S) (h2 : 231 ∉ S) (h3 : 232 ∉ S) (h4 : 235 ∉ S) (h5 : 236 ∉ S) : MA N m' s x := by
  obtain ⟨a1, a2, a3, a4⟩ := h
  refine ⟨by rw [f.i h1]; exact a1, a2.fn (fun i _ _ => by show 6 * iq m' 231 i + iq m' 232 i = 6 * iq m 231 i + iq m 232 i; rw [f.i h2, f.i h3]), a3, fun i i0 i1 => by rw [f.i h2, f.i h3, f.l h4, f.l h5]; exact a4 i i0 i1⟩
/-- no match there: nothing more -/
theorem MA.no {m : zM} {s x : Int} (h : MA N m s x) (hx : ¬ KS N x) : MA N m s (x + 1) := by
  obtain ⟨a1, a2, a3, a4⟩ := h
  refine ⟨a1, a2.ext (fun y => ?_), by omega, a4⟩
  constructor
  · intro ⟨g1, g2⟩; exact ⟨g1, by omega⟩
  · intro ⟨g1, g2⟩
    refine ⟨g1, ?_⟩
    by_cases e : y = x
    · rw [e] at g1; exact absurd g1 hx
    · omega
theorem c_madd {Q : zM → Prop} {m : zM} {s k n : Int} (hs : s < 1200) (h : MA N m s (6 * k + n)) (hm : mt N k n) (hk : 0 ≤ k ∧ k < 240 ∧ 1 ≤ n ∧ n ≤ 5) (hp : r64 (pk N k n)) (hp2 : r64 (pf N k n)) (H : ∀ m', fr [228, 231, 232, 235, 236] m m' → MA N m' (s + 1) (6 * k + n + 1) → Q m') : cV (d + 1) 12 [.ref 228, .int (J k), .int (J n), .long (JL (pk N k n)), .long (JL (pf N k n))] w m Q := by
  obtain ⟨a1, a2, a3, a4⟩ := h
  have hs0 := a2.1
  refine S_Matches_add ?_
  simp (disch := first | (unfold r32; omega) | omega) only [j_lit, J_lt, j_rd, j_nc, a1]
  refine ⟨fun q => c_put (n := 1200) rfl (by decide) (by unfold r32; omega) (by omega) ?_, fun q => by omega⟩
  have e1 : iq (sq m 231 s k) 228 8 = s := by rw [iq_ne (by omega) (by omega) (by omega)]; exact a1
  rw [e1]
  refine c_put (n := 1200) rfl (by decide) (by unfold r32; omega) (by omega) ?_
  have e2 : iq (sq (sq m 231 s k) 232 s n) 228 8 = s := by rw [iq_ne (by omega) (by omega) (by omega)]; exact e1
  rw [e2]
  refine c_putl (n := 1200) rfl (by decide) (by unfold r32; omega) (by omega) ?_
  have e3 : iq (sl (sq (sq m 231 s k) 232 s n) 235 s (pk N k n)) 228 8 = s := e2
  rw [e3]
  refine c_putl (n := 1200) rfl (by decide) (by unfold r32; omega) (by omega) ?_
  have e4 : iq (sl (sl (sq (sq m 231 s k) 232 s n) 235 s (pk N k n)) 236 s (pf N k n)) 228 8 = s := e2
  simp only [e4, j_ops, j_wr, j_nc]
  have f : fr [228, 231, 232, 235, 236] m (sq (sl (sl (sq (sq m 231 s k) 232 s n) 235 s (pk N k n)) 236 s (pf N k n)) 228 8 (s + 1)) := (((((fr.rf _ m).si (by simp) _ _).si (by simp) _ _).sll (by simp) _ _).sll (by simp) _ _).si (by simp) _ _
  have r231 : ∀ i, 0 ≤ i → iq (sq (sl (sl (sq (sq m 231 s k) 232 s n) 235 s (pk N k n)) 236 s (pf N k n)) 228 8 (s + 1)) 231 i = if i = s then k else iq m 231 i := fun i i0 => by
    rw [iq_ne (by omega) (by omega) i0, show iq (sl (sl (sq (sq m 231 s k) 232 s n) 235 s (pk N k n)) 236 s (pf N k n)) 231 i = iq (sq (sq m 231 s k) 232 s n) 231 i from rfl, iq_ne (by omega) (by omega) i0]
    by_cases e : i = s
    · rw [if_pos e, e, iq_eq (by unfold r32; omega)]
    · rw [if_neg e, iq_ne (Or.inr e) (by omega) i0]
  have r232 : ∀ i, 0 ≤ i → iq (sq (sl (sl (sq (sq m 231 s k) 232 s n) 235 s (pk N k n)) 236 s (pf N k n)) 228 8 (s + 1)) 232 i = if i = s then n else iq m 232 i := fun i i0 => by
    rw [iq_ne (by omega) (by omega) i0, show iq (sl (sl (sq (sq m 231 s k) 232 s n) 235 s (pk N k n)) 236 s (pf N k n)) 232 i = iq (sq (sq m 231 s k) 232 s n) 232 i from rfl]
    by_cases e : i = s
    · rw [if_pos e, e, iq_eq (by unfold r32; omega)]
    · rw [if_neg e, iq_ne (Or.inr e) (by omega) i0, iq_ne (by omega) (by omega) i0]
  have r235 : ∀ i, 0 ≤ i → lq (sq (sl (sl (sq (sq m 231 s k) 232 s n) 235 s (pk N k n)) 236 s (pf N k n)) 228 8 (s + 1)) 235 i = if i = s then pk N k n else lq m 235 i := fun i i0 => by
    show lq (sl (sl (sq (sq m 231 s k) 232 s n) 235 s (pk N k n)) 236 s (pf N k n)) 235 i = _
    rw [lq_ne (by omega) (by omega) i0]
    by_cases e : i = s
    · rw [if_pos e, e, lq_eq hp]
    · rw [if_neg e, lq_ne (Or.inr e) (by omega) i0]; rfl
  have r236 : ∀ i, 0 ≤ i → lq (sq (sl (sl (sq (sq m 231 s k) 232 s n) 235 s (pk N k n)) 236 s (pf N k n)) 228 8 (s + 1)) 236 i = if i = s then pf N k n else lq m 236 i := fun i i0 => by
    show lq (sl (sl (sq (sq m 231 s k) 232 s n) 235 s (pk N k n)) 236 s (pf N k n)) 236 i = _
    by_cases e : i = s
    · rw [if_pos e, e, lq_eq hp2]
    · rw [if_neg e, lq_ne (Or.inr e) (by omega) i0, lq_ne (by omega) (by omega) i0]; rfl
  have r8 : iq (sq (sl (sl (sq (sq m 231 s k) 232 s n) 235 s (pk N k n)) 236 s (pf N k n)) 228 8 (s + 1)) 228 8 = s + 1 := iq_eq (by unfold r32; omega)
  generalize sq (sl (sl (sq (sq m 231 s k) 232 s n) 235 s (pk N k n)) 236 s (pf N k n)) 228 8 (s + 1) = m' at *
  refine H m' f ⟨r8, ?_, by omega, fun i i0 i1 => ?_⟩
  · have := a2.ins (u' := fun i => 6 * iq m' 231 i + iq m' 232 i) (p := s) (x := 6 * k + n) ⟨hs0, by omega⟩ (fun i i0 i1 => (a2.2.2.1 i i0 i1).2) (fun i i0 i1 => by omega) (fun i i0 i1 => by
      show 6 * iq m' 231 i + iq m' 232 i = _
      rw [r231 i i0, r232 i i0]
      by_cases e : i = s
      · rw [if_pos e, if_pos e, if_neg (by omega), if_pos e]
      · rw [if_neg e, if_neg e, if_pos (by omega)])
    refine this.ext (fun y => ?_)
    constructor
    · intro g
      rcases g with ⟨g1, g2⟩ | g
      · exact ⟨g1, by omega⟩
      · exact ⟨⟨k, n, hm, g⟩, by omega⟩
    · intro ⟨g1, g2⟩
      by_cases e : y = 6 * k + n
      · exact Or.inr e
      · exact Or.inl ⟨g1, by omega⟩
  · rw [r231 i i0, r232 i i0, r235 i i0, r236 i i0]
    by_cases e : i = s
    · rw [if_pos e, if_pos e, if_pos e, if_pos e]; exact ⟨hm, rfl, rfl⟩
    · rw [if_neg e, if_neg e, if_neg e, if_neg e]; exact a4 i i0 (by omega)
end MTC
