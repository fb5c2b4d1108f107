/-! the words around a match: the class -/
noncomputable def ic (p : Prop) (l : List Int) : List Int := @ite (List Int) p (Classical.propDecidable p) l []
theorem ic_1 {p : Prop} {l : List Int} (h : p) : ic p l = l := @if_pos p (Classical.propDecidable p) h (List Int) l []
theorem ic_0 {p : Prop} {l : List Int} (h : ¬ p) : ic p l = [] := @if_neg p (Classical.propDecidable p) h (List Int) l []
def okA (N : Int → Int) (k n : Int) : Prop := 0 ≤ k - n ∧ sn N (k - n) k
def okB (N : Int → Int) (e n : Int) : Prop := e + n < wW N ∧ sn N e (e + n)
noncomputable def sd1 (N : Int → Int) (k e n : Int) : List Int := ic (okA N k n) [idb N (k - n)] ++ ic (okB N e n) [idb N (e + n)]
noncomputable def sdl (N : Int → Int) (k e : Int) (n : Nat) : List Int := Nat.rec [] (fun (n : Nat) r => r ++ sd1 N k e ((n : Int) + 1)) n
theorem sdl_s (N : Int → Int) (k e : Int) (n : Nat) : sdl N k e (n + 1) = sdl N k e n ++ sd1 N k e ((n : Int) + 1) := rfl
/-- the numbers of all words around match m -/
noncomputable def sds (N : Int → Int) (m : Int) : List Int := sdl N (mk N m) (mk N m + ml N m - 1) (N 1900).toNat
section BES
variable {d : Nat} {w : Nat × Nat × Nat} {b : Nat} {C : Int} {N : Int → Int} {mv : zM}
theorem sd1_len (k e n : Int) : (sd1 N k e n).length ≤ 2 := by
  unfold sd1
  rw [List.length_append]
  have a : (ic (okA N k n) [idb N (k - n)]).length ≤ 1 := by
    by_cases q : okA N k n
    · rw [ic_1 q]; exact Nat.le_refl 1
    · rw [ic_0 q]; decide
  have c : (ic (okB N e n) [idb N (e + n)]).length ≤ 1 := by
    by_cases q : okB N e n
    · rw [ic_1 q]; exact Nat.le_refl 1
    · rw [ic_0 q]; decide
  omega
theorem sdl_len (k e : Int) : ∀ n : Nat, (sdl N k e n).length ≤ 2 * n := by
  intro n
  induction n with
  | zero => exact Nat.le_refl _
  | succ n ih =>
    have := sd1_len (N := N) k e ((n : Int) + 1)
    rw [sdl_s, List.length_append]
    omega
theorem sdl_mem (h : TR C mv b N) {k e : Int} (hk : k < wW N) (he : 0 ≤ e) : ∀ n : Nat, ∀ x ∈ sdl N k e n, 0 ≤ x ∧ x < eK (BS N) := by
  intro n
  induction n with
  | zero => intro x hx; cases hx
  | succ n ih =>
    intro x hx
    rw [sdl_s, List.mem_append] at hx
    rcases hx with hx | hx
    · exact ih x hx
    · unfold sd1 at hx
      rw [List.mem_append] at hx
      rcases hx with hx | hx
      · by_cases q : okA N k ((n : Int) + 1)
        · rw [ic_1 q] at hx
          simp at hx
          have := id_b h (i := k - ((n : Int) + 1)) q.1 (by omega)
          rw [hx]; exact this
        · rw [ic_0 q] at hx; cases hx
      · by_cases q : okB N e ((n : Int) + 1)
        · rw [ic_1 q] at hx
          simp at hx
          have := id_b h (i := e + ((n : Int) + 1)) (by omega) q.1
          rw [hx]; exact this
        · rw [ic_0 q] at hx; cases hx
theorem sds_len (h : TR C mv b N) (m : Int) : (sds N m).length ≤ 6 := by
  have := sdl_len (N := N) (mk N m) (mk N m + ml N m - 1) (N 1900).toNat
  have w7 := h.2.2.2.2.2.2
  have := w7.2.2.2.2.2.2.2
  unfold sds
  omega
theorem sds_mem (h : TR C mv b N) {m : Int} (h0 : 0 ≤ m) (h1 : m < Mn N) : ∀ x ∈ sds N m, 0 ≤ x ∧ x < eK (BS N) := by
  have := mk_bd h h0 h1
  exact sdl_mem h (by omega) (by omega) _
theorem getD_snoc (l : List Int) (x : Int) (j : Nat) : (l ++ [x]).getD j 0 = if j = l.length then x else l.getD j 0 := by
  rw [List.getD_eq_getElem?_getD, List.getD_eq_getElem?_getD]
  by_cases e : j = l.length
  · rw [if_pos e, e, List.getElem?_append_right (Nat.le_refl _)]
    simp
  · rw [if_neg e]
    by_cases g : j < l.length
    · rw [List.getElem?_append_left g]
    · rw [List.getElem?_eq_none (by rw [List.length_append]; simp; omega), List.getElem?_eq_none (by omega)]
/-- what is put in row 254 -/
def B4 (m : zM) (l : List Int) : Prop := ∀ j : Nat, j < l.length → iq m 254 (j : Int) = l.getD j 0
theorem B4.snoc {m : zM} {l : List Int} {x : Int} (h : B4 m l) (hx : r32 x) : B4 (sq m 254 (l.length : Int) x) (l ++ [x]) := fun j hj => by
  rw [getD_snoc]
  rw [List.length_append] at hj
  simp at hj
  by_cases e : j = l.length
  · rw [if_pos e, e, iq_eq hx]
  · rw [if_neg e, iq_ne (Or.inr (by omega)) (by omega) (by omega)]
    exact h j (by omega)
theorem c_beside_l {Q : Int32 → zM → Prop} {m0 : zM} {k e : Int} (hb : zT b) (hN : TR C m0 b N) (hB : DB m0 N) (hk : 0 ≤ k ∧ k < wW N) (he : 0 ≤ e ∧ e < wW N) (H : ∀ m, fr [254] m0 m → B4 m (sdl N k e (N 1900).toNat) → Q (J ((sdl N k e (N 1900).toNat).length : Int)) m) :
    ∀ (j n : Nat) (m : zM), (n : Int) + j = N 1900 → fr [254] m0 m → B4 m (sdl N k e n) → W_Terms_findBeside_20 (d + 1) b (J k) (J e) (J ((sdl N k e n).length : Int)) (J ((n : Int) + 1)) w m Q := by
  have hbb := zT_b hb
  obtain ⟨w1, w2, w3, w4⟩ := hN.words
  have w7 := hN.2.2.2.2.2.2
  have hw := w7.2.2.2.2.2.2.2
  have hB2 := BS_k hN
  intro j
  induction j with
  | zero =>
    intro n m hn f hI
    have e12 := (hN.frm f hb (by intro c hc; simp at hc; omega)).2.2.2.2.2.2.2.2.2.1
    refine S_Terms_findBeside_20 hb ?_
    simp (disch := first | (unfold r32; omega) | omega) only [j_lit, J_lt, j_rd, j_nc, e12]
    rw [show n = (N 1900).toNat by omega] at hI ⊢
    exact ⟨fun _ => H m f hI, fun q => by omega⟩
  | succ j ih =>
    intro n m hn f hI
    have hNm := hN.frm f hb (by intro c hc; simp at hc; omega)
    have e12 := hNm.2.2.2.2.2.2.2.2.2.1
    have hlen := sdl_len (N := N) k e n
    have id223 : ∀ (m' : zM), fr [254] m0 m' → ∀ i, 0 ≤ i → i < wW N → iq m' 223 i = idb N i := fun m' f' i i0 i1 => by rw [f'.i (by simp)]; exact (hB.2.1 i i0 i1).2.2.1
    have idr : ∀ i, 0 ≤ i → i < wW N → r32 (idb N i) := fun i i0 i1 => by have := id_b hN i0 i1; unfold r32; omega
    have goB : ∀ (l : List Int) (m' : zM), l.length ≤ 2 * n + 1 → fr [254] m0 m' → B4 m' l → sdl N k e (n + 1) = l ++ ic (okB N e ((n : Int) + 1)) [idb N (e + ((n : Int) + 1))] → cI (d + 1) 59 [.ref (b + 10), .int (J e), .int (J (e + ((n : Int) + 1)))] w m' (fun v m2 => (v = J 0 → W_Terms_findBeside_20 (d + 1) b (J k) (J e) (J (l.length : Int)) (J ((n : Int) + 1 + 1)) w m2 Q) ∧ (¬ v = J 0 → cI (d + 1) 156 [.ref 223, .int (J (e + ((n : Int) + 1)))] w m2 (fun v3 m3 => cV (d + 1) 158 [.ref 254, .int (J (l.length : Int)), .int v3] w m3 (fun m4 => W_Terms_findBeside_20 (d + 1) b (J k) (J e) (J ((l.length : Int) + 1)) (J ((n : Int) + 1 + 1)) w m4 Q)))) := by
      intro l m' hl f' hl4 hsd
      refine c_one1 (d := d) hb (hN.frm f' hb (by intro c hc; simp at hc; omega)) (by unfold r32; omega) (by unfold r32; omega) (by omega) (fun g0 g1 g2 => ?_) (fun g => ?_)
      · refine ⟨fun q => absurd q (by decide), fun _ => c_at (n := 240) rfl (by decide) (by unfold r32; omega) (by omega) ?_⟩
        rw [id223 m' f' _ (by omega) g1]
        refine c_put (n := 6) rfl (by decide) (by unfold r32; omega) (by omega) ?_
        rw [ic_1 ⟨g1, g2⟩] at hsd
        have := ih (n + 1) (sq m' 254 (l.length : Int) (idb N (e + ((n : Int) + 1)))) (by omega) (f'.si (by simp) _ _) (by rw [hsd]; exact hl4.snoc (idr _ (by omega) g1))
        rw [hsd, List.length_append] at this
        simp only [List.length_cons, List.length_nil, Int.natCast_add, j_nc, Int.zero_add] at this
        exact this
      · refine ⟨fun _ => ?_, fun q => absurd rfl q⟩
        rw [ic_0 (fun z => g ⟨he.1, z.1, z.2⟩), List.append_nil] at hsd
        have := ih (n + 1) m' (by omega) f' (by rw [hsd]; exact hl4)
        rw [hsd] at this
        simp only [Int.natCast_add, j_nc] at this
        exact this
    have hs1 := sdl_s N k e n
    unfold sd1 at hs1
    refine S_Terms_findBeside_20 hb ?_
    simp (disch := first | (unfold r32; omega) | omega) only [j_lit, J_lt, j_rd, j_nc, e12, j_ops]
    refine ⟨fun q => by omega, fun _ => ⟨fun q => by omega, fun _ => ?_⟩⟩
    refine c_one1 (d := d) hb hNm (by unfold r32; omega) (by unfold r32; omega) (by omega) (fun g0 g1 g2 => ?_) (fun g => ?_)
    · refine ⟨fun q => absurd q (by decide), fun _ => c_at (n := 240) rfl (by decide) (by unfold r32; omega) (by omega) ?_⟩
      rw [id223 m f _ g0 (by omega)]
      refine c_put (n := 6) rfl (by decide) (by unfold r32; omega) (by omega) ?_
      have hA : okA N k ((n : Int) + 1) := ⟨g0, g2⟩
      have hl4 := hI.snoc (x := idb N (k - ((n : Int) + 1))) (idr _ g0 (by omega))
      have := goB (sdl N k e n ++ [idb N (k - ((n : Int) + 1))]) _ (by rw [List.length_append]; simp; omega) (f.si (by simp) _ _) hl4 (by rw [hs1, ic_1 hA, List.append_assoc])
      rw [List.length_append] at this
      simp only [List.length_cons, List.length_nil, Int.natCast_add, j_nc, Int.zero_add] at this
      exact this
    · have hA : ¬ okA N k ((n : Int) + 1) := fun z => g ⟨z.1, hk.2, z.2⟩
      refine ⟨fun _ => ?_, fun q => absurd rfl q⟩
      exact goB (sdl N k e n) m (by omega) f hI (by rw [hs1, ic_0 hA, List.nil_append])
theorem c_beside {Q : Int32 → zM → Prop} {m : zM} {x : Int} (hb : zT b) (hN : TR C m b N) (hB : DB m N) (hF : MF N m) (h0 : 0 ≤ x) (h1 : x < Mn N) (H : ∀ m', fr [254] m m' → B4 m' (sds N x) → Q (J ((sds N x).length : Int)) m') : cI (d + 2) 88 [.ref 237, .ref b, .int (J x)] w m Q := by
  have hM := Mn_b hN
  have hbd := mk_bd hN h0 h1
  have hf := hF.2 x h0 h1
  have w7 := hN.2.2.2.2.2.2
  have hw := w7.2.2.2.2.2.2.2
  refine S_Terms_findBeside (c_at (n := 1200) rfl (by decide) (by unfold r32; omega) (by omega) (c_at (n := 1200) rfl (by decide) (by unfold r32; omega) (by omega) ?_))
  rw [hf.1, hf.2.1]
  simp only [j_lit, j_ops]
  have := c_beside_l (d := d) (w := w) (Q := Q) (k := mk N x) (e := mk N x + ml N x - 1) hb hN hB ⟨hbd.1, by omega⟩ ⟨by omega, by omega⟩ H (N 1900).toNat 0 m (by omega) (fr.rf _ _) (fun j hj => by cases hj)
  exact this
end BES
