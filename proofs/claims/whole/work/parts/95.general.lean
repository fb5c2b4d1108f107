/-! terms in general texts: the class -/
def GMs (N : Int → Int) (u i : Int) : Prop := i + tl N u ≤ N 1069 ∧ (∀ j, 0 ≤ j → j < tl N u → N (1470 + i) = N (1470 + (i + j)) ∧ 0 ≤ gid N (i + j)) ∧ pkf (gid N) i (tl N u) = tr N u
noncomputable def gn (N : Int → Int) (u : Int) : Int := cnt (fun i => GMs N u i) (N 1069).toNat
section GEN
variable {d : Nat} {w : Nat × Nat × Nat} {b : Nat} {C : Int} {N : Int → Int} {mv : zM}
theorem gid_b (h : TR C mv b N) (i : Int) : -1 ≤ gid N i ∧ gid N i < 240 := by
  have hk := BS_k h
  have hw := h.words
  unfold gid
  by_cases q : BS N (gb N i)
  · have := ei_in (BS_b h) q
    omega
  · rw [ei_no (BS_b h) q]; omega
theorem c_oneG {Q : Int32 → zM → Prop} {m : zM} {i j : Int} (hb : zT b) (hN : TR C m b N) (h0 : 0 ≤ i) (hij : i ≤ j) (hj : j < 100000) (H1 : j < N 1069 → N (1470 + i) = N (1470 + j) → Q (J 1) m) (H0 : ¬ (j < N 1069 ∧ N (1470 + i) = N (1470 + j)) → Q (J 0) m) : cI (d + 1) 59 [.ref (b + 14), .int (J i), .int (J j)] w m Q := by
  have hG := hN.2.2.2.2.1
  have hG1 := hG.1
  have hG2 := hG.2.1
  have e2 := hG.2.2.1
  refine S_Prose_oneSentence (zT_ge hb) ?_
  simp (disch := first | (unfold r32; omega) | omega) only [j_lit, J_lt, J_le, j_rd, j_nc, e2]
  refine ⟨fun q => by omega, fun _ => ⟨fun q => by omega, fun _ => ⟨fun q => H0 (fun z => by omega), fun q => ⟨fun q2 => H0 (fun z => by omega), fun q2 => ?_⟩⟩⟩⟩
  refine c_at (n := 240) (zT_ge hb).2.2.2.2 (by decide) (by unfold r32; omega) (by omega) (c_at (n := 240) (zT_ge hb).2.2.2.2 (by decide) (by unfold r32; omega) (by omega) ?_)
  have x1 := (hG.2.2.2.1 i h0 (by omega))
  have x2 := (hG.2.2.2.1 j (by omega) (by omega))
  have y1 : iq m (b + 14 + 2) i = N (1470 + i) := x1.2.1
  have y2 : iq m (b + 14 + 2) j = N (1470 + j) := x2.2.1
  rw [y1, y2]
  simp (disch := first | (unfold r32; omega) | omega) only [J_eq]
  exact ⟨fun q => H0 (fun z => q z.2), fun q => H1 (by omega) q⟩
theorem c_gen11 {Q : zM → Prop} {m0 : zM} {i : Int} (hb : zT b) (hN : TR C m0 b N) (h0 : DT0 m0 N) (hB : DB m0 N) (hi : 0 ≤ i ∧ i < N 1069) (H : ∀ m, fr [247] m0 m → (∀ u, 0 ≤ u → u < Zn N → iq m 247 u = cnt (fun i => GMs N u i) (i + 1).toNat) → W_Terms_countGeneral_2 (d + 4) b (J (i + 1)) w m Q) :
    ∀ (k : Nat) (n : Int) (m : zM), 0 ≤ n → n + k = 5 → fr [247] m0 m → i + n ≤ N 1069 → (∀ j, 0 ≤ j → j < n → N (1470 + i) = N (1470 + (i + j)) ∧ 0 ≤ gid N (i + j)) → (∀ u, 0 ≤ u → u < Zn N → iq m 247 u = cnt (fun i => GMs N u i) i.toNat + bi (GMs N u i ∧ tl N u ≤ n)) → W_Terms_countGeneral_11 (d + 4) b (J i) (JL (pkf (gid N) i n)) (J n) w m Q := by
  have hM := Mn_b hN
  have hZ := Zn_b hN
  have hG := hN.2.2.2.2.1
  have hG2 := hG.2.1
  intro k
  induction k with
  | zero =>
    intro n m hn hk f hin hok hI
    refine S_Terms_countGeneral_11 hb ?_
    simp (disch := first | (unfold r32; omega) | omega) only [j_lit, J_le, j_ops]
    refine ⟨fun _ => H m f (fun u u0 u1 => ?_), fun q => by omega⟩
    have := tl_b hN u0 u1
    rw [cnt_z _ hi.1, hI u u0 u1, propext (⟨fun z => z.1, fun z => ⟨z, by omega⟩⟩ : GMs N u i ∧ tl N u ≤ n ↔ GMs N u i)]
  | succ k ih =>
    intro n m hn hk f hin hok hI
    have hNm := hN.frm f hb (by intro c hc; simp at hc; omega)
    have hT := h0.frm f (by simp) (by simp) (by simp) (by simp) (by simp) (by simp) (by simp) (by simp) (by simp) (by simp) (by simp)
    have stop : ¬ (i + n < N 1069 ∧ N (1470 + i) = N (1470 + (i + n)) ∧ 0 ≤ gid N (i + n)) → W_Terms_countGeneral_2 (d + 4) b (J (i + 1)) w m Q := fun g => H m f (fun u u0 u1 => by
      rw [cnt_z _ hi.1, hI u u0 u1, propext (⟨fun z => z.1, fun z => ⟨z, by
        rcases Int.lt_or_le n (tl N u) with y | y
        · exact absurd ⟨by have := z.1; omega, z.2.1 n hn y⟩ g
        · exact y⟩⟩ : GMs N u i ∧ tl N u ≤ n ↔ GMs N u i)])
    refine S_Terms_countGeneral_11 hb ?_
    simp (disch := first | (unfold r32; omega) | omega) only [j_lit, J_le, j_ops]
    refine ⟨fun q => by omega, fun _ => c_oneG (d := d + 3) hb hNm hi.1 (by omega) (by omega) (fun g1 g2 => ?_) (fun g => ?_)⟩
    · simp (disch := first | (unfold r32; omega) | omega) only [J_eq]
      refine ⟨fun q => by omega, fun _ => c_at (n := 240) rfl (by decide) (by unfold r32; omega) (by omega) ?_⟩
      have e25 : iq m 225 (i + n) = gid N (i + n) := by rw [f.i (by simp)]; exact hB.2.2.2 _ (by omega) g1
      have gb' := gid_b hN (i + n)
      rw [e25]
      simp (disch := first | (unfold r32; omega) | omega) only [J_le]
      refine ⟨fun q => c_cell ⟨q, by omega⟩ ⟨hn, by omega⟩ ?_, fun q => stop (fun z => q z.2.2)⟩
      have ok : okd (gid N) i (n + 1) := fun j j0 j1 => by
        by_cases e : j = n
        · rw [e]; exact ⟨q, gb'.2⟩
        · exact ⟨(hok j j0 (by omega)).2, (gid_b hN (i + j)).2⟩
      have hor := pk_or ok hn (by omega)
      have hpb := pkf_bd ok
      rw [hor]
      have hok1 : ∀ j, 0 ≤ j → j < n + 1 → N (1470 + i) = N (1470 + (i + j)) ∧ 0 ≤ gid N (i + j) := fun j j0 j1 => by
        by_cases e : j = n
        · rw [e]; exact ⟨g2, q⟩
        · exact hok j j0 (by omega)
      have clh := pkf_cl ok (by omega) (by omega)
      -- what is new with one word more
      have more : ∀ u, 0 ≤ u → u < Zn N → ((GMs N u i ∧ tl N u ≤ n + 1) ↔ ((GMs N u i ∧ tl N u ≤ n) ∨ pkf (gid N) i (n + 1) = tr N u)) := fun u u0 u1 => by
        constructor
        · intro ⟨y1, y2⟩
          by_cases e : tl N u = n + 1
          · right; rw [← e]; exact y1.2.2
          · exact Or.inl ⟨y1, by omega⟩
        · intro y
          rcases y with y | y
          · exact ⟨y.1, by omega⟩
          · have e : tl N u = n + 1 := by unfold tl; rw [← y]; exact clh
            exact ⟨⟨by omega, by rw [e]; exact hok1, by rw [e]; exact y⟩, by omega⟩
      refine c_placeOf (d := d + 1) hN hT (by unfold r64; omega) (fun g => ?_) (fun u u0 u1 e => ?_)
      · simp (disch := first | (unfold r32; omega) | omega) only [J_lt]
        refine ⟨fun _ => ih (n + 1) m (by omega) (by omega) f (by omega) hok1 (fun u u0 u1 => ?_), fun q => by omega⟩
        rw [hI u u0 u1, propext ((more u u0 u1).trans ⟨fun y => by
          rcases y with y | y
          · exact y
          · exact absurd y.symm (g u u0 u1), fun y => Or.inl y⟩)]
      · have hIu := hI u u0 u1
        have hno : ¬ (GMs N u i ∧ tl N u ≤ n) := fun z => by
          have : tl N u = n + 1 := by unfold tl; rw [e]; exact clh
          omega
        rw [bi_0 hno] at hIu
        have hcb := cnt_b (fun i => GMs N u i) i.toNat
        simp (disch := first | (unfold r32; omega) | omega) only [J_lt]
        refine ⟨fun q => by omega, fun _ => c_at (n := 1200) rfl (by decide) (by unfold r32; omega) (by omega) ?_⟩
        rw [j_ops.1]
        refine c_put (n := 1200) rfl (by decide) (by unfold r32; omega) (by omega) (ih (n + 1) _ (by omega) (by omega) (f.si (by simp) _ _) (by omega) hok1 (fun v v0 v1 => ?_))
        by_cases z : v = u
        · rw [z, iq_eq (by unfold r32; omega), bi_1 ((more u u0 u1).mpr (Or.inr e.symm))]
          omega
        · rw [iq_ne (Or.inr z) (by omega) v0, hI v v0 v1, propext ((more v v0 v1).trans ⟨fun y => by
            rcases y with y | y
            · exact y
            · exact absurd (tr_inj hN v0 v1 u0 u1 (y.symm.trans e.symm)) z, fun y => Or.inl y⟩)]
    · simp (disch := first | (unfold r32; omega) | omega) only [J_eq, J_le]
      exact ⟨fun _ => ⟨fun q => by omega, fun _ => stop (fun z => g ⟨z.1, z.2.1⟩)⟩, fun q => absurd trivial q⟩
theorem c_general {Q : zM → Prop} {m0 : zM} (hb : zT b) (hN : TR C m0 b N) (h0 : DT0 m0 N) (hB : DB m0 N) (hz : ∀ t, 0 ≤ t → t < Zn N → iq m0 247 t = 0) (H : ∀ m, fr [247] m0 m → (∀ u, 0 ≤ u → u < Zn N → iq m 247 u = gn N u) → Q m) : cV (d + 5) 85 [.ref 237, .ref b] w m0 Q := by
  have hG := hN.2.2.2.2.1
  have hG1 := hG.1
  have hG2 := hG.2.1
  refine S_Terms_countGeneral ?_
  simp only [j_lit]
  have key : ∀ (k : Nat) (i : Int) (m : zM), 0 ≤ i → i + k = N 1069 → fr [247] m0 m → (∀ u, 0 ≤ u → u < Zn N → iq m 247 u = cnt (fun i => GMs N u i) i.toNat) → W_Terms_countGeneral_2 (d + 4) b (J i) w m Q := by
    intro k
    induction k with
    | zero =>
      intro i m hi hk f hI
      have e2 := (hN.frm f hb (by intro c hc; simp at hc; omega)).2.2.2.2.1.2.2.1
      refine S_Terms_countGeneral_2 hb ?_
      simp (disch := first | (unfold r32; omega) | omega) only [j_lit, J_le, j_rd, j_nc, e2]
      refine ⟨fun _ => H m f (fun u u0 u1 => ?_), fun q => by omega⟩
      rw [hI u u0 u1]
      unfold gn
      rw [show i = N 1069 by omega]
    | succ k ih =>
      intro i m hi hk f hI
      have e2 := (hN.frm f hb (by intro c hc; simp at hc; omega)).2.2.2.2.1.2.2.1
      refine S_Terms_countGeneral_2 hb ?_
      simp (disch := first | (unfold r32; omega) | omega) only [j_lit, jl_lit, J_le, j_rd, j_nc, e2]
      refine ⟨fun q => by omega, fun _ => ?_⟩
      have := c_gen11 (d := d) (w := w) (Q := Q) (i := i) hb hN h0 hB ⟨hi, by omega⟩ (fun m' f' h' => ih (i + 1) m' (by omega) (by omega) f' h') 5 0 m (by omega) (by omega) f (by omega) (fun j _ _ => by omega) (fun u u0 u1 => by
        have := tl_b hN u0 u1
        rw [hI u u0 u1, bi_0 (fun z => by omega)]
        omega)
      rw [pkf_0] at this
      exact this
  exact key (N 1069).toNat 0 m0 (by omega) (by omega) (fr.rf _ _) (fun u u0 u1 => by rw [hz u u0 u1]; rfl)
end GEN
