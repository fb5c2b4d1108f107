/-! the class gathers the terms: its loop -/
def GI (N : Int → Int) (o : Int → Int) (m0 : zM) (m : zM) (k T run best : Int) : Prop :=
  fr SG m0 m ∧ iq m 237 19 = T ∧ enm (lq m 238) T (img (fun j => pkm N (o j)) k) ∧ T ≤ k ∧
  (∀ t, 0 ≤ t → t < T → ∃ be, TP N o k (lq m 238 t) (iq m 240 t) (iq m 241 t) (iq m 239 t) (iq m 246 t) (iq m 248 t) (iq m 244 t) (iq m 245 t) be ∧ (t = T - 1 → be = best) ∧ iq m 239 t + iq m 240 t ≤ k ∧ iq m 242 t = 0 ∧ iq m 243 t = 0 ∧ iq m 247 t = 0 ∧ iq m 249 t = 0 ∧ iq m 250 t = 0 ∧ iq m 251 t = -1) ∧
  (0 < k → 1 ≤ T ∧ lq m 238 (T - 1) = pkm N (o (k - 1)) ∧ run = fkn N o k (k - 1) ∧ iq m 239 (T - 1) + iq m 240 (T - 1) = k) ∧
  (∀ j, 0 ≤ j → j < k → 0 ≤ iq m 233 (o j) ∧ iq m 233 (o j) < T ∧ lq m 238 (iq m 233 (o j)) = pkm N (o j)) ∧ 0 ≤ run ∧ run ≤ k ∧ 0 ≤ best ∧ best ≤ k ∧ (k = 0 → best = 0)
section GLP
variable {d : Nat} {w : Nat × Nat × Nat} {b : Nat} {C : Int} {N : Int → Int} {mv : zM}
theorem TP.bds {o : Int → Int} {k R c f s fi dv fo co be : Int} (hk : 0 ≤ k) (h : TP N o k R c f s fi dv fo co be) : 0 ≤ c ∧ c ≤ k ∧ 0 ≤ f ∧ f ≤ k ∧ 0 ≤ be ∧ be ≤ k := by
  obtain ⟨a1, a2, a3, a4, a5, a6, jc, c0, c1, c2, c3, c4, c5⟩ := h
  have b1 := cnt_b (fun j => pkm N (o j) = R) k.toNat
  have b2 := cnt_b (fun j => pkm N (o j) = R ∧ ¬ wi N (mk N (o j)) (ml N (o j))) k.toNat
  have b3 := cnt_b (fun i => pkm N (o i) = pkm N (o jc) ∧ pfm N (o i) = pfm N (o jc)) k.toNat
  unfold fkn at c4
  omega
theorem TP.fo_b {o : Int → Int} {k R c f s fi dv fo co be : Int} (hk : 0 ≤ k) (h : TP N o k R c f s fi dv fo co be) : 0 ≤ fo ∧ fo ≤ k := by
  obtain ⟨a1, a2, a3, a4, a5, ⟨u, hu⟩, a7⟩ := h
  refine ⟨hu.1, ?_⟩
  have hb : bnd (fun x => ∃ j, 0 ≤ j ∧ j < k ∧ pkm N (o j) = R ∧ pfm N (o j) = x) ∨ True := Or.inr trivial
  -- each member is an image of a place: fo ≤ k by the same count as img_k
  have key : ∀ (j : Nat) (s : Int) (v : Int → Int) (P : Int → Prop), enm v s (fun x => ∃ i, 0 ≤ i ∧ i < (j : Int) ∧ P i ∧ pfm N (o i) = x) → s ≤ j := by
    intro j
    induction j with
    | zero =>
      intro s v P he
      rcases Int.lt_or_le 0 s with g | g
      · obtain ⟨i, a, c, _⟩ := he.2.2.1 0 (by omega) g
        omega
      · omega
    | succ j ih =>
      intro s v P he
      -- drop the value of place j
      rcases Int.lt_or_le s 1 with g | g
      · omega
      · by_cases q : ∃ p, 0 ≤ p ∧ p < s ∧ v p = pfm N (o (j : Int))
        · obtain ⟨p, p0, p1, p2⟩ := q
          have := ih (s - 1) (fun i => if i < p then v i else v (i + 1)) (fun i => P i ∧ pfm N (o i) ≠ pfm N (o (j : Int))) ⟨by omega, fun i i' a c e => ?_, fun i a c => ?_, fun x hx => ?_⟩
          · omega
          · show (if i < p then v i else v (i + 1)) < (if i' < p then v i' else v (i' + 1))
            split <;> split <;> first | (exact he.2.1 _ _ (by omega) (by omega) (by omega)) | omega
          · have g2 : ∀ t, 0 ≤ t → t < s → t ≠ p → ∃ i, 0 ≤ i ∧ i < (j : Int) ∧ (P i ∧ pfm N (o i) ≠ pfm N (o (j : Int))) ∧ pfm N (o i) = v t := fun t t0 t1 t2 => by
              obtain ⟨i, i0, i1, i2, i3⟩ := he.2.2.1 t t0 t1
              have ne : v t ≠ v p := by
                rcases Int.lt_trichotomy t p with z | z | z
                · have := he.2.1 t p t0 z p1; omega
                · exact absurd z t2
                · have := he.2.1 p t p0 z t1; omega
              have ij : i ≠ j := fun z => ne (by rw [← i3, z, p2])
              exact ⟨i, i0, by omega, ⟨i2, by rw [i3, ← p2]; exact ne⟩, i3⟩
            show ∃ i_1, 0 ≤ i_1 ∧ i_1 < (j : Int) ∧ (P i_1 ∧ pfm N (o i_1) ≠ pfm N (o (j : Int))) ∧ pfm N (o i_1) = (if i < p then v i else v (i + 1))
            split
            · exact g2 i a (by omega) (by omega)
            · exact g2 (i + 1) (by omega) (by omega) (by omega)
          · obtain ⟨i, i0, i1, ⟨i2, i3⟩, i4⟩ := hx
            obtain ⟨t, t0, t1, t2⟩ := he.2.2.2 x ⟨i, i0, by omega, i2, i4⟩
            have tp : t ≠ p := fun z => by rw [z, p2] at t2; exact i3 (i4.trans t2.symm)
            by_cases z : t < p
            · exact ⟨t, t0, by omega, by show (if t < p then v t else v (t + 1)) = x; rw [if_pos z]; exact t2⟩
            · exact ⟨t - 1, by omega, by omega, by show (if t - 1 < p then v (t - 1) else v (t - 1 + 1)) = x; rw [if_neg (by omega), show t - 1 + 1 = t by omega]; exact t2⟩
        · have := ih s v P (he.ext (fun x => ⟨fun ⟨i, i0, i1, i2, i3⟩ => ⟨i, i0, ?_, i2, i3⟩, fun ⟨i, i0, i1, i2, i3⟩ => ⟨i, i0, by omega, i2, i3⟩⟩))
          · omega
          · by_cases z : i = j
            · obtain ⟨t, t0, t1, t2⟩ := he.2.2.2 x ⟨i, i0, i1, i2, i3⟩
              exact absurd ⟨t, t0, t1, by rw [t2, ← i3, z]⟩ q
            · omega
  have := key k.toNat fo u (fun j => pkm N (o j) = R) (hu.ext (fun x => by rw [show ((k.toNat : Nat) : Int) = k by omega]))
  omega
/-- the rest of a step, from the term it goes into -/
theorem c_g93 {Q : zM → Prop} {m : zM} {t x wv V v : Nat} {fi run best k nf : Int} (hb : zT b) (hN : TR C m b N) (hV : TR C mv b N) (hF : MF N m) (hx : (x : Int) < Mn N) (ht : t < 1200) (hw : iq m 234 (x : Int) = (wv : Int)) (hfi : iq m 246 (t : Int) = fi) (hfi2 : r32 fi) (hdv : iq m 248 (t : Int) = (V : Int)) (hV2 : V < 256) (hd : dcN N (mk N (x : Int)) = (v : Int)) (hv : v < 8) (h240 : 0 ≤ iq m 240 (t : Int) ∧ iq m 240 (t : Int) ≤ 1200) (h241 : 0 ≤ iq m 241 (t : Int) ∧ iq m 241 (t : Int) ≤ 1200) (h244 : r32 (iq m 244 (t : Int) + nf)) (hnf : nf = 0 ∨ nf = 1)
    (H : ∀ m', m' = tak (sq m 244 (t : Int) (iq m 244 (t : Int) + nf)) t x wv (if fi ≤ (x : Int) then fi else (x : Int)) ((V ||| 2 ^ v : Nat) : Int) → W_Terms_gather_9 (d + 2) b (J run) (J best) (J (k + 1)) w m' Q) : W_Terms_gather_93 (d + 2) b (J run) (J best) (J k) (J (x : Int)) (J nf) (J (t : Int)) w m Q := by
  have hbb := zT_b hb
  have f : fr [244] m (sq m 244 (t : Int) (iq m 244 (t : Int) + nf)) := (fr.rf _ m).si (by simp) _ _
  have go : cV (d + 2) 158 [.ref 244, .int (J (t : Int)), .int (J (iq m 244 (t : Int) + nf))] w m (fun m2 => cV (d + 2) 83 [.ref 237, .ref b, .int (J (t : Int)), .int (J (x : Int))] w m2 (fun m3 => W_Terms_gather_9 (d + 2) b (J run) (J best) (J (k + 1)) w m3 Q)) := by
    refine c_put (n := 1200) rfl (by decide) (by unfold r32; omega) (by omega) ?_
    refine c_take hb (hN.frm f hb (by intro c hc; simp at hc; omega)) hV (hF.frm f (by simp) (by simp) (by simp) (by simp) (by simp)) hx ht (by rw [f.i (by simp)]; exact hw) (by rw [f.i (by simp)]; exact hfi) hfi2 (by rw [f.i (by simp)]; exact hdv) hV2 hd hv (by rw [f.i (by simp)]; exact h240) (by rw [f.i (by simp)]; exact h241) ?_
    exact H _ rfl
  refine S_Terms_gather_93 (c_at (n := 1200) rfl (by decide) (by unfold r32; omega) (by omega) ?_)
  rcases hnf with rfl | rfl
  · simp (disch := first | (unfold r32; omega) | omega) only [j_lit, J_eq, j_ops]
    exact ⟨fun _ => go, fun q => absurd trivial q⟩
  · simp (disch := first | (unfold r32; omega) | omega) only [j_lit, J_eq, j_ops]
    exact ⟨fun q => by omega, fun _ => go⟩
end GLP
