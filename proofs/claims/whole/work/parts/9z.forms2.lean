/-! the forms of a term: the reference's loops -/
section FRL
variable {d : Nat} {w : Nat × Nat × Nat} {C : Int} {N : Int → Int} {mv : zM} {b : Nat}
theorem FF.rf (m : zM) : FF m m := ⟨fr.rf _ m, fun _ _ _ _ => rfl, rfl⟩
theorem FF.s5 {m m' : zM} (h : FF m m') {a : Nat} (ha : a = 295 ∨ a = 296) {z : Int} (v : Int) : FF m (sq m' a z v) := ⟨h.1.si (by rcases ha with g | g <;> simp [g]) _ _, fun y y0 y1 y2 => (((fr.rf [a] m').si (by simp) z v).i (by rcases ha with g | g <;> simp [g]) y).trans (h.2.1 y y0 y1 y2), h.2.2⟩
theorem FF.s61 {m m' : zM} (h : FF m m') {z : Int} (hz : z = 55 ∨ z = 56) (v : Int) : FF m (sq m' 261 z v) := ⟨h.1.si (by simp) _ _, fun y y0 y1 y2 => (iq_ne (Or.inr (by omega)) (by omega) y0).trans (h.2.1 y y0 y1 y2), h.2.2⟩
theorem FF.dm {m m' : zM} (f : FF m m') (h : DM m N) : DM m' N := h.mvd f.1 (by intro c hc; simp at hc; omega) (fun z hz => f.2.1 z (by omega) (by omega) (by omega))
theorem c_ff21 {Q : zM → Prop} {m0 m : zM} {t s i : Int} (h : TR C mv b N) (hR : rowM m0 N) (hd : DM m0 N) (ht : 0 ≤ t ∧ t < Zn N) (hi : 0 ≤ i ∧ i < Mn N) (hp : pkm N i = tr N t) (f : FF m0 m) (hI : FI N m t s i) (go : ∀ m' s', FF m0 m' → FI N m' t s' (i + 1) → W_M_findsForms_8 d (J t) (J (i + 1)) w m' Q) : ∀ (z : Nat) (k : Int), 0 ≤ k → k + z = s → (∀ j, 0 ≤ j → j < k → pfm N i ≠ pfm N (iq m 295 j)) → W_M_findsForms_21 d (J t) (J i) (J k) w m Q := by
  have hMb := Mn_b h
  have hct := ct_b h ht.1 ht.2
  obtain ⟨a0, a1, a2, a3, a4, a5, a6⟩ := id hI
  have hs : s < 240 := by
    have c1 := cnt_z (fun y => pkm N y = tr N t) hi.1
    rw [bi_1 hp] at c1
    have c2 := cnt_mono (fun y => pkm N y = tr N t) (i := (i + 1).toNat) (Mn N).toNat (by omega)
    unfold ct at hct
    omega
  intro z
  induction z with
  | zero =>
    intro k k0 hz hne
    have ek : k = s := by omega
    refine S_M_findsForms_21 ?_
    simp (disch := first | (unfold r32; omega) | omega) only [j_lit, j_ops, vp_J, J_cl, iq_tn, j_rd, j_nc, a2, J_le, J_eq, j_wr, sq_tn]
    refine ⟨fun _ => ⟨fun q => absurd ek q, fun _ => ⟨by omega, by omega, by omega, by omega, ?_⟩⟩, fun q => by omega⟩
    have e1 : iq (sq (sq m 295 k i) 296 k 0) 296 k = 0 := iq_eq (by unfold r32; omega)
    rw [e1]
    refine go _ (s + 1) (((((f.s5 (Or.inl rfl) _).s5 (Or.inr rfl) _).s61 (Or.inl rfl) _).s5 (Or.inr rfl) _)) (hI.more hi.1 hp (fun j j0 j1 => hne j j0 (by omega)) ?_ (fun j j0 => ?_) (fun j j0 => ?_))
    · rw [iq_ne (by omega) (by omega) (by omega), iq_eq (by unfold r32; omega)]
    · rw [iq_ne (by omega) (by omega) (by omega), iq_ne (by omega) (by omega) (by omega), iq_ne (by omega) (by omega) (by omega)]
      by_cases g : j = s
      · rw [if_pos g, g, ek, iq_eq (by unfold r32; omega)]
      · rw [if_neg g, iq_ne (Or.inr (by omega)) (by omega) j0]
    · by_cases g : j = s
      · rw [if_pos g, g, ek, iq_eq (by unfold r32; omega)]; rfl
      · rw [if_neg g, iq_ne (Or.inr (by omega)) (by omega) j0, iq_ne (by omega) (by omega) j0, iq_ne (Or.inr (by omega)) (by omega) j0, iq_ne (by omega) (by omega) j0]
  | succ z ih =>
    intro k k0 hz hne
    obtain ⟨b0, b1, b2, b3⟩ := a4 k k0 (by omega)
    have hd1 := f.dm hd
    have c9 := cnt_b (fun y => pkm N y = tr N t ∧ pfm N y = pfm N (iq m 295 k)) i.toNat
    refine S_M_findsForms_21 ?_
    simp (disch := first | (unfold r32; omega) | omega) only [j_lit, j_ops, vp_J, J_cl, iq_tn, j_rd, j_nc, a2, J_le]
    refine ⟨fun q => by omega, fun _ => ⟨by omega, c_isForm h (hR.fr f.1 (by simp)) hd1.2.1 hi ⟨b0, by omega⟩ (by rw [← tl_m h hi.1 hi.2 hp, ← tl_m h b0 (by omega) b2]) (fun q => ?_) (fun q => ?_)⟩⟩
    · simp (disch := first | (unfold r32; omega) | omega) only [j_lit, j_ops, vp_J, J_cl, iq_tn, j_rd, j_nc, a2, J_eq, j_wr, sq_tn]
      refine ⟨fun _ => ⟨fun _ => ⟨by omega, by omega, ?_⟩, fun y => by omega⟩, fun y => by omega⟩
      refine go _ s (f.s5 (Or.inr rfl) _) (hI.again hi.1 hp k0 (by omega) q ?_ (fun j j0 => ?_) (fun j j0 => ?_))
      · exact iq_ne (by omega) (by omega) (by omega)
      · exact iq_ne (by omega) (by omega) j0
      · by_cases g : j = k
        · rw [if_pos g, g, iq_eq (by unfold r32; omega)]
        · rw [if_neg g, iq_ne (Or.inr g) (by omega) j0]
    · simp (disch := first | (unfold r32; omega) | omega) only [j_lit, j_ops, vp_J, J_cl, iq_tn, j_rd, j_nc, a2, J_eq, j_wr, sq_tn]
      refine ⟨fun y => absurd trivial y, fun _ => ih (k + 1) (by omega) (by omega) (fun j j0 j1 => ?_)⟩
      by_cases g : j = k
      · rw [g]; exact q
      · exact hne j j0 (by omega)
theorem c_ff69 {Q : zM → Prop} {m0 m : zM} {t s : Int} (h : TR C mv b N) (hR : rowM m0 N) (hd : DM m0 N) (ht : 0 ≤ t ∧ t < Zn N) (f : FF m0 m) (hI : FI N m t s (Mn N)) (H : ∀ m', FF m0 m' → (∃ u, enm u (iq m' 261 55) (FSt N t)) → CB N t (iq m' 261 56) → Q m') : ∀ (z : Nat) (v k : Int), 0 ≤ v → v < k → k + z = s → (∀ j, 0 ≤ j → j < k → iq m 296 j < iq m 296 v ∨ (iq m 296 j = iq m 296 v ∧ pfm N (iq m 295 v) ≤ pfm N (iq m 295 j))) → W_M_findsForms_69 d (J v) (J k) w m Q := by
  have hMb := Mn_b h
  have hct := ct_b h ht.1 ht.2
  obtain ⟨a0, a1, a2, a3, a4, a5, a6⟩ := id hI
  have hs : s ≤ 240 := by unfold ct at hct; omega
  intro z
  induction z with
  | zero =>
    intro v k v0 v1 hz hb
    obtain ⟨b0, b1, b2, b3⟩ := a4 v v0 (by omega)
    refine S_M_findsForms_69 ?_
    simp (disch := first | (unfold r32; omega) | omega) only [j_lit, j_ops, vp_J, J_cl, iq_tn, j_rd, j_nc, a2, J_le, j_wr, sq_tn]
    refine ⟨fun _ => ⟨by omega, H _ (f.s61 (Or.inr rfl) _) ?_ ?_⟩, fun q => by omega⟩
    · rw [iq_ne (Or.inr (by omega)) (by omega) (by omega), a2]
      obtain ⟨u, hu⟩ := a3
      exact ⟨u, hu.ext (fun x => Iff.rfl)⟩
    · rw [iq_eq (by unfold r32; omega)]
      refine ⟨b0, b1, b2, fun y y0 y1 y2 => ?_⟩
      obtain ⟨j, j0, j1, j2⟩ := a6 y y0 y1 y2
      obtain ⟨c0, c1, c2, c3⟩ := a4 j j0 j1
      have e1 : fkm N y = iq m 296 j := by unfold fkm; rw [c3, y2, ← j2]
      have e2 : fkm N (iq m 295 v) = iq m 296 v := by unfold fkm; rw [b3, b2]
      have := hb j j0 (by omega)
      rw [e1, e2, ← j2]
      exact this
  | succ z ih =>
    intro v k v0 v1 hz hb
    obtain ⟨b0, b1, b2, b3⟩ := a4 v v0 (by omega)
    obtain ⟨c0, c1, c2, c3⟩ := a4 k (by omega) (by omega)
    have hd1 := f.dm hd
    have r9 := iq_r m 296 v
    have r8 := iq_r m 296 k
    have keep : (iq m 296 k < iq m 296 v ∨ (iq m 296 k = iq m 296 v ∧ pfm N (iq m 295 v) ≤ pfm N (iq m 295 k))) → W_M_findsForms_69 d (J v) (J (k + 1)) w m Q := fun g => ih v (k + 1) v0 (by omega) (by omega) (fun j j0 j1 => by
      by_cases q : j = k
      · rw [q]; exact g
      · exact hb j j0 (by omega))
    have take : (iq m 296 v < iq m 296 k ∨ (iq m 296 v = iq m 296 k ∧ pfm N (iq m 295 k) ≤ pfm N (iq m 295 v))) → W_M_findsForms_69 d (J k) (J (k + 1)) w m Q := fun g => ih k (k + 1) (by omega) (by omega) (by omega) (fun j j0 j1 => by
      by_cases q : j = k
      · rw [q]; exact Or.inr ⟨rfl, Int.le_refl _⟩
      · have := hb j j0 (by omega); omega)
    refine S_M_findsForms_69 ?_
    simp (disch := first | exact r9 | exact r8 | (unfold r32; omega) | omega) only [j_lit, j_ops, vp_J, J_cl, iq_tn, j_rd, j_nc, a2, J_le, J_lt, J_eq]
    refine ⟨fun q => by omega, fun _ => ⟨by omega, by omega, fun q => take (by omega), fun q => ⟨by omega, by omega, fun q2 => keep (by omega), fun q2 => ⟨by omega, by omega, c_isFormAhead h (hR.fr f.1 (by simp)) hd1.2.1 ⟨c0, c1⟩ ⟨b0, b1⟩ (by rw [← tl_m h c0 c1 c2, ← tl_m h b0 b1 b2]) (fun q3 => ?_) (fun q3 => ?_)⟩⟩⟩⟩
    · simp (disch := first | (unfold r32; omega) | omega) only [j_lit, j_ops, J_eq]
      exact ⟨fun y => by omega, fun _ => take (by omega)⟩
    · simp (disch := first | (unfold r32; omega) | omega) only [j_lit, j_ops, J_eq]
      exact ⟨fun _ => keep (by omega), fun y => absurd trivial y⟩
theorem c_findsForms {Q : zM → Prop} {m0 : zM} {t : Int} (h : TR C mv b N) (hR : rowM m0 N) (hd : DM m0 N) (ht : 0 ≤ t ∧ t < Zn N) (H : ∀ m', FF m0 m' → (∃ u, enm u (iq m' 261 55) (FSt N t)) → CB N t (iq m' 261 56) → Q m') : cV (d + 1) 273 [.ref 261, .int (J t)] w m0 Q := by
  have hMb := Mn_b h
  have hZ := Zn_b h
  have hct := ct_b h ht.1 ht.2
  have hf := (hd.2.2.1.2 t ht.1 ht.2).2.2.2
  obtain ⟨g0, g1, g2, g3⟩ := id hf
  have k8 : ∀ (z : Nat) (i s : Int) (m : zM), 0 ≤ i → i + z = Mn N → FF m0 m → FI N m t s i → W_M_findsForms_8 d (J t) (J i) w m Q := by
    intro z
    induction z with
    | zero =>
      intro i s m i0 hz f hI
      have hd1 := f.dm hd
      have e26 := hd1.2.1.1
      rw [show i = Mn N by omega] at hI
      obtain ⟨x, x0, x1, x2⟩ := tr_ex h ht.1 ht.2
      obtain ⟨j, j0, j1, j2⟩ := hI.2.2.2.2.2.2 x x0 x1 x2
      refine S_M_findsForms_8 ?_
      simp (disch := first | (unfold r32; omega) | omega) only [j_lit, j_ops, vp_J, J_cl, iq_tn, j_rd, j_nc, e26, J_le]
      refine ⟨fun _ => c_ff69 h hR hd ht f hI H (s - 1).toNat 0 1 (by omega) (by omega) (by omega) (fun j j0 j1 => ?_), fun q => by omega⟩
      rw [show j = 0 by omega]
      exact Or.inr ⟨rfl, Int.le_refl _⟩
    | succ z ih =>
      intro i s m i0 hz f hI
      have hd1 := f.dm hd
      have e26 := hd1.2.1.1
      have e74 := (hd1.2.2.1.1 i i0 (by omega)).1
      have tb := tn_in h i0 (show i < Mn N by omega)
      refine S_M_findsForms_8 ?_
      simp (disch := first | (unfold r32; omega) | omega) only [j_lit, j_ops, vp_J, J_cl, iq_tn, j_rd, j_nc, e26, e74, J_le, J_eq]
      refine ⟨fun q => by omega, fun _ => ⟨by omega, fun q => ?_, fun q => ?_⟩⟩
      · have hp := (tn_is h i0 (by omega) ht.1 ht.2).mp q
        exact c_ff21 h hR hd ht ⟨i0, by omega⟩ hp f hI (fun m' s' f' hI' => ih (i + 1) s' m' (by omega) (by omega) f' hI') s.toNat 0 (by omega) (by have := hI.1; omega) (fun j j0 j1 => by omega)
      · exact ih (i + 1) s m (by omega) (by omega) f (hI.skip i0 (fun g => q ((tn_is h i0 (by omega) ht.1 ht.2).mpr g)))
  refine S_M_findsForms ?_
  simp (disch := first | (unfold r32; omega) | omega) only [j_lit, j_ops, vp_J, J_cl, iq_tn, j_rd, j_nc, j_wr]
  generalize iq m0 281 t = i at *
  refine ⟨by omega, k8 (Mn N - i).toNat i 0 _ g0 (by omega) ((FF.rf m0).s61 (Or.inl rfl) 0) ⟨Int.le_refl _, (cnt_b _ _).1, iq_eq (by unfold r32; omega), ⟨fun _ => 0, by omega, fun i j _ _ _ => by omega, fun i _ _ => by omega, fun x ⟨y, y0, y1, y2, y3⟩ => ?_⟩, fun j _ _ => by omega, fun j k _ _ _ => by omega, fun y y0 y1 y2 => ?_⟩⟩
  · have := g3 y y0 (by omega) y2; omega
  · have := g3 y y0 (by omega) y2; omega
end FRL
