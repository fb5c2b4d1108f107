/-! the reference: two stretches beside each other, the place of a stretch among the terms -/
def LXb (A : Int → Int) (n : Int) (B : Int → Int) (n' : Int) : Prop := ∃ i, 0 ≤ i ∧ i ≤ n ∧ i < n' ∧ (∀ j, 0 ≤ j → j < i → A j = B j) ∧ (i = n ∨ A i < B i)
section MBS
variable {d : Nat} {w : Nat × Nat × Nat} {b : Nat} {C : Int} {N : Int → Int} {mv : zM}
theorem c_M_beside_l {Q : Int32 → zM → Prop} {m : zM} {p0 n0 : Nat} {A B : Int → Int} {k n t r n' : Int} (hp : zAr w p0 13 n0) (hn0 : n0 < 100000) (e1 : iq m 277 t = r) (e2 : iq m 278 t = n') (ht : 0 ≤ t ∧ t < 2000) (hr : 0 ≤ r ∧ 0 ≤ n' ∧ n' ≤ 5 ∧ r + n' ≤ 400) (hk : 0 ≤ k ∧ 0 ≤ n ∧ n ≤ 5 ∧ k + n ≤ n0) (hA : ∀ i, 0 ≤ i → i < n → lq m p0 (k + i) = A i ∧ 0 ≤ A i ∧ A i < 4611686018427387904) (hB : ∀ i, 0 ≤ i → i < n' → lq m 268 (r + i) = B i ∧ 0 ≤ B i ∧ B i < 4611686018427387904) (Hlt : ∀ v, v < 0 → r32 v → LXb A n B n' → Q (J v) m) (Heq : n = n' → (∀ i, 0 ≤ i → i < n → A i = B i) → Q (J 0) m) (Hgt : ∀ v, 0 < v → r32 v → LXb B n' A n → Q (J v) m) :
    ∀ (j : Nat) (i : Int), 0 ≤ i → i + j = n → i ≤ n' → (∀ x, 0 ≤ x → x < i → A x = B x) → W_M_beside_2 d p0 (J k) (J n) (J t) (J i) w m Q := by
  intro j
  induction j with
  | zero =>
    intro i i0 hj hi he
    refine S_M_beside_2 hp ?_
    simp (disch := first | (unfold r32; omega) | omega) only [j_lit, J_le, vp_J, J_cl, j_rd, iq_tn, e2, j_ops]
    refine ⟨fun _ => ⟨by omega, ?_⟩, fun q => by omega⟩
    by_cases g : n = n'
    · rw [show n - n' = 0 by omega]
      exact Heq g (fun x x0 x1 => he x x0 (by omega))
    · exact Hlt _ (by omega) (by unfold r32; omega) ⟨i, i0, by omega, by omega, he, Or.inl (by omega)⟩
  | succ j ih =>
    intro i i0 hj hi he
    obtain ⟨a1, a2, a3⟩ := hA i i0 (by omega)
    refine S_M_beside_2 hp ?_
    simp (disch := first | (unfold r32; omega) | omega) only [j_lit, J_le, vp_J, J_cl, j_rd, iq_tn, e2, j_ops]
    refine ⟨fun q => by omega, fun _ => ⟨by omega, fun q => ⟨by omega, ?_⟩, fun q => ⟨by omega, by omega, ?_⟩⟩⟩
    · exact Hgt _ (by omega) (by unfold r32; omega) ⟨i, i0, by omega, by omega, fun x x0 x1 => (he x x0 x1).symm, Or.inl (by omega)⟩
    · obtain ⟨b1, b2, b3⟩ := hB i i0 (by omega)
      simp (disch := first | (unfold r32; omega) | (unfold r64; omega) | omega) only [jl_lit, j_lit, e1, j_ops, vp_J, J_cl, jl_rd, lq_tn, a1, b1, jl_ops, JL_eq, JL_le]
      refine ⟨by omega, fun q3 => ?_, fun q3 => ⟨fun q4 => ?_, fun q4 => ?_⟩⟩
      · refine ih (i + 1) (by omega) (by omega) (by omega) (fun x x0 x1 => ?_)
        by_cases z : x = i
        · rw [z]; omega
        · exact he x x0 (by omega)
      · exact Hgt 1 (by omega) (by unfold r32; omega) ⟨i, i0, by omega, by omega, fun x x0 x1 => (he x x0 x1).symm, Or.inr (by omega)⟩
      · exact Hlt (-1) (by omega) (by unfold r32; omega) ⟨i, i0, by omega, by omega, he, Or.inr (by omega)⟩
theorem c_M_beside {Q : Int32 → zM → Prop} {m : zM} {p0 n0 : Nat} {A B : Int → Int} {k n t r n' : Int} (hp : zAr w p0 13 n0) (hn0 : n0 < 100000) (e1 : iq m 277 t = r) (e2 : iq m 278 t = n') (ht : 0 ≤ t ∧ t < 2000) (hr : 0 ≤ r ∧ 0 ≤ n' ∧ n' ≤ 5 ∧ r + n' ≤ 400) (hk : 0 ≤ k ∧ 0 ≤ n ∧ n ≤ 5 ∧ k + n ≤ n0) (hA : ∀ i, 0 ≤ i → i < n → lq m p0 (k + i) = A i ∧ 0 ≤ A i ∧ A i < 4611686018427387904) (hB : ∀ i, 0 ≤ i → i < n' → lq m 268 (r + i) = B i ∧ 0 ≤ B i ∧ B i < 4611686018427387904) (Hlt : ∀ v, v < 0 → r32 v → LXb A n B n' → Q (J v) m) (Heq : n = n' → (∀ i, 0 ≤ i → i < n → A i = B i) → Q (J 0) m) (Hgt : ∀ v, 0 < v → r32 v → LXb B n' A n → Q (J v) m) : cI d 233 [.ref 261, .ref p0, .int (J k), .int (J n), .int (J t)] w m Q := by
  refine S_M_beside ?_
  simp only [j_lit]
  exact c_M_beside_l hp hn0 e1 e2 ht hr hk hA hB Hlt Heq Hgt n.toNat 0 (by omega) (by omega) hr.2.1 (fun x x0 x1 => by omega)
/-- the same in rows -/
theorem pk_lx (h : TR C mv b N) {k n r n' : Int} (hk : 0 ≤ k ∧ 0 ≤ n ∧ n ≤ 5 ∧ k + n ≤ wW N) (hr : 0 ≤ r ∧ 0 ≤ n' ∧ n' ≤ 5 ∧ r + n' ≤ wW N) (hl : LXb (fun i => bs N (k + i)) n (fun i => bs N (r + i)) n') : pk N k n < pk N r n' := by
  obtain ⟨i, i0, i1, i2, i3, i4⟩ := hl
  have o1 := okd_id h hk.1 hk.2.2.2
  have o2 := okd_id h hr.1 hr.2.2.2
  have e : ∀ j, 0 ≤ j → j < i → idb N (k + j) = idb N (r + j) := fun j j0 j1 => by
    have := i3 j j0 j1
    show ei (BS N) (bs N (k + j)) = ei (BS N) (bs N (r + j))
    rw [show bs N (k + j) = bs N (r + j) from this]
  by_cases g : i = n
  · exact pkf_lt2 o1 o2 hk.2.1 (by omega) hr.2.2.1 (fun j j0 j1 => e j j0 (by omega))
  · refine pkf_lt1 o1 o2 i0 (by omega) i2 hk.2.2.1 hr.2.2.1 e ?_
    rcases i4 with z | z
    · exact absurd z g
    · exact (ei_lt (BS_b h) ⟨k + i, by omega, by omega, rfl⟩ ⟨r + i, by omega, by omega, rfl⟩).mpr z
theorem pk_leq (h : TR C mv b N) {k n r n' : Int} (hk : 0 ≤ k ∧ 0 ≤ n ∧ n ≤ 5 ∧ k + n ≤ wW N) (hr : 0 ≤ r ∧ 0 ≤ n' ∧ n' ≤ 5 ∧ r + n' ≤ wW N) (hn : n = n') (e : ∀ i, 0 ≤ i → i < n → bs N (k + i) = bs N (r + i)) : pk N k n = pk N r n' :=
  (pkf_inj (okd_id h hk.1 hk.2.2.2) (okd_id h hr.1 hr.2.2.2) hk.2.1 hr.2.1 hk.2.2.1 hr.2.2.1).mpr ⟨hn, fun j j0 j1 => by
    show ei (BS N) (bs N (k + j)) = ei (BS N) (bs N (r + j))
    rw [e j j0 j1]⟩
/-- the terms the reference has, as stretches -/
def RT (N : Int → Int) (m : zM) (T : Int) : Prop := iq m 261 32 = T ∧ 0 ≤ T ∧ T ≤ 1200 ∧ ∀ t, 0 ≤ t → t < T → 0 ≤ iq m 277 t ∧ 1 ≤ iq m 278 t ∧ iq m 278 t ≤ 5 ∧ iq m 277 t + iq m 278 t ≤ wW N
noncomputable def rk (N : Int → Int) (m : zM) (t : Int) : Int := pk N (iq m 277 t) (iq m 278 t)
def h268 (N : Int → Int) (m : zM) : Prop := ∀ i, 0 ≤ i → i < wW N → lq m 268 i = bs N i
theorem c_M_bes {Q : Int32 → zM → Prop} {m : zM} {k n t T : Int} (h : TR C mv b N) (h6 : h268 N m) (hT : RT N m T) (ht : 0 ≤ t ∧ t < T) (hk : 0 ≤ k ∧ 0 ≤ n ∧ n ≤ 5 ∧ k + n ≤ wW N) (Hlt : ∀ v, v < 0 → r32 v → pk N k n < rk N m t → Q (J v) m) (Heq : pk N k n = rk N m t → Q (J 0) m) (Hgt : ∀ v, 0 < v → r32 v → rk N m t < pk N k n → Q (J v) m) : cI d 233 [.ref 261, .ref 268, .int (J k), .int (J n), .int (J t)] w m Q := by
  have hW := h.words
  obtain ⟨r1, r2, r3, r4⟩ := hT.2.2.2 t ht.1 ht.2
  have hT3 := hT.2.2.1
  have bd : ∀ i, 0 ≤ i → i < wW N → 0 ≤ bs N i ∧ bs N i < 4611686018427387904 := fun i i0 i1 => by
    obtain ⟨c, hc⟩ := h.bs i0 i1
    have := ww_r hc
    omega
  have hr : 0 ≤ iq m 277 t ∧ 0 ≤ iq m 278 t ∧ iq m 278 t ≤ 5 ∧ iq m 277 t + iq m 278 t ≤ wW N := ⟨r1, by omega, r3, r4⟩
  exact c_M_beside (n0 := 400) (A := fun i => bs N (k + i)) (B := fun i => bs N (iq m 277 t + i)) rfl (by decide) rfl rfl ⟨ht.1, by omega⟩ ⟨r1, by omega, r3, by omega⟩ ⟨hk.1, hk.2.1, hk.2.2.1, by omega⟩ (fun i i0 i1 => ⟨h6 _ (by omega) (by omega), bd _ (by omega) (by omega)⟩) (fun i i0 i1 => ⟨h6 _ (by omega) (by omega), bd _ (by omega) (by omega)⟩) (fun v v0 v1 hl => Hlt v v0 v1 (pk_lx h hk hr hl)) (fun e1 e2 => Heq (pk_leq h hk hr e1 e2)) (fun v v0 v1 hl => Hgt v v0 v1 (pk_lx h hr hk hl))
theorem c_M_placeOf_l {Q : Int32 → zM → Prop} {m : zM} {k n T : Int} (h : TR C mv b N) (h6 : h268 N m) (hT : RT N m T) (hi : inc (rk N m) T) (hk : 0 ≤ k ∧ 0 ≤ n ∧ n ≤ 5 ∧ k + n ≤ wW N) (H : ∀ p, lw (rk N m) T (pk N k n) p → Q (J p) m) :
    ∀ (z : Nat) (lo hi : Int), 0 ≤ lo → lo ≤ hi → hi ≤ T → hi - lo ≤ z → (∀ i, 0 ≤ i → i < lo → rk N m i < pk N k n) → (∀ i, hi ≤ i → i < T → pk N k n ≤ rk N m i) → W_M_placeOf_5 d 268 (J k) (J n) (J lo) (J hi) w m Q := by
  have hT3 := hT.2.2.1
  intro z
  induction z with
  | zero =>
    intro lo hh h0 h1 h2 h3 g1 g2
    refine S_M_placeOf_5 ?_
    simp (disch := first | (unfold r32; omega) | omega) only [j_lit, J_le]
    exact ⟨fun _ => H lo ⟨h0, by omega, g1, fun i q1 q2 => g2 i (by omega) q2⟩, fun q => by omega⟩
  | succ z ih =>
    intro lo hh h0 h1 h2 h3 g1 g2
    refine S_M_placeOf_5 ?_
    simp (disch := first | (unfold r32; omega) | omega) only [j_lit, J_le, j_ops, J_sar', e21]
    refine ⟨fun q => H lo ⟨h0, by omega, g1, fun i q1 q2 => g2 i (by omega) q2⟩, fun q => ?_⟩
    have low : pk N k n ≤ rk N m ((lo + hh) / 2) → W_M_placeOf_5 d 268 (J k) (J n) (J lo) (J ((lo + hh) / 2)) w m Q := fun q1 => ih lo ((lo + hh) / 2) h0 (by omega) (by omega) (by omega) g1 (fun i q2 q3 => by have := hi.le (i := (lo + hh) / 2) (j := i) (by omega) q2 q3; omega)
    have high : rk N m ((lo + hh) / 2) < pk N k n → W_M_placeOf_5 d 268 (J k) (J n) (J ((lo + hh) / 2 + 1)) (J hh) w m Q := fun q1 => ih ((lo + hh) / 2 + 1) hh (by omega) (by omega) (by omega) (by omega) (fun i q2 q3 => by have := hi.le (i := i) (j := (lo + hh) / 2) q2 (by omega) (by omega); omega) g2
    refine c_M_bes h h6 hT ⟨by omega, by omega⟩ hk (fun v v0 v1 e => ?_) (fun e => ?_) (fun v v0 v1 e => ?_)
    · simp (disch := first | exact v1 | (unfold r32; omega) | omega) only [J_le]
      exact ⟨fun _ => low (by omega), fun y => by omega⟩
    · simp (disch := first | (unfold r32; omega) | omega) only [J_le]
      exact ⟨fun _ => low (by omega), fun y => by omega⟩
    · simp (disch := first | exact v1 | (unfold r32; omega) | omega) only [J_le]
      exact ⟨fun y => by omega, fun _ => high e⟩
theorem c_M_placeOf {Q : Int32 → zM → Prop} {m : zM} {k n T : Int} (h : TR C mv b N) (h6 : h268 N m) (hT : RT N m T) (hi : inc (rk N m) T) (hk : 0 ≤ k ∧ 0 ≤ n ∧ n ≤ 5 ∧ k + n ≤ wW N) (H : ∀ p, lw (rk N m) T (pk N k n) p → Q (J p) m) : cI (d + 1) 234 [.ref 261, .ref 268, .int (J k), .int (J n)] w m Q := by
  refine S_M_placeOf ?_
  simp only [j_lit, j_rd, j_nc, hT.1]
  have h1 := hT.2.1
  exact c_M_placeOf_l h h6 hT hi hk H T.toNat 0 T (by omega) (by omega) (by omega) (by omega) (fun i q1 q2 => by omega) (fun i q1 q2 => by omega)
theorem sd_dc (h : TR C mv b N) {i j : Int} (h0 : 0 ≤ i) (hij : i ≤ j) (hj : j < wW N) : sd N i j ↔ dcN N i = dcN N j := by
  have hD := h.2.2.2.1
  have di := dc_ex hD h0 (by omega)
  have dj := dc_ex hD (i := j) (by omega) hj
  constructor
  · intro s
    have s1 := (s (dcN N i) di.1 (by have := di.2.1; omega)).mp di.2.2.1
    have s2 := s (dcN N i + 1) (by have := di.1; omega) (by have := di.2.1; omega)
    have d4 := di.2.2.2
    rw [show 260 + (dcN N i + 1) = 261 + dcN N i by omega] at s2
    exact (dc_is hD ⟨di.1, di.2.1, s1, by
      rcases Int.lt_or_le j (N (261 + dcN N i)) with g | g
      · exact g
      · have := s2.mpr g; omega⟩).symm
  · intro e y y0 y1
    rw [← e] at dj
    obtain ⟨a1, a2, a3, a4⟩ := di
    obtain ⟨b1, b2, b3, b4⟩ := dj
    by_cases g : y ≤ dcN N i
    · have := trD_m hD (e := y) (dc := dcN N i) y0 g (by omega)
      constructor <;> intro _ <;> omega
    · have := trD_m hD (e := dcN N i + 1) (dc := y) (by omega) (by omega) y1
      rw [show 260 + (dcN N i + 1) = 261 + dcN N i by omega] at this
      constructor <;> intro _ <;> omega
theorem c_M_isSentence {Q : Int32 → zM → Prop} {m : zM} {i j : Int} (h : TR C mv b N) (hR : rowM m N) (h7 : ∀ i, 0 ≤ i → i < wW N → iq m 270 i = dcN N i) (h0 : 0 ≤ i) (hij : i ≤ j) (hj : j < wW N) (H1 : sn N i j → Q (J 1) m) (H0 : ¬ sn N i j → Q (J 0) m) : cI d 231 [.ref 261, .int (J i), .int (J j)] w m Q := by
  have hW := h.words
  have hD := h.2.2.2.1
  have r1 := hR (669 + i) (by omega) (by omega)
  have r2 := hR (669 + j) (by omega) (by omega)
  have b1 := (hD.2.2.2.2.2.2.2.1 i h0 (by show i < wW N; omega)).2.2.2
  have b2 := (hD.2.2.2.2.2.2.2.1 j (by omega) (by show j < wW N; omega)).2.2.2
  have d1 := dc_ex hD h0 (by omega : i < wW N)
  have d2 := dc_ex hD (i := j) (by omega) hj
  have d8 := hD.2.1
  have q1 := d1.1
  have q2 := d1.2.1
  have q3 := d2.1
  have q4 := d2.2.1
  refine S_M_isSentence ?_
  simp (disch := first | (unfold r32; omega) | (unfold r64; omega) | omega) only [j_lit, j_ops, vp_J, J_cl, j_rd, iq_tn, h7 i h0 (by omega), h7 j (by omega) hj, jl_rd, lq_tn, r1, r2, J_eq, JL_eq]
  refine ⟨by omega, by omega, fun q => H0 (fun z => q ((sd_dc h h0 hij hj).mp z.2)), fun q => ⟨by omega, by omega, fun q5 => H0 (fun z => q5 z.1), fun q5 => H1 ⟨q5, (sd_dc h h0 hij hj).mpr q⟩⟩⟩
end MBS
