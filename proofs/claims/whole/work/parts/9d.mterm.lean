/-! the reference: longer terms, general texts -/
theorem cnt_cut {P : Int → Prop} {i : Int} (h0 : 0 ≤ i) : ∀ n : Nat, i ≤ n → (∀ k : Int, i ≤ k → k < n → ¬ P k) → cnt P n = cnt P i.toNat := by
  intro n
  induction n with
  | zero => intro hi _; rw [show i.toNat = 0 by omega]
  | succ n ih =>
    intro hi h
    by_cases z : i = ((n + 1 : Nat) : Int)
    · rw [z, Int.toNat_natCast]
    · have e : cnt P (n + 1) = cnt P n + bi (P (n : Int)) := rfl
      rw [e, bi_0 (h (n : Int) (by omega) (by omega)), ih (by omega) (fun k k0 k1 => h k k0 (by omega))]
      omega
/-- of each term: longer ones, taken, general -/
def DML (N : Int → Int) (m : zM) (z : Int) : Prop := ∀ t, 0 ≤ t → t < z → iq m 283 t = lo N t ∧ iq m 284 t = tkn N t ∧ iq m 285 t = gn N t
section MTE
variable {d : Nat} {w : Nat × Nat × Nat} {b : Nat} {C : Int} {N : Int → Int} {mv : zM}
theorem c_M_isRow {Q : Int32 → zM → Prop} {m : zM} {p0 n0 : Nat} {A B : Int → Int} {k t r n' : Int} (hp : zAr w p0 13 n0) (hn0 : n0 < 100000) (e1 : iq m 277 t = r) (e2 : iq m 278 t = n') (ht : 0 ≤ t ∧ t < 2000) (hr : 0 ≤ r ∧ 0 ≤ n' ∧ n' ≤ 5 ∧ r + n' ≤ 400) (hk : 0 ≤ k ∧ k + n' ≤ n0) (hA : ∀ i, 0 ≤ i → i < n' → lq m p0 (k + i) = A i) (hB : ∀ i, 0 ≤ i → i < n' → lq m 268 (r + i) = B i) (H1 : (∀ i, 0 ≤ i → i < n' → A i = B i) → Q (J 1) m) (H0 : ¬ (∀ i, 0 ≤ i → i < n' → A i = B i) → Q (J 0) m) : cI d 241 [.ref 261, .ref p0, .int (J k), .int (J t)] w m Q := by
  refine S_M_isRow ?_
  simp only [j_lit]
  have key : ∀ (j : Nat) (i : Int), 0 ≤ i → i + j = n' → (∀ x, 0 ≤ x → x < i → A x = B x) → W_M_isRow_2 d p0 (J k) (J t) (J i) w m Q := by
    intro j
    induction j with
    | zero =>
      intro i i0 hj hI
      refine S_M_isRow_2 hp ?_
      simp (disch := first | (unfold r32; omega) | omega) only [j_lit, vp_J, J_cl, j_rd, iq_tn, e2, J_le]
      exact ⟨by omega, fun _ => H1 (fun x x0 x1 => hI x x0 (by omega)), fun q => by omega⟩
    | succ j ih =>
      intro i i0 hj hI
      have a1 := hA i i0 (by omega)
      have b1 := hB i i0 (by omega)
      have ra : r64 (A i) := by rw [← a1]; exact lq_r _ _ _
      have rb : r64 (B i) := by rw [← b1]; exact lq_r _ _ _
      refine S_M_isRow_2 hp ?_
      simp (disch := first | exact ra | exact rb | (unfold r32; omega) | omega) only [j_lit, vp_J, J_cl, j_rd, iq_tn, e1, e2, J_le, j_ops, jl_rd, lq_tn, a1, b1, JL_eq]
      refine ⟨by omega, fun q => by omega, fun _ => ⟨by omega, by omega, by omega, fun q => ih (i + 1) (by omega) (by omega) (fun x x0 x1 => ?_), fun q => H0 (fun g => q (g i i0 (by omega)))⟩⟩
      by_cases z : x = i
      · rw [z]; exact q
      · exact hI x x0 (by omega)
  exact key n'.toNat 0 (by omega) (by omega) (fun x _ _ => by omega)
theorem MRF.tlr {m : zM} (h : TR C mv b N) (hM : MRF N m) {t : Int} (t0 : 0 ≤ t) (t1 : t < Zn N) : iq m 278 t = tl N t ∧ 0 ≤ iq m 277 t ∧ iq m 277 t + tl N t ≤ wW N ∧ 1 ≤ tl N t ∧ tl N t ≤ 5 ∧ tr N t = pk N (iq m 277 t) (tl N t) := by
  obtain ⟨a1, a2, a3, a4, a5⟩ := hM.2.2.2.1 t t0 t1
  have e : tl N t = iq m 278 t := by
    show cl (tr N t) = _
    rw [← a1]
    exact pk_len h a2 (by omega) a4 a5
  rw [e]
  exact ⟨rfl, a2, a5, a3, a4, a1.symm⟩
theorem pk_iff (h : TR C mv b N) {k r n : Int} (hk : 0 ≤ k ∧ k + n ≤ wW N) (hr : 0 ≤ r ∧ r + n ≤ wW N) (hn : 0 ≤ n ∧ n ≤ 5) : pk N k n = pk N r n ↔ ∀ i, 0 ≤ i → i < n → bs N (k + i) = bs N (r + i) := by
  refine (pkf_inj (okd_id h hk.1 hk.2) (okd_id h hr.1 hr.2) hn.1 hn.1 hn.2 hn.2).trans ⟨fun g i i0 i1 => ?_, fun g => ⟨rfl, fun i i0 i1 => ?_⟩⟩
  · exact (ei_inj (BS_b h) ⟨k + i, by omega, by omega, rfl⟩ ⟨r + i, by omega, by omega, rfl⟩).mp (g.2 i i0 i1)
  · show ei (BS N) (bs N (k + i)) = ei (BS N) (bs N (r + i))
    rw [g i i0 i1]
theorem hol_r {m : zM} (h : TR C mv b N) (hM : MRF N m) {u t : Int} (u0 : 0 ≤ u) (u1 : u < Zn N) (t0 : 0 ≤ t) (t1 : t < Zn N) : hol N u t ↔ tl N u < tl N t ∧ ∃ f, 0 ≤ f ∧ f + tl N u ≤ tl N t ∧ ∀ i, 0 ≤ i → i < tl N u → bs N (iq m 277 t + f + i) = bs N (iq m 277 u + i) := by
  obtain ⟨x1, x2, x3, x4, x5, x6⟩ := hM.tlr h u0 u1
  obtain ⟨y1, y2, y3, y4, y5, y6⟩ := hM.tlr h t0 t1
  have e : ∀ f, 0 ≤ f → f + tl N u ≤ tl N t → (prt (tr N t) f (tl N u) = tr N u ↔ ∀ i, 0 ≤ i → i < tl N u → bs N (iq m 277 t + f + i) = bs N (iq m 277 u + i)) := fun f f0 f1 => by
    have p : prt (tr N t) f (tl N u) = pk N (iq m 277 t + f) (tl N u) := by
      rw [y6]
      exact pkf_prt (okd_id h y2 y3) y5 f0 (by omega) f1
    rw [p, x6]
    exact pk_iff h ⟨by omega, by omega⟩ ⟨x2, x3⟩ ⟨by omega, x5⟩
  constructor
  · intro ⟨a1, f, a2, a3, a4⟩
    exact ⟨a1, f, a2, a3, (e f a2 a3).mp a4⟩
  · intro ⟨a1, f, a2, a3, a4⟩
    exact ⟨a1, f, a2, a3, (e f a2 a3).mpr a4⟩
theorem c_M_isInRow {Q : Int32 → zM → Prop} {m : zM} {u t : Int} (h : TR C mv b N) (h6 : h268 N m) (hM : MRF N m) (hu : 0 ≤ u ∧ u < Zn N) (ht : 0 ≤ t ∧ t < Zn N) (hl : tl N u < tl N t) (H1 : hol N u t → Q (J 1) m) (H0 : ¬ hol N u t → Q (J 0) m) : cI (d + 1) 240 [.ref 261, .int (J u), .int (J t)] w m Q := by
  have hMb := Mn_b h
  have hZb := Zn_b h
  have hW := h.words
  obtain ⟨x1, x2, x3, x4, x5, x6⟩ := hM.tlr h hu.1 hu.2
  obtain ⟨y1, y2, y3, y4, y5, y6⟩ := hM.tlr h ht.1 ht.2
  refine S_M_isInRow ?_
  simp only [j_lit]
  have key : ∀ (j : Nat) (f : Int), 0 ≤ f → f + j = tl N t - tl N u + 1 → (∀ g, 0 ≤ g → g < f → ¬ ∀ i, 0 ≤ i → i < tl N u → bs N (iq m 277 t + g + i) = bs N (iq m 277 u + i)) → W_M_isInRow_2 d (J u) (J t) (J f) w m Q := by
    intro j
    induction j with
    | zero =>
      intro f f0 hj hI
      refine S_M_isInRow_2 ?_
      simp (disch := first | (unfold r32; omega) | omega) only [j_lit, vp_J, J_cl, j_rd, iq_tn, x1, y1, J_lt, j_ops]
      exact ⟨by omega, by omega, fun _ => H0 (fun z => by
        obtain ⟨_, g, g0, g1, g2⟩ := (hol_r h hM hu.1 hu.2 ht.1 ht.2).mp z
        exact hI g g0 (by omega) g2), fun q => by omega⟩
    | succ j ih =>
      intro f f0 hj hI
      refine S_M_isInRow_2 ?_
      simp (disch := first | (unfold r32; omega) | omega) only [j_lit, vp_J, J_cl, j_rd, iq_tn, x1, y1, J_lt, j_ops]
      refine ⟨by omega, by omega, fun q => by omega, fun _ => ⟨by omega, c_M_isRow (n0 := 400) (A := fun i => bs N (iq m 277 t + f + i)) (B := fun i => bs N (iq m 277 u + i)) rfl (by decide) rfl x1 ⟨hu.1, by omega⟩ ⟨x2, by omega, x5, by omega⟩ ⟨by omega, by omega⟩ (fun i i0 i1 => h6 _ (by omega) (by omega)) (fun i i0 i1 => h6 _ (by omega) (by omega)) (fun g => ?_) (fun g => ?_)⟩⟩
      · simp (disch := first | (unfold r32; omega) | omega) only [j_lit, J_eq]
        exact ⟨fun y => by omega, fun _ => H1 ((hol_r h hM hu.1 hu.2 ht.1 ht.2).mpr ⟨hl, f, f0, by omega, g⟩)⟩
      · simp (disch := first | (unfold r32; omega) | omega) only [j_lit, J_eq]
        refine ⟨fun _ => ih (f + 1) (by omega) (by omega) (fun z z0 z1 => ?_), fun y => absurd trivial y⟩
        by_cases e : z = f
        · rw [e]; exact g
        · exact hI z z0 (by omega)
  exact key (tl N t - tl N u + 1).toNat 0 (by omega) (by omega) (fun g _ _ => by omega)
theorem GM_r {m : zM} (h : TR C mv b N) (hM : MRF N m) {u i : Int} (u0 : 0 ≤ u) (u1 : u < Zn N) (i0 : 0 ≤ i) : GMs N u i ↔ i + tl N u ≤ N 1069 ∧ N (1470 + i) = N (1470 + (i + (tl N u - 1))) ∧ ∀ j, 0 ≤ j → j < tl N u → gb N (i + j) = bs N (iq m 277 u + j) := by
  obtain ⟨x1, x2, x3, x4, x5, x6⟩ := hM.tlr h u0 u1
  have hmo := h.2.2.2.2.1.2.2.2.2
  have okr := okd_id h x2 x3
  constructor
  · intro ⟨a1, a2, a3⟩
    refine ⟨a1, (a2 (tl N u - 1) (by omega) (by omega)).1, fun j j0 j1 => ?_⟩
    have okg : okd (gid N) i (tl N u) := fun j j0 j1 => ⟨(a2 j j0 j1).2, (gid_b h _).2⟩
    rw [x6] at a3
    have e := ((pkf_inj okg okr (by omega) (by omega) x5 x5).mp a3).2 j j0 j1
    have hin : BS N (gb N (i + j)) := by
      refine Classical.byContradiction (fun no => ?_)
      have q := (a2 j j0 j1).2
      have q2 : gid N (i + j) = -1 := ei_no (BS_b h) no
      omega
    exact (ei_inj (BS_b h) hin ⟨iq m 277 u + j, by omega, by omega, rfl⟩).mp e
  · intro ⟨a1, a2, a3⟩
    have e : ∀ j, 0 ≤ j → j < tl N u → gid N (i + j) = idb N (iq m 277 u + j) := fun j j0 j1 => by
      show ei (BS N) (gb N (i + j)) = ei (BS N) (bs N (iq m 277 u + j))
      rw [a3 j j0 j1]
    have ok : ∀ j, 0 ≤ j → j < tl N u → 0 ≤ gid N (i + j) := fun j j0 j1 => by rw [e j j0 j1]; exact (okr j j0 j1).1
    refine ⟨a1, fun j j0 j1 => ⟨?_, ok j j0 j1⟩, ?_⟩
    · have q1 := hmo i (i + j) i0 (by omega) (by omega)
      have q2 := hmo (i + j) (i + (tl N u - 1)) (by omega) (by omega) (by omega)
      omega
    · rw [x6]
      exact (pkf_inj (fun j j0 j1 => ⟨ok j j0 j1, (gid_b h _).2⟩) okr (by omega) (by omega) x5 x5).mpr ⟨rfl, e⟩
theorem c_layTerm59 {Q : zM → Prop} {m0 : zM} {t : Int} (h : TR C mv b N) (hR : rowM m0 N) (hD : DMB m0 N) (hM : MRF N m0) (ht : 0 ≤ t ∧ t < Zn N) (H : ∀ m, fr [285] m0 m → (∀ s, 0 ≤ s → iq m 285 s = if s = t then gn N t else iq m0 285 s) → Q m) :
    ∀ (j : Nat) (i : Int) (m : zM), 0 ≤ i → i + j = N 1069 → fr [285] m0 m → (∀ s, 0 ≤ s → iq m 285 s = if s = t then cnt (fun i => GMs N t i) i.toNat else iq m0 285 s) → W_M_layTerm_59 d (J t) (J i) w m Q := by
  have hMb := Mn_b h
  have hZb := Zn_b h
  have hG := h.2.2.2.2.1
  have hG1 := hG.1
  have hG2 := hG.2.1
  obtain ⟨x1, x2, x3, x4, x5, x6⟩ := hM.tlr h ht.1 ht.2
  have hW := h.words
  have ends : ∀ (i : Int) (m : zM), 0 ≤ i → i ≤ N 1069 → N 1069 < i + tl N t → fr [285] m0 m → (∀ s, 0 ≤ s → iq m 285 s = if s = t then cnt (fun i => GMs N t i) i.toNat else iq m0 285 s) → Q m := fun i m i0 i1 i2 f hI => H m f (fun s s0 => by
    rw [hI s s0]
    by_cases z : s = t
    · rw [if_pos z, if_pos z]
      exact (cnt_cut i0 _ (by omega) (fun k k0 k1 g => by have := g.1; omega)).symm
    · rw [if_neg z, if_neg z])
  intro j
  induction j with
  | zero =>
    intro i m i0 hj f hI
    have r69 := (hR.fr f (by simp)) 1069 (by omega) (by omega)
    have e78 : iq m 278 t = tl N t := (f.i (by simp) t).trans x1
    refine S_M_layTerm_59 ?_
    simp (disch := first | (unfold r32; omega) | (unfold r64; omega) | omega) only [j_lit, vp_J, J_cl, j_rd, iq_tn, e78, j_ops, jl_rd, lq_tn, r69, J_64, JL_lt]
    exact ⟨by omega, by omega, fun _ => ends i m i0 (by omega) (by omega) f hI, fun q => by omega⟩
  | succ j ih =>
    intro i m i0 hj f hI
    have hRm := hR.fr f (by simp)
    have r69 := hRm 1069 (by omega) (by omega)
    have e78 : iq m 278 t = tl N t := (f.i (by simp) t).trans x1
    have e85 := hI t ht.1
    rw [if_pos rfl] at e85
    have cb := cnt_b (fun i => GMs N t i) i.toNat
    refine S_M_layTerm_59 ?_
    by_cases g : N 1069 < i + tl N t
    · simp (disch := first | (unfold r32; omega) | (unfold r64; omega) | omega) only [j_lit, vp_J, J_cl, j_rd, iq_tn, e78, j_ops, jl_rd, lq_tn, r69, J_64, JL_lt]
      exact ⟨by omega, by omega, fun _ => ends i m i0 (by omega) g f hI, fun q => absurd g q⟩
    · have r1 := hRm (1470 + i) (by omega) (by omega)
      have r2 := hRm (1470 + i + tl N t - 1) (by omega) (by omega)
      have b1 := (hG.2.2.2.1 i i0 (by omega)).2.2
      have b2 := (hG.2.2.2.1 (i + (tl N t - 1)) (by omega) (by omega)).2.2
      rw [show 1470 + (i + (tl N t - 1)) = 1470 + i + tl N t - 1 by omega] at b2
      have e2 : N (1470 + i) = N (1470 + (i + (tl N t - 1))) ↔ N (1470 + i) = N (1470 + i + tl N t - 1) := by rw [show 1470 + (i + (tl N t - 1)) = 1470 + i + tl N t - 1 by omega]
      have nx : ∀ v : Int, bi (GMs N t i) = v → W_M_layTerm_59 d (J t) (J (i + 1)) w (sq m 285 t (iq m 285 t + v)) Q := fun v hv => by
        have vb := bi_b (GMs N t i)
        refine ih (i + 1) _ (by omega) (by omega) (f.si (by simp) _ _) (fun s s0 => ?_)
        rw [cnt_z _ i0]
        by_cases z : s = t
        · rw [if_pos z, z, iq_eq (by unfold r32; omega), e85, hv]
        · rw [if_neg z, iq_ne (Or.inr z) (by omega) s0, hI s s0, if_neg z]
      simp (disch := first | (unfold r32; omega) | (unfold r64; omega) | omega) only [j_lit, vp_J, J_cl, j_rd, iq_tn, e78, j_ops, jl_rd, lq_tn, r69, r1, r2, J_64, JL_lt, JL_eq]
      refine ⟨by omega, by omega, fun q => absurd q g, fun _ => ⟨by omega, by omega, by omega, by omega, fun q => S_M_one ?_, fun q => ?_⟩⟩
      · simp (disch := first | (unfold r32; omega) | omega) only [j_lit, J_eq, vp_J, J_cl, j_wr, sq_tn, j_ops]
        exact ⟨fun _ => ⟨by omega, nx 0 (bi_0 (fun z => q (e2.mp ((GM_r h hM ht.1 ht.2 i0).mp z).2.1)))⟩, fun y => absurd trivial y⟩
      · refine c_M_isRow (n0 := 400) (A := fun j => gb N (i + j)) (B := fun j => bs N (iq m 277 t + j)) rfl (by decide) rfl e78 ⟨ht.1, by omega⟩ ⟨by rw [f.i (by simp)]; exact x2, by omega, x5, by rw [f.i (by simp)]; omega⟩ ⟨i0, by omega⟩ (fun j j0 j1 => by rw [f.l (by simp)]; exact hD.2.2.2.2 _ (by omega) (by omega)) (fun j j0 j1 => by rw [f.l (by simp), f.i (by simp)]; exact (hD.2.2.1 _ (by omega) (by omega)).1) (fun y => ?_) (fun y => ?_)
        · have y' : ∀ j, 0 ≤ j → j < tl N t → gb N (i + j) = bs N (iq m0 277 t + j) := fun j j0 j1 => by
            have := y j j0 j1
            rw [f.i (by simp)] at this
            exact this
          simp (disch := first | (unfold r32; omega) | omega) only [j_lit, J_eq]
          refine ⟨fun z => by omega, fun _ => S_M_one ?_⟩
          simp (disch := first | (unfold r32; omega) | omega) only [j_lit, J_eq, vp_J, J_cl, j_wr, sq_tn, j_ops]
          exact ⟨fun z => by omega, fun _ => ⟨by omega, nx 1 (bi_1 ((GM_r h hM ht.1 ht.2 i0).mpr ⟨by omega, e2.mpr q, y'⟩))⟩⟩
        · simp (disch := first | (unfold r32; omega) | omega) only [j_lit, J_eq]
          refine ⟨fun _ => S_M_one ?_, fun z => absurd trivial z⟩
          simp (disch := first | (unfold r32; omega) | omega) only [j_lit, J_eq, vp_J, J_cl, j_wr, sq_tn, j_ops]
          exact ⟨fun _ => ⟨by omega, nx 0 (bi_0 (fun z => y (fun j j0 j1 => by
            rw [f.i (by simp)]
            exact ((GM_r h hM ht.1 ht.2 i0).mp z).2.2 j j0 j1)))⟩, fun z => absurd trivial z⟩
end MTE
