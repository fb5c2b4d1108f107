/-! the class gathers the terms: the loop over the machine -/
theorem SG_b : ∀ c ∈ SG, 220 ≤ c := by intro c hc; simp at hc; omega
section GDO
variable {d : Nat} {w : Nat × Nat × Nat} {b : Nat} {C : Int} {N : Int → Int}
theorem DMt.frm {S : List Nat} {m m' : zM} (h : DMt m N) (f : fr S m m') (hs : ∀ c ∈ S9, c ∉ S) : DMt m' N :=
  ⟨h.1.frm f (hs _ (by simp)) (hs _ (by simp)) (hs _ (by simp)) (hs _ (by simp)) (hs _ (by simp)), h.2.1.frm f (hs _ (by simp)), h.2.2.congr (fun i _ _ => f.i (hs 229 (by simp)) i)⟩
theorem c_gather_l {Q : zM → Prop} {m0 : zM} (hb : zT b) (hN : TR C m0 b N) (hD : DMt m0 N) (H : ∀ m T run best, GI N (iq m0 229) m0 m (Mn N) T run best → Q m) :
    ∀ (j : Nat) (k T run best : Int) (m : zM), 0 ≤ k → k + j = Mn N → GI N (iq m0 229) m0 m k T run best → W_Terms_gather_9 (d + 2) b (J run) (J best) (J k) w m Q := by
  have hM := Mn_b hN
  intro j
  induction j with
  | zero =>
    intro k T run best m hk hj h
    have e8 : iq m 228 8 = Mn N := (h.1.i (by simp) 8).trans hD.1.1
    refine S_Terms_gather_9 ?_
    simp (disch := first | (unfold r32; omega) | omega) only [j_lit, J_le, j_rd, j_nc, e8]
    rw [show k = Mn N by omega] at h
    exact ⟨fun _ => H m T run best h, fun q => by omega⟩
  | succ j ih =>
    intro k T run best m hk hj h
    have g := h
    obtain ⟨g1, g2, g3, g4, g5, g6, g7, g8, g9, g10, g11, g12⟩ := g
    have hNm := hN.frm g1 hb SG_b
    have hDm := hD.frm g1 (by decide)
    have hF := hDm.1
    have e8 := hF.1
    have hS := hD.2.2
    have hxb := hS.2 k hk (by omega)
    have e229 : ∀ i, iq m 229 i = iq m0 229 i := g1.i (by simp)
    obtain ⟨x, hx⟩ : ∃ x : Nat, iq m0 229 k = (x : Int) := ⟨(iq m0 229 k).toNat, by omega⟩
    have hwb := bi_b (wi N (mk N (x : Int)) (ml N (x : Int)))
    obtain ⟨wv, hwv⟩ : ∃ wv : Nat, bi (wi N (mk N (x : Int)) (ml N (x : Int))) = (wv : Int) := ⟨(bi (wi N (mk N (x : Int)) (ml N (x : Int)))).toNat, by omega⟩
    have hmb := mk_bd hN (i := (x : Int)) (by omega) (by omega)
    have hdc := dc_ex hN.2.2.2.1 (i := mk N (x : Int)) hmb.1 (by omega)
    have h8 := hN.2.2.2.1.2.1
    obtain ⟨v, hv⟩ : ∃ v : Nat, dcN N (mk N (x : Int)) = (v : Int) := ⟨(dcN N (mk N (x : Int))).toNat, by have := hdc.1; omega⟩
    have hv8 : v < 8 := by have := hdc.2.1; omega
    have hw234 : iq m 234 (x : Int) = (wv : Int) := by rw [hDm.2.1 (x : Int) (by omega) (by omega)]; exact hwv
    have hfx := hF.2 (x : Int) (by omega) (by omega)
    have hxr := pk_r64 hN (i := (x : Int)) (by omega) (by omega)
    have hT0 := g3.1
    have new : (0 < k → pkm N (iq m0 229 (k - 1)) ≠ pkm N (iq m0 229 k)) → ∀ l6 : Int32, W_Terms_gather_44 (d + 2) b (J run) (J best) (J k) (J (x : Int)) l6 (J 1) w m Q := by
      intro hnew l6
      refine S_Terms_gather_44 ?_
      simp (disch := first | (unfold r32; omega) | omega) only [j_lit, J_eq]
      refine ⟨fun _ => S_Terms_gather_61 ?_, fun q => by omega⟩
      simp (disch := first | (unfold r32; omega) | omega) only [j_lit, J_eq]
      refine ⟨fun q => by omega, fun _ => c_open (d := d + 1) g2 ⟨hT0, by omega⟩ ⟨by omega, by omega⟩ hfx.2.2.1 ?_⟩
      have oT := opn_T (m := m) (T := T) (R := pkm N (x : Int)) (k := k) (x := (x : Int)) ⟨hT0, by omega⟩ (by unfold r32; omega) (by unfold r32; omega)
      have fo := opn_fr m T (pkm N (x : Int)) k x
      obtain ⟨o1, o2, o3, o4, o5, o6, o7, o8, o9, o10, o11, o12, o13⟩ := oT
      refine S_Terms_gather_70 ?_
      simp (disch := first | (unfold r32; omega) | omega) only [j_lit, J_eq, J_le, j_rd, j_nc, o13, j_ops]
      refine ⟨fun q => by omega, fun _ => ⟨fun q => by omega, fun _ => ?_⟩⟩
      rw [show T + 1 - 1 = T by omega]
      refine c_put (n := 1200) rfl (by decide) (by unfold r32; omega) (by omega) ?_
      obtain ⟨t, ht⟩ : ∃ t : Nat, T = (t : Int) := ⟨T.toNat, by omega⟩
      have f5 : fr [245] (opn m T (pkm N (x : Int)) k x) (sq (opn m T (pkm N (x : Int)) k x) 245 T x) := (fr.rf _ _).si (by simp) _ _
      have nn := fun (m' : zM) hm => h.nw (m' := m') hN ⟨hk, by omega⟩ hS hx hwv hv hv8 hnew hm
      generalize hmo : opn m T (pkm N (x : Int)) k x = mo at *
      subst ht
      refine c_g93 (d := d) (fi := (x : Int)) (V := 0) hb ((hNm.frm fo hb SG_b).frm f5 hb (by intro c hc; simp at hc; omega)) hN ((hF.frm fo (by simp) (by simp) (by simp) (by simp) (by simp)).frm f5 (by simp) (by simp) (by simp) (by simp) (by simp)) (by omega) (by omega) (by rw [f5.i (by simp), fo.i (by simp)]; exact hw234) (by rw [f5.i (by simp)]; exact o2) (by unfold r32; omega) (by rw [f5.i (by simp), o9]; rfl) (by omega) hv hv8 (by rw [f5.i (by simp), o3]; omega) (by rw [f5.i (by simp), o4]; omega) (by rw [f5.i (by simp), o7]; unfold r32; omega) (Or.inr rfl) (fun m' hm => ?_)
      have e244 : iq (sq mo 245 (t : Int) x) 244 (t : Int) = 0 := by rw [f5.i (by simp)]; exact o7
      rw [e244, Int.zero_add] at hm
      exact ih (k + 1) ((t : Int) + 1) 1 1 m' (by omega) (by omega) (nn m' hm)
    refine S_Terms_gather_9 ?_
    simp (disch := first | (unfold r32; omega) | omega) only [j_lit, J_le, J_eq, j_rd, j_nc, e8, j_ops]
    refine ⟨fun q => by omega, fun _ => c_at (n := 1200) rfl (by decide) (by unfold r32; omega) (by omega) ?_⟩
    rw [e229, hx]
    by_cases k0 : k = 0
    · refine c_at_out (n := 1200) rfl (by decide) (by unfold r32; omega) (by omega) ?_
      exact ⟨fun _ => new (fun q => by omega) _, fun q => absurd k0 q⟩
    · refine c_at (n := 1200) rfl (by decide) (by unfold r32; omega) (by omega) ?_
      rw [e229]
      have hyb := hS.2 (k - 1) (by omega) (by omega)
      have hfy := hF.2 (iq m0 229 (k - 1)) hyb.1 hyb.2
      have hyr := pk_r64 hN hyb.1 hyb.2
      refine ⟨fun q => absurd q k0, fun _ => c_atl (n := 1200) rfl (by decide) (by unfold r32; omega) (by omega) (c_atl (n := 1200) rfl (by decide) (by unfold r32; omega) (by omega) ?_)⟩
      rw [hfx.2.2.1, hfy.2.2.1]
      simp (disch := first | exact hxr.1 | exact hyr.1) only [JL_eq]
      refine ⟨fun q => ?_, fun q => new (fun _ z => q (by rw [← hx]; exact z.symm)) _⟩
      obtain ⟨q1, q2, q3, q4⟩ := g6 (by omega)
      obtain ⟨t, ht⟩ : ∃ t : Nat, T - 1 = (t : Int) := ⟨(T - 1).toNat, by omega⟩
      obtain ⟨be, p1, p2, p3, p4⟩ := g5 (t : Int) (by omega) (by omega)
      have bd := p1.bds (by omega)
      have fob := p1.fo_b (by omega)
      obtain ⟨V, hV1, hV2, _⟩ := p1.2.2.2.2.1
      have hfi := iq_r m 246 (t : Int)
      have od := fun (run' best' nf : Int) (m2 m' : zM) e1 e2 hm => h.od (run' := run') (best' := best') (nf := nf) (m2 := m2) (m' := m') (t := t) (V := V) hN ⟨by omega, by omega⟩ hS hx hwv hv hv8 (by rw [hx]; exact q.symm) ht.symm hV1 hV2 e1 e2 hm
      -- with the count of this form
      have fin : ∀ (run' nf : Int), ((pfm N (iq m0 229 k) = pfm N (iq m0 229 (k - 1)) ∧ run' = run + 1 ∧ nf = 0) ∨ (pfm N (iq m0 229 k) ≠ pfm N (iq m0 229 (k - 1)) ∧ run' = 1 ∧ nf = 1)) → ∀ (m2 : zM) (best' : Int), ((best < run' ∧ best' = run' ∧ m2 = sq m 245 (t : Int) x) ∨ (run' ≤ best ∧ best' = best ∧ m2 = m)) → W_Terms_gather_93 (d + 2) b (J run') (J best') (J k) (J (x : Int)) (J nf) (J (t : Int)) w m2 Q := by
        intro run' nf e1 m2 best' e2
        have f2 : fr [245] m m2 := by
          rcases e2 with ⟨_, _, e⟩ | ⟨_, _, e⟩
          · rw [e]; exact (fr.rf _ m).si (by simp) _ _
          · rw [e]; exact fr.rf _ m
        have hnf : nf = 0 ∨ nf = 1 := by rcases e1 with ⟨_, _, e⟩ | ⟨_, _, e⟩ <;> omega
        refine c_g93 (d := d) (fi := iq m 246 (t : Int)) (V := V) hb (hNm.frm f2 hb (by intro c hc; simp at hc; omega)) hN (hF.frm f2 (by simp) (by simp) (by simp) (by simp) (by simp)) (by omega) (by omega) (by rw [f2.i (by simp)]; exact hw234) (f2.i (by simp) _) hfi (by rw [f2.i (by simp)]; exact hV1) hV2 hv hv8 (by rw [f2.i (by simp)]; omega) (by rw [f2.i (by simp)]; omega) (by rw [f2.i (by simp)]; unfold r32; omega) hnf (fun m' hm => ?_)
        exact ih (k + 1) T run' best' m' (by omega) (by omega) (od run' best' nf m2 m' e1 e2 hm)
      refine S_Terms_gather_44 ?_
      simp (disch := first | (unfold r32; omega) | omega) only [j_lit, J_eq]
      refine ⟨fun z => absurd trivial z, fun _ => c_atl (n := 1200) rfl (by decide) (by unfold r32; omega) (by omega) (c_atl (n := 1200) rfl (by decide) (by unfold r32; omega) (by omega) ?_)⟩
      rw [hfx.2.2.2, hfy.2.2.2]
      simp (disch := first | exact hxr.2.1 | exact hyr.2.1) only [JL_eq]
      have size : iq m 237 19 - 1 = (t : Int) := by omega
      refine ⟨fun q5 => S_Terms_gather_61 ?_, fun q5 => S_Terms_gather_61 ?_⟩
      · have e1 : pfm N (iq m0 229 k) = pfm N (iq m0 229 (k - 1)) := by rw [hx]; exact q5
        simp (disch := first | (unfold r32; omega) | omega) only [j_lit, J_eq]
        refine ⟨fun _ => S_Terms_gather_70 ?_, fun z => absurd trivial z⟩
        simp (disch := first | (unfold r32; omega) | omega) only [j_lit, J_eq, J_le, j_rd, j_nc, j_ops, size]
        refine ⟨fun _ => ⟨fun z => ?_, fun z => ?_⟩, fun z => absurd trivial z⟩
        · exact fin (run + 1) 0 (Or.inl ⟨e1, rfl, rfl⟩) m best (Or.inr ⟨z, rfl, rfl⟩)
        · refine c_put (n := 1200) rfl (by decide) (by unfold r32; omega) (by omega) ?_
          exact fin (run + 1) 0 (Or.inl ⟨e1, rfl, rfl⟩) _ (run + 1) (Or.inl ⟨by omega, rfl, rfl⟩)
      · have e1 : pfm N (iq m0 229 k) ≠ pfm N (iq m0 229 (k - 1)) := by rw [hx]; exact q5
        simp (disch := first | (unfold r32; omega) | omega) only [j_lit, J_eq]
        refine ⟨fun _ => S_Terms_gather_70 ?_, fun z => absurd trivial z⟩
        simp (disch := first | (unfold r32; omega) | omega) only [j_lit, J_eq, J_le, j_rd, j_nc, j_ops, size]
        refine ⟨fun z => by omega, fun _ => ⟨fun z => ?_, fun z => ?_⟩⟩
        · exact fin 1 1 (Or.inr ⟨e1, rfl, rfl⟩) m best (Or.inr ⟨z, rfl, rfl⟩)
        · refine c_put (n := 1200) rfl (by decide) (by unfold r32; omega) (by omega) ?_
          exact fin 1 1 (Or.inr ⟨e1, rfl, rfl⟩) _ 1 (Or.inl ⟨by omega, rfl, rfl⟩)
end GDO
