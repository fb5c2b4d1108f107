/-! the class's matches, all of them -/
noncomputable def AM (N : Int → Int) (a b : Int) : Prop := pkm N a < pkm N b ∨ (pkm N a = pkm N b ∧ (pfm N a < pfm N b ∨ (pfm N a = pfm N b ∧ a < b)))
theorem AM_ord (N : Int → Int) (n : Int) : ord (AM N) n := by
  refine ⟨fun a b c _ _ _ _ _ _ h1 h2 => ?_, fun a _ _ h => ?_, fun a b _ _ _ _ h => ?_⟩
  · unfold AM at *; omega
  · unfold AM at h; omega
  · unfold AM; omega
/-- matches in their order; within; sorted -/
def DMt (m : zM) (N : Int → Int) : Prop := MF N m ∧ MWp N m (Mn N) ∧ SB (AM N) (iq m 229) 0 (Mn N)
abbrev S9 : List Nat := [228, 229, 230, 231, 232, 234, 235, 236]
section MAL
variable {d : Nat} {w : Nat × Nat × Nat} {b : Nat} {C : Int} {N : Int → Int} {mv : zM}
theorem pk_r64 (h : TR C mv b N) {i : Int} (h0 : 0 ≤ i) (h1 : i < Mn N) : r64 (pkm N i) ∧ r64 (pfm N i) ∧ 0 ≤ pkm N i ∧ pkm N i < 1099511627776 := by
  have hb := mk_bd h h0 h1
  have a := pkf_bd (okd_id h (k := mk N i) (n := ml N i) hb.1 hb.2.2.2.1)
  have c := pkf_bd (okd_f h (k := mk N i) (n := ml N i) hb.1 hb.2.2.2.1)
  unfold pkm pfm pk pf r64
  omega
theorem c_aheadM {P : Int32 → zM → Prop} {m : zM} {a c : Int} (hV : TR C mv b N) (hF : MF N m) (h0 : 0 ≤ c) (hca : c < a) (ha : a < Mn N) (H1 : AM N a c → P (J 1) m) (H0 : ¬ AM N a c → P (J 0) m) : cI (d + 1) 14 [.ref 228, .int (J a), .int (J c)] w m P := by
  have hM := Mn_b hV
  have fa := hF.2 a (by omega) ha
  have fc := hF.2 c h0 (by omega)
  have ra := pk_r64 hV (show 0 ≤ a by omega) ha
  have rc := pk_r64 hV h0 (show c < Mn N by omega)
  refine S_Matches_ahead (c_atl (n := 1200) rfl (by decide) (by unfold r32; omega) (by omega) (c_atl (n := 1200) rfl (by decide) (by unfold r32; omega) (by omega) ?_))
  rw [fa.2.2.1, fc.2.2.1]
  simp (disch := first | exact ra.1 | exact rc.1) only [j_lit, JL_eq, JL_le]
  refine ⟨fun q => c_atl (n := 1200) rfl (by decide) (by unfold r32; omega) (by omega) (c_atl (n := 1200) rfl (by decide) (by unfold r32; omega) (by omega) ?_), fun q => ⟨fun q2 => H0 ?_, fun q2 => H1 ?_⟩⟩
  · rw [fa.2.2.2, fc.2.2.2]
    simp (disch := first | exact ra.2.1 | exact rc.2.1) only [JL_le]
    refine ⟨fun q2 => H0 ?_, fun q2 => H1 ?_⟩
    · unfold AM; omega
    · unfold AM; omega
  · unfold AM; omega
  · unfold AM; omega
theorem MWp.frm {S : List Nat} {m m' : zM} {z : Int} (h : MWp N m z) (f : fr S m m') (hs : 234 ∉ S) : MWp N m' z := fun i i0 i1 => by rw [f.i hs]; exact h i i0 i1
theorem c_matches {Q : zM → Prop} {m : zM} (hb : zT b) (hN : TR C m b N) (hB : DB m N) (H : ∀ m', fr S9 m m' → DMt m' N → Q m') : cV (d + 7) 10 [.ref 228, .ref b, .ref 220] w m Q := by
  have hM := Mn_b hN
  have hw := hN.words
  refine S_Matches_build ?_
  simp only [j_lit, j_wr, j_nc]
  have f0 : fr S5 m (sq m 228 8 0) := (fr.rf _ m).si (by simp) _ _
  have hN0 := hN.frm f0 hb S5_b
  have hB0 := hB.frm f0 S5_8
  have e0 : iq (sq m 228 8 0) 228 8 = 0 := iq_eq (by unfold r32; omega)
  refine c_mbuild hb hN0 hB0 (fun m1 f1 h1 => ?_) (wW N).toNat 0 0 _ (by omega) (by omega) (fr.rf _ _) ⟨e0, ⟨by omega, fun i j _ _ _ => by omega, fun i _ _ => by omega, fun x hx => ?_⟩, by omega, fun i _ _ => by omega⟩ (by omega)
  · refine c_within (d := d + 5) hN hM.2 h1 (fun m2 f2 h2 => ?_)
    have h12 := h1.frm f2 (by simp) (by simp) (by simp) (by simp) (by simp)
    have e8 := h12.1
    simp only [j_rd, j_nc, e8]
    refine c_sortM (d := d + 4) hM (AM_ord N _) (fun m' a c P f' c0 ca an H1 H0 => c_aheadM (d := d + 3) hN (h12.frm f' (by simp) (by simp) (by simp) (by simp) (by simp)) c0 ca an H1 H0) (fun m3 f3 h3 => ?_)
    exact H m3 ((((f0.mo (by simp)).tr (f1.mo (by simp))).tr (f2.mo (by simp))).tr (f3.mo (by simp))) ⟨h12.frm f3 (by simp) (by simp) (by simp) (by simp) (by simp), h2.frm f3 (by simp), h3⟩
  · obtain ⟨⟨k, n, hm, e⟩, hx⟩ := hx
    have := mt_b hN hm
    omega
end MAL
