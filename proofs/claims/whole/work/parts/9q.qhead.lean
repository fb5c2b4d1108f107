/-! head: both sides -/
/-- the number of a term's last base -/
noncomputable def lst (N : Int → Int) (t : Int) : Int := dg (tr N t) (tl N t - 1).toNat - 1
noncomputable def hk (N : Int → Int) (x : Int) (k : Nat) : Int := cnt (fun t => lst N t = x) k
noncomputable def hds (N : Int → Int) (k : Nat) : Int := cnt (fun x => 0 < hk N x k) (eK (BS N)).toNat
noncomputable def hgk (N : Int → Int) (x : Int) (k : Nat) : Int := sm (fun t => bi (lst N t = x) * ct N t) k
def fsT (N : Int → Int) (x z e : Int) : Prop := 0 ≤ e ∧ e < z ∧ lst N e = x ∧ ∀ s, 0 ≤ s → s < e → lst N s ≠ x
def HA (N : Int → Int) (x c v : Int) : Prop := if c = 0 then v = hk N x (Zn N).toNat else if c = 1 then v = hgk N x (Zn N).toNat else if c = 2 then fsT N x (Zn N) v else v = -1
theorem HA.uniq {N : Int → Int} {x c v v' : Int} (h : HA N x c v) (h' : HA N x c v') : v = v' := by
  unfold HA at h h'
  by_cases c0 : c = 0
  · rw [if_pos c0] at h h'; omega
  · rw [if_neg c0] at h h'
    by_cases c1 : c = 1
    · rw [if_pos c1] at h h'; omega
    · rw [if_neg c1] at h h'
      by_cases c2 : c = 2
      · rw [if_pos c2] at h h'
        obtain ⟨a1, a2, a3, a4⟩ := h
        obtain ⟨b1, b2, b3, b4⟩ := h'
        rcases Int.lt_trichotomy v v' with g | g | g
        · exact absurd a3 (b4 v a1 g)
        · exact g
        · exact absurd b3 (a4 v' b1 g)
      · rw [if_neg c2] at h h'; omega
section QHE
variable {d : Nat} {w : Nat × Nat × Nat} {C : Int} {N : Int → Int} {mv : zM} {b : Nat}
theorem lst_r (h : TR C mv b N) {t k : Int} (t0 : 0 ≤ t) (t1 : t < Zn N) (hk : 0 ≤ k ∧ k + tl N t ≤ wW N) (e : tr N t = pk N k (tl N t)) : lst N t = idb N (k + tl N t - 1) := by
  have l := tl_b h t0 t1
  have ok := okd_id h hk.1 hk.2
  have d := pkf_dig ok (j := (tl N t - 1).toNat) (by omega)
  rw [if_pos (by omega)] at d
  have e2 : dg (tr N t) (tl N t - 1).toNat = idb N (k + (((tl N t - 1).toNat : Nat) : Int)) + 1 := by rw [e]; exact d
  unfold lst
  rw [e2, show k + (((tl N t - 1).toNat : Nat) : Int) = k + tl N t - 1 by omega]
  omega
theorem lst_b (h : TR C mv b N) {t : Int} (t0 : 0 ≤ t) (t1 : t < Zn N) : 0 ≤ lst N t ∧ lst N t < eK (BS N) := by
  obtain ⟨m, m0, m1, e⟩ := tr_ex h t0 t1
  have bd := mk_bd h m0 m1
  have l := tl_m h m0 m1 e
  have := lst_r h t0 t1 (k := mk N m) ⟨bd.1, by rw [l]; exact bd.2.2.2.1⟩ (by rw [l]; exact e.symm)
  rw [this]
  exact id_b h (by rw [l]; omega) (by rw [l]; omega)
theorem hk_b (h : TR C mv b N) (x : Int) {t : Int} (t1 : t ≤ Zn N) (t0 : 0 ≤ t) : 0 ≤ hk N x t.toNat ∧ hk N x t.toNat ≤ 1200 := by
  have hM := Mn_b h
  have hZ := Zn_b h
  have := cnt_b (fun t => lst N t = x) t.toNat
  unfold hk
  omega
theorem hds_s (h : TR C mv b N) {t : Int} (t0 : 0 ≤ t) (t1 : t < Zn N) : hds N (t + 1).toNat = hds N t.toNat + bi (hk N (lst N t) t.toNat = 0) := by
  have hl := lst_b h t0 t1
  have hK0 := eK_0 (BS_b h)
  have st : ∀ x, hk N x (t + 1).toNat = hk N x t.toNat + bi (lst N t = x) := fun x => cnt_z _ t0
  have u := sm_upd (f := fun x => bi (0 < hk N x (t + 1).toNat)) (g := fun x => bi (0 < hk N x t.toNat)) (z := lst N t) hl.1 (eK (BS N)).toNat (by omega) (fun k k0 k1 k2 => by
    show bi (0 < hk N k (t + 1).toNat) = bi (0 < hk N k t.toNat)
    rw [st k, bi_0 (show ¬ lst N t = k from fun q => k2 q.symm), Int.add_zero])
  have b1 := hk_b h (lst N t) (Int.le_of_lt t1) t0
  have e1 : bi (0 < hk N (lst N t) (t + 1).toNat) = 1 := bi_1 (by rw [st, bi_1 rfl]; omega)
  have e2 : bi (0 < hk N (lst N t) t.toNat) + bi (hk N (lst N t) t.toNat = 0) = 1 := by
    by_cases g : hk N (lst N t) t.toNat = 0
    · rw [bi_1 g, bi_0 (by omega)]; rfl
    · rw [bi_0 g, bi_1 (by omega)]; rfl
  have u' : hds N (t + 1).toNat = hds N t.toNat + (bi (0 < hk N (lst N t) (t + 1).toNat) - bi (0 < hk N (lst N t) t.toNat)) := u
  rw [u', e1]
  omega
theorem c_lastOfT {Q : Int32 → zM → Prop} {m : zM} {t : Int} (h : TR C mv b N) (hT : DT0 m N) (t0 : 0 ≤ t) (t1 : t < Zn N) (H : Q (J (lst N t)) m) : cI (d + 3) 98 [.ref 237, .int (J t)] w m Q := by
  have hM := Mn_b h
  have hZ := Zn_b h
  have l := tl_b h t0 t1
  refine S_Terms_lastOf (c_atl (n := 1200) rfl (by decide) (by unfold r32; omega) (by omega) (c_lengthOf (d := d) h hT t0 t1 ?_))
  rw [(hT.2.1 t t0 t1).1]
  simp only [j_lit, j_ops]
  rw [show tl N t - 1 = (((tl N t - 1).toNat : Nat) : Int) by omega]
  exact c_idIn (tr_b h t0 t1) (by omega) H
theorem c_tallyHeads {Q : Int32 → zM → Prop} {m0 : zM} (h : TR C mv b N) (hT : DT0 m0 N) (H : ∀ m, fr [253] m0 m → (∀ x, 0 ≤ x → x < eK (BS N) → iq m 253 x = hk N x (Zn N).toNat) → Q (J (hds N (Zn N).toNat)) m) : cI (d + 4) 99 [.ref 237] w m0 Q := by
  have hM := Mn_b h
  have hZ := Zn_b h
  have hBk := BS_k h
  have hW := h.words
  refine S_Terms_tallyHeads ?_
  simp only [j_lit]
  refine c_clear (n := 240) rfl (by decide) (by omega) (fun m1 f1 z1 => ?_)
  have key : ∀ (z : Nat) (t : Int) (m : zM), 0 ≤ t → t + z = Zn N → fr [253] m0 m → (∀ x, 0 ≤ x → x < eK (BS N) → iq m 253 x = hk N x t.toNat) → W_Terms_tallyHeads_8 (d + 3) (J (hds N t.toNat)) (J t) w m Q := by
    intro z
    induction z with
    | zero =>
      intro t m t0 hz f hI
      have e19 : iq m 237 19 = Zn N := (f.i (by simp) 19).trans hT.1
      refine S_Terms_tallyHeads_8 ?_
      simp (disch := first | (unfold r32; omega) | omega) only [j_lit, j_ops, j_rd, j_nc, e19, J_le]
      rw [show t = Zn N by omega] at hI ⊢
      exact ⟨fun _ => H m f hI, fun q => by omega⟩
    | succ z ih =>
      intro t m t0 hz f hI
      have t1 : t < Zn N := by omega
      have e19 : iq m 237 19 = Zn N := (f.i (by simp) 19).trans hT.1
      have hTm := hT.frm f (by simp) (by simp) (by simp) (by simp) (by simp) (by simp) (by simp) (by simp) (by simp) (by simp) (by simp)
      have hl := lst_b h t0 t1
      have e53 := hI (lst N t) hl.1 hl.2
      have hb := hk_b h (lst N t) (Int.le_of_lt t1) t0
      have hs := hds_s h t0 t1
      have nx : fr [253] m0 (sq m 253 (lst N t) (hk N (lst N t) t.toNat + 1)) ∧ ∀ x, 0 ≤ x → x < eK (BS N) → iq (sq m 253 (lst N t) (hk N (lst N t) t.toNat + 1)) 253 x = hk N x (t + 1).toNat := ⟨f.si (by simp) _ _, fun x x0 x1 => by
        have st : hk N x (t + 1).toNat = hk N x t.toNat + bi (lst N t = x) := cnt_z _ t0
        rw [st]
        by_cases q : x = lst N t
        · rw [q, iq_eq (by unfold r32; omega), bi_1 rfl]
        · rw [iq_ne (Or.inr q) (by omega) x0, hI x x0 x1, bi_0 (fun y => q y.symm), Int.add_zero]⟩
      refine S_Terms_tallyHeads_8 ?_
      simp (disch := first | (unfold r32; omega) | omega) only [j_lit, j_ops, j_rd, j_nc, e19, J_le]
      refine ⟨fun q => by omega, fun _ => c_lastOfT (d := d) h hTm t0 t1 (c_at (n := 240) rfl (by decide) (by unfold r32; omega) (by omega) ?_)⟩
      rw [e53]
      simp (disch := first | (unfold r32; omega) | omega) only [J_eq]
      refine ⟨fun q => c_at (n := 240) rfl (by decide) (by unfold r32; omega) (by omega) ?_, fun q => c_at (n := 240) rfl (by decide) (by unfold r32; omega) (by omega) ?_⟩
      · rw [e53, j_ops.1]
        refine c_put (n := 240) rfl (by decide) (by unfold r32; omega) (by omega) ?_
        have := ih (t + 1) _ (by omega) (by omega) nx.1 nx.2
        rw [hs, bi_0 q, Int.add_zero] at this
        exact this
      · rw [e53, j_ops.1]
        refine c_put (n := 240) rfl (by decide) (by unfold r32; omega) (by omega) ?_
        have := ih (t + 1) _ (by omega) (by omega) nx.1 nx.2
        rw [hs, bi_1 q] at this
        exact this
  have h0 : hds N (0 : Int).toNat = 0 := cnt_no _ (fun x _ _ q => by
    have e : hk N x 0 = 0 := rfl
    have q' : 0 < hk N x 0 := q
    omega)
  have := key (Zn N).toNat 0 m1 (by omega) (by omega) f1 (fun x x0 x1 => z1 x x0 (by omega))
  rw [h0] at this
  exact this
theorem c_headTold {Q : Int32 → zM → Prop} {m : zM} {x c : Int} (h : TR C mv b N) (hT : DT0 m N) (hx : 0 ≤ x ∧ x < eK (BS N)) (h53 : iq m 253 x = hk N x (Zn N).toNat) (hpos : 0 < hk N x (Zn N).toNat) (rc : r32 c) (H : ∀ v, HA N x c v → Q (J v) m) : cI (d + 4) 100 [.ref 237, .int (J x), .int (J c)] w m Q := by
  have hM := Mn_b h
  have hZ := Zn_b h
  have hBk := BS_k h
  have hW := h.words
  have key : c ≠ 0 → ∀ (z : Nat) (t e : Int), 0 ≤ t → t + z = Zn N → ((e = -1 ∧ ∀ s, 0 ≤ s → s < t → lst N s ≠ x) ∨ fsT N x t e) → W_Terms_headTold_13 (d + 3) (J x) (J c) (J (hgk N x t.toNat)) (J e) (J t) w m Q := by
    intro c0 z
    induction z with
    | zero =>
      intro t e t0 hz hI
      refine S_Terms_headTold_13 ?_
      simp (disch := first | exact rc | (unfold r32; omega) | omega) only [j_lit, j_ops, j_rd, j_nc, hT.1, J_le, J_eq]
      have z0 : Zn N = t := by omega
      have fsE : fsT N x (Zn N) e := by
        rcases hI with ⟨_, q⟩ | q
        · have e0 : hk N x (Zn N).toNat = 0 := cnt_no _ (fun s s0 s1 => q s s0 (by omega))
          omega
        · rw [z0]; exact q
      refine ⟨fun _ => ⟨fun c1 => ⟨fun c2 => H (-1) ?_, fun c2 => H e ?_⟩, fun c1 => H _ ?_⟩, fun q => by omega⟩
      · unfold HA; rw [if_neg c0, if_neg c1, if_neg c2]
      · unfold HA; rw [if_neg c0, if_neg c1, if_pos c2]; exact fsE
      · unfold HA; rw [if_neg c0, if_pos c1, z0]
    | succ z ih =>
      intro t e t0 hz hI
      have t1 : t < Zn N := by omega
      have hl := lst_b h t0 t1
      have e40 := (hT.2.1 t t0 t1).2.1
      have re : r32 e := by
        rcases hI with ⟨q, _⟩ | ⟨q1, q2, _⟩ <;> (unfold r32; omega)
      have hg : hgk N x (t + 1).toNat = hgk N x t.toNat + bi (lst N t = x) * ct N t := sm_z _ t0
      refine S_Terms_headTold_13 ?_
      simp (disch := first | exact re | (unfold r32; omega) | omega) only [j_lit, j_ops, j_rd, j_nc, hT.1, J_le]
      refine ⟨fun q => by omega, fun _ => c_lastOfT (d := d) h hT t0 t1 ?_⟩
      simp (disch := first | (unfold r32; omega) | omega) only [J_eq]
      refine ⟨fun q => ?_, fun q => c_at (n := 1200) rfl (by decide) (by unfold r32; omega) (by omega) ?_⟩
      · have := ih (t + 1) e (by omega) (by omega) (by
          rcases hI with ⟨a1, a2⟩ | ⟨a1, a2, a3, a4⟩
          · refine Or.inl ⟨a1, fun s s0 s1 => ?_⟩
            by_cases y : s = t
            · rw [y]; exact q
            · exact a2 s s0 (by omega)
          · exact Or.inr ⟨a1, by omega, a3, a4⟩)
        rw [hg, bi_0 q, Int.zero_mul, Int.add_zero] at this
        exact this
      · rw [e40, j_ops.1]
        rw [bi_1 q, Int.one_mul] at hg
        refine ⟨fun q2 => ?_, fun q2 => ?_⟩
        · have := ih (t + 1) e (by omega) (by omega) (by
            rcases hI with ⟨a1, a2⟩ | ⟨a1, a2, a3, a4⟩
            · omega
            · exact Or.inr ⟨a1, by omega, a3, a4⟩)
          rw [hg] at this
          exact this
        · have := ih (t + 1) t (by omega) (by omega) (by
            rcases hI with ⟨a1, a2⟩ | ⟨a1, a2, a3, a4⟩
            · exact Or.inr ⟨t0, by omega, q, a2⟩
            · omega)
          rw [hg] at this
          exact this
  refine S_Terms_headTold ?_
  simp (disch := first | exact rc | (unfold r32; omega) | omega) only [j_lit, j_ops, J_eq]
  refine ⟨fun c0 => key c0 (Zn N).toNat 0 (-1) (by omega) (by omega) (Or.inl ⟨rfl, fun s _ _ => by omega⟩), fun c0 => c_at (n := 240) rfl (by decide) (by unfold r32; omega) (by omega) ?_⟩
  rw [h53]
  exact H _ (by unfold HA; rw [if_pos c0])
/-- the answer to head -/
def HQ (N : Int → Int) (g c v : Int) : Prop := if g = -1 then v = hds N (Zn N).toNat else ∃ x, NT (fun x => 0 < hk N x (Zn N).toNat) (eK (BS N)) g x ∧ ((x = -1 ∧ v = -1) ∨ (0 ≤ x ∧ HA N x c v))
theorem HQ.uniq {g c v v' : Int} (h : HQ N g c v) (h' : HQ N g c v') : v = v' := by
  unfold HQ at h h'
  by_cases q : g = -1
  · rw [if_pos q] at h h'; omega
  · rw [if_neg q] at h h'
    obtain ⟨x, a1, a2⟩ := h
    obtain ⟨y, b1, b2⟩ := h'
    have e := a1.uniq b1
    subst e
    rcases a2 with ⟨p1, p2⟩ | ⟨p1, p2⟩
    · rcases b2 with ⟨r1, r2⟩ | ⟨r1, r2⟩
      · omega
      · omega
    · rcases b2 with ⟨r1, r2⟩ | ⟨r1, r2⟩
      · omega
      · exact p2.uniq r2
theorem c_headQ {Q : Int32 → zM → Prop} {m : zM} {g c : Int} (rg : r32 g) (rc : r32 c) (hI : IVN C w m N) (H : ∀ m' v, IVN C w m' N → HQ N g c v → Q (J v) m') : cI (d + 9) 141 [.ref 3, .int (J g), .int (J c)] w m Q := by
  refine S_T_head (c_Ldraw (d := d) hI (fun m1 hI1 _ hd hk' h61 => ?_))
  have hT := hI1.2.2.2.2.1
  have hM := Mn_b hT
  have hBk := BS_k hT
  have hW := hT.words
  have hK0 := eK_0 (BS_b hT)
  refine c_tallyHeads (d := d + 4) hT hd.2.2.1 (fun m2 f2 h2 => ?_)
  have hB2 := hI1.ba.fq f2 (by intro c hc; simp at hc; omega)
  have hI2 : IVN C w m2 N := hB2.n (hI1.2.2.2.2.2.1.mv (f2 6 (by simp)).1 (f2 7 (by simp)).1 (f2 294 (by simp)).1 (f2.i (by simp) 54))
  have hT2 := hd.2.2.1.frm f2 (by simp) (by simp) (by simp) (by simp) (by simp) (by simp) (by simp) (by simp) (by simp) (by simp) (by simp)
  have cb : 0 ≤ hds N (Zn N).toNat ∧ hds N (Zn N).toNat ≤ ((eK (BS N)).toNat : Nat) := cnt_b (fun x => 0 < hk N x (Zn N).toNat) (eK (BS N)).toNat
  have e7 : iq m2 220 7 = eK (BS N) := (f2.i (by simp) 7).trans hd.1.1
  have no : g ≠ -1 → ¬ (0 ≤ g ∧ g < hds N (Zn N).toNat) → Q (J (-1)) m2 := fun q q2 => H m2 _ hI2 (by
    unfold HQ
    rw [if_neg q]
    refine ⟨-1, Or.inr ⟨rfl, ?_⟩, Or.inl ⟨rfl, rfl⟩⟩
    rcases Int.lt_or_le g 0 with y | y
    · exact Or.inl y
    · exact Or.inr (by show hds N (Zn N).toNat ≤ g; omega))
  simp (disch := first | exact rg | exact rc | (unfold r32; omega) | omega) only [j_lit, j_ops, J_eq, J_lt]
  refine ⟨fun q => ⟨fun q1 => no q (by omega), fun q1 => ⟨fun q2 => c_tallied (d := d + 7) hT e7 h2 rg (fun v hv => ?_), fun q2 => no q (by omega)⟩⟩, fun q => H m2 _ hI2 (by unfold HQ; rw [if_pos q])⟩
  rcases hv with ⟨a1, a2, a3, a4⟩ | ⟨a1, a2⟩
  · exact c_headTold (d := d + 4) hT hT2 ⟨a1, a2⟩ (h2 v a1 a2) a3 rc (fun u hu => H m2 u hI2 (by
      unfold HQ
      rw [if_neg q]
      exact ⟨v, Or.inl ⟨a1, a2, a3, a4⟩, Or.inr ⟨a1, hu⟩⟩))
  · rcases a2 with y | y
    · omega
    · have y' : hds N (Zn N).toNat ≤ g := y
      omega
end QHE
