/-! word, around: both sides -/
section QAR
variable {d : Nat} {w : Nat × Nat × Nat} {C : Int} {N : Int → Int} {mv : zM} {b : Nat}
theorem p_word {P : Int32 → Int32 → zM → Prop} {m : zM} {a i c : Int} (ra : r32 a) (ri : r32 i) (rc : r32 c) (hI : IV C w m) (H : ∀ v m', IV C w m' → P v v m') : cI (d + 9) 126 [.ref 3, .int (J a), .int (J i), .int (J c)] w m (fun x m1 => cI (d + 9) 267 [.ref 261, .int (J a), .int (J i), .int (J c)] w m1 (fun y m2 => P x y m2)) := by
  obtain ⟨N, hI⟩ := hI
  have hb := hI.zT
  have hT := hI.2.2.2.2.1
  have hR := hI.2.2.2.1
  have d8 := hT.2.2.2.1.2.1
  refine S_T_word hb (c_wPlace (d := d + 5) hb ra ri hT (fun hv => ?_) (fun hv => ?_))
  · obtain ⟨z0, z1, z2, z3⟩ := vW_b hT hv
    have hv1 := hv.1
    have hv2 := hv.2.1
    have hw := hT.words.2.2.2 (N (260 + a) + i) z0 z1
    have f0 : FC m (sq m 6 1 0) := (fr.rf _ m).si (by simp) _ _
    -- the reference's half, from a word and the class's slate
    have go : ∀ (m1 : zM) (l : List Int), wd l → (c = 0 → wr N (N (260 + a) + i) = eM l) → (c ≠ 0 → bs N (N (260 + a) + i) = eM l) → FC m m1 → SLC m1 (sp l) → cI (d + 9) 267 [.ref 261, .int (J a), .int (J i), .int (J c)] w m1 (fun y m2 => P (J (iq m1 6 1)) y m2) := by
      intro m1 l hl g1 g2 f1 s1
      have hI1 := hI.ba.fc f1
      have hl10 := hl.1
      refine S_M_word (c_M_isWord (d := d + 6) ra ri hI1.2.2.2.2.1 hI1.2.2.2.1 (fun _ => ?_) (fun g => absurd hv g))
      simp (disch := first | (unfold r32; omega) | omega) only [j_lit, j_ops, J_eq]
      refine ⟨fun _ => c_Blays (d := d + 3) hI1 (fun m2 hI2 e20 hd cell e54 => ?_), fun y => by first | omega | exact absurd y (by simp)⟩
      have hR2 := hI2.2.2.2.1
      have r1 := hR2 (260 + a) (by omega) (by omega)
      have r2 := hR2 (269 + (N (260 + a) + i)) (by omega) (by omega)
      have r3 := (hd.1.2.2.1 (N (260 + a) + i) z0 z1).1
      have s2 : SLC m2 (sp l) := by
        unfold SLC iq
        rw [(cell 6 (by omega)).1, (cell 7 (by omega)).1]
        exact s1
      have fin : cV (d + 8) 264 [.ref 261, .long (JL (eM l))] w (sq m2 261 54 0) (fun m3 => P (J (iq m1 6 1)) (J (iq m3 261 54)) m3) := by
        refine c_M_slateW (d := d + 7) hl (fun m3 f3 s3 => ?_)
        have s3' : SLC m3 (sp l) := by
          have i6 : ∀ z, iq m3 6 z = iq m2 6 z := f3.1.i (by simp)
          have i7 : ∀ z, iq m3 7 z = iq m2 7 z := f3.1.i (by simp)
          unfold SLC
          rw [i6]
          exact ⟨s2.1, fun k hk => by rw [i7]; exact s2.2 k hk⟩
        rw [s1.1, s3.1]
        exact H _ m3 ⟨N, (hI2.fm f3).n (SLC_SLM s3' s3 (by rw [sp_len]; omega) (sp_ok hl))⟩
      simp (disch := first | exact ra | exact ri | exact rc | (unfold r32; omega) | (unfold r64; omega) | omega) only [j_lit, j_ops, vp_J, J_cl, jl_rd, lq_tn, r1, r2, r3, JL_32, j_rd, j_nc, J_eq, j_wr]
      refine ⟨by omega, fun q => ⟨by omega, ?_⟩, fun q => ⟨by omega, ?_⟩⟩
      · rw [show N (269 + (N (260 + a) + i)) = eM l from g1 q]
        exact fin
      · rw [g2 q]
        exact fin
    simp (disch := first | exact rc | (unfold r32; omega) | omega) only [j_lit, j_ops, J_le, J_eq, j_wr, j_nc, j_rd]
    refine ⟨fun _ => c_wordAt hb ⟨z0, by omega⟩ ?_, fun q => by omega⟩
    refine ⟨fun q => ?_, fun q => ?_⟩
    · obtain ⟨l, l1, l2, l3, l4⟩ := hw
      rw [l3]
      exact c_slateW (d := d + 5) l1 (fun m1 f1 s1 => go m1 l l1 (fun _ => l4) (fun z => absurd q z) f1 s1)
    · refine c_baseOf (d := d + 4) hb (hI.ba.fc f0).2.2.2.2.1 hw (fun cb hcb => ?_)
      obtain ⟨l, l1, l2, l3, l4⟩ := hcb
      rw [l3]
      exact c_slateW (d := d + 5) l1 (fun m1 f1 s1 => go m1 l l1 (fun z => absurd z q) (fun _ => l4) f1 s1)
  · simp (disch := first | (unfold r32; omega) | omega) only [j_lit, j_ops, J_le]
    refine ⟨fun q => by omega, fun _ => S_M_word (c_M_isWord (d := d + 6) ra ri hT hR (fun g => absurd g hv) (fun _ => ?_))⟩
    simp (disch := first | (unfold r32; omega) | omega) only [j_lit, j_ops, J_eq]
    exact ⟨fun y => absurd trivial y, fun _ => H _ m ⟨N, hI⟩⟩
/-- the class's tally of what is around a term -/
noncomputable def tyk (N : Int → Int) (o : Int → Int) (t x : Int) (k : Nat) : Int := sm (fun j => bi (pkm N (o j) = tr N t) * lct x (sds N (o j))) k
theorem tyk_b (h : TR C mv b N) (o : Int → Int) (t x : Int) (k : Nat) : 0 ≤ tyk N o t x k ∧ tyk N o t x k ≤ k * 6 := by
  have key : ∀ m, 0 ≤ bi (pkm N (o m) = tr N t) * lct x (sds N (o m)) ∧ bi (pkm N (o m) = tr N t) * lct x (sds N (o m)) ≤ 6 := fun m => by
    have a := lct_b x (sds N (o m))
    have c := sds_len h (o m)
    by_cases g : pkm N (o m) = tr N t
    · rw [bi_1 g, Int.one_mul]; omega
    · rw [bi_0 g, Int.zero_mul]; omega
  have h0 : sm (fun _ => (0 : Int)) k ≤ tyk N o t x k := sm_le k (fun m _ _ => (key m).1)
  have h1 : tyk N o t x k ≤ sm (fun _ => (6 : Int)) k := sm_le k (fun m _ _ => (key m).2)
  rw [sm_const] at h0 h1
  omega
def TJ (N : Int → Int) (m0 m : zM) (base : Int → Int) (l : List Int) : Prop := fr [253, 254] m0 m ∧ ∀ x, 0 ≤ x → x < eK (BS N) → iq m 253 x = base x + lct x l
theorem c_ba22 {Q : Int32 → zM → Prop} {m0 : zM} {t i k : Int} {base : Int → Int} {l : List Int} (h : TR C mv b N) (hb : ∀ x, 0 ≤ base x ∧ base x ≤ 100000) (hl : l.length ≤ 6) (hm : ∀ x ∈ l, 0 ≤ x ∧ x < eK (BS N)) (H : ∀ m, TJ N m0 m base l → W_Terms_baseAround_6 d b (J t) (J i) (J (k + 1)) w m Q) :
    ∀ (z j : Nat) (m : zM), j + z = l.length → TJ N m0 m base (l.take j) → B4 m l → W_Terms_baseAround_22 d b (J t) (J i) (J k) (J (l.length : Int)) (J (j : Int)) w m Q := by
  have hBk := BS_k h
  have hW := h.words
  have hK0 := eK_0 (BS_b h)
  intro z
  induction z with
  | zero =>
    intro j m hj hT h4
    refine S_Terms_baseAround_22 ?_
    simp (disch := first | (unfold r32; omega) | omega) only [j_lit, J_le, j_ops]
    rw [List.take_of_length_le (by omega)] at hT
    exact ⟨fun _ => H m hT, fun q => by omega⟩
  | succ z ih =>
    intro j m hj hT h4
    have hjl : j < l.length := by omega
    have hv := h4 j hjl
    have hvm : l.getD j 0 ∈ l := by rw [List.getD_eq_getElem?_getD, List.getElem?_eq_getElem hjl]; exact List.getElem_mem hjl
    obtain ⟨x, hx⟩ : ∃ x, l.getD j 0 = x := ⟨_, rfl⟩
    rw [hx] at hv hvm
    have hxb := hm x hvm
    have htake : l.take (j + 1) = l.take j ++ [x] := by
      rw [List.take_succ_eq_append_getElem hjl]
      congr 2
      rw [← hx, List.getD_eq_getElem?_getD, List.getElem?_eq_getElem hjl]
      rfl
    have cast : (((j + 1 : Nat) : Nat) : Int) = (j : Int) + 1 := by omega
    have ex := hT.2 x hxb.1 hxb.2
    have b1 := hb x
    have b2 := lct_b x (l.take j)
    rw [List.length_take] at b2
    refine S_Terms_baseAround_22 ?_
    simp (disch := first | (unfold r32; omega) | omega) only [j_lit, J_le, j_ops]
    refine ⟨fun q => by omega, fun _ => c_at (n := 6) rfl (by decide) (by unfold r32; omega) (by omega) ?_⟩
    rw [hv]
    refine c_at (n := 240) rfl (by decide) (by unfold r32; omega) (by omega) ?_
    simp only [j_ops]
    refine c_put (n := 240) rfl (by decide) (by unfold r32; omega) (by omega) ?_
    have := ih (j + 1) (sq m 253 x (iq m 253 x + 1)) (by omega) ⟨hT.1.si (by simp) _ _, fun y y0 y1 => ?_⟩ (fun jj hjj => ?_)
    · rw [cast] at this
      exact this
    · have e : lct y (l.take (j + 1)) = lct y (l.take j) + bi (x = y) := by rw [htake]; unfold lct; rw [lsm_app]
      rw [e]
      by_cases q : y = x
      · subst q
        rw [bi_1 rfl, iq_eq (by unfold r32; omega), ex]; omega
      · rw [bi_0 (fun z => q z.symm), iq_ne (Or.inr q) (by omega) y0, hT.2 y y0 y1]; omega
    · rw [iq_ne (by omega) (by omega) (by omega)]
      exact h4 jj hjj
theorem c_tallied {Q : Int32 → zM → Prop} {m : zM} {i : Int} {f : Int → Int} (h : TR C mv b N) (h7 : iq m 220 7 = eK (BS N)) (hf : ∀ x, 0 ≤ x → x < eK (BS N) → iq m 253 x = f x) (ri : r32 i) (H : ∀ v, NT (fun x => 0 < f x) (eK (BS N)) i v → Q (J v) m) : cI (d + 1) 96 [.ref 237, .int (J i)] w m Q := by
  have hBk := BS_k h
  have hW := h.words
  have hK0 := eK_0 (BS_b h)
  refine S_Terms_tallied ?_
  simp only [j_lit]
  have key : ∀ (j : Nat) (x : Int), 0 ≤ x → x + j = eK (BS N) → (0 ≤ i → cnt (fun x => 0 < f x) x.toNat ≤ i) → W_Terms_tallied_4 d (J i) (J (cnt (fun x => 0 < f x) x.toNat)) (J x) w m Q := by
    intro j
    induction j with
    | zero =>
      intro x x0 hj hI
      refine S_Terms_tallied_4 ?_
      simp (disch := first | (unfold r32; omega) | omega) only [j_lit, j_ops, j_rd, j_nc, h7, J_le]
      refine ⟨fun _ => H (-1) (Or.inr ⟨rfl, ?_⟩), fun q => by omega⟩
      rw [show (eK (BS N)).toNat = x.toNat by omega]
      rcases Int.lt_or_le i 0 with g | g
      · exact Or.inl g
      · exact Or.inr (hI g)
    | succ j ih =>
      intro x x0 hj hI
      have cb := cnt_b (fun x => 0 < f x) x.toNat
      have ef := hf x x0 (by omega)
      have fr32 : r32 (f x) := by rw [← ef]; exact iq_r _ _ _
      refine S_Terms_tallied_4 ?_
      simp (disch := first | (unfold r32; omega) | omega) only [j_lit, j_ops, j_rd, j_nc, h7, J_le]
      refine ⟨fun q => by omega, fun _ => c_at (n := 240) rfl (by decide) (by unfold r32; omega) (by omega) ?_⟩
      rw [ef]
      simp (disch := first | exact ri | exact fr32 | (unfold r32; omega) | omega) only [J_le, J_eq]
      refine ⟨fun q => ?_, fun q => ⟨fun q2 => ?_, fun q2 => H x (Or.inl ⟨x0, by omega, by show 0 < f x; omega, q2⟩)⟩⟩
      · have e : cnt (fun x => 0 < f x) (x + 1).toNat = cnt (fun x => 0 < f x) x.toNat := by rw [cnt_z _ x0, bi_0 (by omega)]; omega
        have := ih (x + 1) (by omega) (by omega) (fun z => by rw [e]; exact hI z)
        rw [e] at this
        exact this
      · have e : cnt (fun x => 0 < f x) (x + 1).toNat = cnt (fun x => 0 < f x) x.toNat + 1 := by rw [cnt_z _ x0, bi_1 (by omega)]
        have := ih (x + 1) (by omega) (by omega) (fun z => by rw [e]; have := hI z; omega)
        rw [e] at this
        exact this
  have := key (eK (BS N)).toNat 0 (by omega) (by omega) (fun z => z)
  exact this
theorem c_baseAround {Q : Int32 → zM → Prop} {m0 : zM} {t i : Int} (hb : zT b) (h : TR C m0 b N) (hd : DC m0 N) (ht : 0 ≤ t ∧ t < Zn N) (ri : r32 i) (H : ∀ m v, fr [253, 254] m0 m → (∀ x, 0 ≤ x → x < eK (BS N) → iq m 253 x = tm N t x) → NT (fun x => 0 < tm N t x) (eK (BS N)) i v → Q (J v) m) : cI (d + 4) 95 [.ref 237, .ref b, .int (J t), .int (J i)] w m0 Q := by
  have hM := Mn_b h
  have hZ := Zn_b h
  have hBk := BS_k h
  have hW := h.words
  obtain ⟨hB, hDm, hT, _, _⟩ := id hd
  have hc := ct_b h ht.1 ht.2
  obtain ⟨a1, a2, a3, a4, a5, a6, a7, a8, a9, a10⟩ := hT.2.1 t ht.1 ht.2
  rw [a2] at a9 a10
  obtain ⟨o, ho⟩ : ∃ o : Int → Int, o = iq m0 229 := ⟨_, rfl⟩
  rw [← ho] at a10
  have hSB : SB (AM N) o 0 (((Mn N).toNat : Nat) : Int) := by rw [show (((Mn N).toNat : Nat) : Int) = Mn N by omega, ho]; exact hDm.2.2
  have hpr := hSB.prm (AM_ord N _)
  refine S_Terms_baseAround ?_
  simp only [j_lit]
  refine c_clear (n := 240) rfl (by decide) (by omega) (fun m1 f1 z1 => ?_)
  have key : ∀ (z : Nat) (k : Int) (m : zM), 0 ≤ k → k + z = ct N t → fr [253, 254] m0 m → (∀ x, 0 ≤ x → x < eK (BS N) → iq m 253 x = tyk N o t x (iq m0 239 t + k).toNat) → W_Terms_baseAround_6 (d + 3) b (J t) (J i) (J k) w m Q := by
    intro z
    induction z with
    | zero =>
      intro k m hk hz f hI
      have e40 : iq m 240 t = ct N t := (f.i (by simp) t).trans a2
      refine S_Terms_baseAround_6 (c_at (n := 1200) rfl (by decide) (by unfold r32; omega) (by omega) ?_)
      rw [e40]
      have eT : ∀ x, 0 ≤ x → x < eK (BS N) → iq m 253 x = tm N t x := fun x x0 x1 => by
        rw [hI x x0 x1]
        have e1 : tyk N o t x (Mn N).toNat = tm N t x := prm_sum hpr (fun m => bi (pkm N m = tr N t) * lct x (sds N m))
        rw [← e1]
        have cut : ∀ q : Nat, (iq m0 239 t + k) ≤ q → (q : Int) ≤ Mn N → tyk N o t x q = tyk N o t x (iq m0 239 t + k).toNat := by
          intro q
          induction q with
          | zero => intro q1 _; rw [show (iq m0 239 t + k).toNat = 0 by omega]
          | succ q ihq =>
            intro q1 q2
            by_cases e : iq m0 239 t + k = ((q + 1 : Nat) : Int)
            · rw [e, Int.toNat_natCast]
            · have e2 : tyk N o t x (q + 1) = tyk N o t x q + bi (pkm N (o (q : Int)) = tr N t) * lct x (sds N (o (q : Int))) := rfl
              rw [e2, bi_0 (fun y => by have := (a10 (q : Int) (by omega) (by omega)).mp y; omega), Int.zero_mul, Int.add_zero]
              exact ihq (by omega) (by omega)
        exact (cut (Mn N).toNat (by omega) (by omega)).symm
      simp (disch := first | (unfold r32; omega) | omega) only [J_le]
      exact ⟨fun _ => c_tallied (d := d + 2) h ((f.i (by simp) 7).trans hB.1) eT ri (fun v hv => H m v f eT hv), fun q => by omega⟩
    | succ z ih =>
      intro k m hk hz f hI
      have e40 : iq m 240 t = ct N t := (f.i (by simp) t).trans a2
      have hTm := hT.frm f (by simp) (by simp) (by simp) (by simp) (by simp) (by simp) (by simp) (by simp) (by simp) (by simp) (by simp)
      have hNm := h.frm f hb (by intro c hc; simp at hc; omega)
      have hBm := hB.frm f (by decide)
      have hDmm := hDm.frm f (by decide)
      have e29 : ∀ j, iq m 229 j = o j := fun j => by rw [ho]; exact f.i (by simp) j
      have e39 : iq m 239 t = iq m0 239 t := f.i (by simp) t
      refine S_Terms_baseAround_6 (c_at (n := 1200) rfl (by decide) (by unfold r32; omega) (by omega) ?_)
      rw [e40]
      simp (disch := first | (unfold r32; omega) | omega) only [J_le]
      refine ⟨fun q => by omega, fun _ => c_matchOf (d := d + 2) h hTm ht ⟨hk, by omega⟩ (fun x hx hp => ?_)⟩
      rw [e29, e39] at hx
      rw [e39] at hp
      have hxb := hpr.1 (iq m0 239 t + k) (by omega) (by omega)
      rw [← hx] at hxb
      refine c_beside (d := d + 1) hb hNm hBm hDmm.1 hxb.1 (by omega) (fun m' f' h4 => ?_)
      have := c_ba22 (d := d + 3) (w := w) (Q := Q) (m0 := m0) (t := t) (i := i) (k := k) (base := fun y => tyk N o t y (iq m0 239 t + k).toNat) (l := sds N x) h (fun y => by have := tyk_b h o t y (iq m0 239 t + k).toNat; omega) (sds_len h x) (sds_mem h hxb.1 (by omega)) (fun m2 h2 => ih (k + 1) m2 (by omega) (by omega) h2.1 (fun y y0 y1 => ?_)) (sds N x).length 0 m' (by omega) ⟨f.tr (f'.mo (by simp)), fun y y0 y1 => ?_⟩ h4
      · exact this
      · rw [h2.2 y y0 y1]
        unfold tyk
        rw [show iq m0 239 t + (k + 1) = iq m0 239 t + k + 1 by omega, sm_z _ (by omega : 0 ≤ iq m0 239 t + k), ← hx, bi_1 hp.1, Int.one_mul]
      · rw [f'.i (by simp), hI y y0 y1]
        show tyk N o t y (iq m0 239 t + k).toNat = tyk N o t y (iq m0 239 t + k).toNat + (0 : Int)
        omega
  refine key (ct N t).toNat 0 m1 (by omega) (by omega) (f1.mo (by simp)) (fun x x0 x1 => ?_)
  rw [z1 x x0 (by omega), Int.add_zero]
  refine (sm_zero (f := fun j => bi (pkm N (o j) = tr N t) * lct x (sds N (o j))) _ (fun j j0 j1 => ?_)).symm
  show bi (pkm N (o j) = tr N t) * lct x (sds N (o j)) = 0
  rw [bi_0 (fun y => by have := (a10 j j0 (by omega)).mp y; omega), Int.zero_mul]
end QAR
