/-! what is around the terms: the class -/
def Ar (N : Int → Int) (t x : Int) : Prop := ∃ m, 0 ≤ m ∧ m < Mn N ∧ pkm N m = tr N t ∧ x ∈ sds N m
noncomputable def lk (N : Int → Int) (x : Int) : Int := cnt (fun t => Ar N t x) (Zn N).toNat
noncomputable def ua (N : Int → Int) (t : Int) : Int := cnt (fun x => Ar N t x) (eK (BS N)).toNat
def AI (N : Int → Int) (m0 m : zM) (t : Int) (S : Int → Prop) : Prop := fr [249, 252, 253, 254] m0 m ∧ (∀ x, 0 ≤ x → x < eK (BS N) → iq m 252 x = cnt (fun t => Ar N t x) t.toNat + bi (S x) ∧ (S x → iq m 253 x = t + 1) ∧ (¬ S x → iq m 253 x ≤ t)) ∧ ∀ s, 0 ≤ s → s < Zn N → iq m 249 s = if s < t then ua N s else if s = t then cnt S (eK (BS N)).toNat else 0
section ARD
variable {d : Nat} {w : Nat × Nat × Nat} {b : Nat} {C : Int} {N : Int → Int}
theorem AI.ext {m0 m : zM} {t : Int} {S S' : Int → Prop} (h : AI N m0 m t S) (e : ∀ x, S x ↔ S' x) : AI N m0 m t S' := by
  have : S = S' := funext (fun x => propext (e x))
  rw [← this]; exact h
theorem AI.f254 {m0 m m' : zM} {t : Int} {S : Int → Prop} (h : AI N m0 m t S) (f : fr [254] m m') : AI N m0 m' t S :=
  ⟨h.1.tr (f.mo (by simp)), fun x x0 x1 => by rw [f.i (by simp), f.i (by simp)]; exact h.2.1 x x0 x1, fun s s0 s1 => by rw [f.i (by simp)]; exact h.2.2 s s0 s1⟩
theorem c_ar32 {Q : zM → Prop} {m0 : zM} {t k : Int} {S : Int → Prop} {l : List Int} (hN : TR C m0 b N) (ht : 0 ≤ t ∧ t < Zn N) (hk : 0 ≤ k ∧ k < 1200) (hl : l.length ≤ 6) (hm : ∀ x ∈ l, 0 ≤ x ∧ x < eK (BS N)) (H : ∀ m, AI N m0 m t (fun x => S x ∨ x ∈ l) → W_Terms_countAround_16 d b (J t) (J (k + 1)) w m Q) :
    ∀ (i j : Nat) (m : zM), j + i = l.length → AI N m0 m t (fun x => S x ∨ x ∈ l.take j) → B4 m l → W_Terms_countAround_32 d b (J t) (J k) (J (l.length : Int)) (J (j : Int)) w m Q := by
  have hM := Mn_b hN
  have hZ := Zn_b hN
  have hBk := BS_k hN
  have hW := hN.words
  have hK0 := eK_0 (BS_b hN)
  intro i
  induction i with
  | zero =>
    intro j m hj hI h4
    refine S_Terms_countAround_32 ?_
    simp (disch := first | (unfold r32; omega) | omega) only [j_lit, J_le, j_ops]
    rw [List.take_of_length_le (by omega)] at hI
    exact ⟨fun _ => H m hI, fun q => by omega⟩
  | succ i ih =>
    intro j m hj hI h4
    obtain ⟨f, hI1, hI2⟩ := id hI
    have hjl : j < l.length := by omega
    have hv := h4 j hjl
    have hvm : l.getD j 0 ∈ l := by rw [List.getD_eq_getElem?_getD, List.getElem?_eq_getElem hjl]; exact List.getElem_mem hjl
    obtain ⟨x, hx⟩ : ∃ x, l.getD j 0 = x := ⟨_, rfl⟩
    rw [hx] at hv hvm
    have hxb := hm x hvm
    have htake : l.take (j + 1) = l.take j ++ [x] := by
      rw [List.take_succ_eq_append_getElem hjl]
      congr 2
      rw [← hx, List.getD_eq_getElem?_getD, List.getElem?_eq_getElem hjl]
      rfl
    have hS : ∀ y, (S y ∨ y ∈ l.take (j + 1)) ↔ ((S y ∨ y ∈ l.take j) ∨ y = x) := fun y => by
      rw [htake, List.mem_append]
      simp only [List.mem_cons, List.not_mem_nil, or_false]
      exact (or_assoc).symm
    have cast : (((j + 1 : Nat) : Nat) : Int) = (j : Int) + 1 := by omega
    refine S_Terms_countAround_32 ?_
    simp (disch := first | (unfold r32; omega) | omega) only [j_lit, J_le, j_ops]
    refine ⟨fun q => by omega, fun _ => c_at (n := 6) rfl (by decide) (by unfold r32; omega) (by omega) ?_⟩
    rw [hv]
    refine c_at (n := 240) rfl (by decide) (by unfold r32; omega) (by omega) ?_
    have r53 := iq_r m 253 x
    obtain ⟨a1, a2, a3⟩ := hI1 x hxb.1 hxb.2
    simp (disch := first | exact r53 | (unfold r32; omega) | omega) only [J_eq]
    refine ⟨fun q => ?_, fun q => ?_⟩
    · have hSx : S x ∨ x ∈ l.take j := by
        by_cases z : S x ∨ x ∈ l.take j
        · exact z
        · have := a3 z; omega
      have := ih (j + 1) m (by omega) (hI.ext (fun y => by
        rw [hS]
        exact ⟨fun z => Or.inl z, fun z => by
          rcases z with z | z
          · exact z
          · rw [z]; exact hSx⟩)) h4
      rw [cast] at this
      exact this
    · have hSx : ¬ (S x ∨ x ∈ l.take j) := fun z => q (a2 z)
      rw [bi_0 hSx] at a1
      have c1 := cnt_b (fun t => Ar N t x) t.toNat
      have c2 := cnt_b (fun x => S x ∨ x ∈ l.take j) (eK (BS N)).toNat
      have e49 := hI2 t ht.1 ht.2
      rw [if_neg (by omega), if_pos rfl] at e49
      refine c_put (n := 240) rfl (by decide) (by unfold r32; omega) (by omega) (c_at (n := 240) rfl (by decide) (by unfold r32; omega) (by omega) ?_)
      have x1 : iq (sq m 253 x (t + 1)) 252 x = iq m 252 x := iq_ne (by omega) (by omega) (by omega)
      rw [x1]
      simp only [j_ops]
      refine c_put (n := 240) rfl (by decide) (by unfold r32; omega) (by omega) (c_at (n := 1200) rfl (by decide) (by unfold r32; omega) (by omega) ?_)
      have x2 : iq (sq (sq m 253 x (t + 1)) 252 x (iq m 252 x + 1)) 249 t = iq m 249 t := by rw [iq_ne (by omega) (by omega) (by omega), iq_ne (by omega) (by omega) (by omega)]
      rw [x2]
      simp only [j_ops]
      refine c_put (n := 1200) rfl (by decide) (by unfold r32; omega) (by omega) ?_
      have := ih (j + 1) (sq (sq (sq m 253 x (t + 1)) 252 x (iq m 252 x + 1)) 249 t (iq m 249 t + 1)) (by omega) ⟨f.tr (((((fr.rf _ m).si (by simp) _ _).si (by simp) _ _).si (by simp) _ _)), fun y y0 y1 => ?_, fun s s0 s1 => ?_⟩ (fun jj hjj => ?_)
      · rw [cast] at this
        exact this
      · simp only [hS y]
        obtain ⟨b1, b2, b3⟩ := hI1 y y0 y1
        by_cases z : y = x
        · subst z
          rw [iq_ne (by omega) (by omega) y0, iq_eq (by unfold r32; omega), iq_ne (by omega) (by omega) y0, iq_ne (by omega) (by omega) y0, iq_eq (by unfold r32; omega), bi_1 (Or.inr rfl)]
          exact ⟨by omega, fun _ => rfl, fun g => absurd (Or.inr rfl) g⟩
        · have e : ((S y ∨ y ∈ l.take j) ∨ y = x) ↔ (S y ∨ y ∈ l.take j) := ⟨fun g => by
            rcases g with g | g
            · exact g
            · exact absurd g z, fun g => Or.inl g⟩
          rw [propext e, iq_ne (by omega) (by omega) y0, iq_ne (Or.inr z) (by omega) y0, iq_ne (by omega) (by omega) y0, iq_ne (by omega) (by omega) y0, iq_ne (by omega) (by omega) y0, iq_ne (Or.inr z) (by omega) y0]
          exact ⟨b1, b2, b3⟩
      · have e1 : cnt (fun x => S x ∨ x ∈ l.take (j + 1)) (eK (BS N)).toNat = cnt (fun x => S x ∨ x ∈ l.take j) (eK (BS N)).toNat + 1 := by
          have := sm_upd (f := fun y => bi (S y ∨ y ∈ l.take (j + 1))) (g := fun y => bi (S y ∨ y ∈ l.take j)) (z := x) hxb.1 (eK (BS N)).toNat (by omega) (fun y y0 y1 y2 => bi_congr ((hS y).trans ⟨fun g => by
            rcases g with g | g
            · exact g
            · exact absurd g y2, fun g => Or.inl g⟩))
          rw [bi_1 ((hS x).mpr (Or.inr rfl)), bi_0 hSx] at this
          show sm (fun y => bi (S y ∨ y ∈ l.take (j + 1))) (eK (BS N)).toNat = sm (fun y => bi (S y ∨ y ∈ l.take j)) (eK (BS N)).toNat + 1
          rw [this]
          omega
        by_cases z : s = t
        · rw [z, if_neg (by omega), if_pos rfl, iq_eq (by unfold r32; omega), e49, e1]
        · have := hI2 s s0 s1
          rw [iq_ne (Or.inr z) (by omega) s0, iq_ne (by omega) (by omega) s0, iq_ne (by omega) (by omega) s0, this]
          by_cases g : s < t
          · rw [if_pos g, if_pos g]
          · rw [if_neg g, if_neg g, if_neg z, if_neg z]
      · rw [iq_ne (by omega) (by omega) (by omega), iq_ne (by omega) (by omega) (by omega), iq_ne (by omega) (by omega) (by omega)]
        exact h4 jj hjj
theorem c_matchOf {Q : Int32 → zM → Prop} {m mv : zM} {t k : Int} (hN : TR C mv b N) (hT : DT0 m N) (ht : 0 ≤ t ∧ t < Zn N) (hk : 0 ≤ k ∧ k < ct N t) (H : ∀ x, x = iq m 229 (iq m 239 t + k) → pkm N x = tr N t ∧ iq m 239 t + k < Mn N → Q (J x) m) : cI (d + 1) 89 [.ref 237, .int (J t), .int (J k)] w m Q := by
  have hM := Mn_b hN
  have hZ := Zn_b hN
  obtain ⟨a1, a2, a3, a4, a5, a6, a7, a8, a9, a10⟩ := hT.2.1 t ht.1 ht.2
  have hc := ct_b hN ht.1 ht.2
  refine S_Terms_matchOf (c_at (n := 1200) rfl (by decide) (by unfold r32; omega) (by omega) ?_)
  simp only [j_ops]
  refine c_at (n := 1200) rfl (by decide) (by unfold r32; omega) (by omega) (H _ rfl ⟨(a10 _ (by omega) (by omega)).mpr ⟨by omega, by omega⟩, by omega⟩)
theorem c_ar16 {Q : zM → Prop} {m0 : zM} {t : Int} (hb : zT b) (hN : TR C m0 b N) (hB : DB m0 N) (hD : DMt m0 N) (hT : DT0 m0 N) (ht : 0 ≤ t ∧ t < Zn N) (H : ∀ m, AI N m0 m t (fun x => Ar N t x) → W_Terms_countAround_10 (d + 2) b (J (t + 1)) w m Q) :
    ∀ (i : Nat) (k : Int) (m : zM), 0 ≤ k → k + i = ct N t → AI N m0 m t (fun x => ∃ k', 0 ≤ k' ∧ k' < k ∧ x ∈ sds N (iq m0 229 (iq m0 239 t + k'))) → W_Terms_countAround_16 (d + 2) b (J t) (J k) w m Q := by
  have hM := Mn_b hN
  have hZ := Zn_b hN
  have hc := ct_b hN ht.1 ht.2
  obtain ⟨a1, a2, a3, a4, a5, a6, a7, a8, a9, a10⟩ := hT.2.1 t ht.1 ht.2
  intro i
  induction i with
  | zero =>
    intro k m hk hi hI
    have e40 : iq m 240 t = ct N t := by rw [hI.1.i (by simp)]; exact a2
    refine S_Terms_countAround_16 (c_at (n := 1200) rfl (by decide) (by unfold r32; omega) (by omega) ?_)
    rw [e40]
    simp (disch := first | (unfold r32; omega) | omega) only [j_lit, J_le, j_ops]
    refine ⟨fun _ => H m (hI.ext (fun x => ?_)), fun q => by omega⟩
    constructor
    · intro ⟨k', k0, k1, hx⟩
      have hj := (a10 (iq m0 239 t + k') (by omega) (by omega)).mpr ⟨by omega, by omega⟩
      have hb2 := hD.2.2.2 (iq m0 239 t + k') (by omega) (by omega)
      exact ⟨_, hb2.1, hb2.2, hj, hx⟩
    · intro ⟨y, y0, y1, y2, hx⟩
      have hS : SB (AM N) (iq m0 229) 0 (((Mn N).toNat : Nat) : Int) := by rw [show (((Mn N).toNat : Nat) : Int) = Mn N by omega]; exact hD.2.2
      obtain ⟨j, j0, j1, ej⟩ := prm_sur (hS.prm (AM_ord N _)) y0 (show y < (((Mn N).toNat : Nat) : Int) by omega)
      have := (a10 j j0 (by omega)).mp (by rw [ej]; exact y2)
      refine ⟨j - iq m0 239 t, by omega, by omega, ?_⟩
      rw [show iq m0 239 t + (j - iq m0 239 t) = j by omega, ej]
      exact hx
  | succ i ih =>
    intro k m hk hi hI
    have e40 : iq m 240 t = ct N t := by rw [hI.1.i (by simp)]; exact a2
    have hTm := hT.frm hI.1 (by simp) (by simp) (by simp) (by simp) (by simp) (by simp) (by simp) (by simp) (by simp) (by simp) (by simp)
    have hNm := hN.frm hI.1 hb (by intro c hc; simp at hc; omega)
    have hBm := hB.frm hI.1 (by decide)
    have hDm := hD.frm hI.1 (by decide)
    have e29 : ∀ j, iq m 229 j = iq m0 229 j := hI.1.i (by simp)
    have e39 : iq m 239 t = iq m0 239 t := hI.1.i (by simp) t
    refine S_Terms_countAround_16 (c_at (n := 1200) rfl (by decide) (by unfold r32; omega) (by omega) ?_)
    rw [e40]
    simp (disch := first | (unfold r32; omega) | omega) only [j_lit, J_le, j_ops]
    refine ⟨fun q => by omega, fun _ => c_matchOf (d := d + 1) hN hTm ht ⟨hk, by omega⟩ (fun x hx hp => ?_)⟩
    rw [e29, e39] at hx
    rw [e39] at hp
    have hxb := hD.2.2.2 (iq m0 239 t + k) (by omega) hp.2
    rw [← hx] at hxb
    refine c_beside (d := d) hb hNm hBm hDm.1 hxb.1 hxb.2 (fun m' f h4 => ?_)
    have := c_ar32 (d := d + 2) (w := w) (Q := Q) (t := t) (k := k) (S := fun x => ∃ k', 0 ≤ k' ∧ k' < k ∧ x ∈ sds N (iq m0 229 (iq m0 239 t + k'))) (l := sds N x) hN ht ⟨hk, by omega⟩ (sds_len hN x) (sds_mem hN hxb.1 hxb.2) (fun m2 h2 => ih (k + 1) m2 (by omega) (by omega) (h2.ext (fun y => ?_))) (sds N x).length 0 m' (by omega) ((hI.f254 f).ext (fun y => by simp)) h4
    · exact this
    · constructor
      · intro g
        rcases g with ⟨k', k0, k1, g⟩ | g
        · exact ⟨k', k0, by omega, g⟩
        · exact ⟨k, hk, by omega, by rw [← hx]; exact g⟩
      · intro ⟨k', k0, k1, g⟩
        by_cases z : k' = k
        · rw [z, ← hx] at g; exact Or.inr g
        · exact Or.inl ⟨k', k0, by omega, g⟩
theorem c_around {Q : zM → Prop} {m0 : zM} (hb : zT b) (hN : TR C m0 b N) (hB : DB m0 N) (hD : DMt m0 N) (hT : DT0 m0 N) (hz : ∀ t, 0 ≤ t → t < Zn N → iq m0 249 t = 0) (H : ∀ m, fr [249, 252, 253, 254] m0 m → (∀ x, 0 ≤ x → x < eK (BS N) → iq m 252 x = lk N x) → (∀ t, 0 ≤ t → t < Zn N → iq m 249 t = ua N t) → Q m) : cV (d + 3) 86 [.ref 237, .ref b] w m0 Q := by
  have hM := Mn_b hN
  have hZ := Zn_b hN
  have hBk := BS_k hN
  have hW := hN.words
  refine S_Terms_countAround ?_
  simp only [j_lit]
  refine c_clear (n := 240) rfl (by decide) (by omega) (fun m1 f1 z1 => c_clear (n := 240) rfl (by decide) (by omega) (fun m2 f2 z2 => ?_))
  have f12 : fr [252, 253] m0 m2 := (f1.mo (by simp)).tr (f2.mo (by simp))
  have hN2 := hN.frm f12 hb (by intro c hc; simp at hc; omega)
  have hB2 := hB.frm f12 (by decide)
  have hD2 := hD.frm f12 (by decide)
  have hT2 := hT.frm f12 (by simp) (by simp) (by simp) (by simp) (by simp) (by simp) (by simp) (by simp) (by simp) (by simp) (by simp)
  have key : ∀ (i : Nat) (t : Int) (m : zM), 0 ≤ t → t + i = Zn N → AI N m2 m t (fun _ => False) → W_Terms_countAround_10 (d + 2) b (J t) w m Q := by
    intro i
    induction i with
    | zero =>
      intro t m ht hi hI
      have e19 : iq m 237 19 = Zn N := (hI.1.i (by simp) 19).trans hT2.1
      refine S_Terms_countAround_10 ?_
      simp (disch := first | (unfold r32; omega) | omega) only [j_lit, J_le, j_rd, j_nc, e19]
      refine ⟨fun _ => H m ((f12.mo (by simp)).tr hI.1) (fun x x0 x1 => ?_) (fun s s0 s1 => ?_), fun q => by omega⟩
      · rw [(hI.2.1 x x0 x1).1, bi_0 (fun z => z)]
        unfold lk
        rw [show t = Zn N by omega]
        omega
      · rw [hI.2.2 s s0 s1, if_pos (by omega)]
    | succ i ih =>
      intro t m ht hi hI
      have e19 : iq m 237 19 = Zn N := (hI.1.i (by simp) 19).trans hT2.1
      refine S_Terms_countAround_10 ?_
      simp (disch := first | (unfold r32; omega) | omega) only [j_lit, J_le, j_rd, j_nc, e19]
      have hc := ct_b hN ht (show t < Zn N by omega)
      refine ⟨fun q => by omega, fun _ => c_ar16 (d := d) hb hN2 hB2 hD2 hT2 ⟨ht, by omega⟩ (fun m' h' => ih (t + 1) m' (by omega) (by omega) ⟨h'.1, fun x x0 x1 => ?_, fun s s0 s1 => ?_⟩) (ct N t).toNat 0 m (by omega) (by omega) (hI.ext (fun x => ⟨fun g => absurd g (fun z => z), fun ⟨k', k0, k1, _⟩ => by omega⟩))⟩
      · obtain ⟨b1, b2, b3⟩ := h'.2.1 x x0 x1
        have b1' : iq m' 252 x = cnt (fun t => Ar N t x) t.toNat + bi (Ar N t x) := b1
        have cz : cnt (fun t => Ar N t x) (t + 1).toNat = cnt (fun t => Ar N t x) t.toNat + bi (Ar N t x) := cnt_z _ ht
        rw [cz, bi_0 (fun z => z), b1']
        refine ⟨by omega, fun z => absurd z (fun y => y), fun _ => ?_⟩
        by_cases z : Ar N t x
        · have := b2 z; omega
        · have := b3 z; omega
      · have := h'.2.2 s s0 s1
        rw [this]
        by_cases g : s < t
        · rw [if_pos g, if_pos (by omega)]
        · rw [if_neg g]
          by_cases z : s = t
          · rw [if_pos z, if_pos (by omega), z]; rfl
          · rw [if_neg z, if_neg (by omega)]
            by_cases y : s = t + 1
            · rw [if_pos y]; exact (cnt_no _ (fun _ _ _ z => z)).symm
            · rw [if_neg y]
  refine key (Zn N).toNat 0 m2 (by omega) (by omega) ⟨fr.rf _ _, fun x x0 x1 => ?_, fun s s0 s1 => ?_⟩
  · rw [bi_0 (fun z => z), z2 x x0 (by omega), f2.i (by simp), z1 x x0 (by omega)]
    exact ⟨rfl, fun z => absurd z (fun y => y), fun _ => Int.le_refl _⟩
  · rw [f12.i (by simp), hz s s0 s1, if_neg (by omega)]
    by_cases z : s = 0
    · rw [if_pos z]; exact (cnt_no _ (fun _ _ _ z => z)).symm
    · rw [if_neg z]
end ARD
