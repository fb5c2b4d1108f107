/-! the sums near the terms, the terms whole: the class -/
def lsm (f : Int → Int) (l : List Int) : Int := l.foldr (fun x r => f x + r) 0
theorem lsm_app (f : Int → Int) (l : List Int) (x : Int) : lsm f (l ++ [x]) = lsm f l + f x := by
  induction l with
  | nil => show f x + 0 = 0 + f x; omega
  | cons y l ih =>
    show f y + lsm f (l ++ [x]) = f y + lsm f l + f x
    rw [ih]; omega
theorem lsm_b {f : Int → Int} {B : Int} : ∀ l : List Int, (∀ x ∈ l, 0 ≤ f x ∧ f x ≤ B) → 0 ≤ lsm f l ∧ lsm f l ≤ l.length * B := by
  intro l
  induction l with
  | nil => intro _; show (0 : Int) ≤ 0 ∧ (0 : Int) ≤ ((0 : Nat) : Int) * B; simp
  | cons y l ih =>
    intro h
    have h1 := h y (by simp)
    have h2 := ih (fun x hx => h x (by simp [hx]))
    have e : (((y :: l).length : Nat) : Int) * B = (l.length : Int) * B + B := by
      rw [List.length_cons, show (((l.length + 1 : Nat) : Nat) : Int) = (l.length : Int) + 1 by omega, Int.add_mul, Int.one_mul]
    rw [e]
    show 0 ≤ f y + lsm f l ∧ f y + lsm f l ≤ (l.length : Int) * B + B
    omega
noncomputable def nrk (N : Int → Int) (t : Int) (k : Nat) : Int := sm (fun m => bi (pkm N m = tr N t) * lsm (lk N) (sds N m)) k
noncomputable def nr (N : Int → Int) (t : Int) : Int := nrk N t (Mn N).toNat
abbrev ST : List Nat := [233, 237, 238, 239, 240, 241, 242, 243, 244, 245, 246, 247, 248, 249, 250, 251, 252, 253, 254]
def DC (m : zM) (N : Int → Int) : Prop := DB m N ∧ DMt m N ∧ DT0 m N ∧ (∀ u, 0 ≤ u → u < Zn N → iq m 242 u = lo N u ∧ iq m 243 u = tkn N u ∧ iq m 247 u = gn N u ∧ iq m 249 u = ua N u ∧ iq m 250 u = nr N u) ∧ ∀ x, 0 ≤ x → x < eK (BS N) → iq m 252 x = lk N x
section NEA
variable {d : Nat} {w : Nat × Nat × Nat} {b : Nat} {C : Int} {N : Int → Int} {mv : zM}
theorem lk_b (h : TR C mv b N) (x : Int) : 0 ≤ lk N x ∧ lk N x ≤ 1200 := by
  have hZ := Zn_b h
  have hM := Mn_b h
  have := cnt_b (fun t => Ar N t x) (Zn N).toNat
  unfold lk
  omega
theorem lsk_b (h : TR C mv b N) (l : List Int) (hl : l.length ≤ 6) : 0 ≤ lsm (lk N) l ∧ lsm (lk N) l ≤ 7200 := by
  have := lsm_b (f := lk N) (B := 1200) l (fun x _ => lk_b h x)
  omega
theorem nrk_b (h : TR C mv b N) (t : Int) (k : Nat) : 0 ≤ nrk N t k ∧ nrk N t k ≤ k * 7200 := by
  have key : ∀ m, 0 ≤ bi (pkm N m = tr N t) * lsm (lk N) (sds N m) ∧ bi (pkm N m = tr N t) * lsm (lk N) (sds N m) ≤ 7200 := fun m => by
    have := lsk_b h (sds N m) (sds_len h m)
    by_cases g : pkm N m = tr N t
    · rw [bi_1 g, Int.one_mul]; exact this
    · rw [bi_0 g, Int.zero_mul]; omega
  have h0 : sm (fun _ => (0 : Int)) k ≤ nrk N t k := sm_le k (fun m _ _ => (key m).1)
  have h1 : nrk N t k ≤ sm (fun _ => (7200 : Int)) k := sm_le k (fun m _ _ => (key m).2)
  rw [sm_const] at h0 h1
  omega
theorem c_nr20 {Q : zM → Prop} {m0 : zM} {k : Int} {l : List Int} (hN : TR C m0 b N) (hk : 0 ≤ k ∧ k < Mn N) (hL : ∀ x, 0 ≤ x → x < eK (BS N) → iq m0 252 x = lk N x) (hl : l.length ≤ 6) (hm : ∀ x ∈ l, 0 ≤ x ∧ x < eK (BS N)) (H : ∀ m, fr [250, 254] m0 m → (∀ s, 0 ≤ s → s < Zn N → iq m 250 s = nrk N s k.toNat + (if s = tn N k then lsm (lk N) l else 0)) → W_Terms_sumNear_2 d b (J (k + 1)) w m Q) :
    ∀ (i j : Nat) (m : zM), j + i = l.length → fr [250, 254] m0 m → (∀ s, 0 ≤ s → s < Zn N → iq m 250 s = nrk N s k.toNat + (if s = tn N k then lsm (lk N) (l.take j) else 0)) → B4 m l → W_Terms_sumNear_20 d b (J k) (J (tn N k)) (J (l.length : Int)) (J (j : Int)) w m Q := by
  have hM := Mn_b hN
  have hZ := Zn_b hN
  have hBk := BS_k hN
  have hW := hN.words
  have hK0 := eK_0 (BS_b hN)
  have htn := tn_in hN hk.1 hk.2
  intro i
  induction i with
  | zero =>
    intro j m hj f hI h4
    refine S_Terms_sumNear_20 ?_
    simp (disch := first | (unfold r32; omega) | omega) only [j_lit, J_le, j_ops]
    rw [List.take_of_length_le (by omega)] at hI
    exact ⟨fun _ => H m f hI, fun q => by omega⟩
  | succ i ih =>
    intro j m hj f hI h4
    have hjl : j < l.length := by omega
    have hv := h4 j hjl
    have hvm : l.getD j 0 ∈ l := by rw [List.getD_eq_getElem?_getD, List.getElem?_eq_getElem hjl]; exact List.getElem_mem hjl
    obtain ⟨x, hx⟩ : ∃ x, l.getD j 0 = x := ⟨_, rfl⟩
    rw [hx] at hv hvm
    have hxb := hm x hvm
    have htake : l.take (j + 1) = l.take j ++ [x] := by
      rw [List.take_succ_eq_append_getElem hjl]
      congr 2
      rw [← hx, List.getD_eq_getElem?_getD, List.getElem?_eq_getElem hjl]
      rfl
    have cast : (((j + 1 : Nat) : Nat) : Int) = (j : Int) + 1 := by omega
    have e52 : iq m 252 x = lk N x := by rw [f.i (by simp)]; exact hL x hxb.1 hxb.2
    have b1 := nrk_b hN (tn N k) k.toNat
    have b2 := lk_b hN x
    have b3 := lsk_b hN (l.take j) (by rw [List.length_take]; omega)
    have e50 := hI (tn N k) htn.1 htn.2.1
    rw [if_pos rfl] at e50
    refine S_Terms_sumNear_20 ?_
    simp (disch := first | (unfold r32; omega) | omega) only [j_lit, J_le, j_ops]
    refine ⟨fun q => by omega, fun _ => c_at (n := 1200) rfl (by decide) (by unfold r32; omega) (by omega) (c_at (n := 6) rfl (by decide) (by unfold r32; omega) (by omega) ?_)⟩
    rw [hv]
    refine c_at (n := 240) rfl (by decide) (by unfold r32; omega) (by omega) ?_
    rw [e52, e50]
    simp only [j_ops]
    refine c_put (n := 1200) rfl (by decide) (by unfold r32; omega) (by omega) ?_
    have := ih (j + 1) (sq m 250 (tn N k) (nrk N (tn N k) k.toNat + lsm (lk N) (l.take j) + lk N x)) (by omega) (f.si (by simp) _ _) (fun s s0 s1 => ?_) (fun jj hjj => ?_)
    · rw [cast] at this
      exact this
    · by_cases z : s = tn N k
      · rw [z, if_pos rfl, iq_eq (by unfold r32; omega), htake, lsm_app]
        omega
      · rw [iq_ne (Or.inr z) (by omega) s0, hI s s0 s1, if_neg z, if_neg z]
    · rw [iq_ne (by omega) (by omega) (by omega)]
      exact h4 jj hjj
theorem c_near {Q : zM → Prop} {m0 : zM} (hb : zT b) (hN : TR C m0 b N) (hB : DB m0 N) (hD : DMt m0 N) (hT : DT0 m0 N) (hL : ∀ x, 0 ≤ x → x < eK (BS N) → iq m0 252 x = lk N x) (hz : ∀ t, 0 ≤ t → t < Zn N → iq m0 250 t = 0) (H : ∀ m, fr [250, 254] m0 m → (∀ t, 0 ≤ t → t < Zn N → iq m 250 t = nr N t) → Q m) : cV (d + 3) 87 [.ref 237, .ref b] w m0 Q := by
  have hM := Mn_b hN
  have hZ := Zn_b hN
  refine S_Terms_sumNear ?_
  simp only [j_lit]
  have key : ∀ (i : Nat) (k : Int) (m : zM), 0 ≤ k → k + i = Mn N → fr [250, 254] m0 m → (∀ s, 0 ≤ s → s < Zn N → iq m 250 s = nrk N s k.toNat) → W_Terms_sumNear_2 (d + 2) b (J k) w m Q := by
    intro i
    induction i with
    | zero =>
      intro k m hk hi f hI
      have e8 : iq m 228 8 = Mn N := (f.i (by simp) 8).trans hD.1.1
      refine S_Terms_sumNear_2 ?_
      simp (disch := first | (unfold r32; omega) | omega) only [j_lit, J_le, j_rd, j_nc, e8]
      refine ⟨fun _ => H m f (fun s s0 s1 => ?_), fun q => by omega⟩
      rw [hI s s0 s1, show k = Mn N by omega]
      rfl
    | succ i ih =>
      intro k m hk hi f hI
      have e8 : iq m 228 8 = Mn N := (f.i (by simp) 8).trans hD.1.1
      have e33 : iq m 233 k = tn N k := (f.i (by simp) k).trans (hT.2.2 k hk (by omega))
      have hNm := hN.frm f hb (by intro c hc; simp at hc; omega)
      have hBm := hB.frm f (by decide)
      have hDm := hD.frm f (by decide)
      refine S_Terms_sumNear_2 ?_
      simp (disch := first | (unfold r32; omega) | omega) only [j_lit, J_le, j_rd, j_nc, e8]
      refine ⟨fun q => by omega, fun _ => c_at (n := 1200) rfl (by decide) (by unfold r32; omega) (by omega) ?_⟩
      rw [e33]
      refine c_beside (d := d) hb hNm hBm hDm.1 hk (by omega) (fun m' f' h4 => ?_)
      have := c_nr20 (d := d + 2) (w := w) (Q := Q) (k := k) (l := sds N k) hN ⟨hk, by omega⟩ hL (sds_len hN k) (sds_mem hN hk (by omega)) (fun m2 f2 h2 => ih (k + 1) m2 (by omega) (by omega) f2 (fun s s0 s1 => ?_)) (sds N k).length 0 m' (by omega) (f.tr (f'.mo (by simp))) (fun s s0 s1 => ?_) h4
      · exact this
      · rw [h2 s s0 s1]
        unfold nrk
        rw [sm_z _ hk]
        by_cases z : s = tn N k
        · rw [if_pos z, bi_1 ((tn_is hN hk (by omega) s0 s1).mp z.symm), Int.one_mul]
        · rw [if_neg z, bi_0 (fun y => z ((tn_is hN hk (by omega) s0 s1).mpr y).symm), Int.zero_mul]
      · rw [f'.i (by simp), hI s s0 s1]
        by_cases z : s = tn N k
        · rw [if_pos z]; show _ = _ + (0 : Int); omega
        · rw [if_neg z]; omega
  exact key (Mn N).toNat 0 m0 (by omega) (by omega) (fr.rf _ _) (fun s s0 s1 => by rw [hz s s0 s1]; rfl)
theorem c_terms {Q : zM → Prop} {m : zM} (hb : zT b) (hN : TR C m b N) (hB : DB m N) (hD : DMt m N) (H : ∀ m', fr ST m m' → DC m' N → Q m') : cV (d + 6) 80 [.ref 237, .ref b] w m Q := by
  have hM := Mn_b hN
  have hZ := Zn_b hN
  refine S_Terms_build (S_Terms_gather ?_)
  simp only [j_lit, j_wr, j_nc]
  have f0 : fr SG m (sq m 237 19 0) := (fr.rf _ m).si (by simp) _ _
  have hN0 := hN.frm f0 hb SG_b
  have hB0 := hB.frm f0 (by decide)
  have hD0 := hD.frm f0 (by decide)
  have e0 : iq (sq m 237 19 0) 237 19 = 0 := iq_eq (by unfold r32; omega)
  refine c_gather_l (d := d + 2) hb hN0 hD0 (fun m1 T run best h1 => ?_) (Mn N).toNat 0 0 0 0 _ (by omega) (by omega) ⟨fr.rf _ _, e0, ⟨by omega, fun i j _ _ _ => by omega, fun i _ _ => by omega, fun x ⟨i, a, b, _⟩ => by omega⟩, by omega, fun t _ _ => by omega, fun q => by omega, fun j _ _ => by omega, by omega, by omega, by omega, by omega, fun _ => rfl⟩
  obtain ⟨hT, hz⟩ := h1.fin hN0 hD0
  have hN1 := hN0.frm h1.1 hb SG_b
  have hB1 := hB0.frm h1.1 (by decide)
  have hD1 := hD0.frm h1.1 (by decide)
  refine c_longer (d := d + 1) hN1 hT (fun t t0 t1 => ⟨(hz t t0 t1).1, (hz t t0 t1).2.1, (hz t t0 t1).2.2.2.2.2⟩) (fun m2 f2 h2 => ?_)
  have hN2 := hN1.frm f2 hb (by intro c hc; simp at hc; omega)
  have hB2 := hB1.frm f2 (by decide)
  have hD2 := hD1.frm f2 (by decide)
  have hT2 := hT.frm f2 (by simp) (by simp) (by simp) (by simp) (by simp) (by simp) (by simp) (by simp) (by simp) (by simp) (by simp)
  refine c_general (d := d) hb hN2 hT2 hB2 (fun t t0 t1 => by rw [f2.i (by simp)]; exact (hz t t0 t1).2.2.1) (fun m3 f3 h3 => ?_)
  have hN3 := hN2.frm f3 hb (by intro c hc; simp at hc; omega)
  have hB3 := hB2.frm f3 (by decide)
  have hD3 := hD2.frm f3 (by decide)
  have hT3 := hT2.frm f3 (by simp) (by simp) (by simp) (by simp) (by simp) (by simp) (by simp) (by simp) (by simp) (by simp) (by simp)
  refine c_around (d := d + 2) hb hN3 hB3 hD3 hT3 (fun t t0 t1 => by rw [f3.i (by simp), f2.i (by simp)]; exact (hz t t0 t1).2.2.2.1) (fun m4 f4 h4 h4' => ?_)
  have hN4 := hN3.frm f4 hb (by intro c hc; simp at hc; omega)
  have hB4 := hB3.frm f4 (by decide)
  have hD4 := hD3.frm f4 (by decide)
  have hT4 := hT3.frm f4 (by simp) (by simp) (by simp) (by simp) (by simp) (by simp) (by simp) (by simp) (by simp) (by simp) (by simp)
  refine c_near (d := d + 2) hb hN4 hB4 hD4 hT4 h4 (fun t t0 t1 => by rw [f4.i (by simp), f3.i (by simp), f2.i (by simp)]; exact (hz t t0 t1).2.2.2.2.1) (fun m5 f5 h5 => ?_)
  refine H m5 ((((((f0.mo (by simp)).tr (h1.1.mo (by simp))).tr (f2.mo (by simp))).tr (f3.mo (by simp))).tr (f4.mo (by simp))).tr (f5.mo (by simp))) ⟨hB4.frm f5 (by decide), hD4.frm f5 (by decide), hT4.frm f5 (by simp) (by simp) (by simp) (by simp) (by simp) (by simp) (by simp) (by simp) (by simp) (by simp) (by simp), fun u u0 u1 => ⟨?_, ?_, ?_, ?_, h5 u u0 u1⟩, fun x x0 x1 => ?_⟩
  · rw [f5.i (by simp), f4.i (by simp), f3.i (by simp)]; exact (h2 u u0 u1).1
  · rw [f5.i (by simp), f4.i (by simp), f3.i (by simp)]; exact (h2 u u0 u1).2
  · rw [f5.i (by simp), f4.i (by simp)]; exact h3 u u0 u1
  · rw [f5.i (by simp)]; exact h4' u u0 u1
  · rw [f5.i (by simp)]; exact h4 x x0 x1
abbrev SC : List Nat := [220, 221, 222, 223, 224, 225, 226, 227, 228, 229, 231, 232, 233, 234, 235, 236, 237, 238, 239, 240, 241, 242, 243, 244, 245, 246, 247, 248, 249, 250, 252]
theorem DC.frm {S : List Nat} {m m' : zM} (h : DC m N) (f : fr S m m') (hs : ∀ c ∈ S, c < 220 ∨ c = 230 ∨ c = 251 ∨ 253 ≤ c) : DC m' N := by
  have k : ∀ c, 220 ≤ c → c ≠ 230 → c ≠ 251 → c < 253 → c ∉ S := fun c a1 a2 a3 a4 q => by have := hs c q; omega
  obtain ⟨hB, hD, hT, h1, h2⟩ := h
  refine ⟨hB.frm f (fun c hc => ?_), ⟨hD.1.frm f (k _ (by omega) (by omega) (by omega) (by omega)) (k _ (by omega) (by omega) (by omega) (by omega)) (k _ (by omega) (by omega) (by omega) (by omega)) (k _ (by omega) (by omega) (by omega) (by omega)) (k _ (by omega) (by omega) (by omega) (by omega)), hD.2.1.frm f (k _ (by omega) (by omega) (by omega) (by omega)), hD.2.2.congr (fun i _ _ => f.i (k 229 (by omega) (by omega) (by omega) (by omega)) i)⟩, hT.frm f (k _ (by omega) (by omega) (by omega) (by omega)) (k _ (by omega) (by omega) (by omega) (by omega)) (k _ (by omega) (by omega) (by omega) (by omega)) (k _ (by omega) (by omega) (by omega) (by omega)) (k _ (by omega) (by omega) (by omega) (by omega)) (k _ (by omega) (by omega) (by omega) (by omega)) (k _ (by omega) (by omega) (by omega) (by omega)) (k _ (by omega) (by omega) (by omega) (by omega)) (k _ (by omega) (by omega) (by omega) (by omega)) (k _ (by omega) (by omega) (by omega) (by omega)) (k _ (by omega) (by omega) (by omega) (by omega)), fun u u0 u1 => ?_, fun x x0 x1 => ?_⟩
  · simp at hc
    exact k c (by omega) (by omega) (by omega) (by omega)
  · rw [f.i (k 242 (by omega) (by omega) (by omega) (by omega)), f.i (k 243 (by omega) (by omega) (by omega) (by omega)), f.i (k 247 (by omega) (by omega) (by omega) (by omega)), f.i (k 249 (by omega) (by omega) (by omega) (by omega)), f.i (k 250 (by omega) (by omega) (by omega) (by omega))]
    exact h1 u u0 u1
  · rw [f.i (k 252 (by omega) (by omega) (by omega) (by omega))]
    exact h2 x x0 x1
abbrev SDR : List Nat := [220, 221, 222, 223, 224, 225, 226, 227, 228, 229, 230, 231, 232, 233, 234, 235, 236, 237, 238, 239, 240, 241, 242, 243, 244, 245, 246, 247, 248, 249, 250, 251, 252, 253, 254]
theorem c_draw {Q : zM → Prop} {m : zM} (hb : zT w.2.1) (hN : TR C m w.2.1 N) (h : iq m 3 14 = 0 ∨ iq m 3 14 = 1 ∧ DC m N) (H1 : iq m 3 14 = 1 → DC m N → Q m) (H0 : iq m 3 14 = 0 → ∀ m3, fr SDR m m3 → DC (sq (sq m3 255 6 0) 3 14 1) N → Q (sq (sq m3 255 6 0) 3 14 1)) : cV (d + 8) 151 [.ref 3] w m Q := by
  refine S_T_draw hb ?_
  simp (disch := first | (unfold r32; omega) | omega) only [j_lit, J_eq, j_rd, j_wr, j_nc]
  rcases h with h | ⟨h, hd⟩
  · rw [h]
    refine ⟨fun _ => ?_, fun q => absurd rfl q⟩
    refine c_basesBuild (d := d + 1) hb hN (fun m1 f1 h1 => ?_)
    have hN1 := hN.frm f1 hb S8_b
    refine c_matches (d := d) hb hN1 h1 (fun m2 f2 h2 => ?_)
    have hN2 := hN1.frm f2 hb (by intro c hc; simp at hc; omega)
    have hB2 := h1.frm f2 (by decide)
    refine c_terms (d := d + 1) hb hN2 hB2 h2 (fun m3 f3 h3 => ?_)
    refine H0 h m3 (((f1.mo (by simp)).tr (f2.mo (by simp))).tr (f3.mo (by simp))) (h3.frm (S := [255, 3]) (((fr.rf _ m3).si (by simp) _ _).si (by simp) _ _) (by intro c hc; simp at hc; omega))
  · rw [h]
    exact ⟨fun q => by omega, fun _ => H1 h hd⟩
end NEA
