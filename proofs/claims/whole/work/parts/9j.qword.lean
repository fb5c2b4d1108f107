/-! word, kindAt: both sides -/
def IVB (C : Int) (w : Nat × Nat × Nat) (m : zM) (N : Int → Int) : Prop := RG C w m ∧ (∃ T n, tpC m T n ∧ tpM m T n) ∧ FT m ∧ rowM m N ∧ TR C m w.2.1 N ∧ (iq m 3 14 = 0 ∨ iq m 3 14 = 1 ∧ DC m N ∧ RKs m N) ∧ (iq m 261 20 = 0 ∨ iq m 261 20 = 1 ∧ DM m N)
/-- the class's slate says L; the reference's does -/
def SLC (m : zM) (L : List Int) : Prop := iq m 6 1 = L.length ∧ ∀ i : Nat, i < L.length → iq m 7 i = L.getD i 0
def SLM (m : zM) (L : List Int) : Prop := iq m 261 54 = L.length ∧ ∀ i : Nat, i < L.length → iq m 294 i = L.getD i 0
def bok (L : List Int) : Prop := ∀ x ∈ L, x = 32 ∨ (97 ≤ x ∧ x ≤ 122)
/-- only the class's slate, only the reference's is written -/
def FC (m m' : zM) : Prop := fr [6, 7] m m'
def FM (m m' : zM) : Prop := fr [261, 294] m m' ∧ (∀ z, 0 ≤ z → z ≠ 54 → iq m' 261 z = iq m 261 z) ∧ m'.2 = m.2
/-- a word that is asked for -/
def vW (N : Int → Int) (a i : Int) : Prop := 0 ≤ a ∧ a < N 259 ∧ 0 ≤ i ∧ i < N (261 + a) - N (260 + a)
def lb (r : Int) : Int := if r = 0 then 110 else if r = 1 then 97 else if r = 2 then 118 else if r = 3 then 112 else if r = 4 then 100 else if r = 5 then 111 else 120
theorem pkr_lb {c r : Int} (h : pkr c r) (h6 : r ≤ 6) : c = lb r := by
  unfold pkr kr at h
  unfold lb
  rcases h with (⟨a, b⟩ | ⟨a, b⟩ | ⟨a, b⟩ | ⟨a, b⟩ | ⟨a, b⟩ | ⟨a, b⟩) | ⟨a, b⟩ | ⟨a, b⟩ <;> first | (subst a; subst b; rfl) | omega
theorem sp_ok {l : List Int} (h : wd l) : bok (sp l) := fun x hx => by
  unfold sp at hx
  obtain ⟨y, hy, e⟩ := List.mem_map.mp hx
  have := h.2 y hy
  omega
section QWO
variable {d : Nat} {w : Nat × Nat × Nat} {C : Int} {N : Int → Int} {mv : zM} {b : Nat}
theorem IVN.ba {m : zM} (h : IVN C w m N) : IVB C w m N := ⟨h.1, h.2.1, h.2.2.1, h.2.2.2.1, h.2.2.2.2.1, h.2.2.2.2.2.2.1, h.2.2.2.2.2.2.2⟩
theorem IVB.n {m : zM} (h : IVB C w m N) (s : SLt m) : IVN C w m N := ⟨h.1, h.2.1, h.2.2.1, h.2.2.2.1, h.2.2.2.2.1, s, h.2.2.2.2.2.1, h.2.2.2.2.2.2⟩
theorem IVB.zT {m : zM} (h : IVB C w m N) : zT w.2.1 := by
  obtain ⟨h1, h2, h3, h4, h5, h6, h7, h8⟩ := h.1
  rw [h6]; exact tb_T h1 h2
theorem SLC_SLM {m : zM} {L : List Int} (hc : SLC m L) (hm : SLM m L) (hl : L.length ≤ 54) (hb : bok L) : SLt m := by
  refine ⟨by have := hc.1; omega, by have := hc.1; omega, hm.1.trans hc.1.symm, fun k k0 k1 => ?_⟩
  have hk : k.toNat < L.length := by have := hc.1; omega
  have e1 := hc.2 k.toNat hk
  have e2 := hm.2 k.toNat hk
  rw [show ((k.toNat : Nat) : Int) = k by omega] at e1 e2
  have hx := hb (L.getD k.toNat 0) (by rw [List.getD_eq_getElem?_getD, List.getElem?_eq_getElem hk]; exact List.getElem_mem hk)
  rw [e1, e2]
  exact ⟨rfl, hx⟩
theorem DM.mvd {S : List Nat} {m m' : zM} (h : DM m N) (f : fr S m m') (hs : ∀ c ∈ S, c < 268 ∨ 289 ≤ c) (e : ∀ z, z = 21 ∨ z = 26 ∨ z = 32 ∨ z = 43 → iq m' 261 z = iq m 261 z) : DM m' N := by
  have k : ∀ c, 268 ≤ c → c < 289 → c ∉ S := fun c a1 a2 q => by have := hs c q; omega
  obtain ⟨⟨a1, a2, a3, a4, a5⟩, ⟨b1, b2, b3, b4, b5⟩, h3, h4, h5⟩ := h
  refine ⟨⟨(e 21 (by omega)).trans a1, (e 43 (by omega)).trans a2, fun i i0 i1 => ?_, fun t t0 t1 => ?_, fun i i0 i1 => ?_⟩, ⟨(e 26 (by omega)).trans b1, (e 32 (by omega)).trans b2, fun i i0 i1 => ?_, fun t t0 t1 => ?_, fun y y0 y1 => ?_⟩, h3.frm f (k _ (by omega) (by omega)) (k _ (by omega) (by omega)) (k _ (by omega) (by omega)) (k _ (by omega) (by omega)) (k _ (by omega) (by omega)) (k _ (by omega) (by omega)), fun t t0 t1 => ?_, fun x x0 x1 => ?_⟩
  · rw [f.l (k 268 (by omega) (by omega)), f.i (k 269 (by omega) (by omega)), f.i (k 270 (by omega) (by omega)), f.i (k 287 (by omega) (by omega))]; exact a3 i i0 i1
  · rw [f.l (k 286 (by omega) (by omega))]; exact a4 t t0 t1
  · rw [f.l (k 271 (by omega) (by omega))]; exact a5 i i0 i1
  · rw [f.i (k 272 (by omega) (by omega)), f.i (k 273 (by omega) (by omega))]; exact b3 i i0 i1
  · unfold rk
    rw [f.i (k 277 (by omega) (by omega)), f.i (k 278 (by omega) (by omega))]; exact b4 t t0 t1
  · rw [f.i (k 276 (by omega) (by omega))]; exact b5 y y0 y1
  · rw [f.i (k 283 (by omega) (by omega)), f.i (k 284 (by omega) (by omega)), f.i (k 285 (by omega) (by omega))]
    exact h4 t t0 t1
  · rw [f.i (k 288 (by omega) (by omega))]
    exact h5 x x0 x1
theorem IVB.fc {m m' : zM} (h : IVB C w m N) (f : FC m m') : IVB C w m' N := by
  obtain ⟨h1, h2, h3, h4, h5, h7, h8⟩ := id h
  have cell : ∀ c, c ≠ 6 → c ≠ 7 → m'.1 c = m.1 c ∧ m'.2 c = m.2 c := fun c c1 c2 => f c (by simp; exact ⟨c1, c2⟩)
  have i3 : ∀ z, iq m' 3 z = iq m 3 z := fr.i f (by simp)
  have i61 : ∀ z, iq m' 261 z = iq m 261 z := fr.i f (by simp)
  obtain ⟨r1, r2, r3, r4, r5⟩ := QR.base (N := N) h.zT h1 h2 h3 h4 h5 ⟨fun c c1 c2 c3 c4 => cell c c3 c4, fun c hc => cell c (by omega) (by omega), fun z _ _ => i3 z, fun z _ _ _ => i61 z⟩
  refine ⟨r1, r2, r3, r4, r5, ?_, ?_⟩
  · rcases h7 with g | ⟨g, g1, g2⟩
    · exact Or.inl ((i3 14).trans g)
    · exact Or.inr ⟨(i3 14).trans g, g1.frm f (by intro c hc; simp at hc; omega), g2.frm f (by simp) (by simp)⟩
  · rcases h8 with g | ⟨g, g1⟩
    · exact Or.inl ((i61 20).trans g)
    · exact Or.inr ⟨(i61 20).trans g, g1.frm f (by intro c hc; simp at hc; omega)⟩
theorem IVB.fm {m m' : zM} (h : IVB C w m N) (f : FM m m') : IVB C w m' N := by
  obtain ⟨f, e, _⟩ := f
  obtain ⟨h1, h2, h3, h4, h5, h7, h8⟩ := id h
  have cell : ∀ c, c ≠ 261 → c ≠ 294 → m'.1 c = m.1 c ∧ m'.2 c = m.2 c := fun c c1 c2 => f c (by simp; exact ⟨c1, c2⟩)
  have i3 : ∀ z, iq m' 3 z = iq m 3 z := fr.i f (by simp)
  obtain ⟨r1, r2, r3, r4, r5⟩ := QR.base (N := N) h.zT h1 h2 h3 h4 h5 ⟨fun c c1 c2 c3 c4 => cell c (by omega) (by omega), fun c hc => cell c (by omega) (by omega), fun z _ _ => i3 z, fun z z0 z1 _ => e z z0 (by omega)⟩
  refine ⟨r1, r2, r3, r4, r5, ?_, ?_⟩
  · rcases h7 with g | ⟨g, g1, g2⟩
    · exact Or.inl ((i3 14).trans g)
    · exact Or.inr ⟨(i3 14).trans g, g1.frm f (by intro c hc; simp at hc; omega), g2.frm f (by simp) (by simp)⟩
  · rcases h8 with g | ⟨g, g1⟩
    · exact Or.inl ((e 20 (by omega) (by omega)).trans g)
    · exact Or.inr ⟨(e 20 (by omega) (by omega)).trans g, g1.mvd f (by intro c hc; simp at hc; omega) (fun z hz => e z (by omega) (by omega))⟩
theorem c_Blays {Q : zM → Prop} {m : zM} (hI : IVB C w m N) (H : ∀ m', IVB C w m' N → iq m' 261 20 = 1 → DM m' N → (∀ c, c < 261 ∨ (262 ≤ c ∧ c < 268) ∨ 290 ≤ c → m'.1 c = m.1 c ∧ m'.2 c = m.2 c) → iq m' 261 54 = iq m 261 54 → Q m') : cV (d + 5) 239 [.ref 261] w m Q := by
  have hb := hI.zT
  obtain ⟨h1, h2, h3, h4, h5, h7, h8⟩ := id hI
  refine c_lays (d := d) (N := N) h5 h4 h8 (fun g hd => H m hI g hd (fun _ _ => ⟨rfl, rfl⟩) rfl) (fun g m' f k e20 hd => ?_)
  have cell : ∀ c, c < 261 ∨ (262 ≤ c ∧ c < 268) ∨ 290 ≤ c → m'.1 c = m.1 c ∧ m'.2 c = m.2 c := fun c hc => f c (by simp; omega)
  have h3' : ∀ z, iq m' 3 z = iq m 3 z := f.i (by simp)
  obtain ⟨r1, r2, r3, r4, r5⟩ := QR.base (N := N) hb h1 h2 h3 h4 h5 ⟨fun c c1 c2 c3 c4 => cell c (by omega), fun c hc => cell c (by omega), fun z _ _ => h3' z, fun z z0 z1 z2 => k z z0 (by omega) (by omega) (by omega) (by omega) (by omega)⟩
  refine H m' ⟨r1, r2, r3, r4, r5, ?_, Or.inr ⟨e20, hd⟩⟩ e20 hd cell (k 54 (by omega) (by omega) (by omega) (by omega) (by omega) (by omega))
  rcases h7 with g7 | ⟨g7, g8, g9⟩
  · exact Or.inl ((h3' 14).trans g7)
  · exact Or.inr ⟨(h3' 14).trans g7, g8.frm f (by intro c hc; simp at hc; omega), g9.frm f (by simp) (by simp)⟩
/-- a word onto the empty slate -/
theorem c_slateW {Q : zM → Prop} {m : zM} {l : List Int} (hl : wd l) (H : ∀ m', FC m m' → SLC m' (sp l) → Q m') : cV (d + 3) 6 [.ref 6, .long (JL (eC l))] w (sq m 6 1 0) Q := by
  have e0 : iq (sq m 6 1 0) 6 1 = 0 := iq_eq (by unfold r32; omega)
  have l10 := hl.1
  have hs := sp_len l
  refine c_addWord (n := 54) (l := l) ⟨rfl, rfl, rfl⟩ (by decide) hl (by omega) (by omega) ?_
  obtain ⟨s1, s2, s3, s4, s5, s6⟩ := sys_facts (ar := 7) (ob := 6) (f := 1) (by omega) (by omega) (sp l) (sq m 6 1 0) 0 e0 (by omega) (fun x hx => by have := sp_ok hl x hx; unfold r32; omega)
  refine H _ (fun c hc => ?_) ⟨by rw [show (6 : Nat) + 1 = 7 from rfl, s1]; omega, fun i hi => ?_⟩
  · have c6 : c ≠ 6 := fun z => hc (by rw [z]; simp)
    have c7 : c ≠ 7 := fun z => hc (by rw [z]; simp)
    have f : fr [6] m (sq m 6 1 0) := (fr.rf _ m).si (by simp) _ _
    have g := f c (by simp; exact c6)
    exact ⟨(s5 c c7 c6).trans g.1, by rw [show (6 : Nat) + 1 = 7 from rfl, s6]; exact g.2⟩
  · have := s3 i hi
    rw [show ((0 : Nat) : Int) + (i : Int) = (i : Int) by omega] at this
    exact this
theorem c_M_slateW {Q : zM → Prop} {m : zM} {l : List Int} (hl : wd l) (H : ∀ m', FM m m' → SLM m' (sp l) → Q m') : cV (d + 1) 264 [.ref 261, .long (JL (eM l))] w (sq m 261 54 0) Q := by
  have e0 : iq (sq m 261 54 0) 261 54 = 0 := iq_eq (by unfold r32; omega)
  have l10 := hl.1
  have hs := sp_len l
  refine c_saysWord hl (by omega) (by omega) ?_
  obtain ⟨s1, s2, s3, s4, s5, s6⟩ := sys_facts (ar := 294) (ob := 261) (f := 54) (by omega) (by omega) (sp l) (sq m 261 54 0) 0 e0 (by omega) (fun x hx => by have := sp_ok hl x hx; unfold r32; omega)
  have f : fr [261] m (sq m 261 54 0) := (fr.rf _ m).si (by simp) _ _
  refine H _ ⟨fun c hc => ?_, fun z z0 z1 => (s2 z z0 z1).trans (iq_ne (Or.inr z1) (by omega) z0), s6⟩ ⟨by rw [s1]; omega, fun i hi => ?_⟩
  · have c1 : c ≠ 261 := fun z => hc (by rw [z]; simp)
    have c2 : c ≠ 294 := fun z => hc (by rw [z]; simp)
    have g := f c (by simp; exact c1)
    exact ⟨(s5 c c2 c1).trans g.1, by rw [s6]; exact g.2⟩
  · have := s3 i hi
    rw [show ((0 : Nat) : Int) + (i : Int) = (i : Int) by omega] at this
    exact this
theorem c_wPlace {Q : Int32 → zM → Prop} {m : zM} {a i : Int} (hb : zT b) (ra : r32 a) (ri : r32 i) (hT : TR C m b N) (H1 : vW N a i → Q (J (N (260 + a) + i)) m) (H0 : ¬ vW N a i → Q (J (-1)) m) : cI (d + 3) 112 [.ref b, .int (J a), .int (J i)] w m Q := by
  have hD := hT.2.2.2.1
  have e9 := hD.2.2.1
  have d8 := hD.2.1
  have d0 := hD.1
  refine S_Told_placeOf hb ?_
  simp (disch := first | exact ra | exact ri | (unfold r32; omega) | omega) only [j_lit, j_ops, J_lt, J_le, j_rd, j_nc, e9]
  refine ⟨fun q => H0 (fun z => by have := z.1; omega), fun q => ⟨fun q2 => H0 (fun z => by have := z.2.1; omega), fun q2 => ⟨fun q3 => H0 (fun z => by have := z.2.2.1; omega), fun q3 => c_docSize (d := d) hb hD (by omega) (by omega) ?_⟩⟩⟩
  have b1 := trD_r hD (dc := a) (by omega) (by omega)
  have b2 := trD_r hD (dc := a + 1) (by omega) (by omega)
  rw [show 260 + (a + 1) = 261 + a by omega] at b2
  simp (disch := first | exact ra | exact ri | (unfold r32; omega) | omega) only [j_lit, j_ops, J_lt]
  refine ⟨fun q4 => c_docFirst hb hD (by omega) (by omega) ?_, fun q4 => H0 (fun z => q4 z.2.2.2)⟩
  rw [j_ops.1]
  exact H1 ⟨by omega, by omega, by omega, q4⟩
theorem c_M_isWord {Q : Int32 → zM → Prop} {m : zM} {a i : Int} (ra : r32 a) (ri : r32 i) (hT : TR C mv b N) (hR : rowM m N) (H1 : vW N a i → Q (J 1) m) (H0 : ¬ vW N a i → Q (J 0) m) : cI (d + 2) 266 [.ref 261, .int (J a), .int (J i)] w m Q := by
  have hD := hT.2.2.2.1
  have d8 := hD.2.1
  have d0 := hD.1
  refine S_M_isWord (c_M_isDoc (d := d) ra hR ⟨d0, d8⟩ ?_)
  by_cases g : 0 ≤ a ∧ a < N 259
  · rw [if_pos g]
    have b1 := trD_r hD (dc := a) (by omega) (by omega)
    have b2 := trD_r hD (dc := a + 1) (by omega) (by omega)
    rw [show 260 + (a + 1) = 261 + a by omega] at b2
    have r1 := hR (260 + a) (by omega) (by omega)
    have r2 := hR (261 + a) (by omega) (by omega)
    simp (disch := first | exact ra | exact ri | (unfold r32; omega) | (unfold r64; omega) | omega) only [j_lit, jl_lit, j_ops, jl_ops, J_eq, vp_J, J_cl, jl_rd, lq_tn, show 260 + a + 1 = 261 + a by omega, r1, r2, J_64]
    refine ⟨fun y => by first | omega | exact absurd y (by simp), fun _ => ⟨by omega, by omega, c_isIn (r64_32 ri) (by unfold r64; omega) (by unfold r64; omega) ?_⟩⟩
    by_cases g2 : 0 ≤ i ∧ i ≤ N (261 + a) - N (260 + a) - 1
    · rw [if_pos g2]
      simp (disch := first | (unfold r32; omega) | omega) only [j_lit, j_ops, J_eq]
      exact ⟨fun y => by first | omega | exact absurd y (by simp), fun _ => H1 ⟨g.1, g.2, g2.1, by omega⟩⟩
    · rw [if_neg g2]
      simp (disch := first | (unfold r32; omega) | omega) only [j_lit, j_ops, J_eq]
      exact ⟨fun _ => H0 (fun z => g2 ⟨z.2.2.1, by have := z.2.2.2; omega⟩), fun y => absurd trivial y⟩
  · rw [if_neg g]
    simp (disch := first | (unfold r32; omega) | omega) only [j_lit, j_ops, J_eq]
    exact ⟨fun _ => H0 (fun z => g ⟨z.1, z.2.1⟩), fun y => absurd trivial y⟩
theorem vW_b (hT : TR C mv b N) {a i : Int} (h : vW N a i) : 0 ≤ N (260 + a) + i ∧ N (260 + a) + i < wW N ∧ wW N ≤ 240 ∧ 0 ≤ N (260 + a) := by
  have hD := hT.2.2.2.1
  have d8 := hD.2.1
  obtain ⟨h1, h2, h3, h4⟩ := h
  have b1 := trD_r hD (dc := a) (by omega) (by omega)
  have b2 := trD_m hD (e := a + 1) (dc := N 259) (by omega) (by omega) (by omega)
  rw [show 260 + (a + 1) = 261 + a by omega] at b2
  have hW := hT.words
  have e : N (260 + N 259) = wW N := rfl
  omega
theorem p_kindAt {P : Int32 → Int32 → zM → Prop} {m : zM} {a i : Int} (ra : r32 a) (ri : r32 i) (hI : IV C w m) (H : ∀ v m', IV C w m' → P v v m') : cI (d + 9) 127 [.ref 3, .int (J a), .int (J i)] w m (fun x m1 => cI (d + 9) 268 [.ref 261, .int (J a), .int (J i)] w m1 (fun y m2 => P x y m2)) := by
  obtain ⟨N, hI⟩ := hI
  have hb := hI.zT
  have hT := hI.2.2.2.2.1
  have hR := hI.2.2.2.1
  refine S_T_kindAt hb (c_wPlace (d := d + 5) hb ra ri hT (fun hv => ?_) (fun hv => ?_))
  · obtain ⟨z0, z1, z2, z3⟩ := vW_b hT hv
    have hw := hT.words.2.2.2 (N (260 + a) + i) z0 z1
    simp (disch := first | (unfold r32; omega) | omega) only [j_lit, j_ops, J_le]
    refine ⟨fun _ => c_wordAt hb ⟨z0, by omega⟩ (c_baseOf (d := d + 4) hb hT hw (fun cb hcb => c_kindOf (d := d + 4) hb hT hw hcb (fun kc k1 k2 => ?_))), fun q => by omega⟩
    refine S_M_kindAt (c_M_isWord (d := d + 6) ra ri hT hR (fun _ => ?_) (fun g => absurd hv g))
    simp (disch := first | (unfold r32; omega) | omega) only [j_lit, j_ops, J_eq]
    refine ⟨fun _ => c_Llays (d := d + 3) hI (fun m1 hI1 g hd h3 => ?_), fun y => by first | omega | exact absurd y (by simp)⟩
    have hR1 := hI1.2.2.2.1
    have r1 := hR1 (260 + a) (by have := hv.1; omega) (by have := hv.2.1; have := hT.2.2.2.1.2.1; omega)
    have d8 := hT.2.2.2.1.2.1
    obtain ⟨k3, k4, k5⟩ := (hd.1.2.2.1 (N (260 + a) + i) z0 z1).2
    have hv1 := hv.1
    have hv2 := hv.2.1
    simp (disch := first | exact ra | exact ri | (unfold r32; omega) | (unfold r64; omega) | omega) only [j_lit, j_ops, vp_J, J_cl, jl_rd, lq_tn, r1, JL_32, j_rd, iq_tn, k3]
    refine ⟨by omega, by omega, S_M_letterBy ?_⟩
    have e : kc = lb (kd N (N (260 + a) + i)) := pkr_lb k1 k5.1
    rw [e]
    have fin : ∀ v, lb (kd N (N (260 + a) + i)) = v → P (J (lb (kd N (N (260 + a) + i)))) (J v) m1 := fun v hv => by rw [hv]; exact H _ m1 ⟨N, hI1⟩
    simp (disch := first | (unfold r32; omega) | omega) only [j_lit, j_ops, J_eq]
    refine ⟨fun q => fin _ (by unfold lb; rw [if_pos q]), fun q => ⟨fun q1 => fin _ (by unfold lb; rw [if_neg q, if_pos q1]), fun q1 => ⟨fun q2 => fin _ (by unfold lb; rw [if_neg q, if_neg q1, if_pos q2]), fun q2 => ⟨fun q3 => fin _ (by unfold lb; rw [if_neg q, if_neg q1, if_neg q2, if_pos q3]), fun q3 => ⟨fun q4 => fin _ (by unfold lb; rw [if_neg q, if_neg q1, if_neg q2, if_neg q3, if_pos q4]), fun q4 => ⟨fun q5 => fin _ (by unfold lb; rw [if_neg q, if_neg q1, if_neg q2, if_neg q3, if_neg q4, if_pos q5]), fun q5 => fin _ (by unfold lb; rw [if_neg q, if_neg q1, if_neg q2, if_neg q3, if_neg q4, if_neg q5])⟩⟩⟩⟩⟩⟩
  · simp (disch := first | (unfold r32; omega) | omega) only [j_lit, j_ops, J_le]
    refine ⟨fun q => by omega, fun _ => S_M_kindAt (c_M_isWord (d := d + 6) ra ri hT hR (fun g => absurd g hv) (fun _ => ?_))⟩
    simp (disch := first | (unfold r32; omega) | omega) only [j_lit, j_ops, J_eq]
    exact ⟨fun y => absurd trivial y, fun _ => H _ m ⟨N, hI⟩⟩
end QWO
