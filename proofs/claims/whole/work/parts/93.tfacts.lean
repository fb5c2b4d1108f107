/-! what is gathered, by the matches -/
noncomputable def ct (N : Int → Int) (t : Int) : Int := cnt (fun m => pkm N m = tr N t) (Mn N).toNat
noncomputable def fe (N : Int → Int) (t : Int) : Int := cnt (fun m => pkm N m = tr N t ∧ ¬ wi N (mk N m) (ml N m)) (Mn N).toNat
def fsP (N : Int → Int) (t m : Int) : Prop := 0 ≤ m ∧ m < Mn N ∧ pkm N m = tr N t ∧ ∀ x, 0 ≤ x → x < Mn N → pkm N x = tr N t → m ≤ x
def dsP (N : Int → Int) (t v : Int) : Prop := ∃ V : Nat, v = V ∧ V < 256 ∧ ∀ e : Nat, V.testBit e = true ↔ ∃ m, 0 ≤ m ∧ m < Mn N ∧ pkm N m = tr N t ∧ dcN N (mk N m) = e
def FSt (N : Int → Int) (t : Int) : Int → Prop := fun x => ∃ m, 0 ≤ m ∧ m < Mn N ∧ pkm N m = tr N t ∧ pfm N m = x
noncomputable def fkm (N : Int → Int) (m : Int) : Int := cnt (fun i => pkm N i = pkm N m ∧ pfm N i = pfm N m) (Mn N).toNat
def CB (N : Int → Int) (t c : Int) : Prop := 0 ≤ c ∧ c < Mn N ∧ pkm N c = tr N t ∧ ∀ m, 0 ≤ m → m < Mn N → pkm N m = tr N t → fkm N m < fkm N c ∨ (fkm N m = fkm N c ∧ pfm N c ≤ pfm N m)
/-- of the terms, what the class has gathered -/
def DT0 (m : zM) (N : Int → Int) : Prop := iq m 237 19 = Zn N ∧ (∀ t, 0 ≤ t → t < Zn N → lq m 238 t = tr N t ∧ iq m 240 t = ct N t ∧ iq m 241 t = fe N t ∧ fsP N t (iq m 246 t) ∧ dsP N t (iq m 248 t) ∧ (∃ u, enm u (iq m 244 t) (FSt N t)) ∧ CB N t (iq m 245 t) ∧ 0 ≤ iq m 239 t ∧ iq m 239 t + iq m 240 t ≤ Mn N ∧ ∀ j, 0 ≤ j → j < Mn N → (pkm N (iq m 229 j) = tr N t ↔ iq m 239 t ≤ j ∧ j < iq m 239 t + iq m 240 t)) ∧ ∀ i, 0 ≤ i → i < Mn N → iq m 233 i = tn N i
section TFA
variable {d : Nat} {w : Nat × Nat × Nat} {b : Nat} {C : Int} {N : Int → Int} {mv : zM}
theorem GI.fin {m0 m : zM} {T run best : Int} (hV : TR C mv b N) (hD : DMt m0 N) (h : GI N (iq m0 229) m0 m (Mn N) T run best) : DT0 m N ∧ ∀ t, 0 ≤ t → t < Zn N → iq m 242 t = 0 ∧ iq m 243 t = 0 ∧ iq m 247 t = 0 ∧ iq m 249 t = 0 ∧ iq m 250 t = 0 ∧ iq m 251 t = -1 := by
  obtain ⟨g1, g2, g3, g4, g5, g6, g7, g8, g9, g10, g11, g12⟩ := h
  have hM := Mn_b hV
  have hS := hD.2.2
  have hMn : (((Mn N).toNat : Nat) : Int) = Mn N := by omega
  have hS' : SB (AM N) (iq m0 229) 0 (((Mn N).toNat : Nat) : Int) := by rw [hMn]; exact hS
  have hp := hS'.prm (AM_ord N _)
  have sur : ∀ x, 0 ≤ x → x < Mn N → ∃ k, 0 ≤ k ∧ k < Mn N ∧ iq m0 229 k = x := fun x x0 x1 => by
    obtain ⟨k, k0, k1, e⟩ := prm_sur hp x0 (by omega)
    exact ⟨k, k0, by omega, e⟩
  have hE : enm (lq m 238) T (TS N) := g3.ext (fun x => by
    constructor
    · intro ⟨j, j0, j1, e⟩
      have := hS.2 j j0 j1
      exact ⟨iq m0 229 j, this.1, this.2, e⟩
    · intro ⟨i, i0, i1, e⟩
      obtain ⟨k, k0, k1, ek⟩ := sur i i0 i1
      exact ⟨k, k0, k1, by show pkm N (iq m0 229 k) = x; rw [ek]; exact e⟩)
  obtain ⟨hT, hrow⟩ := e_uniq (TS_b hV) hE
  have hZ : T = Zn N := hT
  have row : ∀ t, 0 ≤ t → t < Zn N → lq m 238 t = tr N t := fun t t0 t1 => hrow t t0 (by omega)
  have e229 : ∀ i, iq m 229 i = iq m0 229 i := g1.i (by simp)
  refine ⟨⟨by rw [g2, hZ], fun t t0 t1 => ?_, fun i i0 i1 => ?_⟩, fun t t0 t1 => ?_⟩
  · obtain ⟨be, ⟨a1, a2, a3, a4, a5, a6, a7⟩, h2, h3, h4⟩ := g5 t t0 (by omega)
    rw [row t t0 t1] at a1 a2 a3 a4 a5 a6 a7
    refine ⟨row t t0 t1, ?_, ?_, ?_, ?_, ?_, ?_, a3.1, h3, fun j j0 j1 => ?_⟩
    · rw [a1]; exact prm_cnt hp (fun m => pkm N m = tr N t)
    · rw [a2]; exact prm_cnt hp (fun m => pkm N m = tr N t ∧ ¬ wi N (mk N m) (ml N m))
    · obtain ⟨⟨j, j0, j1, j2, j3⟩, q⟩ := a4
      have := hS.2 j j0 j1
      rw [← j3]
      refine ⟨this.1, this.2, j2, fun x x0 x1 e => ?_⟩
      obtain ⟨k, k0, k1, ek⟩ := sur x x0 x1
      have := q k k0 k1 (by rw [ek]; exact e)
      rw [j3, ← ek]
      exact this
    · obtain ⟨V, v1, v2, v3⟩ := a5
      refine ⟨V, v1, v2, fun e => (v3 e).trans ⟨fun ⟨j, j0, j1, j2, j3⟩ => ?_, fun ⟨x, x0, x1, x2, x3⟩ => ?_⟩⟩
      · have := hS.2 j j0 j1
        exact ⟨iq m0 229 j, this.1, this.2, j2, j3⟩
      · obtain ⟨k, k0, k1, ek⟩ := sur x x0 x1
        exact ⟨k, k0, k1, by rw [ek]; exact x2, by rw [ek]; exact x3⟩
    · obtain ⟨u, hu⟩ := a6
      refine ⟨u, hu.ext (fun x => ⟨fun ⟨j, j0, j1, j2, j3⟩ => ?_, fun ⟨y, y0, y1, y2, y3⟩ => ?_⟩)⟩
      · have := hS.2 j j0 j1
        exact ⟨iq m0 229 j, this.1, this.2, j2, j3⟩
      · obtain ⟨k, k0, k1, ek⟩ := sur y y0 y1
        exact ⟨k, k0, k1, by rw [ek]; exact y2, by rw [ek]; exact y3⟩
    · obtain ⟨jc, c0, c1, c2, c3, c4, c5⟩ := a7
      have ob := hS.2 jc c0 c1
      have fk : ∀ j, fkn N (iq m0 229) (Mn N) j = fkm N (iq m0 229 j) := fun j => prm_cnt hp (fun i => pkm N i = pkm N (iq m0 229 j) ∧ pfm N i = pfm N (iq m0 229 j))
      rw [← c3]
      refine ⟨ob.1, ob.2, c2, fun x x0 x1 e => ?_⟩
      obtain ⟨k, k0, k1, ek⟩ := sur x x0 x1
      have := c5 k k0 k1 (by rw [ek]; exact e)
      rw [fk, fk, ek] at this
      exact this
    · rw [e229]
      exact a3.2 j j0 j1
  · obtain ⟨k, k0, k1, ek⟩ := sur i i0 i1
    have := g7 k k0 k1
    rw [ek] at this
    obtain ⟨q1, q2, q3⟩ := this
    symm
    refine (tn_is hV i0 i1 q1 (by omega)).mpr ?_
    rw [← q3]
    exact row _ q1 (by omega)
  · obtain ⟨be, h1, h2, h3, h4⟩ := g5 t t0 (by omega)
    exact h4
theorem ct_b (h : TR C mv b N) {t : Int} (h0 : 0 ≤ t) (h1 : t < Zn N) : 1 ≤ ct N t ∧ ct N t ≤ 240 := by
  obtain ⟨m, m0, m1, e⟩ := tr_ex h h0 h1
  have hM := Mn_b h
  refine ⟨cnt_pos m0 e _ (by omega), ?_⟩
  -- matches of one term have one length: their first words are unlike
  have key : ∀ j : Nat, (j : Int) ≤ Mn N → ∃ q : Int, cnt (fun m => pkm N m = tr N t) j ≤ q ∧ 0 ≤ q ∧ q ≤ 240 ∧ ∀ i, (j : Int) ≤ i → i < Mn N → pkm N i = tr N t → q ≤ mk N i := by
    intro j
    induction j with
    | zero => intro _; exact ⟨0, Int.le_refl _, by omega, by omega, fun i i0 i1 _ => (mk_bd h (by omega) i1).1⟩
    | succ j ih =>
      intro hj
      obtain ⟨q, q1, q2, q3, q4⟩ := ih (by omega)
      show ∃ q : Int, cnt (fun m => pkm N m = tr N t) j + bi (pkm N (j : Int) = tr N t) ≤ q ∧ _
      by_cases g : pkm N (j : Int) = tr N t
      · rw [bi_1 g]
        have b1 := mk_bd h (i := (j : Int)) (by omega) (by omega)
        have b2 := q4 (j : Int) (by omega) (by omega) g
        refine ⟨q + 1, by omega, by omega, by omega, fun i i0 i1 e => ?_⟩
        have l := mk_lt h (i := (j : Int)) (j := i) (by omega) (by omega) i1
        have e1 := tl_m h (by omega) (by omega) g
        have e2 := tl_m h (by omega) i1 e
        omega
      · rw [bi_0 g]
        exact ⟨q, by omega, q2, q3, fun i i0 i1 e => q4 i (by omega) i1 e⟩
  obtain ⟨q, q1, q2, q3, _⟩ := key (Mn N).toNat (by omega)
  unfold ct
  omega
end TFA
