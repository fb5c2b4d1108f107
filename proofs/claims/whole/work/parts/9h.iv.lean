/-! what both keep from call to call -/
noncomputable def wB (N : Int → Int) (t : Int) : Int := if 1 < lo N t then lo N t else 1
noncomputable def wA (N : Int → Int) (t : Int) : Int := N (1900 + tl N t) * (ct N t * wB N t - tkn N t)
noncomputable def oA (N : Int → Int) (t : Int) : Int := ct N t * (N 1069 + 1)
noncomputable def oB (N : Int → Int) (t : Int) : Int := (gn N t + 1) * (wW N + 1)
/-- in how many documents -/
noncomputable def dcm (N : Int → Int) (t : Int) : Int := cnt (fun e => ∃ m, 0 ≤ m ∧ m < Mn N ∧ pkm N m = tr N t ∧ dcN N (mk N m) = e) 8
/-- a measure, over and under -/
noncomputable def mov (N : Int → Int) (g t : Int) : Int := if g = 0 then ct N t else if g = 1 then fe N t else if g = 2 then wA N t else if g = 3 then oA N t else if g = 4 then wA N t * oA N t else if g = 5 then 4 * wA N t * Zn N + nr N t * wB N t else dcm N t
noncomputable def mun (N : Int → Int) (g t : Int) : Int := if g = 0 then 1 else if g = 1 then 1 else if g = 2 then wB N t else if g = 3 then oB N t else if g = 4 then wB N t * oB N t else if g = 5 then 5 * wB N t * Zn N else 1
/-- the order by a measure -/
def AR (N : Int → Int) (g a c : Int) : Prop := mov N g c * mun N g a < mov N g a * mun N g c ∨ (mov N g c * mun N g a = mov N g a * mun N g c ∧ (ct N c < ct N a ∨ (ct N c = ct N a ∧ a < c)))
def RKs (m : zM) (N : Int → Int) : Prop := 0 ≤ iq m 255 6 ∧ iq m 255 6 < 128 ∧ ∀ g : Nat, g < 7 → (iq m 255 6).toNat.testBit g = true → SB (AR N g) (fun r => iq m 260 (1200 * g + r)) 0 (Zn N)
/-- what a query lets alone -/
def QR (m m' : zM) : Prop := (∀ c, c < 220 → c ≠ 3 → c ≠ 6 → c ≠ 7 → m'.1 c = m.1 c ∧ m'.2 c = m.2 c) ∧ (∀ c, c = 262 ∨ c = 263 ∨ c = 265 → m'.1 c = m.1 c ∧ m'.2 c = m.2 c) ∧ (∀ z, 0 ≤ z → z ≠ 14 → iq m' 3 z = iq m 3 z) ∧ ∀ z, 0 ≤ z → z ≤ 10 → z ≠ 6 → iq m' 261 z = iq m 261 z
def IVN (C : Int) (w : Nat × Nat × Nat) (m : zM) (N : Int → Int) : Prop := RG C w m ∧ (∃ T n, tpC m T n ∧ tpM m T n) ∧ FT m ∧ rowM m N ∧ TR C m w.2.1 N ∧ SLt m ∧ (iq m 3 14 = 0 ∨ iq m 3 14 = 1 ∧ DC m N ∧ RKs m N) ∧ (iq m 261 20 = 0 ∨ iq m 261 20 = 1 ∧ DM m N)
def IV (C : Int) (w : Nat × Nat × Nat) (m : zM) : Prop := ∃ N, IVN C w m N
theorem cnt_mono (P : Int → Prop) {i : Nat} : ∀ n : Nat, i ≤ n → cnt P i ≤ cnt P n := by
  intro n
  induction n with
  | zero => intro h; rw [show i = 0 by omega]; omega
  | succ n ih =>
    intro h
    by_cases z : i = n + 1
    · rw [z]; omega
    · have e : cnt P (n + 1) = cnt P n + bi (P (n : Int)) := rfl
      have b := bi_b (P (n : Int))
      have := ih (by omega)
      omega
/-- the i-th that has P, or -1 -/
def NT (P : Int → Prop) (n i v : Int) : Prop := (0 ≤ v ∧ v < n ∧ P v ∧ cnt P v.toNat = i) ∨ (v = -1 ∧ (i < 0 ∨ cnt P n.toNat ≤ i))
theorem NT_lt {P : Int → Prop} {v u : Int} (v0 : 0 ≤ v) (h : v < u) (hp : P v) : cnt P v.toNat < cnt P u.toNat := by
  have a := cnt_z P v0
  rw [bi_1 hp] at a
  have c := cnt_mono P (i := (v + 1).toNat) u.toNat (by omega)
  omega
theorem NT.uniq {P : Int → Prop} {n i v v' : Int} (h : NT P n i v) (h' : NT P n i v') : v = v' := by
  rcases h with ⟨a1, a2, a3, a4⟩ | ⟨a1, a2⟩
  · have n1 := NT_lt a1 a2 a3
    have p1 := (cnt_b P v.toNat).1
    rcases h' with ⟨b1, b2, b3, b4⟩ | ⟨b1, b2⟩
    · rcases Int.lt_trichotomy v v' with g | g | g
      · have := NT_lt a1 g a3; omega
      · exact g
      · have := NT_lt b1 g b3; omega
    · omega
  · rcases h' with ⟨b1, b2, b3, b4⟩ | ⟨b1, b2⟩
    · have n1 := NT_lt b1 b2 b3
      have p1 := (cnt_b P v'.toNat).1
      omega
    · omega
section IVS
variable {d : Nat} {w : Nat × Nat × Nat} {C : Int} {N : Int → Int}
theorem QR.base {m m' : zM} (hT : zT w.2.1) (h1 : RG C w m) (h2 : ∃ T n, tpC m T n ∧ tpM m T n) (h3 : FT m) (h4 : rowM m N) (h5 : TR C m w.2.1 N) (q : QR m m') : RG C w m' ∧ (∃ T n, tpC m' T n ∧ tpM m' T n) ∧ FT m' ∧ rowM m' N ∧ TR C m' w.2.1 N := by
  obtain ⟨q1, q2, q3, q4⟩ := q
  have hb := zT_b hT
  have l62 : ∀ k, lq m' 262 k = lq m 262 k := fun k => by unfold lq; rw [(q2 262 (by omega)).2]
  have l63 : ∀ k, lq m' 263 k = lq m 263 k := fun k => by unfold lq; rw [(q2 263 (by omega)).2]
  obtain ⟨T, n, ⟨c1, c2, c3, c4, c5⟩, ⟨d1, d2, d3, d4, d5⟩⟩ := h2
  have i4 : ∀ z, iq m' 4 z = iq m 4 z := fun z => by unfold iq; rw [(q1 4 (by omega) (by omega) (by omega) (by omega)).1]
  have i5 : ∀ z, iq m' 5 z = iq m 5 z := fun z => by unfold iq; rw [(q1 5 (by omega) (by omega) (by omega) (by omega)).1]
  have i265 : ∀ z, iq m' 265 z = iq m 265 z := fun z => by unfold iq; rw [(q2 265 (by omega)).1]
  refine ⟨h1.stay (x := 220) (Int.le_refl _) (q3 10 (by omega) (by omega)) (q3 11 (by omega) (by omega)) (q4 2 (by omega) (by omega) (by omega)) (fun k _ _ => l62 k) (fun k _ _ => l63 k) (fun b b1 b2 b3 => q1 b (by omega) (by omega) (by omega) (by omega)) (Or.inr (Nat.le_refl _)) w rfl, ⟨T, n, ⟨c1, c2, (i4 1).trans c3, fun k k0 k1 => (i5 k).trans (c4 k k0 k1), c5⟩, d1, d2, (q4 5 (by omega) (by omega) (by omega)).trans d3, fun k k0 k1 => (i265 k).trans (d4 k k0 k1), d5⟩, ?_, fun k k0 k1 => (l62 k).trans (h4 k k0 k1), h5.view (TV.rows (fun c c1 c2 => q1 c (by omega) (by omega) (by omega) (by omega)))⟩
  unfold FT
  rw [q3 12 (by omega) (by omega), q3 13 (by omega) (by omega), q4 9 (by omega) (by omega) (by omega), q4 10 (by omega) (by omega) (by omega)]
  exact h3
theorem IVN.zT {m : zM} (h : IVN C w m N) : zT w.2.1 := by
  obtain ⟨h1, h2, h3, h4, h5, h6, h7, h8⟩ := h.1
  rw [h6]; exact tb_T h1 h2
theorem SLt.mv {m m' : zM} (h : SLt m) (e6 : m'.1 6 = m.1 6) (e7 : m'.1 7 = m.1 7) (e94 : m'.1 294 = m.1 294) (e54 : iq m' 261 54 = iq m 261 54) : SLt m' := by
  have i6 : ∀ z, iq m' 6 z = iq m 6 z := fun z => by unfold iq; rw [e6]
  have i7 : ∀ z, iq m' 7 z = iq m 7 z := fun z => by unfold iq; rw [e7]
  have i94 : ∀ z, iq m' 294 z = iq m 294 z := fun z => by unfold iq; rw [e94]
  unfold SLt
  simp only [i6, i7, i94, e54]
  exact h
theorem RKs.frm {S : List Nat} {m m' : zM} (h : RKs m N) (f : fr S m m') (h1 : 255 ∉ S) (h2 : 260 ∉ S) : RKs m' N := by
  unfold RKs
  simp only [f.i h1, f.i h2]
  exact h
theorem c_Ldraw {Q : zM → Prop} {m : zM} (hI : IVN C w m N) (H : ∀ m', IVN C w m' N → iq m' 3 14 = 1 → DC m' N → RKs m' N → (∀ z, iq m' 261 z = iq m 261 z) → Q m') : cV (d + 8) 151 [.ref 3] w m Q := by
  have hb := hI.zT
  obtain ⟨h1, h2, h3, h4, h5, h6, h7, h8⟩ := id hI
  refine c_draw (d := d) (N := N) (C := C) hb h5 (by
    rcases h7 with g | g
    · exact Or.inl g
    · exact Or.inr ⟨g.1, g.2.1⟩) (fun g hd => ?_) (fun g m3 f hd => ?_)
  · refine H m hI g hd ?_ (fun _ => rfl)
    rcases h7 with y | y
    · omega
    · exact y.2.2
  · have ff : fr (3 :: 255 :: SDR) m (sq (sq m3 255 6 0) 3 14 1) := ((f.mo (fun c hc => by simp [hc])).si (by simp) _ _).si (by simp) _ _
    have e14 : iq (sq (sq m3 255 6 0) 3 14 1) 3 14 = 1 := iq_eq (by unfold r32; omega)
    have e6 : iq (sq (sq m3 255 6 0) 3 14 1) 255 6 = 0 := by rw [iq_ne (by omega) (by omega) (by omega)]; exact iq_eq (by unfold r32; omega)
    have e3 : ∀ z, 0 ≤ z → z ≠ 14 → iq (sq (sq m3 255 6 0) 3 14 1) 3 z = iq m 3 z := fun z z0 z1 => by
      rw [iq_ne (Or.inr z1) (by omega) z0, iq_ne (by omega) (by omega) z0, f.i (by simp)]
    generalize sq (sq m3 255 6 0) 3 14 1 = m' at *
    have cell : ∀ c, (c < 220 ∧ c ≠ 3) ∨ 256 ≤ c → m'.1 c = m.1 c ∧ m'.2 c = m.2 c := fun c hc => ff c (by simp; omega)
    obtain ⟨r1, r2, r3, r4, r5⟩ := QR.base (N := N) hb h1 h2 h3 h4 h5 ⟨fun c c1 c2 c3 c4 => cell c (Or.inl ⟨c1, c2⟩), fun c hc => cell c (by omega), e3, fun z _ _ _ => ff.i (by simp) z⟩
    have hk : RKs m' N := ⟨by omega, by omega, fun g _ q => by rw [e6] at q; simp at q⟩
    have h61 : ∀ z, iq m' 261 z = iq m 261 z := ff.i (by simp)
    refine H m' ⟨r1, r2, r3, r4, r5, h6.mv (cell 6 (by omega)).1 (cell 7 (by omega)).1 (cell 294 (by omega)).1 (h61 54), Or.inr ⟨e14, hd, hk⟩, ?_⟩ e14 hd hk h61
    rcases h8 with g8 | g8
    · exact Or.inl ((h61 20).trans g8)
    · exact Or.inr ⟨(h61 20).trans g8.1, g8.2.frm ff (by intro c hc; simp at hc; omega)⟩
theorem c_Llays {Q : zM → Prop} {m : zM} (hI : IVN C w m N) (H : ∀ m', IVN C w m' N → iq m' 261 20 = 1 → DM m' N → (∀ z, iq m' 3 z = iq m 3 z) → Q m') : cV (d + 5) 239 [.ref 261] w m Q := by
  have hb := hI.zT
  obtain ⟨h1, h2, h3, h4, h5, h6, h7, h8⟩ := id hI
  refine c_lays (d := d) (N := N) h5 h4 h8 (fun g hd => H m hI g hd (fun _ => rfl)) (fun g m' f k e20 hd => ?_)
  have cell : ∀ c, c < 261 ∨ (262 ≤ c ∧ c < 268) ∨ 290 ≤ c → m'.1 c = m.1 c ∧ m'.2 c = m.2 c := fun c hc => f c (by simp; omega)
  have h3' : ∀ z, iq m' 3 z = iq m 3 z := f.i (by simp)
  obtain ⟨r1, r2, r3, r4, r5⟩ := QR.base (N := N) hb h1 h2 h3 h4 h5 ⟨fun c c1 c2 c3 c4 => cell c (by omega), fun c hc => cell c (by omega), fun z _ _ => h3' z, fun z z0 z1 z2 => k z z0 (by omega) (by omega) (by omega) (by omega) (by omega)⟩
  refine H m' ⟨r1, r2, r3, r4, r5, h6.mv (cell 6 (by omega)).1 (cell 7 (by omega)).1 (cell 294 (by omega)).1 (k 54 (by omega) (by omega) (by omega) (by omega) (by omega) (by omega)), ?_, Or.inr ⟨e20, hd⟩⟩ e20 hd h3'
  rcases h7 with g7 | ⟨g7, g8, g9⟩
  · exact Or.inl ((h3' 14).trans g7)
  · exact Or.inr ⟨(h3' 14).trans g7, g8.frm f (by intro c hc; simp at hc; omega), g9.frm f (by simp) (by simp)⟩
end IVS
