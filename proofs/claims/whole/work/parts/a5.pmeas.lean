/-! measure: both sides -/
noncomputable def msr (N : Int → Int) (t g c : Int) : Int := if 0 ≤ t ∧ t < Zn N ∧ 0 ≤ g ∧ g < 7 then (if c = 0 then lwA (mov N g t) (mun N g t) else lwB (mov N g t) (mun N g t)) else -9223372036854775808
section PME
variable {d : Nat} {w : Nat × Nat × Nat} {C : Int} {N : Int → Int} {mv : zM} {b : Nat}
/-- changes that a query's work may make -/
theorem IVN.gx {S : List Nat} {m m' : zM} (h : IVN C w m N) (f : fr S m m') (hs : ∀ c ∈ S, c = 253 ∨ c = 254 ∨ (255 ≤ c ∧ c ≤ 261) ∨ (289 ≤ c ∧ c ≠ 294)) (e : ∀ z, 0 ≤ z → z ≠ 55 → z ≠ 56 → iq m' 261 z = iq m 261 z) (hk : DC m N → RKs m N → RKs m' N) : IVN C w m' N := by
  obtain ⟨h1, h2, h3, h4, h5, h6, h7, h8⟩ := id h
  have cell : ∀ c, c ∉ S → m'.1 c = m.1 c ∧ m'.2 c = m.2 c := fun c hc => f c hc
  have k : ∀ c, c < 253 ∨ (262 ≤ c ∧ c < 289) ∨ c = 294 → c ∉ S := fun c c1 q => by have := hs c q; omega
  have i3 : ∀ z, iq m' 3 z = iq m 3 z := fr.i f (k 3 (by omega))
  obtain ⟨r1, r2, r3, r4, r5⟩ := QR.base (N := N) h.zT h1 h2 h3 h4 h5 ⟨fun c c1 c2 c3 c4 => cell c (k c (by omega)), fun c hc => cell c (k c (by omega)), fun z _ _ => i3 z, fun z z0 z1 _ => e z z0 (by omega) (by omega)⟩
  refine ⟨r1, r2, r3, r4, r5, h6.mv (cell 6 (k 6 (by omega))).1 (cell 7 (k 7 (by omega))).1 (cell 294 (k 294 (by omega))).1 (e 54 (by omega) (by omega) (by omega)), ?_, ?_⟩
  · rcases h7 with g | ⟨g, g1, g2⟩
    · exact Or.inl ((i3 14).trans g)
    · exact Or.inr ⟨(i3 14).trans g, g1.frm f (by intro c hc; have := hs c hc; omega), hk g1 g2⟩
  · rcases h8 with g | ⟨g, g1⟩
    · exact Or.inl ((e 20 (by omega) (by omega) (by omega)).trans g)
    · exact Or.inr ⟨(e 20 (by omega) (by omega) (by omega)).trans g, g1.mvd f (by intro c hc; have := hs c hc; omega) (fun z hz => e z (by omega) (by omega) (by omega))⟩
theorem IVN.c55 {m : zM} (h : IVN C w m N) (a e : Int) : IVN C w (sl (sl m 255 7 a) 255 8 e) N :=
  h.gx (S := [255]) (((fr.rf _ m).sll (by simp) _ _).sll (by simp) _ _) (by intro c hc; simp at hc; omega) (fun z _ _ _ => rfl) (fun _ g => g)
theorem IVN.mx {m m' : zM} (h : IVN C w m N) (f : MX m m') : IVN C w m' N :=
  h.gx f.1 (by intro c hc; simp at hc; omega) (fun z _ _ _ => f.2 z) (fun _ g => g.frm f.1 (by simp) (by simp))
theorem c_weighed {Q : Int32 → zM → Prop} {m : zM} {t g : Int} (rt : r32 t) (rg : r32 g) (hI : IVN C w m N) (hd : DC m N) (H1 : ∀ m', IVN C w m' N → 0 ≤ t ∧ t < Zn N ∧ 0 ≤ g ∧ g < 7 → lq m' 255 7 = lwA (mov N g t) (mun N g t) → lq m' 255 8 = lwB (mov N g t) (mun N g t) → Q (J 1) m') (H0 : ¬ (0 ≤ t ∧ t < Zn N ∧ 0 ≤ g ∧ g < 7) → Q (J 0) m) : cI (d + 9) 152 [.ref 3, .int (J t), .int (J g)] w m Q := by
  have hb := hI.zT
  refine S_T_weighed hb ?_
  have hT := hI.2.2.2.2.1
  have hM := Mn_b hT
  have hZ := Zn_b hT
  have e19 := hd.2.2.1.1
  simp (disch := first | exact rt | exact rg | (unfold r32; omega) | omega) only [j_lit, j_ops, J_lt, J_le, j_rd, j_nc, e19]
  refine ⟨fun q => H0 (by omega), fun q1 => ⟨fun q2 => H0 (by omega), fun q2 => ⟨fun q3 => H0 (by omega), fun q3 => ⟨fun q4 => ?_, fun q4 => H0 (by omega)⟩⟩⟩⟩
  have mb := mov_b hT g (by omega : 0 ≤ t) (by omega)
  have f1 := lw_f (a := mov N g t) (b := mun N g t) (by omega)
  have f2 := lw_bd (a := mov N g t) (b := mun N g t) (X := 119937024000) (Y := 119937024000) (by omega) (by omega) (by omega) mb.1 mb.2.1
  refine c_weigh (d := d + 3) ⟨by omega, q4⟩ hI hd (by omega) (by omega) (H1 _ (hI.c55 _ _) (by omega) ?_ ?_)
  · rw [lq_ne (Or.inr (by omega)) (by omega) (by omega), lq_eq (by unfold r64; omega)]
  · rw [lq_eq (by unfold r64; omega)]
/-- drawn first, then weighed -/
theorem c_dweighed {Q : Int32 → zM → Prop} {m : zM} {t g : Int} (rt : r32 t) (rg : r32 g) (hI : IVN C w m N) (H1 : ∀ m', IVN C w m' N → 0 ≤ t ∧ t < Zn N ∧ 0 ≤ g ∧ g < 7 → lq m' 255 7 = lwA (mov N g t) (mun N g t) → lq m' 255 8 = lwB (mov N g t) (mun N g t) → Q (J 1) m') (H0 : ∀ m', IVN C w m' N → ¬ (0 ≤ t ∧ t < Zn N ∧ 0 ≤ g ∧ g < 7) → Q (J 0) m') : cV (d + 9) 151 [.ref 3] w m (fun m1 => cI (d + 9) 152 [.ref 3, .int (J t), .int (J g)] w m1 Q) :=
  c_Ldraw (d := d + 1) hI (fun m1 hI1 _ hd _ _ => c_weighed (d := d) rt rg hI1 hd H1 (H0 m1 hI1))
theorem c_M_isMeasure {Q : Int32 → zM → Prop} {m : zM} {g : Int} (rg : r32 g) (H1 : 0 ≤ g ∧ g < 7 → Q (J 1) m) (H0 : ¬ (0 ≤ g ∧ g < 7) → Q (J 0) m) : cI (d + 1) 257 [.ref 261, .int (J g)] w m Q := by
  refine S_M_isMeasure ?_
  simp only [jl_lit]
  rw [J_64 rg]
  refine c_isIn (r64_32 rg) (by unfold r64; omega) (by unfold r64; omega) ?_
  by_cases h : 0 ≤ g ∧ g ≤ 6
  · rw [if_pos h]
    exact ⟨Or.inr rfl, H1 (by omega)⟩
  · rw [if_neg h]
    exact ⟨Or.inl rfl, H0 (by omega)⟩
/-- the reference weighs -/
theorem c_Mweigh {Q : Int32 → Int32 → zM → Prop} {m : zM} {t g : Int} {A B : zM → Prop} (rt : r32 t) (rg : r32 g) (hI : IVN C w m N) (HA : ∀ m', IVN C w m' N → 0 ≤ t ∧ t < Zn N ∧ 0 ≤ g ∧ g < 7 → lq m' 261 47 = lwA (mov N g t) (mun N g t) → lq m' 261 48 = lwB (mov N g t) (mun N g t) → A m') (HB : ∀ m', IVN C w m' N → ¬ (0 ≤ t ∧ t < Zn N ∧ 0 ≤ g ∧ g < 7) → B m') : cI (d + 6) 256 [.ref 261, .int (J t)] w m (fun v1 m1 => ((v1 = 0 → B m1) ∧ (¬ v1 = 0 → cI (d + 6) 257 [.ref 261, .int (J g)] w m1 (fun v2 m2 => ((¬ v2 = 0 → cV (d + 6) 250 [.ref 261, .int (J t), .int (J g)] w m2 A) ∧ (v2 = 0 → B m2)))))) := by
  refine c_M_isTerm (d := d) rt hI (fun m1 hI1 hd _ _ ht => ?_) (fun m1 hI1 hd _ _ ht => ?_)
  · simp (disch := first | (unfold r32; omega) | omega) only [j_lit, j_ops, J_eq]
    refine ⟨fun y => by omega, fun _ => c_M_isMeasure (d := d + 5) rg (fun hg => ?_) (fun hg => ?_)⟩
    · simp (disch := first | (unfold r32; omega) | omega) only [j_lit, j_ops, J_eq]
      exact ⟨fun _ => c_measures (d := d + 2) hg hI1.2.2.2.2.1 hI1.2.2.2.1 hd ht (fun m2 f2 e1 e2 => HA m2 (hI1.mx f2) ⟨ht.1, ht.2, hg.1, hg.2⟩ e1 e2), fun y => by omega⟩
    · simp (disch := first | (unfold r32; omega) | omega) only [j_lit, j_ops, J_eq]
      exact ⟨fun y => absurd trivial y, fun _ => HB m1 hI1 (fun q => hg ⟨q.2.2.1, q.2.2.2⟩)⟩
  · simp (disch := first | (unfold r32; omega) | omega) only [j_lit, j_ops, J_eq]
    exact ⟨fun _ => HB m1 hI1 (fun q => ht ⟨q.1, q.2.1⟩), fun y => absurd trivial y⟩
theorem p_measure {P : Int64 → Int64 → zM → Prop} {m : zM} {t g c : Int} (rt : r32 t) (rg : r32 g) (rc : r32 c) (hI : IV C w m) (H : ∀ v m', IV C w m' → P v v m') : cL (d + 10) 133 [.ref 3, .int (J t), .int (J g), .int (J c)] w m (fun x m1 => cL (d + 10) 258 [.ref 261, .int (J t), .int (J g), .int (J c)] w m1 (fun y m2 => P x y m2)) := by
  obtain ⟨N, hI⟩ := hI
  have ref : ∀ (m1 : zM) (Q : Int64 → zM → Prop), IVN C w m1 N → (∀ m2, IVN C w m2 N → Q (JL (msr N t g c)) m2) → cL (d + 10) 258 [.ref 261, .int (J t), .int (J g), .int (J c)] w m1 Q := by
    intro m1 Q hI1 HQ
    refine S_M_measure (c_Mweigh (d := d + 3) (Q := fun _ _ _ => True) rt rg hI1 (fun m2 hI2 hin e1 e2 => ?_) (fun m2 hI2 hn => ?_))
    · have := HQ m2 hI2
      simp (disch := first | exact rc | (unfold r32; omega) | omega) only [j_lit, j_ops, J_eq, jl_rd, j_nc, e1, e2]
      unfold msr at this
      rw [if_pos hin] at this
      refine ⟨fun q => ?_, fun q => ?_⟩
      · rw [if_pos q] at this; exact this
      · rw [if_neg q] at this; exact this
    · have := HQ m2 hI2
      unfold msr at this
      rw [if_neg hn] at this
      exact this
  refine S_T_measure (c_dweighed (d := d) rt rg hI (fun m1 hI1 hin e7 e8 => ?_) (fun m1 hI1 hn => ?_))
  · simp (disch := first | exact rc | (unfold r32; omega) | omega) only [j_lit, j_ops, J_eq, jl_rd, j_nc, e7, e8]
    refine ⟨fun _ => ⟨fun q => ?_, fun q => ?_⟩, fun y => by omega⟩
    · refine ref m1 _ hI1 (fun m2 hI2 => ?_)
      unfold msr
      rw [if_pos hin, if_pos q]
      exact H _ m2 ⟨N, hI2⟩
    · refine ref m1 _ hI1 (fun m2 hI2 => ?_)
      unfold msr
      rw [if_pos hin, if_neg q]
      exact H _ m2 ⟨N, hI2⟩
  · simp (disch := first | (unfold r32; omega) | omega) only [j_lit, j_ops, J_eq, jl_lit]
    refine ⟨fun y => absurd trivial y, fun _ => ref m1 _ hI1 (fun m2 hI2 => ?_)⟩
    unfold msr
    rw [if_neg hn]
    exact H _ m2 ⟨N, hI2⟩
end PME
