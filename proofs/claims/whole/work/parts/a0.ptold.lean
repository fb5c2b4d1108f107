/-! told: both sides; longer slates -/
theorem TQs.uniq {N : Int → Int} {t c v v' : Int} (h : TQs N t c v) (h' : TQs N t c v') : v = v' := by
  unfold TQs at h h'
  by_cases q : t = -1
  · rw [if_pos q] at h h'; omega
  rw [if_neg q] at h h'
  by_cases q2 : 0 ≤ t ∧ t < Zn N
  · rw [if_pos q2] at h h'; exact h.uniq h'
  · rw [if_neg q2] at h h'; omega
section PTO
variable {d : Nat} {w : Nat × Nat × Nat} {C : Int} {N : Int → Int} {mv : zM} {b : Nat}
theorem IVB.fx {S : List Nat} {m m' : zM} (h : IVB C w m N) (f : fr S m m') (hs : ∀ c ∈ S, c = 6 ∨ c = 7 ∨ c = 253 ∨ c = 254 ∨ c = 261 ∨ 289 ≤ c) (e : ∀ z, 0 ≤ z → z ≠ 54 → z ≠ 55 → z ≠ 56 → iq m' 261 z = iq m 261 z) : IVB C w m' N := by
  obtain ⟨h1, h2, h3, h4, h5, h7, h8⟩ := id h
  have cell : ∀ c, c ∉ S → m'.1 c = m.1 c ∧ m'.2 c = m.2 c := fun c hc => f c hc
  have k : ∀ c, c ≠ 6 → c ≠ 7 → c < 289 → c ≠ 253 → c ≠ 254 → c ≠ 261 → c ∉ S := fun c c1 c2 c3 c4 c5 c6 q => by have := hs c q; omega
  have i3 : ∀ z, iq m' 3 z = iq m 3 z := fr.i f (k 3 (by omega) (by omega) (by omega) (by omega) (by omega) (by omega))
  obtain ⟨r1, r2, r3, r4, r5⟩ := QR.base (N := N) h.zT h1 h2 h3 h4 h5 ⟨fun c c1 c2 c3 c4 => cell c (k c (by omega) (by omega) (by omega) (by omega) (by omega) (by omega)), fun c hc => cell c (k c (by omega) (by omega) (by omega) (by omega) (by omega) (by omega)), fun z _ _ => i3 z, fun z z0 z1 _ => e z z0 (by omega) (by omega) (by omega)⟩
  refine ⟨r1, r2, r3, r4, r5, ?_, ?_⟩
  · rcases h7 with g | ⟨g, g1, g2⟩
    · exact Or.inl ((i3 14).trans g)
    · exact Or.inr ⟨(i3 14).trans g, g1.frm f (by intro c hc; have := hs c hc; omega), g2.frm f (k _ (by omega) (by omega) (by omega) (by omega) (by omega) (by omega)) (k _ (by omega) (by omega) (by omega) (by omega) (by omega) (by omega))⟩
  · rcases h8 with g | ⟨g, g1⟩
    · exact Or.inl ((e 20 (by omega) (by omega) (by omega) (by omega)).trans g)
    · exact Or.inr ⟨(e 20 (by omega) (by omega) (by omega) (by omega)).trans g, g1.mvd f (by intro c hc; have := hs c hc; omega) (fun z hz => e z (by omega) (by omega) (by omega) (by omega))⟩
theorem IVN.ff {m m' : zM} (h : IVN C w m N) (f : FF m m') : IVN C w m' N := by
  have cell : ∀ c, c ≠ 261 → c < 295 → m'.1 c = m.1 c := fun c c1 c2 => (f.1 c (by simp; omega)).1
  exact (h.ba.fx f.1 (by intro c hc; simp at hc; omega) (fun z z0 _ z2 z3 => f.2.1 z z0 z2 z3)).n (h.2.2.2.2.2.1.mv (cell 6 (by omega) (by omega)) (cell 7 (by omega) (by omega)) (cell 294 (by omega) (by omega)) (f.2.1 54 (by omega) (by omega) (by omega)))
theorem c_M_told {Q : Int32 → zM → Prop} {m : zM} {t c : Int} (rt : r32 t) (rc : r32 c) (hI : IVN C w m N) (H : ∀ m' v, IVN C w m' N → TQs N t c v → Q (J v) m') : cI (d + 7) 277 [.ref 261, .int (J t), .int (J c)] w m Q := by
  refine c_M_toldQ rt rc hI (fun c4 m1 hI1 hd ht => c_findsForms (d := d + 5) hI1.2.2.2.2.1 hI1.2.2.2.1 hd ht (fun m2 f h55 _ => ?_)) H
  simp only [j_rd, j_nc]
  refine H m2 _ (hI1.ff f) ?_
  unfold TQs
  rw [if_neg (by omega), if_pos ht, c4]
  exact h55
theorem p_told {P : Int32 → Int32 → zM → Prop} {m : zM} {t c : Int} (rt : r32 t) (rc : r32 c) (hI : IV C w m) (H : ∀ v m', IV C w m' → P v v m') : cI (d + 9) 132 [.ref 3, .int (J t), .int (J c)] w m (fun x m1 => cI (d + 9) 277 [.ref 261, .int (J t), .int (J c)] w m1 (fun y m2 => P x y m2)) := by
  obtain ⟨N, hI⟩ := hI
  refine c_toldQ rt rc hI (fun m1 v hI1 hv => c_M_told (d := d + 2) rt rc hI1 (fun m2 v' hI2 hv' => ?_))
  rw [hv'.uniq hv]
  exact H _ m2 ⟨N, hI2⟩
end PTO
theorem getD_app1 {L l : List Int} {i : Nat} (h : i < L.length) : (L ++ l).getD i 0 = L.getD i 0 := by
  rw [List.getD_eq_getElem?_getD, List.getD_eq_getElem?_getD, List.getElem?_append_left h]
theorem getD_app2 (L l : List Int) (i : Nat) : (L ++ l).getD (L.length + i) 0 = l.getD i 0 := by
  rw [List.getD_eq_getElem?_getD, List.getD_eq_getElem?_getD, List.getElem?_append_right (by omega)]
  rw [show L.length + i - L.length = i by omega]
theorem SLC.app {m : zM} {L l : List Int} (h : SLC m L) (hl : bok l) (hn : L.length + l.length ≤ 54) : SLC (sys 7 6 1 m l) (L ++ l) ∧ FC m (sys 7 6 1 m l) := by
  obtain ⟨s1, s2, s3, s4, s5, s6⟩ := sys_facts (ar := 7) (ob := 6) (f := 1) (by omega) (by omega) l m L.length h.1 (by omega) (fun x hx => by have := hl x hx; unfold r32; omega)
  refine ⟨⟨by rw [s1, List.length_append]; omega, fun i hi => ?_⟩, fun c hc => ?_⟩
  · rw [List.length_append] at hi
    by_cases g : i < L.length
    · rw [getD_app1 g, s4 (i : Int) (by omega) (by omega)]
      exact h.2 i g
    · have e := s3 (i - L.length) (by omega)
      have e2 := getD_app2 L l (i - L.length)
      rw [show L.length + (i - L.length) = i by omega] at e2
      rw [show ((L.length : Nat) : Int) + ((i - L.length : Nat) : Int) = (i : Int) by omega] at e
      rw [e, e2]
  · have c6 : c ≠ 6 := fun z => hc (by rw [z]; simp)
    have c7 : c ≠ 7 := fun z => hc (by rw [z]; simp)
    exact ⟨s5 c c7 c6, by rw [s6]⟩
theorem SLM.app {m : zM} {L l : List Int} (h : SLM m L) (hl : bok l) (hn : L.length + l.length ≤ 54) : SLM (sys 294 261 54 m l) (L ++ l) ∧ FM m (sys 294 261 54 m l) := by
  obtain ⟨s1, s2, s3, s4, s5, s6⟩ := sys_facts (ar := 294) (ob := 261) (f := 54) (by omega) (by omega) l m L.length h.1 (by omega) (fun x hx => by have := hl x hx; unfold r32; omega)
  refine ⟨⟨by rw [s1, List.length_append]; omega, fun i hi => ?_⟩, fun c hc => ?_, fun z z0 z1 => s2 z z0 z1, s6⟩
  · rw [List.length_append] at hi
    by_cases g : i < L.length
    · rw [getD_app1 g, s4 (i : Int) (by omega) (by omega)]
      exact h.2 i g
    · have e := s3 (i - L.length) (by omega)
      have e2 := getD_app2 L l (i - L.length)
      rw [show L.length + (i - L.length) = i by omega] at e2
      rw [show ((L.length : Nat) : Int) + ((i - L.length : Nat) : Int) = (i : Int) by omega] at e
      rw [e, e2]
  · have c1 : c ≠ 261 := fun z => hc (by rw [z]; simp)
    have c2 : c ≠ 294 := fun z => hc (by rw [z]; simp)
    exact ⟨s5 c c2 c1, by rw [s6]⟩
theorem FC.tr {m m' m'' : zM} (h : FC m m') (h' : FC m' m'') : FC m m'' := fr.tr h h'
theorem FM.tr {m m' m'' : zM} (h : FM m m') (h' : FM m' m'') : FM m m'' := ⟨h.1.tr h'.1, fun z z0 z1 => (h'.2.1 z z0 z1).trans (h.2.1 z z0 z1), h'.2.2.trans h.2.2⟩
