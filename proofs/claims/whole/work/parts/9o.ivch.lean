/-! the invariant over changes -/
section IVC
variable {d : Nat} {w w' : Nat × Nat × Nat} {C C' : Int} {N : Int → Int} {mv : zM} {b : Nat}
theorem TR.eqN {m : zM} {N' : Int → Int} (h : TR C m b N) (e : ∀ k, 0 ≤ k → k < 1906 → N' k = N k) : TR C m b N' := by
  obtain ⟨t1, t2, t3, t4, t5, t6, t7⟩ := h
  have sub : ∀ i j, sr m m b i j := fun i j c _ _ => ⟨rfl, rfl⟩
  exact ⟨trL_c t1 (sub _ _) (fun k k0 k1 => e k (by omega) (by omega)), trE_c t2 (sub _ _) (fun k k0 k1 => e k (by omega) (by omega)), trS_c t3 (sub _ _) rfl (fun k k0 k1 => e k (by omega) (by omega)), trD_c t4 (Int.le_refl _) (sub _ _) rfl (fun k k0 k1 => e k (by omega) (by omega)), trG_c t5 (sub _ _) (fun k k0 k1 => e k (by omega) (by omega)), trP_c t6 (sub _ _) (fun k k0 k1 => e k (by omega) (by omega)), trW_c t7 (sub _ _) rfl rfl rfl (fun k k0 k1 => e k (by omega) (by omega))⟩
theorem IV.ch0 {m m' : zM} (hI : IV C w m) (h : CH0 C' w m w' m') : IV C' w' m' := by
  obtain ⟨N, h1, ⟨T, n, ⟨c1, c2, c3, c4, c5⟩, ⟨d1, d2, d3, d4, d5⟩⟩, h3, h4, h5, h6, h7, h8⟩ := hI
  obtain ⟨g1, g2, g3, g4, g5, g6, g7⟩ := h
  have cell : ∀ c, c < 9 ∨ 264 ≤ c → c ≠ 3 → m'.1 c = m.1 c := fun c a1 a2 => (g7 c (by omega) a2 (by omega) (by omega) (by omega)).1
  have ic : ∀ c z, c < 9 ∨ 264 ≤ c → c ≠ 3 → iq m' c z = iq m c z := fun c z a1 a2 => by unfold iq; rw [cell c a1 a2]
  refine ⟨lq m' 262, g1, ⟨T, n, ⟨c1, c2, (ic 4 1 (by omega) (by omega)).trans c3, fun k k0 k1 => (ic 5 k (by omega) (by omega)).trans (c4 k k0 k1), c5⟩, d1, d2, (g6 5 (by omega) (by omega) (by omega)).trans d3, fun k k0 k1 => (ic 265 k (by omega) (by omega)).trans (d4 k k0 k1), d5⟩, ?_, fun k _ _ => rfl, g1.2.2.2.2.2.2.1, h6.mv (cell 6 (by omega) (by omega)) (cell 7 (by omega) (by omega)) (cell 294 (by omega) (by omega)) (g6 54 (by omega) (by omega) (by omega)), Or.inl g3, Or.inl g4⟩
  unfold FT
  rw [g5 12 (by omega) (by omega) (by omega) (by omega), g5 13 (by omega) (by omega) (by omega) (by omega), g6 9 (by omega) (by omega) (by omega), g6 10 (by omega) (by omega) (by omega)]
  exact h3
theorem TXc.base {m m' : zM} (h6 : SLt m) (h : TXc m m') : (∃ T n, tpC m' T n ∧ tpM m' T n) ∧ FT m' ∧ SLt m' := by
  obtain ⟨g1, g2, g3, g4, g5, g6⟩ := h
  exact ⟨⟨fun _ => 0, 0, ⟨by omega, by omega, g1, fun k _ _ => by omega, fun k => ⟨Int.le_refl 0, (by decide : (0 : Int) < 256)⟩⟩, by omega, by omega, g2, fun k _ _ => by omega, fun k => ⟨Int.le_refl 0, (by decide : (0 : Int) < 256)⟩⟩, ⟨g3, g4⟩, h6.mv (g5 6 (by omega)).1 (g5 7 (by omega)).1 (g5 294 (by omega)).1 (g6 54 (by omega))⟩
theorem IV.txk {m m' : zM} (hI : IV C w m) (h : TXK C' w m w' m') : IV C' w' m' := by
  obtain ⟨N, h1, h2, h3, h4, h5, h6, h7, h8⟩ := hI
  obtain ⟨g1, g2, g3, g4, g5⟩ := h
  obtain ⟨a1, a2, a3⟩ := g5.base h6
  exact ⟨lq m' 262, g1, a1, a2, fun k _ _ => rfl, g1.2.2.2.2.2.2.1, a3, Or.inl g3, Or.inl g4⟩
theorem IV.txu {m m' : zM} (hI : IV C w m) (h : TXU C' w m w' m') : IV C' w' m' := by
  obtain ⟨N, h1, h2, h3, h4, h5, h6, h7, h8⟩ := hI
  obtain ⟨g1, g2, g3, g4, g5, g6, g7⟩ := h
  obtain ⟨a1, a2, a3⟩ := g7.base h6
  have hR : rowM m' N := fun k k0 k1 => (g6 k k0 k1).trans (h4 k k0 k1)
  have f : fr (List.range 220 ++ [261, 262, 263, 264, 266, 267]) m m' := fun c hc => by
    rw [List.mem_append, List.mem_range] at hc
    simp at hc
    exact g7.2.2.2.2.1 c (Or.inr (Or.inr (by omega)))
  have hs : ∀ c ∈ List.range 220 ++ [261, 262, 263, 264, 266, 267], c < 220 ∨ c = 261 ∨ c = 262 ∨ c = 263 ∨ c = 264 ∨ c = 266 ∨ c = 267 := fun c hc => by
    rw [List.mem_append, List.mem_range] at hc
    simp at hc
    omega
  refine ⟨N, g1, a1, a2, hR, (g1.2.2.2.2.2.2.1).eqN (fun k k0 k1 => (hR k k0 k1).symm), a3, ?_, ?_⟩
  · rcases h7 with q | ⟨q, q1, q2⟩
    · exact Or.inl (g4.trans q)
    · exact Or.inr ⟨g4.trans q, q1.frm f (fun c hc => by have := hs c hc; omega), q2.frm f (fun hc => by have := hs 255 hc; omega) (fun hc => by have := hs 260 hc; omega)⟩
  · rcases h8 with q | ⟨q, q1⟩
    · exact Or.inl (g5.trans q)
    · exact Or.inr ⟨g5.trans q, q1.mvd f (fun c hc => by have := hs c hc; omega) (fun z hz => g7.2.2.2.2.2 z (by omega))⟩
theorem IV.fd {m m' : zM} {T : Int → Int} {n : Int} (hI : IV C w m) (h : FD m m') (hc : tpC m' T n) (hm : tpM m' T n) : IV C w m' := by
  obtain ⟨N, h1, h2, h3, h4, h5, h6, h7, h8⟩ := hI
  obtain ⟨g1, g2, g3⟩ := h
  have f : fr [4, 5, 261, 265] m m' := fun c hc => by
    simp at hc
    exact ⟨g1 c hc.1 hc.2.1 hc.2.2.1 hc.2.2.2, by rw [g2]⟩
  have hb : zT w.2.1 := by
    obtain ⟨q1, q2, q3, q4, q5, q6, q7, q8⟩ := h1
    rw [q6]; exact tb_T q1 q2
  have bb := zT_b hb
  have i3 : ∀ z, iq m' 3 z = iq m 3 z := f.i (by simp)
  have l62 : ∀ k, lq m' 262 k = lq m 262 k := f.l (by simp)
  have l63 : ∀ k, lq m' 263 k = lq m 263 k := f.l (by simp)
  refine ⟨N, h1.stay (x := 220) (Int.le_refl _) (i3 10) (i3 11) (g3 2 (by omega) (by omega)) (fun k _ _ => l62 k) (fun k _ _ => l63 k) (fun c c1 c2 c3 => f c (by simp; omega)) (Or.inr (Nat.le_refl _)) w rfl, ⟨T, n, hc, hm⟩, ?_, fun k k0 k1 => (l62 k).trans (h4 k k0 k1), h5.view (TV.rows (fun c c1 c2 => f c (by simp; omega))), h6.mv (f 6 (by simp)).1 (f 7 (by simp)).1 (f 294 (by simp)).1 (g3 54 (by omega) (by omega)), ?_, ?_⟩
  · unfold FT
    rw [i3, i3, g3 9 (by omega) (by omega), g3 10 (by omega) (by omega)]
    exact h3
  · rcases h7 with q | ⟨q, q1, q2⟩
    · exact Or.inl ((i3 14).trans q)
    · exact Or.inr ⟨(i3 14).trans q, q1.frm f (by intro c hc; simp at hc; omega), q2.frm f (by simp) (by simp)⟩
  · rcases h8 with q | ⟨q, q1⟩
    · exact Or.inl ((g3 20 (by omega) (by omega)).trans q)
    · exact Or.inr ⟨(g3 20 (by omega) (by omega)).trans q, q1.mvd f (by intro c hc; simp at hc; omega) (fun z hz => g3 z (by omega) (by omega))⟩
/-- the changes and the face, over the invariant -/
theorem i_undo {P : Int32 → Int32 → Nat × Nat × Nat → zM → Prop} {m : zM} (hI : IV C w m) (H : ∀ v w' m', w'.1 = w.1 → IV C w' m' → P v v w' m') : cIw (d + 1) 124 [.ref 3] w m (fun v w1 m1 => cI (d + 1) 186 [.ref 261] w1 m1 (fun v' m2 => P v v' w1 m2)) := by
  obtain ⟨N, h1, ⟨T, n, ⟨c1, c2, c3, c4, c5⟩, ⟨d1, d2, d3, d4, d5⟩⟩, h3, h4, h5, h6, h7, h8⟩ := id hI
  refine p_undo h1 (fun _ => H _ w m rfl hI) (fun m' g1 g2 g3 g4 g5 g6 g7 => H _ _ m' rfl ?_)
  have ic : ∀ c z, c ≠ 3 → c ≠ 261 → c ≠ 262 → iq m' c z = iq m c z := fun c z a1 a2 a3 => by unfold iq; rw [(g7 c a1 a2 a3).1]
  refine ⟨lq m' 262, g1, ⟨T, n, ⟨c1, c2, (ic 4 1 (by omega) (by omega) (by omega)).trans c3, fun k k0 k1 => (ic 5 k (by omega) (by omega) (by omega)).trans (c4 k k0 k1), c5⟩, d1, d2, (g5 5 (by omega) (by omega) (by omega)).trans d3, fun k k0 k1 => (ic 265 k (by omega) (by omega) (by omega)).trans (d4 k k0 k1), d5⟩, ?_, fun k _ _ => rfl, g1.2.2.2.2.2.2.1, h6.mv (g7 6 (by omega) (by omega) (by omega)).1 (g7 7 (by omega) (by omega) (by omega)).1 (g7 294 (by omega) (by omega) (by omega)).1 (g5 54 (by omega) (by omega) (by omega)), Or.inl g2, Or.inl g3⟩
  unfold FT
  rw [g4 12 (by omega) (by omega) (by omega) (by omega), g4 13 (by omega) (by omega) (by omega) (by omega), g5 9 (by omega) (by omega) (by omega), g5 10 (by omega) (by omega) (by omega)]
  exact h3
theorem i_feed {P : Int32 → Int32 → zM → Prop} {m : zM} {a1 a2 a3 a4 a5 : Int} (r1 : r32 a1) (r2 : r32 a2) (r3 : r32 a3) (r4 : r32 a4) (r5 : r32 a5) (hI : IV C w m) (H : ∀ v m', IV C w m' → P v v m') : cI (d + 4) 115 [.ref 3, .int (J a1), .int (J a2), .int (J a3), .int (J a4), .int (J a5)] w m (fun x m1 => cI (d + 4) 198 [.ref 261, .int (J a1), .int (J a2), .int (J a3), .int (J a4), .int (J a5)] w m1 (fun y m2 => P x y m2)) := by
  obtain ⟨N, h1, ⟨T, n, hc, hm⟩, h3⟩ := id hI
  exact p_feed r1 r2 r3 r4 r5 hc hm (H _ m hI) (fun m' T' f c1 c2 v => H v m' (hI.fd f c1 c2))
end IVC
