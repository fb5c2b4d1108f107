/-! the class ranks -/
section PRP
variable {d : Nat} {w : Nat × Nat × Nat} {C : Int} {N : Int → Int} {mv : zM} {b : Nat}
theorem c_prep10 {Q : zM → Prop} {m0 : zM} {g : Int} (hg : 0 ≤ g ∧ g < 7) (hI : IVN C w m0 N) (hd : DC m0 N) (H : ∀ m, fr [255, 258, 259] m0 m → m.1 = m0.1 → UD N m 258 259 g (Zn N) → W_Measures_prepare_10 (d + 5) w.2.1 (J g) (J (Zn N)) w m Q) : ∀ (z : Nat) (t : Int) (m : zM), 0 ≤ t → t + z = Zn N → fr [255, 258, 259] m0 m → m.1 = m0.1 → UD N m 258 259 g t → W_Measures_prepare_10 (d + 5) w.2.1 (J g) (J t) w m Q := by
  have hT := hI.2.2.2.2.1
  have hM := Mn_b hT
  have hZ := Zn_b hT
  intro z
  induction z with
  | zero =>
    intro t m t0 hz f e1 hU
    obtain rfl : t = Zn N := by omega
    exact H m f e1 hU
  | succ z ih =>
    intro t m t0 hz f e1 hU
    have hI' : IVN C w m N := hI.gx f (by intro c hc; simp at hc; omega) (fun z _ _ _ => by unfold iq; rw [e1]) (fun _ k => by
      unfold RKs iq at *
      rw [e1]
      exact k)
    have hd' : DC m N := hd.frm f (by intro c hc; simp at hc; omega)
    have e19 := hd'.2.2.1.1
    have rg := lw_rg hT g t0 (show t < Zn N by omega)
    refine S_Measures_prepare_10 ?_
    simp (disch := first | (unfold r32; omega) | omega) only [j_lit, j_ops, J_le, j_rd, j_nc, e19]
    refine ⟨fun q => by omega, fun _ => c_weigh (d := d) hg hI' hd' t0 (by omega) ?_⟩
    generalize hA : lwA (mov N g t) (mun N g t) = A at *
    generalize hB : lwB (mov N g t) (mun N g t) = B at *
    have e7 : lq (sl (sl m 255 7 A) 255 8 B) 255 7 = A := by rw [lq_ne (Or.inr (by omega)) (by omega) (by omega), lq_eq (by unfold r64; omega)]
    have e8 : lq (sl (sl m 255 7 A) 255 8 B) 255 8 = B := lq_eq (by unfold r64; omega)
    rw [jl_rd, j_nc.2.2.2.2.2.2.2.1, e7]
    refine c_putl (n := 1200) rfl (by decide) (by unfold r32; omega) (by omega) ?_
    have e8' : lq (sl (sl (sl m 255 7 A) 255 8 B) 258 t A) 255 8 = B := by rw [lq_ne (by omega) (by omega) (by omega), e8]
    rw [jl_rd, j_nc.2.2.2.2.2.2.2.2.1, e8']
    refine c_putl (n := 1200) rfl (by decide) (by unfold r32; omega) (by omega) (ih (t + 1) _ (by omega) (by omega) ((((f.sll (by simp) _ _).sll (by simp) _ _).sll (by simp) _ _).sll (by simp) _ _) e1 (fun s s0 s1 => ?_))
    by_cases y : s = t
    · rw [y, hA, hB]
      refine ⟨?_, lq_eq (by unfold r64; omega)⟩
      rw [lq_ne (by omega) (by omega) (by omega), lq_eq (by unfold r64; omega)]
    · have := hU s s0 (by omega)
      rw [lq_ne (by omega) (by omega) (by omega), lq_ne (Or.inr y) (by omega) (by omega), lq_ne (by omega) (by omega) (by omega), lq_ne (by omega) (by omega) (by omega), lq_ne (Or.inr y) (by omega) (by omega), lq_ne (by omega) (by omega) (by omega), lq_ne (by omega) (by omega) (by omega), lq_ne (by omega) (by omega) (by omega)]
      exact this
theorem c_prep41 {Q : zM → Prop} {m0 : zM} {g : Int} (hg : 0 ≤ g ∧ g < 7) (h : TR C mv b N) (hT0 : DT0 m0 N) (H : ∀ m, fr [260] m0 m → (∀ r, 0 ≤ r → r < Zn N → iq m 260 (1200 * g + r) = iq m0 256 r) → (∀ y, 0 ≤ y → (y < 1200 * g ∨ 1200 * g + Zn N ≤ y) → iq m 260 y = iq m0 260 y) → Q (zI m 255 6 ((m.1 255 6) ||| ((1 : Int32) <<< (J g &&& 31))))) : ∀ (z : Nat) (r : Int) (m : zM), 0 ≤ r → r + z = Zn N → fr [260] m0 m → (∀ s, 0 ≤ s → s < r → iq m 260 (1200 * g + s) = iq m0 256 s) → (∀ y, 0 ≤ y → (y < 1200 * g ∨ 1200 * g + Zn N ≤ y) → iq m 260 y = iq m0 260 y) → W_Measures_prepare_41 d w.2.1 (J g) (J r) w m Q := by
  have hM := Mn_b h
  have hZ := Zn_b h
  intro z
  induction z with
  | zero =>
    intro r m r0 hz f h1 h2
    have e19 : iq m 237 19 = Zn N := (f.i (by simp) 19).trans hT0.1
    refine S_Measures_prepare_41 ?_
    have e19J : m.1 237 19 = J (Zn N) := by rw [j_rd, j_nc.2.2.2.2.2.2.2.2.2.2.2.2.2.2.2.2.2.2.2.1, e19]
    rw [e19J, J_le (by unfold r32; omega) (by unfold r32; omega)]
    exact ⟨fun _ => H m f (fun s s0 s1 => h1 s s0 (by omega)) h2, fun q => by omega⟩
  | succ z ih =>
    intro r m r0 hz f h1 h2
    have e19 : iq m 237 19 = Zn N := (f.i (by simp) 19).trans hT0.1
    have e56 : iq m 256 r = iq m0 256 r := f.i (by simp) r
    refine S_Measures_prepare_41 ?_
    have e19J : m.1 237 19 = J (Zn N) := by rw [j_rd, j_nc.2.2.2.2.2.2.2.2.2.2.2.2.2.2.2.2.2.2.2.1, e19]
    rw [e19J, J_le (by unfold r32; omega) (by unfold r32; omega)]
    refine ⟨fun q => by omega, fun _ => c_at (n := 1200) rfl (by decide) (by unfold r32; omega) (by omega) ?_⟩
    rw [e56, show (1200 : Int32) = J 1200 from rfl, j_ops.2.2.1, j_ops.1, show g * 1200 + r = 1200 * g + r by omega, show (1 : Int32) = J 1 from rfl, j_ops.1]
    refine c_put (n := 8400) rfl (by decide) (by unfold r32; omega) (by omega) (ih (r + 1) _ (by omega) (by omega) (f.si (by simp) _ _) (fun s s0 s1 => ?_) (fun y y0 y1 => ?_))
    · by_cases y : s = r
      · rw [y, iq_eq (iq_r _ _ _)]
      · rw [iq_ne (Or.inr (by omega)) (by omega) (by omega)]
        exact h1 s s0 (by omega)
    · rw [iq_ne (Or.inr (by omega)) (by omega) (by omega)]
      exact h2 y y0 y1
theorem c_prepare {Q : zM → Prop} {m : zM} {g : Int} (hg : 0 ≤ g ∧ g < 7) (hI : IVN C w m N) (hd : DC m N) (hk : RKs m N) (h14 : iq m 3 14 = 1) (H : ∀ m', IVN C w m' N → DC m' N → SB (AR N g) (fun r => iq m' 260 (1200 * g + r)) 0 (Zn N) → Q m') : cV (d + 6) 24 [.ref 255, .ref w.2.1, .int (J g)] w m Q := by
  have hT := hI.2.2.2.2.1
  have hM := Mn_b hT
  have hZ := Zn_b hT
  obtain ⟨k0, k1, k2⟩ := id hk
  have eg : g = ((g.toNat : Nat) : Int) := by omega
  have eM : iq m 255 6 = (((iq m 255 6).toNat : Nat) : Int) := by omega
  have chk : (((m.1 255 6)).toUInt32 >>> ((J g).toUInt32 &&& Int32.toUInt32 31)).toInt32 &&& (1 : Int32) = J (bi ((iq m 255 6).toNat.testBit g.toNat = true)) := by
    rw [j_rd, j_nc.2.2.2.2.2.2.1, J_ushr (by omega) (by omega) (by omega) (by omega)]
    have := J_bitAt (V := (iq m 255 6).toNat) (a := g.toNat) (by omega) (by omega)
    rw [← eM] at this
    exact this
  refine S_Measures_prepare ?_
  rw [chk]
  by_cases gt : (iq m 255 6).toNat.testBit g.toNat = true
  · rw [bi_1 gt]
    refine ⟨fun y => absurd y (by decide), fun _ => H m hI hd ?_⟩
    have := k2 g.toNat (by omega) gt
    rw [← eg] at this
    exact this
  · rw [bi_0 gt]
    refine ⟨fun _ => ?_, fun y => absurd rfl y⟩
    refine c_prep10 (d := d) hg hI hd (fun m1 f1 e1 hU => ?_) (Zn N).toNat 0 m (by omega) (by omega) (fr.rf _ _) rfl (fun t t0 t1 => by omega)
    have hd1 : DC m1 N := hd.frm f1 (by intro c hc; simp at hc; omega)
    have hT1 := hd1.2.2.1
    have e19 := hT1.1
    refine S_Measures_prepare_10 ?_
    simp (disch := first | (unfold r32; omega) | omega) only [j_lit, j_ops, J_le, j_rd, j_nc, e19]
    refine ⟨fun _ => c_sortR (d := d + 3) (A := AR N g) (n := Zn N) ⟨hZ.1, by omega⟩ (AR_ord hT g) (fun m' a e P f' e0 ea an h1 h0 => ?_) (fun m2 f2 hS => ?_), fun q => by omega⟩
    · have hU' : UD N m' 258 259 g (Zn N) := fun t t0 t1 => by rw [f'.l (by simp), f'.l (by simp)]; exact hU t t0 t1
      have hd' : DC m' N := hd1.frm f' (by intro c hc; simp at hc; omega)
      exact c_aheadR hT hd'.2.2.1 hU' (by omega) an e0 (by omega) h1 h0
    · have hd2 : DC m2 N := hd1.frm f2 (by intro c hc; simp at hc; omega)
      refine c_prep41 (m0 := m2) hg hT hd2.2.2.1 (fun m3 f3 r1 r2 => ?_) (Zn N).toNat 0 m2 (by omega) (by omega) (fr.rf _ _) (fun s s0 s1 => by omega) (fun _ _ _ => rfl)
      have i255 : iq m3 255 6 = iq m 255 6 := by
        rw [f3.i (by simp), f2.i (by simp)]
        unfold iq
        rw [e1]
      have i260 : ∀ y, iq m2 260 y = iq m 260 y := fun y => by
        rw [f2.i (by simp)]
        unfold iq
        rw [e1]
      have hp : (2 : Nat) ^ g.toNat < 128 := by
        have := Nat.pow_lt_pow_right (a := 2) (by decide) (show g.toNat < 7 by omega)
        exact this
      have ev : m3.1 255 6 ||| ((1 : Int32) <<< (J g &&& 31)) = J ((((iq m 255 6).toNat ||| 2 ^ g.toNat : Nat)) : Int) := by
        rw [j_rd, j_nc.2.2.2.2.2.2.1, i255, eM, ← J_or (by omega) (by omega)]
        congr 1
        have := J_bit (p := g.toNat) (by omega)
        rw [← eg] at this
        exact this
      have hlt : ((iq m 255 6).toNat ||| 2 ^ g.toNat) < 2 ^ 7 := Nat.or_lt_two_pow (by omega) hp
      rw [ev, j_wr, j_nc.2.2.2.2.2.2.1]
      have sb : SB (AR N g) (fun r => iq m3 260 (1200 * g + r)) 0 (Zn N) := hS.congr (fun i i0 i1 => r1 i i0 i1)
      generalize hV : ((iq m 255 6).toNat ||| 2 ^ g.toNat) = V at *
      have e6 : iq (sq m3 255 6 (V : Int)) 255 6 = (V : Int) := iq_eq (by unfold r32; omega)
      have e60 : ∀ y, 0 ≤ y → iq (sq m3 255 6 (V : Int)) 260 y = iq m3 260 y := fun y y0 => iq_ne (by omega) (by omega) y0
      have ff : fr [255, 256, 257, 258, 259, 260] m (sq m3 255 6 (V : Int)) := ((((f1.mo (by simp)).tr (f2.mo (by simp))).tr (f3.mo (by simp))).si (by simp) _ _)
      have hk' : RKs (sq m3 255 6 (V : Int)) N := by
        refine ⟨by omega, by omega, fun g' g7 gt' => ?_⟩
        rw [e6, Int.toNat_natCast, ← hV, Nat.testBit_or] at gt'
        by_cases eg' : (g' : Int) = g
        · rw [eg']
          exact sb.congr (fun i i0 i1 => e60 _ (by omega))
        · have h2 : ((2 : Nat) ^ g.toNat).testBit g' = false := by
            rw [Nat.testBit_two_pow]
            simp
            omega
          rw [h2, Bool.or_false] at gt'
          refine (k2 g' g7 gt').congr (fun i i0 i1 => ?_)
          show iq (sq m3 255 6 (V : Int)) 260 (1200 * (g' : Int) + i) = iq m 260 (1200 * (g' : Int) + i)
          rw [e60 _ (by omega), r2 _ (by omega) (by omega), i260]
      refine H _ (hI.gx ff (by intro c hc; simp at hc; omega) (fun z _ _ _ => ff.i (by simp) z) (fun _ _ => hk')) (hd.frm ff (by intro c hc; simp at hc; omega)) (sb.congr (fun i i0 i1 => e60 _ (by omega)))
end PRP
