/-! the order by a measure -/
theorem crs_le {xa ya xb yb xc yc : Int} (ha : 0 < ya) (hb : 0 < yb) (hc : 0 < yc) (h1 : xb * ya ≤ xa * yb) (h2 : xc * yb ≤ xb * yc) : xc * ya ≤ xa * yc := by
  have e1 : xc * ya * yb ≤ xb * yc * ya := by
    have := Int.mul_le_mul_of_nonneg_right h2 (show 0 ≤ ya by omega)
    rw [show xc * ya * yb = xc * yb * ya by ac_rfl]
    exact this
  have e2 : xb * yc * ya ≤ xa * yc * yb := by
    have := Int.mul_le_mul_of_nonneg_right h1 (show 0 ≤ yc by omega)
    rw [show xb * yc * ya = xb * ya * yc by ac_rfl, show xa * yc * yb = xa * yb * yc by ac_rfl]
    exact this
  exact Int.le_of_mul_le_mul_right (Int.le_trans e1 e2) hb
theorem crs_lt {xa ya xb yb xc yc : Int} (ha : 0 < ya) (hb : 0 < yb) (hc : 0 < yc) (h1 : xb * ya ≤ xa * yb) (h2 : xc * yb ≤ xb * yc) (h3 : xb * ya < xa * yb ∨ xc * yb < xb * yc) : xc * ya < xa * yc := by
  have e1 : xc * ya * yb ≤ xb * yc * ya := by
    have := Int.mul_le_mul_of_nonneg_right h2 (show 0 ≤ ya by omega)
    rw [show xc * ya * yb = xc * yb * ya by ac_rfl]
    exact this
  have e2 : xb * yc * ya ≤ xa * yc * yb := by
    have := Int.mul_le_mul_of_nonneg_right h1 (show 0 ≤ yc by omega)
    rw [show xb * yc * ya = xb * ya * yc by ac_rfl, show xa * yc * yb = xa * yb * yc by ac_rfl]
    exact this
  refine Int.lt_of_mul_lt_mul_right (a := yb) ?_ (by omega)
  rcases h3 with h3 | h3
  · have := Int.mul_lt_mul_of_pos_right h3 hc
    have e3 : xb * yc * ya < xa * yc * yb := by
      rw [show xb * yc * ya = xb * ya * yc by ac_rfl, show xa * yc * yb = xa * yb * yc by ac_rfl]
      exact this
    omega
  · have := Int.mul_lt_mul_of_pos_right h3 ha
    have e3 : xc * ya * yb < xb * yc * ya := by
      rw [show xc * ya * yb = xc * yb * ya by ac_rfl]
      exact this
    omega
section ORD
variable {d : Nat} {w : Nat × Nat × Nat} {C : Int} {N : Int → Int} {mv : zM} {b : Nat}
theorem AR_ord (h : TR C mv b N) (g : Int) : ord (AR N g) (Zn N) := by
  refine ⟨fun a e c a0 a1 e0 e1 c0 c1 h1 h2 => ?_, fun a a0 a1 q => ?_, fun a e a0 a1 e0 e1 q => ?_⟩
  · have pa := (mov_b h g a0 a1).2.2.1
    have pe := (mov_b h g e0 e1).2.2.1
    have pc := (mov_b h g c0 c1).2.2.1
    unfold AR at *
    have l1 : mov N g e * mun N g a ≤ mov N g a * mun N g e := by omega
    have l2 : mov N g c * mun N g e ≤ mov N g e * mun N g c := by omega
    have l3 := crs_le (by omega) (by omega) (by omega) l1 l2
    rcases h1 with h1 | h1
    · exact Or.inl (crs_lt (by omega) (by omega) (by omega) l1 l2 (Or.inl h1))
    · rcases h2 with h2 | h2
      · exact Or.inl (crs_lt (by omega) (by omega) (by omega) l1 l2 (Or.inr h2))
      · refine Or.inr ⟨?_, by omega⟩
        have l4 := crs_le (xa := mov N g c) (ya := mun N g c) (xb := mov N g e) (yb := mun N g e) (xc := mov N g a) (yc := mun N g a) (by omega) (by omega) (by omega) (by omega) (by omega)
        omega
  · unfold AR at q
    omega
  · unfold AR
    omega
/-- the order by what is in lowest terms -/
theorem AR_lw (h : TR C mv b N) {g a e : Int} (a0 : 0 ≤ a) (a1 : a < Zn N) (e0 : 0 ≤ e) (e1 : e < Zn N) : (mov N g e * mun N g a < mov N g a * mun N g e ↔ lwA (mov N g e) (mun N g e) * lwB (mov N g a) (mun N g a) < lwA (mov N g a) (mun N g a) * lwB (mov N g e) (mun N g e)) ∧ (mov N g e * mun N g a = mov N g a * mun N g e ↔ lwA (mov N g e) (mun N g e) * lwB (mov N g a) (mun N g a) = lwA (mov N g a) (mun N g a) * lwB (mov N g e) (mun N g e)) := by
  have pa := (mov_b h g a0 a1).2.2.1
  have pe := (mov_b h g e0 e1).2.2.1
  obtain ⟨_, _, aA, aB, _, _⟩ := lw_f (a := mov N g a) (b := mun N g a) (by omega)
  obtain ⟨_, _, eA, eB, _, _⟩ := lw_f (a := mov N g e) (b := mun N g e) (by omega)
  have ga := (lwg_f (a := mov N g a) (b := mun N g a) (by omega)).1
  have ge := (lwg_f (a := mov N g e) (b := mun N g e) (by omega)).1
  generalize lwA (mov N g a) (mun N g a) = xa at *
  generalize lwB (mov N g a) (mun N g a) = ya at *
  generalize lwA (mov N g e) (mun N g e) = xe at *
  generalize lwB (mov N g e) (mun N g e) = ye at *
  generalize lwg (mov N g a) (mun N g a) = u at *
  generalize lwg (mov N g e) (mun N g e) = v at *
  rw [aA, aB, eA, eB]
  have puv : 0 < u * v := Int.mul_pos ga ge
  have s1 : v * xe * (u * ya) = xe * ya * (u * v) := by ac_rfl
  have s2 : u * xa * (v * ye) = xa * ye * (u * v) := by ac_rfl
  rw [s1, s2]
  refine ⟨⟨fun q => Int.lt_of_mul_lt_mul_right q (by omega), fun q => Int.mul_lt_mul_of_pos_right q puv⟩, fun q => Int.eq_of_mul_eq_mul_right (by omega) q, fun q => by rw [q]⟩
/-- the measures laid in rows -/
def UD (N : Int → Int) (m : zM) (p q : Nat) (g z : Int) : Prop := ∀ t, 0 ≤ t → t < z → lq m p t = lwA (mov N g t) (mun N g t) ∧ lq m q t = lwB (mov N g t) (mun N g t)
theorem lw_rg (h : TR C mv b N) (g : Int) {t : Int} (t0 : 0 ≤ t) (t1 : t < Zn N) : -119937024000 ≤ lwA (mov N g t) (mun N g t) ∧ lwA (mov N g t) (mun N g t) ≤ 119937024000 ∧ 1 ≤ lwB (mov N g t) (mun N g t) ∧ lwB (mov N g t) (mun N g t) ≤ 69639119 := by
  have mb := mov_b h g t0 t1
  have f1 := lw_f (a := mov N g t) (b := mun N g t) (by omega)
  have f2 := lw_bd (a := mov N g t) (b := mun N g t) (X := 119937024000) (Y := 119937024000) (by omega) (by omega) (by omega) mb.1 mb.2.1
  exact ⟨f2.1, f2.2, by omega, by omega⟩
theorem c_aheadR {Q : Int32 → zM → Prop} {m : zM} {g a e : Int} (h : TR C mv b N) (hT : DT0 m N) (hU : UD N m 258 259 g (Zn N)) (a0 : 0 ≤ a) (a1 : a < Zn N) (e0 : 0 ≤ e) (e1 : e < Zn N) (H1 : AR N g a e → Q (J 1) m) (H0 : ¬ AR N g a e → Q (J 0) m) : cI (d + 1) 25 [.ref 255, .int (J a), .int (J e)] w m Q := by
  have hM := Mn_b h
  have hZ := Zn_b h
  have ca := ct_b h a0 a1
  have ce := ct_b h e0 e1
  obtain ⟨u1, u2⟩ := hU a a0 a1
  obtain ⟨u3, u4⟩ := hU e e0 e1
  have ra := lw_rg h g a0 a1
  have re := lw_rg h g e0 e1
  have k := AR_lw h (g := g) a0 a1 e0 e1
  have t1 := (hT.2.1 a a0 a1).2.1
  have t2 := (hT.2.1 e e0 e1).2.1
  unfold AR at H1 H0
  rw [k.1, k.2] at H1 H0
  have p1 := mul_in (k := lwB (mov N g e) (mun N g e)) (x := lwA (mov N g a) (mun N g a)) (K := 69639119) (X := 119937024000) (Y := 119937024000) (by omega) re.2.2.2 (by omega) (by omega) ra.1 ra.2.1
  have p2 := mul_in (k := lwB (mov N g a) (mun N g a)) (x := lwA (mov N g e) (mun N g e)) (K := 69639119) (X := 119937024000) (Y := 119937024000) (by omega) ra.2.2.2 (by omega) (by omega) re.1 re.2.1
  rw [Int.mul_comm (lwB (mov N g e) (mun N g e))] at p1
  rw [Int.mul_comm (lwB (mov N g a) (mun N g a))] at p2
  refine S_Measures_ahead (c_atl (n := 1200) rfl (by decide) (by unfold r32; omega) (by omega) (c_atl (n := 1200) rfl (by decide) (by unfold r32; omega) (by omega) (c_atl (n := 1200) rfl (by decide) (by unfold r32; omega) (by omega) (c_atl (n := 1200) rfl (by decide) (by unfold r32; omega) (by omega) ?_))))
  rw [u1, u2, u3, u4, jl_ops.2.2.1, jl_ops.2.2.1]
  generalize lwA (mov N g a) (mun N g a) * lwB (mov N g e) (mun N g e) = x at *
  generalize lwA (mov N g e) (mun N g e) * lwB (mov N g a) (mun N g a) = y at *
  rw [JL_eq (by unfold r64; omega) (by unfold r64; omega), JL_le (by unfold r64; omega) (by unfold r64; omega)]
  refine ⟨fun q => c_at (n := 1200) rfl (by decide) (by unfold r32; omega) (by omega) (c_at (n := 1200) rfl (by decide) (by unfold r32; omega) (by omega) ?_), fun q => ⟨fun q2 => H0 (by omega), fun q2 => H1 (by omega)⟩⟩
  rw [t1, t2]
  simp (disch := first | (unfold r32; omega) | omega) only [j_lit, j_ops, J_eq, J_le]
  exact ⟨fun q1 => ⟨fun q2 => H0 (by omega), fun q2 => H1 (by omega)⟩, fun q1 => ⟨fun q2 => H0 (by omega), fun q2 => H1 (by omega)⟩⟩
end ORD
