/-! what both keep holds at the start
-/
section IV0
variable (xs : Nat → Int32)
theorem iq0 {a : Nat} (z : Int) (h : a ≠ 1) : iq (m0 xs) a z = (xlk 0 xFi a z.toNat).toInt := by
  show (bif Nat.beq a 1 then xs z.toNat else xlk 0 xFi a z.toNat).toInt = _
  rw [xne h, cond_false]
theorem lq0 (a : Nat) (z : Int) : lq (m0 xs) a z = (xlk 0 xFl a z.toNat).toInt := rfl
theorem TR0 : TR 0 (m0 xs) 9 (lq (m0 xs) 262) := by
  have n0 : lq (m0 xs) 262 0 = 0 := by rw [lq0]; decide +kernel
  have n161 : lq (m0 xs) 262 161 = 0 := by rw [lq0]; decide +kernel
  have n178 : lq (m0 xs) 262 178 = 0 := by rw [lq0]; decide +kernel
  have n259 : lq (m0 xs) 262 259 = 0 := by rw [lq0]; decide +kernel
  have n260 : lq (m0 xs) 262 260 = 0 := by rw [lq0]; decide +kernel
  have n1069 : lq (m0 xs) 262 1069 = 0 := by rw [lq0]; decide +kernel
  have n1870 : lq (m0 xs) 262 1870 = 3 := by rw [lq0]; decide +kernel
  have n1895 : lq (m0 xs) 262 1895 = 7 := by rw [lq0]; decide +kernel
  have n1896 : lq (m0 xs) 262 1896 = 4 := by rw [lq0]; decide +kernel
  have n1898 : lq (m0 xs) 262 1898 = 2 := by rw [lq0]; decide +kernel
  have n1899 : lq (m0 xs) 262 1899 = 5 := by rw [lq0]; decide +kernel
  have n1900 : lq (m0 xs) 262 1900 = 1 := by rw [lq0]; decide +kernel
  refine ⟨⟨by omega, by omega, ?_, fun k h0 h1 => by omega⟩, ⟨by omega, by omega, ?_, fun k h0 h1 => by omega⟩, ⟨by omega, by omega, ?_, ?_, ?_, fun c r _ => ?_⟩, ⟨by omega, by omega, ?_, n260, fun k h0 h1 => by omega, ?_, ?_, fun k h0 h1 => ?_, fun i j h0 h1 h2 => ?_⟩, ⟨by omega, by omega, ?_, fun k h0 h1 => by omega, fun i j h0 h1 h2 => by omega⟩, ⟨by omega, by omega, ?_, ?_, ?_, by omega, by omega, by omega, by omega, fun k h0 h1 => ?_⟩, ⟨fun k h0 h1 => ?_, ?_, ?_, ?_, by omega, by omega, by omega, by omega, by omega⟩⟩
  · rw [n0, iq0 _ _ (by decide)]; decide +kernel
  · rw [n161, iq0 _ _ (by decide)]; decide +kernel
  · rw [n178, iq0 _ _ (by decide)]; decide +kernel
  · rw [iq0 _ _ (by decide)]; decide +kernel
  · rw [n178, iq0 _ _ (by decide)]; decide +kernel
  · rw [n178, show iq (m0 xs) (9 + 7) 2 = 0 by rw [iq0 _ _ (by decide)]; decide +kernel]
    exact Or.inl ⟨rfl, rfl⟩
  · rw [n259, iq0 _ _ (by decide)]; decide +kernel
  · rw [n259]
    show lq (m0 xs) 262 260 ≤ 240
    omega
  · rw [n259]
    show iq (m0 xs) 19 2 = lq (m0 xs) 262 260
    rw [n260, iq0 _ _ (by decide)]; decide +kernel
  · rw [n259] at h1
    have h1 : k < lq (m0 xs) 262 260 := h1
    omega
  · rw [n259] at h2
    have h2 : j < lq (m0 xs) 262 260 := h2
    omega
  · rw [n1069, iq0 _ _ (by decide)]; decide +kernel
  · rw [n1870, iq0 _ _ (by decide)]; decide +kernel
  · rw [n1895, iq0 _ _ (by decide)]; decide +kernel
  · rw [n1896, iq0 _ _ (by decide)]; decide +kernel
  · have hk : k = 0 ∨ k = 1 ∨ k = 2 := by omega
    rw [iq0 _ _ (by decide), iq0 _ _ (by decide), lq0, lq0]
    rcases hk with rfl | rfl | rfl
    · exact ⟨Or.inl (Or.inr (Or.inl (by decide +kernel))), by decide +kernel, by decide +kernel, by decide +kernel⟩
    · exact ⟨Or.inl (Or.inl (by decide +kernel)), by decide +kernel, by decide +kernel, by decide +kernel⟩
    · exact ⟨Or.inl (Or.inl (by decide +kernel)), by decide +kernel, by decide +kernel, by decide +kernel⟩
  · have hk : k = 1 ∨ k = 2 ∨ k = 3 ∨ k = 4 ∨ k = 5 := by omega
    rw [iq0 _ _ (by decide), lq0]
    rcases hk with rfl | rfl | rfl | rfl | rfl <;> exact ⟨by decide +kernel, by decide +kernel, by decide +kernel⟩
  · rw [n1898, iq0 _ _ (by decide)]; decide +kernel
  · rw [n1899, iq0 _ _ (by decide)]; decide +kernel
  · rw [n1900, iq0 _ _ (by decide)]; decide +kernel
theorem IV_0 (len : Nat) : IV 0 (len, 9, 30) (m0 xs) := by
  have e : ∀ {a : Nat} {z v : Int}, a ≠ 1 → (xlk 0 xFi a z.toNat).toInt = v → iq (m0 xs) a z = v := fun h h2 => (iq0 xs _ h).trans h2
  have h10 : iq (m0 xs) 3 10 = 0 := e (by decide) (by decide +kernel)
  have h11 : iq (m0 xs) 3 11 = 0 := e (by decide) (by decide +kernel)
  have h12 : iq (m0 xs) 3 12 = 0 := e (by decide) (by decide +kernel)
  have h13 : iq (m0 xs) 3 13 = -1 := e (by decide) (by decide +kernel)
  have h14 : iq (m0 xs) 3 14 = 0 := e (by decide) (by decide +kernel)
  have h2 : iq (m0 xs) 261 2 = 0 := e (by decide) (by decide +kernel)
  have h20 : iq (m0 xs) 261 20 = 0 := e (by decide) (by decide +kernel)
  have h54 : iq (m0 xs) 261 54 = 0 := e (by decide) (by decide +kernel)
  have h61 : iq (m0 xs) 6 1 = 0 := e (by decide) (by decide +kernel)
  refine ⟨lq (m0 xs) 262, ⟨by omega, by omega, by omega, by omega, by omega, ?_, TR0 xs, fun j h0 h1 => by omega⟩, ⟨fun _ => 0, 0, ⟨by omega, by omega, e (by decide) (by decide +kernel), fun k h0 h1 => by omega, fun k => ⟨Int.le_refl 0, (by decide : (0:Int) < 256)⟩⟩, ⟨by omega, by omega, e (by decide) (by decide +kernel), fun k h0 h1 => by omega, fun k => ⟨Int.le_refl 0, (by decide : (0:Int) < 256)⟩⟩⟩, ⟨?_, ?_⟩, fun k _ _ => rfl, TR0 xs, ⟨by omega, by omega, by omega, fun k h0 h1 => by omega⟩, Or.inl h14, Or.inl h20⟩
  · rw [h10]; rfl
  · rw [h12]; exact (e (by decide) (by decide +kernel)).symm
  · rw [h13]; exact (e (by decide) (by decide +kernel)).symm
end IV0
