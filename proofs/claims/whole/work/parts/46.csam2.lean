/-! the class reads the words that are the same: all of it -/
def s0 (N : Int → Int) : Int → Int := fun z => if z = 178 then 0 else N z
section CT
variable {d : Nat} {w : Nat × Nat × Nat} {T : Int → Int} {n : Int} {b : Nat}
theorem c_same_l {Q : zM → Prop} (hb : zT b) : ∀ (j : Nat) (m : zM) (p i : Int) (N : Int → Int), tpC m T n → at8 m T n p → iq m 8 5 = 0 → iq m 8 6 = -1 → 0 ≤ p → p ≤ n → n - p < j → 0 ≤ i → i ≤ p → trS m b N →
    (∀ m' x y N', SX T n none p N x y N' → fs b m m' → iq m' 8 5 = x → iq m' 8 6 = y → (x = 0 → trS m' b N' ∧ ∀ z, z < 178 ∨ 259 ≤ z → N' z = N z) → Q m') →
    W_Reader_readSame_13 (d + 5) b (J i) w m Q := by
  intro j
  induction j with
  | zero => intro m p i N _ _ _ _ h0 h1 hj; omega
  | succ j ih =>
    intro m p i N ht h8 h5 h6 h0 h1 hj hi0 hi hN H
    have hn := ht.2.1
    have hs := tS_r (n := n) (p := p) ht.2.2.2.2
    refine S_Reader_readSame_13 ?_
    simp (disch := first | (unfold r32; omega) | omega) only [j_lit, J_le, J_eq, j_rd, j_nc, h8.1, h5, j_ops]
    refine ⟨fun z => by omega, fun _ => ⟨fun z => absurd trivial z, fun _ => ⟨fun q => ?_, fun q => ?_⟩⟩⟩
    · exact H m 0 (-1) N (SX.fin q) (fs.rf b m) h5 h6 (fun _ => ⟨hN, fun _ _ => rfl⟩)
    · refine c_sameLine hb ht h8 h5 ⟨h0, h1⟩ hN q (fun m' x y N' z1 z2 z3 z4 z5 => ?_) (fun m' p' N' z1 z2 z3 z4 z5 z6 z7 z8 z9 => ?_)
      · have hx : r32 x := by rw [← z4]; exact iq_r _ _ _
        refine S_Reader_readSame_13 ?_
        simp (disch := first | exact hx | (unfold r32; omega) | omega) only [j_lit, J_le, J_eq, j_rd, j_nc, z4, j_ops]
        have fin := H m' x y N' z1 z3 z4 z5 (fun z => absurd z z2)
        exact ⟨fun _ => fin, fun _ => ⟨fun _ => fin, fun z => absurd z z2⟩⟩
      · have hb9 := zT_9 hb
        refine ih m' p' (i + 1) N' (ht.fs hb9 z4) z7 z5 (by rw [z6, h6]) (by omega) z3 (by omega) (by omega) (by omega) z8 (fun m2 x y N2 y1 y2 y3 y4 y5 => ?_)
        exact H m2 x y N2 (z1 x y N2 y1) (z4.tr y2) y3 y4 (fun z => ⟨(y5 z).1, fun t ht => ((y5 z).2 t ht).trans (z9 t ht)⟩)
theorem c_readSame {Q : zM → Prop} {m : zM} {N : Int → Int} (hb : zT b) (ht : tpC m T n)
    (H : ∀ m' x y N', SX T n none 0 (s0 N) x y N' → fs b m m' → iq m' 8 5 = x → iq m' 8 6 = y → (x = 0 → trS m' b N' ∧ ∀ z, z < 178 ∨ 259 ≤ z → N' z = N z) → Q m') : cV (d + 6) 74 [.ref 8, .ref b] w m Q := by
  have hb9 := zT_9 hb
  refine S_Reader_readSame hb (c_begin8 (fun m1 f1 g1 g5 g6 => ?_))
  simp only [j_lit, j_wr, j_nc]
  have f0 : fs b m1 (sq (sq m1 (b + 7) 2 0) b 8 0) := ⟨((fr.rf _ m1).si (by simp) 2 0).si (by simp) 8 0, fun z h0 h8 => by rw [iq_sq (by omega) h0 (by unfold r32; omega), if_neg (by omega), iq_sq (by omega) h0 (by unfold r32; omega), if_neg (by omega)]⟩
  have f01 : fs b m (sq (sq m1 (b + 7) 2 0) b 8 0) := (f1.fs hb9).tr f0
  have ht1 := ht.fs hb9 f01
  have r8 : (sq (sq m1 (b + 7) 2 0) b 8 0).1 8 = m1.1 8 := funext (fun z => by
    show (if 8 = b ∧ z = (8 : Int).toNat then J 0 else if 8 = b + 7 ∧ z = (2 : Int).toNat then J 0 else m1.1 8 z) = m1.1 8 z
    rw [if_neg (by omega), if_neg (by omega)])
  have i8 : ∀ z, iq (sq (sq m1 (b + 7) 2 0) b 8 0) 8 z = iq m1 8 z := fun z => by unfold iq; rw [r8]
  refine c_next (p := 0) ht1 (by rw [i8, g1]) ⟨by omega, ht.1⟩ (fun m2 f2 g2 => ?_)
  have z0 : iq (sq (sq m1 (b + 7) 2 0) b 8 0) (b + 7) 2 = 0 := by rw [iq_sq (by omega) (by omega) (by unfold r32; omega), if_neg (by omega), iq_sq (by omega) (by omega) (by unfold r32; omega), if_pos ⟨rfl, rfl⟩]
  have z8 : iq (sq (sq m1 (b + 7) 2 0) b 8 0) b 8 = 0 := by rw [iq_sq (by omega) (by omega) (by unfold r32; omega), if_pos ⟨rfl, rfl⟩]
  have e178 : s0 N 178 = 0 := if_pos rfl
  have hS0 : trS m2 b (s0 N) := by
    refine ⟨by rw [e178]; omega, by rw [e178]; omega, by rw [e178, f2.i (by omega), z8], by rw [f2.i (by omega), z0]; omega, by rw [f2.i (by omega), z0, e178]; omega, fun c r _ => Or.inl ⟨?_, ?_⟩⟩
    · rw [f2.i (by omega), z0]
      rfl
    · rw [e178]
      rfl
  refine c_same_l hb 601 m2 0 0 (s0 N) (ht1.f8 f2) g2 (by rw [f2.2.1, i8, g5]) (by rw [f2.2.2, i8, g6]) (by omega) ht.1 (by have := ht.2.1; omega) (by omega) (by omega) hS0 (fun m' x y N' z1 z2 z3 z4 z5 => ?_)
  exact H m' x y N' z1 ((f01.tr (f2.fr.fs hb9)).tr z2) z3 z4 (fun z => ⟨(z5 z).1, fun t hz => ((z5 z).2 t hz).trans (if_neg (by omega))⟩)
end CT
