/-! the class's small helpers -/
section HELP
variable {d : Nat} {w : Nat × Nat × Nat} {m : zM} {a b n k : Nat} {z v : Int}
theorem c_at {Q : Int32 → zM → Prop} (ha : zAr w a 12 n) (hn : n < 100000) (hr : r32 z) (h : 0 ≤ z ∧ z < n) (hQ : Q (J (iq m a z)) m) : cI d 156 [.ref a, .int (J z)] w m Q := by
  refine S_T_at ha ?_
  unfold r32 at hr
  simp (disch := first | (unfold r32; omega) | omega) only [j_lit, ofn_J, J_lt, J_le, vp_J, J_cl, j_rd, iq_tn]
  refine ⟨fun q => by omega, fun _ => ⟨fun q => by omega, fun _ => ⟨h, hQ⟩⟩⟩
theorem c_at_out {Q : Int32 → zM → Prop} (ha : zAr w a 12 n) (hn : n < 100000) (hr : r32 z) (h : ¬ (0 ≤ z ∧ z < n)) (hQ : Q (J 0) m) : cI d 156 [.ref a, .int (J z)] w m Q := by
  refine S_T_at ha ?_
  unfold r32 at hr
  simp (disch := first | (unfold r32; omega) | omega) only [j_lit, ofn_J, J_lt, J_le, vp_J, J_cl, j_rd, iq_tn]
  refine ⟨fun q => hQ, fun _ => ⟨fun q => hQ, fun _ => by omega⟩⟩
theorem c_atl {Q : Int64 → zM → Prop} (ha : zAr w a 13 n) (hn : n < 100000) (hr : r32 z) (h : 0 ≤ z ∧ z < n) (hQ : Q (JL (lq m a z)) m) : cL d 157 [.ref a, .int (J z)] w m Q := by
  refine S_T_at_ ha ?_
  unfold r32 at hr
  simp (disch := first | (unfold r32; omega) | omega) only [j_lit, ofn_J, J_lt, J_le, vp_J, J_cl, jl_rd, lq_tn]
  refine ⟨fun q => by omega, fun _ => ⟨fun q => by omega, fun _ => ⟨h, hQ⟩⟩⟩
theorem c_atl_out {Q : Int64 → zM → Prop} (ha : zAr w a 13 n) (hn : n < 100000) (hr : r32 z) (h : ¬ (0 ≤ z ∧ z < n)) (hQ : Q (JL 0) m) : cL d 157 [.ref a, .int (J z)] w m Q := by
  refine S_T_at_ ha ?_
  unfold r32 at hr
  simp (disch := first | (unfold r32; omega) | omega) only [j_lit, jl_lit, ofn_J, J_lt, J_le, vp_J, J_cl, jl_rd, lq_tn]
  refine ⟨fun q => hQ, fun _ => ⟨fun q => hQ, fun _ => by omega⟩⟩
theorem c_put {Q : zM → Prop} (ha : zAr w a 12 n) (hn : n < 100000) (hr : r32 z) (h : 0 ≤ z ∧ z < n) (hQ : Q (sq m a z v)) : cV d 158 [.ref a, .int (J z), .int (J v)] w m Q := by
  refine S_T_put ha ?_
  unfold r32 at hr
  simp (disch := first | (unfold r32; omega) | omega) only [j_lit, ofn_J, J_lt, J_le, vp_J, J_cl, j_wr, sq_tn]
  refine ⟨fun q => by omega, fun _ => ⟨fun q => by omega, fun _ => ⟨h, hQ⟩⟩⟩
theorem c_put_out {Q : zM → Prop} {x : Int32} (ha : zAr w a 12 n) (hn : n < 100000) (hr : r32 z) (h : ¬ (0 ≤ z ∧ z < n)) (hQ : Q m) : cV d 158 [.ref a, .int (J z), .int x] w m Q := by
  refine S_T_put ha ?_
  unfold r32 at hr
  simp (disch := first | (unfold r32; omega) | omega) only [j_lit, ofn_J, J_lt, J_le, vp_J, J_cl]
  refine ⟨fun q => hQ, fun _ => ⟨fun q => hQ, fun _ => by omega⟩⟩
theorem c_putl {Q : zM → Prop} (ha : zAr w a 13 n) (hn : n < 100000) (hr : r32 z) (h : 0 ≤ z ∧ z < n) (hQ : Q (sl m a z v)) : cV d 159 [.ref a, .int (J z), .long (JL v)] w m Q := by
  refine S_T_put_ ha ?_
  unfold r32 at hr
  simp (disch := first | (unfold r32; omega) | omega) only [j_lit, ofn_J, J_lt, J_le, vp_J, J_cl, jl_wr, sl_tn]
  refine ⟨fun q => by omega, fun _ => ⟨fun q => by omega, fun _ => ⟨h, hQ⟩⟩⟩
/-- all but these cells' rows stay -/
def fr (S : List Nat) (m m' : zM) : Prop := ∀ b, b ∉ S → m'.1 b = m.1 b ∧ m'.2 b = m.2 b
theorem fr.rf (S : List Nat) (m : zM) : fr S m m := fun _ _ => ⟨rfl, rfl⟩
theorem fr.tr {S : List Nat} {m m1 m2 : zM} (h1 : fr S m m1) (h2 : fr S m1 m2) : fr S m m2 := fun b hb => ⟨((h2 b hb).1).trans (h1 b hb).1, ((h2 b hb).2).trans (h1 b hb).2⟩
theorem fr.mo {S S' : List Nat} {m m1 : zM} (h : fr S m m1) (hs : ∀ b ∈ S, b ∈ S') : fr S' m m1 := fun b hb => h b (fun q => hb (hs b q))
theorem fr.i {S : List Nat} {m m1 : zM} (h : fr S m m1) (hb : b ∉ S) (z : Int) : iq m1 b z = iq m b z := by unfold iq; rw [(h b hb).1]
theorem fr.l {S : List Nat} {m m1 : zM} (h : fr S m m1) (hb : b ∉ S) (z : Int) : lq m1 b z = lq m b z := by unfold lq; rw [(h b hb).2]
theorem fr.si {S : List Nat} {m m1 : zM} (h : fr S m m1) (hb : a ∈ S) (z v : Int) : fr S m (sq m1 a z v) := by
  refine h.tr (fun b hb' => ⟨?_, rfl⟩)
  funext j
  show (if b = a ∧ j = z.toNat then J v else m1.1 b j) = m1.1 b j
  refine if_neg (fun q => hb' ?_)
  rw [q.1]
  exact hb
theorem fr.sll {S : List Nat} {m m1 : zM} (h : fr S m m1) (hb : a ∈ S) (z v : Int) : fr S m (sl m1 a z v) := by
  refine h.tr (fun b hb' => ⟨rfl, ?_⟩)
  funext j
  show (if b = a ∧ j = z.toNat then JL v else m1.2 b j) = m1.2 b j
  refine if_neg (fun q => hb' ?_)
  rw [q.1]
  exact hb
theorem c_clear_l {Q : zM → Prop} (ha : zAr w a 12 n) (hn : n < 100000) (hr : 0 ≤ v ∧ v ≤ n) : ∀ (k : Nat) (z : Int) (m : zM), 0 ≤ z → z + k = v → (∀ m', fr [a] m m' → (∀ y, z ≤ y → y < v → iq m' a y = 0) → (∀ y, 0 ≤ y → y < z → iq m' a y = iq m a y) → Q m') → W_T_clear_2 d a (J v) (J z) w m Q := by
  intro k
  induction k with
  | zero =>
    intro z m hz hk H
    refine S_T_clear_2 ha ?_
    simp (disch := first | (unfold r32; omega) | omega) only [j_lit, ofn_J, J_lt, J_le, vp_J, J_cl, j_wr, sq_tn, j_ops]
    refine ⟨fun _ => H m (fr.rf _ _) (fun y h1 h2 => by omega) (fun y h1 h2 => rfl), fun q => by omega⟩
  | succ k ih =>
    intro z m hz hk H
    refine S_T_clear_2 ha ?_
    simp (disch := first | (unfold r32; omega) | omega) only [j_lit, ofn_J, J_lt, J_le, vp_J, J_cl, j_wr, sq_tn, j_ops]
    refine ⟨fun q => by omega, fun _ => ⟨fun q => by omega, fun _ => ⟨by omega, ih (z + 1) _ (by omega) (by omega) (fun m' h1 h2 h3 => H m' (((fr.rf [a] m).si (by simp) z 0).tr h1) (fun y q1 q2 => ?_) (fun y q1 q2 => ?_))⟩⟩⟩
    · by_cases e : y = z
      · subst e
        rw [h3 y (by omega) (by omega), iq_sq (by omega) (by omega) (by unfold r32; omega), if_pos ⟨rfl, rfl⟩]
      · exact h2 y (by omega) q2
    · rw [h3 y (by omega) (by omega), iq_sq (by omega) (by omega) (by unfold r32; omega), if_neg (by omega)]
theorem c_clear {Q : zM → Prop} (ha : zAr w a 12 n) (hn : n < 100000) (hr : 0 ≤ v ∧ v ≤ n) (H : ∀ m', fr [a] m m' → (∀ y, 0 ≤ y → y < v → iq m' a y = 0) → Q m') : cV d 160 [.ref a, .int (J v)] w m Q :=
  S_T_clear (c_clear_l ha hn hr v.toNat 0 m (by omega) (by omega) (fun m' h1 h2 _ => H m' h1 h2))
end HELP
