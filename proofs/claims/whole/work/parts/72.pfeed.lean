/-! feed, end, fault, slate, look: both -/
/-- but the tapes all stays -/
def FD (m m' : zM) : Prop := (∀ b, b ≠ 4 → b ≠ 5 → b ≠ 261 → b ≠ 265 → m'.1 b = m.1 b) ∧ m'.2 = m.2 ∧ ∀ z, 0 ≤ z → z ≠ 5 → iq m' 261 z = iq m 261 z
/-- the slates are the same -/
def SLt (m : zM) : Prop := 0 ≤ iq m 6 1 ∧ iq m 6 1 ≤ 54 ∧ iq m 261 54 = iq m 6 1 ∧ ∀ k, 0 ≤ k → k < iq m 6 1 → iq m 7 k = iq m 294 k ∧ (iq m 7 k = 32 ∨ (97 ≤ iq m 7 k ∧ iq m 7 k ≤ 122))
def FT (m : zM) : Prop := iq m 3 12 = iq m 261 9 ∧ iq m 3 13 = iq m 261 10
theorem sys_app (ar ob : Nat) (f : Int) (m : zM) (l l' : List Int) : sys ar ob f (sys ar ob f m l) l' = sys ar ob f m (l ++ l') := by
  unfold sys
  rw [List.foldl_append]
theorem b4_b (x : Int) : ∀ y ∈ b4 x, 0 ≤ y ∧ y < 256 := by
  intro y hy
  unfold b4 at hy
  simp at hy
  omega
theorem b4_l (x : Int) : (b4 x).length = 4 := rfl
theorem getD_b {l : List Int} (h : ∀ y ∈ l, 0 ≤ y ∧ y < 256) (k : Nat) : 0 ≤ l.getD k 0 ∧ l.getD k 0 < 256 := by
  by_cases q : k < l.length
  · rw [List.getD_eq_getElem?_getD, List.getElem?_eq_getElem q]
    exact h _ (List.getElem_mem q)
  · rw [List.getD_eq_getElem?_getD, List.getElem?_eq_none (by omega)]
    decide
section PFD
variable {d : Nat} {w : Nat × Nat × Nat} {C : Int} {T : Int → Int} {n : Int}
/-- the tape with a list behind it -/
def tap (T : Int → Int) (n : Int) (l : List Int) : Int → Int := fun k => if k < n then T k else l.getD (k - n).toNat 0
theorem tap_b (hT : ∀ k, 0 ≤ T k ∧ T k < 256) {l : List Int} (h : ∀ y ∈ l, 0 ≤ y ∧ y < 256) : ∀ k, 0 ≤ tap T n l k ∧ tap T n l k < 256 := fun k => by
  unfold tap
  split
  · exact hT k
  · exact getD_b h _
def bys (l : List Int) : Prop := ∀ y ∈ l, 0 ≤ y ∧ y < 256
theorem bys_app {l : List Int} (h : bys l) (x : Int) : bys (l ++ b4 x) := fun y hy => by
  rw [List.mem_append] at hy
  rcases hy with hy | hy
  · exact h y hy
  · exact b4_b x y hy
theorem c_addS {Q : zM → Prop} {m : zM} {x : Int} (l : List Int) (hb : bys l) (hl : l.length ≤ 16) (hm : iq m 4 1 = n) (hn : 0 ≤ n ∧ n + 20 ≤ 600) (H : Q (sys 5 4 1 m (l ++ b4 x))) : cV (d + 2) 5 [.ref 4, .int (J x)] w (sys 5 4 1 m l) Q := by
  have e := (sys_facts (ar := 5) (ob := 4) (f := 1) (by omega) (by omega) l m n.toNat (by omega) (by omega) (fun x hx => by have := hb x hx; unfold r32; omega)).1
  refine c_addNumber (d := d) zBy_tape (by decide) ?_ ?_
  · rw [e]; omega
  · rw [show 4 + 1 = 5 from rfl, sys_app]
    exact H
theorem c_fourS {Q : zM → Prop} {m : zM} {x : Int} (hx : r32 x) (l : List Int) (hb : bys l) (hl : l.length ≤ 16) (hm : iq m 261 5 = n) (hn : 0 ≤ n ∧ n + 20 ≤ 600) (H : Q (sys 265 261 5 m (l ++ b4 x))) : cV d 197 [.ref 261, .int (J x)] w (sys 265 261 5 m l) Q := by
  have e := (sys_facts (ar := 265) (ob := 261) (f := 5) (by omega) (by omega) l m n.toNat (by omega) (by omega) (fun x hx => by have := hb x hx; unfold r32; omega)).1
  refine c_four hx ?_ ?_
  · rw [e]; omega
  · rw [sys_app]
    exact H
theorem sys_nil (ar ob : Nat) (f : Int) (m : zM) : sys ar ob f m [] = m := rfl
theorem feed_fin {P : Int32 → Int32 → zM → Prop} {m mc mr : zM} {l : List Int} (hb : bys l) (hl : l.length = 20) (hn : 0 ≤ n ∧ n + 20 ≤ 600) (hc : tpC m T n) (ht : tpM m T n) (hmc : mc = sys 5 4 1 m l) (hmr : mr = sys 265 261 5 mc l) (H1 : ∀ m' T', FD m m' → tpC m' T' (n + 20) → tpM m' T' (n + 20) → ∀ v, P v v m') : P (J (n + 20)) (J (n + 20)) mr := by
  obtain ⟨c1, c2, c3, c4, c5⟩ := id hc
  obtain ⟨t1, t2, t3, t4, t5⟩ := id ht
  obtain ⟨k, hk⟩ : ∃ k : Nat, n = (k : Int) := ⟨n.toNat, by omega⟩
  have hr : ∀ x ∈ l, r32 x := fun x hx => by have := hb x hx; unfold r32; omega
  obtain ⟨s1, s2, s3, s4, s5, s6⟩ := sys_facts (ar := 5) (ob := 4) (f := 1) (by omega) (by omega) l m k (by omega) (by omega) hr
  rw [← hmc] at s1 s2 s3 s4 s5 s6
  have e5 : iq mc 261 5 = n := by rw [← t3]; unfold iq; rw [s5 261 (by omega) (by omega)]
  obtain ⟨v1, v2, v3, v4, v5, v6⟩ := sys_facts (ar := 265) (ob := 261) (f := 5) (by omega) (by omega) l mc k (by omega) (by omega) hr
  rw [← hmr] at v1 v2 v3 v4 v5 v6
  rw [hl] at s1 s3 v1 v3
  have hTb := tap_b (n := n) c5 hb
  refine H1 mr (tap T n l) ⟨fun b b1 b2 b3 b4 => by rw [v5 b b4 b3, s5 b b2 b1], by rw [v6, s6], fun z z0 z5 => by rw [v2 z z0 z5]; unfold iq; rw [s5 261 (by omega) (by omega)]⟩ ?_ ?_ _
  · refine ⟨by omega, by omega, ?_, fun i i0 i1 => ?_, hTb⟩
    · rw [show iq mr 4 1 = iq mc 4 1 by unfold iq; rw [v5 4 (by omega) (by omega)], s1]
      omega
    · rw [show iq mr 5 i = iq mc 5 i by unfold iq; rw [v5 5 (by omega) (by omega)]]
      unfold tap
      by_cases e : i < n
      · rw [if_pos e, s4 i i0 (by omega), c4 i i0 e]
      · rw [if_neg e]
        have := s3 (i - n).toNat (by omega)
        rw [show ((k : Int) + ((i - n).toNat : Int)) = i by omega] at this
        exact this
  · refine ⟨by omega, by omega, by omega, fun i i0 i1 => ?_, hTb⟩
    unfold tap
    by_cases e : i < n
    · rw [if_pos e, v4 i i0 (by omega), ← t4 i i0 e]
      unfold iq
      rw [s5 265 (by omega) (by omega)]
    · rw [if_neg e]
      have := v3 (i - n).toNat (by omega)
      rw [show ((k : Int) + ((i - n).toNat : Int)) = i by omega] at this
      exact this
theorem p_feed {P : Int32 → Int32 → zM → Prop} {m : zM} {a1 a2 a3 a4 a5 : Int} (r1 : r32 a1) (r2 : r32 a2) (r3 : r32 a3) (r4 : r32 a4) (r5 : r32 a5) (hc : tpC m T n) (ht : tpM m T n) (H0 : P (J (-1)) (J (-1)) m) (H1 : ∀ m' T', FD m m' → tpC m' T' (n + 20) → tpM m' T' (n + 20) → ∀ v, P v v m') :
    cI (d + 4) 115 [.ref 3, .int (J a1), .int (J a2), .int (J a3), .int (J a4), .int (J a5)] w m (fun x m1 => cI (d + 4) 198 [.ref 261, .int (J a1), .int (J a2), .int (J a3), .int (J a4), .int (J a5)] w m1 (fun y m2 => P x y m2)) := by
  have t3 := ht.2.2.1
  have c3 := hc.2.2.1
  have c1 := hc.1
  have c2 := hc.2.1
  refine S_T_feed ?_
  simp (disch := first | (unfold r32; omega) | omega) only [j_lit, J_le, j_rd, j_nc, c3, j_ops]
  refine ⟨fun q => ?_, fun q => S_M_feed ?_⟩
  · have hn : 0 ≤ n ∧ n + 20 ≤ 600 := by omega
    have q0 : bys [] := fun y hy => by cases hy
    have q1 := bys_app q0 a1
    have q2 := bys_app q1 a2
    have q3 := bys_app q2 a3
    have q4 := bys_app q3 a4
    have q5 := bys_app q4 a5
    have k1 : ([] ++ b4 a1).length = 4 := rfl
    have k2 : ([] ++ b4 a1 ++ b4 a2).length = 8 := rfl
    have k3 : ([] ++ b4 a1 ++ b4 a2 ++ b4 a3).length = 12 := rfl
    have k4 : ([] ++ b4 a1 ++ b4 a2 ++ b4 a3 ++ b4 a4).length = 16 := rfl
    have k5 : ([] ++ b4 a1 ++ b4 a2 ++ b4 a3 ++ b4 a4 ++ b4 a5).length = 20 := rfl
    generalize hl1 : [] ++ b4 a1 = l1 at *
    generalize hl2 : l1 ++ b4 a2 = l2 at *
    generalize hl3 : l2 ++ b4 a3 = l3 at *
    generalize hl4 : l3 ++ b4 a4 = l4 at *
    generalize hl5 : l4 ++ b4 a5 = l5 at *
    rw [← sys_nil 5 4 1 m]
    refine c_addS (d := d + 1) [] q0 (by simp) c3 hn ?_
    rw [hl1]
    refine c_addS (d := d + 1) l1 q1 (by omega) c3 hn ?_
    rw [hl2]
    refine c_addS (d := d + 1) l2 q2 (by omega) c3 hn ?_
    rw [hl3]
    refine c_addS (d := d + 1) l3 q3 (by omega) c3 hn ?_
    rw [hl4]
    refine c_addS (d := d + 1) l4 q4 (by omega) c3 hn ?_
    rw [hl5]
    obtain ⟨s1, s2, s3, s4, s5, s6⟩ := sys_facts (ar := 5) (ob := 4) (f := 1) (by omega) (by omega) l5 m n.toNat (by omega) (by omega) (fun x hx => by have := q5 x hx; unfold r32; omega)
    have fin := feed_fin (P := P) q5 k5 hn hc ht (mc := sys 5 4 1 m l5) rfl rfl H1
    generalize sys 5 4 1 m l5 = mc at *
    have e41 : iq mc 4 1 = n + 20 := by omega
    have e5 : iq mc 261 5 = n := by rw [← t3]; unfold iq; rw [s5 261 (by omega) (by omega)]
    refine S_M_feed ?_
    simp (disch := first | (unfold r32; omega) | omega) only [j_lit, J_le, j_rd, j_nc, e5, j_ops, e41]
    refine ⟨fun _ => ?_, fun z => by omega⟩
    rw [← sys_nil 265 261 5 mc]
    refine c_fourS r1 [] q0 (by simp) e5 hn ?_
    rw [hl1]
    refine c_fourS r2 l1 q1 (by omega) e5 hn ?_
    rw [hl2]
    refine c_fourS r3 l2 q2 (by omega) e5 hn ?_
    rw [hl3]
    refine c_fourS r4 l3 q3 (by omega) e5 hn ?_
    rw [hl4]
    refine c_fourS r5 l4 q4 (by omega) e5 hn ?_
    rw [hl5]
    obtain ⟨v1, _⟩ := sys_facts (ar := 265) (ob := 261) (f := 5) (by omega) (by omega) l5 mc n.toNat (by omega) (by omega) (fun x hx => by have := q5 x hx; unfold r32; omega)
    generalize sys 265 261 5 mc l5 = mr at *
    have e25 : iq mr 261 5 = n + 20 := by omega
    rw [e25]
    exact fin
  · simp (disch := first | (unfold r32; omega) | omega) only [j_lit, J_le, j_rd, j_nc, t3, j_ops]
    exact ⟨fun z => by omega, fun _ => H0⟩
theorem p_end {P : Int32 → Int32 → zM → Prop} {m : zM} {z : Int} (hz : r32 z) (hc : tpC m T n) (ht : tpM m T n) (H0 : P (J 0) (J 0) m) (H1 : ∀ m', FD m m' → tpC m' T z → tpM m' T z → P (J 1) (J 1) m') :
    cI (d + 1) 116 [.ref 3, .int (J z)] w m (fun x m1 => cI (d + 1) 199 [.ref 261, .int (J z)] w m1 (fun y m2 => P x y m2)) := by
  obtain ⟨c1, c2, c3, c4, c5⟩ := id hc
  obtain ⟨t1, t2, t3, t4, t5⟩ := id ht
  have no : ¬ (0 ≤ z ∧ z ≤ n) → cI (d + 1) 199 [.ref 261, .int (J z)] w m (fun y m2 => P (J 0) y m2) := by
    intro q
    refine S_M_end ?_
    simp (disch := first | exact hz | (unfold r32; omega) | omega) only [j_lit, jl_lit, J_64, j_rd, j_nc, t3]
    refine c_isIn (r64_32 hz) (by unfold r64; omega) (by unfold r64; omega) ?_
    rw [if_neg q]
    exact ⟨fun e => absurd rfl e, fun _ => H0⟩
  refine S_T_end ?_
  simp (disch := first | exact hz | (unfold r32; omega) | omega) only [j_lit, J_lt, J_le, j_rd, j_nc, c3, j_wr]
  refine ⟨fun q => no (by omega), fun q => ⟨fun q2 => ?_, fun q2 => no (by omega)⟩⟩
  have f1 : fr [4] m (sq m 4 1 z) := (fr.rf _ m).si (by simp) _ _
  have e5 : iq (sq m 4 1 z) 261 5 = n := (f1.i (by simp) 5).trans t3
  refine S_M_end ?_
  simp (disch := first | exact hz | (unfold r32; omega) | omega) only [j_lit, jl_lit, J_64, j_rd, j_nc, e5, j_wr]
  refine c_isIn (r64_32 hz) (by unfold r64; omega) (by unfold r64; omega) ?_
  rw [if_pos (by omega)]
  refine ⟨fun _ => ?_, fun e => absurd e (by decide)⟩
  have f2 : fr [261] (sq m 4 1 z) (sq (sq m 4 1 z) 261 5 z) := (fr.rf _ _).si (by simp) _ _
  refine H1 _ ⟨fun b b1 b2 b3 b4 => (f2 b (by simp; exact b3)).1.trans (f1 b (by simp; exact b1)).1, rfl, fun y y0 y5 => by rw [iq_ne (Or.inr y5) (by omega) y0, f1.i (by simp)]⟩ ⟨by omega, by omega, ?_, fun k k0 k1 => ?_, c5⟩ ⟨by omega, by omega, iq_eq hz, fun k k0 k1 => ?_, t5⟩
  · rw [f2.i (by simp), iq_eq hz]
  · rw [f2.i (by simp), f1.i (by simp)]
    exact c4 k k0 (by omega)
  · rw [f2.i (by simp), f1.i (by simp)]
    exact t4 k k0 (by omega)
theorem p_fault {P : Int32 → Int32 → zM → Prop} {m : zM} {z : Int} (hz : r32 z) (hF : FT m) (H : ∀ v, P v v m) : cI d 120 [.ref 3, .int (J z)] w m (fun x m1 => cI d 227 [.ref 261, .int (J z)] w m1 (fun y m2 => P x y m2)) := by
  refine S_T_fault ?_
  simp (disch := first | exact hz | (unfold r32; omega) | omega) only [j_lit, J_eq, j_rd, j_nc, hF.1, hF.2, j_ops]
  refine ⟨fun q => ⟨fun q2 => S_M_fault ?_, fun q2 => S_M_fault ?_⟩, fun q => S_M_fault ?_⟩
  · simp (disch := first | exact hz | (unfold r32; omega) | omega) only [j_lit, J_eq, j_rd, j_nc, j_ops]
    exact ⟨fun _ => ⟨fun _ => H _, fun e => absurd e q2⟩, fun e => absurd e q⟩
  · simp (disch := first | exact hz | (unfold r32; omega) | omega) only [j_lit, J_eq, j_rd, j_nc, j_ops]
    exact ⟨fun _ => ⟨fun e => absurd q2 e, fun _ => H _⟩, fun e => absurd e q⟩
  · simp (disch := first | exact hz | (unfold r32; omega) | omega) only [j_lit, J_eq, j_rd, j_nc, j_ops]
    exact ⟨fun e => absurd q e, fun _ => H _⟩
theorem p_slate {P : Int32 → Int32 → zM → Prop} {m : zM} {z : Int} (hz : r32 z) (hS : SLt m) (H : ∀ v, P v v m) : cI (d + 1) 130 [.ref 3, .int (J z)] w m (fun x m1 => cI (d + 1) 265 [.ref 261, .int (J z)] w m1 (fun y m2 => P x y m2)) := by
  obtain ⟨s1, s2, s3, s4⟩ := hS
  have i3 := iq_r m 261 54
  have no : z ≠ -1 → ¬ (0 ≤ z ∧ z < iq m 6 1) → cI (d + 1) 265 [.ref 261, .int (J z)] w m (fun y m2 => P (J (-2)) y m2) := by
    intro q1 q
    refine S_M_slate ?_
    simp (disch := first | exact hz | (unfold r32; omega) | omega) only [j_lit, jl_lit, J_eq, J_64, j_rd, j_nc, s3, j_ops]
    refine ⟨fun _ => c_isIn (r64_32 hz) (by unfold r64; omega) (by unfold r64; omega) ?_, fun e => absurd e q1⟩
    rw [if_neg (by omega)]
    exact ⟨fun _ => H _, fun e => absurd rfl e⟩
  refine S_T_slate ?_
  simp (disch := first | exact hz | (unfold r32; omega) | omega) only [j_lit, J_eq, J_lt, j_rd, j_nc, j_ops]
  refine ⟨fun q => ⟨fun q2 => no q (by omega), fun q2 => ⟨fun q3 => ?_, fun q3 => no q (by omega)⟩⟩, fun q => S_M_slate ?_⟩
  · refine c_at zBy_slate.2.2 (by decide) hz (by omega) (S_M_slate ?_)
    simp (disch := first | exact hz | (unfold r32; omega) | omega) only [j_lit, jl_lit, J_eq, J_64, j_rd, j_nc, s3, j_ops]
    refine ⟨fun _ => c_isIn (r64_32 hz) (by unfold r64; omega) (by unfold r64; omega) ?_, fun e => absurd e q⟩
    rw [if_pos (by omega)]
    simp (disch := first | exact hz | (unfold r32; omega) | omega) only [vp_J, J_cl, j_rd, iq_tn, (s4 z (by omega) q3).1]
    exact ⟨fun e => absurd e (by decide), fun _ => ⟨by omega, H _⟩⟩
  · simp (disch := first | exact hz | (unfold r32; omega) | omega) only [j_lit, jl_lit, J_eq, J_64, j_rd, j_nc, s3, j_ops]
    exact ⟨fun e => absurd q e, fun _ => H _⟩
theorem p_look {P : Int32 → Int32 → zM → Prop} {m : zM} {z : Int} (hz : r32 z) (hR : RG C w m) (hc : tpC m T n) (ht : tpM m T n) (H : ∀ v, P v v m) : cI (d + 1) 143 [.ref 3, .int (J z)] w m (fun x m1 => cI (d + 1) 283 [.ref 261, .int (J z)] w m1 (fun y m2 => P x y m2)) := by
  obtain ⟨h1, h2, h3, h4, h5, h6, h7, h8⟩ := id hR
  have hTn : zT w.2.1 := by rw [h6]; exact tb_T h1 h2
  obtain ⟨t1, t2, t3, t4, t5, t6, t7⟩ := id h7
  have b4 := t4.1
  have b4' := t4.2.1
  have e1 := t1.2.2.1
  have e2 := t2.2.2.1
  have e3 := t3.2.2.1
  have e4 := t4.2.2.1
  have e5 := t4.2.2.2.2.2.2.1
  have e6 := t5.2.2.1
  have e7 := t7.2.1
  have e8 := t7.2.2.1
  have e9 := t7.2.2.2.1
  have mM : ∀ v : Int, ((z = 0 → v = lq m 262 0) ∧ (z = 1 → v = lq m 262 161) ∧ (z = 2 → v = lq m 262 178) ∧ (z = 3 → v = lq m 262 259) ∧ (z = 4 → v = lq m 262 (260 + lq m 262 259)) ∧ (z = 5 → v = lq m 262 1069) ∧ (z = 6 → v = lq m 262 1898) ∧ (z = 7 → v = lq m 262 1899) ∧ (z = 8 → v = lq m 262 1900) ∧ (z = 9 → v = iq m 3 11) ∧ (z = 10 → v = n) ∧ (¬ (0 ≤ z ∧ z ≤ 10) → v = -1)) → cI (d + 1) 283 [.ref 261, .int (J z)] w m (fun y m2 => P (J v) y m2) := by
    intro v ⟨v0, v1, v2, v3, v4, v5, v6, v7, v8, v9, v10, v11⟩
    refine S_M_look ?_
    simp (disch := first | exact hz | (unfold r32; omega) | omega) only [j_lit, J_eq, j_rd, j_nc, vp_J, J_cl, jl_rd, lq_tn, JL_32, h5, ht.2.2.1, j_ops]
    refine ⟨fun q0 => ⟨by omega, ?_⟩, fun q0 => ⟨fun q1 => ⟨by omega, ?_⟩, fun q1 => ⟨fun q2 => ⟨by omega, ?_⟩, fun q2 => ⟨fun q3 => ⟨by omega, ?_⟩, fun q3 => ⟨fun q4 => c_M_wordsOf (N := lq m 262) (fun _ _ _ => rfl) ⟨b4, b4'⟩ ?_, fun q4 => ⟨fun q5 => ⟨by omega, ?_⟩, fun q5 => ⟨fun q6 => ⟨by omega, ?_⟩, fun q6 => ⟨fun q7 => ⟨by omega, ?_⟩, fun q7 => ⟨fun q8 => ⟨by omega, ?_⟩, fun q8 => ⟨fun q9 => ?_, fun q9 => ⟨fun q10 => ?_, fun q10 => ?_⟩⟩⟩⟩⟩⟩⟩⟩⟩⟩⟩
    · rw [v0 q0]; exact H _
    · rw [v1 q1]; exact H _
    · rw [v2 q2]; exact H _
    · rw [v3 q3]; exact H _
    · rw [v4 q4]; exact H _
    · rw [v5 q5]; exact H _
    · rw [v6 q6]; exact H _
    · rw [v7 q7]; exact H _
    · rw [v8 q8]; exact H _
    · rw [v9 q9]; exact H _
    · rw [v10 q10]; exact H _
    · rw [v11 (by omega)]; exact H _
  have sz : ∀ (k : Int), (z = 0 → k = 0) ∧ (z = 1 → k = 161) ∧ (z = 2 → k = 178) → (z = 0 ∨ z = 1 ∨ z = 2) → cI d 150 [.ref 3, .int (J z)] w m (fun v1 m1 => cI (d + 1) 283 [.ref 261, .int (J z)] w m1 (fun y m2 => P v1 y m2)) := by
    intro k ⟨k0, k1, k2⟩ hh
    refine c_sizeOf hTn h7 hz (mM _ ⟨fun q => ?_, fun q => ?_, fun q => ?_, fun q => by omega, fun q => by omega, fun q => by omega, fun q => by omega, fun q => by omega, fun q => by omega, fun q => by omega, fun q => by omega, fun q => by omega⟩)
    · unfold ixw; rw [if_pos q]
    · unfold ixw; rw [if_neg (by omega), if_pos q]
    · unfold ixw; rw [if_neg (by omega), if_neg (by omega), if_pos q]
  refine S_T_look hTn ?_
  simp (disch := first | exact hz | (unfold r32; omega) | omega) only [j_lit, J_eq, j_rd, j_nc, e4, e5, e6, e7, e8, e9, hc.2.2.1, j_ops]
  refine ⟨fun q0 => sz (if z = 0 then 0 else if z = 1 then 161 else 178) (by refine ⟨fun q => ?_, fun q => ?_, fun q => ?_⟩ <;> simp [q]) (by omega), fun q0 => ⟨fun q1 => sz (if z = 0 then 0 else if z = 1 then 161 else 178) (by refine ⟨fun q => ?_, fun q => ?_, fun q => ?_⟩ <;> simp [q]) (by omega), fun q1 => ⟨fun q2 => sz (if z = 0 then 0 else if z = 1 then 161 else 178) (by refine ⟨fun q => ?_, fun q => ?_, fun q => ?_⟩ <;> simp [q]) (by omega), fun q2 => ⟨fun q3 => mM _ ?_, fun q3 => ⟨fun q4 => mM _ ?_, fun q4 => ⟨fun q5 => mM _ ?_, fun q5 => ⟨fun q6 => mM _ ?_, fun q6 => ⟨fun q7 => mM _ ?_, fun q7 => ⟨fun q8 => mM _ ?_, fun q8 => ⟨fun q9 => mM _ ?_, fun q9 => ⟨fun q10 => mM _ ?_, fun q10 => mM _ ?_⟩⟩⟩⟩⟩⟩⟩⟩⟩⟩⟩
  all_goals (refine ⟨fun q => ?_, fun q => ?_, fun q => ?_, fun q => ?_, fun q => ?_, fun q => ?_, fun q => ?_, fun q => ?_, fun q => ?_, fun q => ?_, fun q => ?_, fun q => ?_⟩ <;> first | rfl | omega)
end PFD
