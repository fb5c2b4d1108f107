/-! share, rest: both sides -/
theorem UI32_ext {x : UInt32} {y : Int32} (h : x.toNat = y.toBitVec.toNat) : x.toInt32 = y := by
  refine J_ext ?_
  exact h
theorem UI64_ext {x : UInt64} {y : Int64} (h : x.toNat = y.toBitVec.toNat) : x.toInt64 = y := by
  refine JL_ext ?_
  exact h
theorem j_nc47 : ((47 : Nat) : Int) = 47 := rfl
theorem j_nc48 : ((48 : Nat) : Int) = 48 := rfl
section SHR
variable {d : Nat} {w : Nat × Nat × Nat} {C : Int} {N : Int → Int} {mv : zM} {b : Nat}
theorem fb_hi {q : Int} (h : -80 ≤ q ∧ q ≤ 30) : (J (q - 29 + 52) + J 127) <<< (J 23 &&& 31) = J (((q + 150).toNat * 2 ^ 23 : Nat) : Int) := by
  rw [j_ops.1, J_shl _ (by omega) (by omega)]
  congr 1
  have a2 : (2 : Int) ^ (23 : Int).toNat = 8388608 := by decide
  have a3 : (2 : Nat) ^ 23 = 8388608 := by decide
  rw [a2, a3]
  omega
theorem fb_lo {c : Nat} (h : c < 16777216) : ((((JL ((c * 536870912 : Nat) : Int)).toUInt64 >>> ((J 29).toInt64.toUInt64 &&& Int64.toUInt64 63)).toInt64).toInt32 &&& J 8388607) = J ((c % 2 ^ 23 : Nat) : Int) := by
  rw [JL_ushr (by omega) (by omega) (by omega) (by omega), JL_32]
  have a2 : (2 : Int) ^ (29 : Int).toNat = 536870912 := by decide
  rw [a2]
  have e : ((c * 536870912 : Nat) : Int) / 536870912 = (c : Int) := by omega
  rw [e]
  have m := J_mask (c : Int) (k := 23) (by decide)
  have a3 : (2 : Int) ^ 23 - 1 = 8388607 := by decide
  rw [a3] at m
  rw [m]
  congr 1
theorem c_floatBits {Q : Int32 → zM → Prop} {m : zM} {x : UInt32} {s : Bool} {c : Nat} {q : Int} (h : V32 x s c q) (hq : -80 ≤ q ∧ q ≤ 30) (H : Q x.toInt32 m) : cI (d + 1) 178 [.float x] w m Q := by
  have h0 := h.cmp_0
  have hb := bits32 h.1 h.2.1 h.2.2.1 (by omega) (by omega)
  have f2 := h.f2d
  have c3 := h.2.2.1
  have c2 := h.2.1
  have a3 : (2 : Nat) ^ 23 = 8388608 := by decide
  have a31 : (2 : Nat) ^ 31 = 2147483648 := by decide
  have mk := mk32 (z := (q + 150).toNat) (c := c) (by omega) c2 c3
  refine S_T_floatBits ?_
  rw [h0]
  cases s with
  | false =>
    rw [if_neg (by simp), cv_gt, cv_gt]
    have l127 : (127 : Int32) = J 127 := rfl
    have l23 : (23 : Int32) = J 23 := rfl
    have l29 : (29 : Int32) = J 29 := rfl
    have l83 : (8388607 : Int32) = J 8388607 := rfl
    have g0 : (0 : Int32) ≤ J 1 := by rw [show (0 : Int32) = J 0 from rfl, J_le (by unfold r32; omega) (by unfold r32; omega)]; omega
    refine ⟨fun _ => ⟨fun _ => ⟨f2.n, c_exponentOf f2 (by omega) (c_fractionOf f2 (by omega) ⟨fun _ => ?_, fun y => absurd g0 y⟩)⟩, fun y => absurd g0 y⟩, fun y => absurd y (by decide)⟩
    rw [l127, l23, l29, l83, fb_hi hq, fb_lo c3]
    have e : x.toInt32 = J (((q + 150).toNat * 2 ^ 23 : Nat) : Int) ||| J ((c % 2 ^ 23 : Nat) : Int) := UI32_ext (by rw [mk, hb]; simp)
    rw [← e]
    exact H
  | true =>
    rw [if_pos rfl, cv_lt, cv_lt]
    have l127 : (127 : Int32) = J 127 := rfl
    have l23 : (23 : Int32) = J 23 := rfl
    have l29 : (29 : Int32) = J 29 := rfl
    have l83 : (8388607 : Int32) = J 8388607 := rfl
    have g0 : ¬ (0 : Int32) ≤ J (-1) := by rw [show (0 : Int32) = J 0 from rfl, J_le (by unfold r32; omega) (by unfold r32; omega)]; omega
    have f3 := f2.neg
    refine ⟨fun _ => ⟨fun y => absurd y g0, fun _ => ⟨f2.n, c_exponentOf f3 (by omega) (c_fractionOf f3 (by omega) ⟨fun y => absurd y g0, fun _ => ?_⟩)⟩⟩, fun y => absurd y (by decide)⟩
    rw [l127, l23, l29, l83, fb_hi hq, fb_lo c3]
    have mn := mk32n (x := J (((q + 150).toNat * 2 ^ 23 : Nat) : Int) ||| J ((c % 2 ^ 23 : Nat) : Int)) (by rw [mk, a3, a31]; omega)
    have e : x.toInt32 = (J (((q + 150).toNat * 2 ^ 23 : Nat) : Int) ||| J ((c % 2 ^ 23 : Nat) : Int)) ||| (-2147483648 : Int32) := UI32_ext (by rw [mn, mk, hb]; simp)
    rw [← e]
    exact H
theorem c_floatBits0 {Q : Int32 → zM → Prop} {m : zM} {x : UInt32} (h : FP.Core.val32 x = .fin false 0 (-149)) (H : Q x.toInt32 m) : cI (d + 1) 178 [.float x] w m Q := by
  have hb := bits0f h
  have e : x.toInt32 = (0 : Int32) := UI32_ext (by rw [hb]; decide)
  rw [e] at H
  refine S_T_floatBits ?_
  have hc : FP.fcmp x FP.fconst0 = some .eq := by
    show FP.Core.order (FP.Core.val32 x) (FP.Core.val32 FP.fconst0) = _
    rw [h, c_f0]
    decide
  rw [hc, cv_eq]
  exact ⟨fun y => absurd rfl y, fun _ => H⟩
theorem c_fToIntBits {Q : Int32 → zM → Prop} {m : zM} {x : UInt32} {s : Bool} {c : Nat} {q : Int} (h : FP.Core.val32 x = .fin s c q) (H : Q x.toInt32 m) : cI (d + 1) 287 [.float x] w m Q := by
  refine S_JF_floatToIntBits (S_JF_isNaN ?_)
  have hc : FP.fcmp x x = some .eq := by
    show FP.Core.order (FP.Core.val32 x) (FP.Core.val32 x) = _
    rw [h]
    show some (compare _ _) = _
    rw [icmp_eq]
  rw [hc, cv_eq]
  exact ⟨fun _ => ⟨fun y => absurd rfl y, fun _ => H⟩, fun y => absurd rfl y⟩
theorem c_dToLongBits {Q : Int64 → zM → Prop} {m : zM} {x : UInt64} {s : Bool} {c : Nat} {q : Int} (h : FP.Core.val64 x = .fin s c q) (H : Q x.toInt64 m) : cL (d + 1) 285 [.double x] w m Q := by
  refine S_JD_doubleToLongBits (S_JD_isNaN ?_)
  have hc : FP.dcmp x x = some .eq := by
    show FP.Core.order (FP.Core.val64 x) (FP.Core.val64 x) = _
    rw [h]
    show some (compare _ _) = _
    rw [icmp_eq]
  rw [hc, cv_eq]
  exact ⟨fun _ => ⟨fun y => absurd rfl y, fun _ => H⟩, fun y => absurd rfl y⟩
/-- the share of a measure -/
def shX (N : Int → Int) (t g : Int) (x : UInt32) : Prop := x = FP.fdiv (FP.l2f (JL (lwA (mov N g t) (mun N g t)))) (FP.l2f (JL (lwB (mov N g t) (mun N g t))))
theorem share_x (h : TR C mv b N) {t g : Int} (t0 : 0 ≤ t) (t1 : t < Zn N) : (∃ s c q, FP.Core.val32 (FP.fdiv (FP.l2f (JL (lwA (mov N g t) (mun N g t)))) (FP.l2f (JL (lwB (mov N g t) (mun N g t))))) = .fin s c q ∧ ((s = false ∧ c = 0 ∧ q = -149) ∨ V32 (FP.fdiv (FP.l2f (JL (lwA (mov N g t) (mun N g t)))) (FP.l2f (JL (lwB (mov N g t) (mun N g t))))) s c q ∧ -80 ≤ q ∧ q ≤ 30)) ∧ FP.fcmp (FP.l2f (JL (lwB (mov N g t) (mun N g t)))) FP.fconst0 = some .gt := by
  have rg := lw_rg h g t0 t1
  have p37 : (2 : Nat) ^ 37 = 137438953472 := by decide
  generalize lwA (mov N g t) (mun N g t) = A at *
  generalize lwB (mov N g t) (mun N g t) = B at *
  obtain ⟨e, r, hy, y1, y2⟩ := l2f_V (a := B) (by omega) (by rw [p37]; omega)
  rw [show decide (B < 0) = false from decide_eq_false (by omega)] at hy
  have h0 := hy.cmp_0
  rw [if_neg (by simp)] at h0
  refine ⟨?_, h0⟩
  by_cases z : A = 0
  · rw [z]
    exact ⟨false, 0, -149, fdiv_0 l2f_0 hy, Or.inl ⟨rfl, rfl, rfl⟩⟩
  · obtain ⟨c, q, hx, x1, x2⟩ := l2f_V (a := A) z (by rw [p37]; omega)
    obtain ⟨c', q', hv, v1, v2⟩ := fdiv_V hx hy ⟨x1, x2⟩ ⟨y1, y2⟩
    exact ⟨_, c', q', hv.1, Or.inr ⟨hv, v1, v2⟩⟩
theorem p_share {P : Int32 → Int32 → zM → Prop} {m : zM} {t g : Int} (rt : r32 t) (rg : r32 g) (hI : IV C w m) (H : ∀ v m', IV C w m' → P v v m') : cI (d + 10) 134 [.ref 3, .int (J t), .int (J g)] w m (fun x m1 => cI (d + 10) 259 [.ref 261, .int (J t), .int (J g)] w m1 (fun y m2 => P x y m2)) := by
  obtain ⟨N, hI⟩ := hI
  refine S_T_share (c_dweighed (d := d) rt rg hI (fun m1 hI1 hin e7 e8 => ?_) (fun m1 hI1 hn => ?_))
  · obtain ⟨⟨s, c, q, hv, hc⟩, h0⟩ := share_x (g := g) hI1.2.2.2.2.1 hin.1 hin.2.1
    have ref : ∀ (Q : Int32 → zM → Prop), (∀ m2, IVN C w m2 N → Q (FP.fdiv (FP.l2f (JL (lwA (mov N g t) (mun N g t)))) (FP.l2f (JL (lwB (mov N g t) (mun N g t))))).toInt32 m2) → cI (d + 10) 259 [.ref 261, .int (J t), .int (J g)] w m1 Q := by
      intro Q HQ
      refine S_M_share (c_Mweigh (d := d + 3) (Q := fun _ _ _ => True) rt rg hI1 (fun m2 hI2 _ e1 e2 => ?_) (fun m2 hI2 hn => absurd hin hn))
      rw [jl_rd, jl_rd, j_nc47, j_nc48, e1, e2]
      exact ⟨nn32 (by rw [hv]; simp), c_fToIntBits (d := d + 8) hv (HQ m2 hI2)⟩
    simp (disch := first | (unfold r32; omega) | omega) only [j_lit, j_ops, J_eq]
    rw [jl_rd, jl_rd, j_nc.2.2.2.2.2.2.2.1, j_nc.2.2.2.2.2.2.2.2.1, e7, e8, h0, cv_gt]
    refine ⟨fun _ => ⟨fun y => absurd y (by rw [J_le (by unfold r32; omega) (by unfold r32; omega)]; omega), fun _ => ⟨nn32 (by rw [hv]; simp), ?_⟩⟩, fun y => by omega⟩
    rcases hc with ⟨s0, c0, q0⟩ | ⟨hV, q1, q2⟩
    · rw [s0, c0, q0] at hv
      exact c_floatBits0 (d := d + 8) hv (ref _ (fun m2 hI2 => H _ m2 ⟨N, hI2⟩))
    · exact c_floatBits (d := d + 8) hV ⟨q1, q2⟩ (ref _ (fun m2 hI2 => H _ m2 ⟨N, hI2⟩))
  · simp (disch := first | (unfold r32; omega) | omega) only [j_lit, j_ops, J_eq]
    refine ⟨fun y => absurd trivial y, fun _ => ?_⟩
    refine S_M_share (c_Mweigh (d := d + 3) (Q := fun _ _ _ => True) rt rg hI1 (fun m2 hI2 hin _ _ => absurd hin hn) (fun m2 hI2 _ => ?_))
    exact H _ m2 ⟨N, hI2⟩
end SHR
