/-! each step is sound
-/
section XS
variable {len : Nat} {xs : Nat → Int32} {ip : Nat} {L : mm_Lv} {st : List Value} {h : xH} {x : List Nat} {v : Value}
theorem xP_go {i : Nat} {L' : mm_Lv} {s' : List Value} {h' : xH} {m : mm_Out} (hv : xV h') (H : ∀ F G ip L Q, F i L' s' (xr len xs h') → mm_oW m F G ip L (xr len xs h) Q) : xP len xs (xgo i L' s' h') m h := ⟨hv, H⟩
theorem xb_t {b : Bool} {o : xO} {m : mm_Out} (H : b = true → xP len xs o m h) : xP len xs (bif b then o else none) m h := by
  cases b with
  | false => exact trivial
  | true => exact H rfl
theorem xi_f {c : Prop} [Decidable c] {t f : Nat} {m : mm_Out} {L' : mm_Lv} {s' : List Value} (hv : xV h) (e : m = mm_br c t f L' s' (xr len xs h)) : xP len xs (xgo (if c then t else f) L' s' h) m h := by
  refine ⟨hv, fun F G ip L Q HF => ?_⟩
  rw [e]
  by_cases q : c
  · rw [if_pos q] at HF; exact ⟨fun _ => HF, fun n => absurd q n⟩
  · rw [if_neg q] at HF; exact ⟨fun n => absurd n q, fun _ => HF⟩
theorem xi_n {c : Prop} [Decidable c] {t f : Nat} {m : mm_Out} {L' : mm_Lv} {s' : List Value} (hv : xV h) (e : m = mm_br (¬ c) t f L' s' (xr len xs h)) : xP len xs (xgo (if c then f else t) L' s' h) m h := by
  refine ⟨hv, fun F G ip L Q HF => ?_⟩
  rw [e]
  by_cases q : c
  · rw [if_pos q] at HF; exact ⟨fun n => absurd q n, fun _ => HF⟩
  · rw [if_neg q] at HF; exact ⟨fun _ => HF, fun n => absurd q n⟩
theorem x01 {w : Int32} (q : (decide (w = 0) || decide (w = 1)) = true) : w = 0 ∨ w = 1 := by
  rw [Bool.or_eq_true] at q
  exact q.imp of_decide_eq_true of_decide_eq_true
theorem xnv {n : Int32} {k : Nat} (q : (decide (¬ n < 0) && Nat.ble (n.toNatClampNeg + 1) k) = true) : vp_in n k := by
  rw [Bool.and_eq_true] at q
  have h1 : ¬ n < 0 := of_decide_eq_true q.1
  have h2 := Nat.le_of_ble_eq_true q.2
  rintro (z | z)
  · exact h1 z
  · omega
theorem xP_cal (hv : xV h) : xP len xs (xcall x ip L st h) (mm_cal x ip L st (xr len xs h)) h := by
  unfold xcall
  split
  · rename_i m n
    refine xb_t (fun q F G ip L Q H => ?_)
    show mm_oW (if (mm_n n st && mm_n2 m n st) = true then _ else _) F G ip L _ Q
    rw [if_pos q]; exact H
  · rename_i m n ks
    refine xb_t (fun q => ?_)
    split
    · rename_i a as ha
      refine xb_t (fun g F G ip L Q H => ?_)
      rw [Bool.and_eq_true] at g
      show mm_oW (if (mm_n n st && mm_n2 m n st) = true then _ else _) F G ip L _ Q
      rw [if_pos q, ha]
      refine ⟨?_, H⟩
      rw [xK_e g.1]; exact xkb_o _ g.2
    · exact trivial
  · rename_i m n ks
    refine xb_t (fun q => ?_)
    split
    · rename_i a as ha
      refine xb_t (fun g F G ip L Q H => ?_)
      rw [Bool.and_eq_true] at g
      show mm_oW (if (mm_n n st && mm_n2 m n st) = true then _ else _) F G ip L _ Q
      rw [if_pos q, ha]
      refine ⟨?_, H⟩
      rw [xK_e g.1]; exact xkb_o _ g.2
    · exact trivial
  · split
    · rename_i i r
      refine xb_t (fun q => xP_go hv (fun F G ip' L' Q H => ?_))
      rw [Bool.and_eq_true] at q
      show mm_oW (if Nat.ble (mm_cs r) 8 = true then _ else _) F G ip' L' _ Q
      rw [if_pos q.1]
      exact ⟨xnv q.2, H⟩
    · exact trivial
  · split
    · rename_i a r
      refine xb_t (fun q => xP_go hv (fun F G ip' L' Q H => ?_))
      show mm_oW (if Nat.ble (mm_cs r) 8 = true then _ else _) F G ip' L' _ Q
      rw [if_pos q]
      exact H
    · exact trivial
  · exact trivial
theorem xkd_o {ks : List Nat} {a : Nat} (g : (xok h a && xkb (xkd h.2.2.1 a).1 ks) = true) : xok h a = true ∧ mm_kd (hK (xr len xs h) a).1 ks := by
  rw [Bool.and_eq_true] at g
  exact ⟨g.1, by rw [xK_e g.1]; exact xkb_o _ g.2⟩
theorem xkd_o2 {ks : List Nat} {a : Nat} {b : Bool} (g : (xok h a && (xkb (xkd h.2.2.1 a).1 ks && b)) = true) : xok h a = true ∧ mm_kd (hK (xr len xs h) a).1 ks ∧ b = true := by
  rw [Bool.and_eq_true, Bool.and_eq_true] at g
  exact ⟨g.1, by rw [xK_e g.1]; exact xkb_o _ g.2.1, g.2.2⟩
set_option maxHeartbeats 2000000 in
theorem xs1_ok (ins : Instr) (hv : xV h) : xP len xs (xs1 ins x v ip L st h) (mm_s1 ins x v ip L st (xr len xs h)) h := by
  unfold xs1
  split
  case h_1 => split <;> first | exact trivial | (rename_i w hw; exact xP_go hv (fun F G ip' L' Q H => by show mm_oW (mm_ldI x ip L st _) F G ip' L' _ Q; unfold mm_ldI; rw [hw]; exact H))
  case h_2 => split <;> first | exact trivial | (rename_i w hw; exact xP_go hv (fun F G ip' L' Q H => by show mm_oW (mm_ldL x ip L st _) F G ip' L' _ Q; unfold mm_ldL; rw [hw]; exact H))
  case h_3 => split <;> first | exact trivial | (rename_i w hw; exact xP_go hv (fun F G ip' L' Q H => by show mm_oW (mm_ldA x ip L st _) F G ip' L' _ Q; unfold mm_ldA; rw [hw]; exact H))
  case h_4 => split <;> first | exact trivial | exact xP_go hv (fun F G ip' L' Q H => H)
  case h_5 => split <;> first | exact trivial | exact xP_go hv (fun F G ip' L' Q H => H)
  case h_6 =>
    split
    · split <;> first | exact trivial | (rename_i w hw; exact xP_go hv (fun F G ip' L' Q H => by show mm_oW (mm_inc x (.int _) ip L st _) F G ip' L' _ Q; unfold mm_inc; dsimp only; rw [hw]; exact H))
    · exact trivial
  case h_7 => exact xP_go hv (fun F G ip' L' Q H => H)
  case h_8 => exact xP_go hv (fun F G ip' L' Q H => H)
  case h_9 => exact xP_go hv (fun F G ip' L' Q H => H)
  case h_10 => exact xP_go hv (fun F G ip' L' Q H => H)
  case h_11 => exact xP_go hv (fun F G ip' L' Q H => H)
  case h_12 => exact xP_go hv (fun F G ip' L' Q H => H)
  case h_13 => split <;> first | exact trivial | exact xP_go hv (fun F G ip' L' Q H => H)
  case h_14 => split <;> first | exact trivial | exact xP_go hv (fun F G ip' L' Q H => H)
  case h_15 => split <;> first | exact trivial | exact xP_go hv (fun F G ip' L' Q H => H)
  case h_16 => split <;> first | exact trivial | exact xP_go hv (fun F G ip' L' Q H => H)
  case h_17 => split <;> first | exact trivial | exact xP_go hv (fun F G ip' L' Q H => H)
  case h_18 => split <;> first | exact trivial | exact xP_go hv (fun F G ip' L' Q H => H)
  case h_19 => split <;> first | exact trivial | exact xP_go hv (fun F G ip' L' Q H => H)
  case h_20 =>
    split
    · rename_i w r
      refine xb_t (fun q => xP_go hv (fun F G ip' L' Q H => ?_))
      show mm_oW (if mm_ca w = 1 then _ else _) F G ip' L' _ Q
      rw [if_pos (Nat.eq_of_beq_eq_true q)]; exact H
    · exact trivial
  case h_21 =>
    split
    · rename_i w r
      refine xb_t (fun q => xP_go hv (fun F G ip' L' Q H => ?_))
      show mm_oW (if mm_ca w = 1 then _ else _) F G ip' L' _ Q
      rw [if_pos (Nat.eq_of_beq_eq_true q)]; exact H
    · exact trivial
  case h_22 => split <;> first | exact trivial | exact xP_go hv (fun F G ip' L' Q H => H)
  case h_23 => exact xP_go hv (fun F G ip' L' Q H => H)
  case h_24 =>
    split
    · split <;> first | exact trivial | exact xi_f hv rfl | exact xi_n hv rfl
    · exact trivial
  case h_25 =>
    split
    · split <;> first | exact trivial | exact xi_f hv rfl | exact xi_n hv rfl
    · exact trivial
  case h_26 => split <;> first | exact trivial | exact xi_n hv rfl
  case h_27 => split <;> first | exact trivial | exact xP_go hv (fun F G ip' L' Q H => xswt_o (F := fun t => F t L _ _) _ _ H)
  case h_28 =>
    split
    · rename_i k ks a r
      refine xb_t (fun q => ?_)
      obtain ⟨q1, q2⟩ := xkd_o q
      split
      · exact trivial
      · rename_i w hw
        refine xP_go hv (fun F G ip' L' Q H => ?_)
        have e : hR (xr len xs h) a k = w + 1 := hw
        show (mm_kd (hK (xr len xs h) a).1 ks ∧ ¬ hR (xr len xs h) a k = 0) ∧ F (ip + 1) L (.ref (hR (xr len xs h) a k) :: r) _
        rw [e]
        exact ⟨⟨q2, by omega⟩, H⟩
    · rename_i k ks a r
      refine xb_t (fun q => ?_)
      obtain ⟨q1, q2⟩ := xkd_o q
      refine xP_go hv (fun F G ip' L' Q H => ?_)
      show mm_kd (hK (xr len xs h) a).1 ks ∧ F (ip + 1) L (.int (hI (xr len xs h) a k) :: r) _
      rw [xI_e q1]
      exact ⟨q2, H⟩
    · rename_i k ks a r
      refine xb_t (fun q => ?_)
      obtain ⟨q1, q2⟩ := xkd_o q
      refine xP_go hv (fun F G ip' L' Q H => ?_)
      show mm_kd (hK (xr len xs h) a).1 ks ∧ F (ip + 1) L (.int (hI (xr len xs h) a k) :: r) _
      rw [xI_e q1]
      exact ⟨q2, H⟩
    · exact trivial
  case h_29 =>
    split
    · refine xb_t (fun q => ?_)
      obtain ⟨q1, q2⟩ := xkd_o q
      refine xP_go (xV_L hv q1) (fun F G ip' L' Q H => ?_)
      rw [xr_L] at H
      exact ⟨q2, H⟩
    · refine xb_t (fun q => ?_)
      obtain ⟨q1, q2, q3⟩ := xkd_o2 q
      refine xP_go (xV_R hv q1) (fun F G ip' L' Q H => ?_)
      rw [xr_R] at H
      exact ⟨⟨q2, Nat.one_le_iff_ne_zero.mp (Nat.le_of_ble_eq_true q3)⟩, H⟩
    · refine xb_t (fun q => ?_)
      obtain ⟨q1, q2⟩ := xkd_o q
      refine xP_go (xV_I hv q1) (fun F G ip' L' Q H => ?_)
      rw [xr_I q1] at H
      exact ⟨q2, H⟩
    · refine xb_t (fun q => ?_)
      obtain ⟨q1, q2, q3⟩ := xkd_o2 q
      refine xP_go (xV_I hv q1) (fun F G ip' L' Q H => ?_)
      rw [xr_I q1] at H
      exact ⟨⟨q2, x01 q3⟩, H⟩
    · exact trivial
  case h_30 =>
    split
    · rename_i i a r
      refine xb_t (fun q => ?_)
      obtain ⟨q1, q2⟩ := xin_o (len := len) (xs := xs) q
      refine xP_go hv (fun F G ip' L' Q H => ?_)
      show mm_ix (xr len xs h) a 12 i ∧ F (ip + 1) L (.int (hI (xr len xs h) a i.toNatClampNeg) :: r) _
      rw [xI_e q1]
      exact ⟨q2, H⟩
    · exact trivial
  case h_31 =>
    split
    · refine xb_t (fun q => ?_)
      obtain ⟨q1, q2⟩ := xin_o (len := len) (xs := xs) q
      refine xP_go (xV_I hv q1) (fun F G ip' L' Q H => ?_)
      rw [xr_I q1] at H
      exact ⟨q2, H⟩
    · exact trivial
  case h_32 =>
    split
    · refine xb_t (fun q => ?_)
      obtain ⟨q1, q2⟩ := xin_o (len := len) (xs := xs) q
      refine xP_go (xV_L hv q1) (fun F G ip' L' Q H => ?_)
      rw [xr_L] at H
      exact ⟨q2, H⟩
    · exact trivial
  case h_33 =>
    split
    · rename_i w i a r
      refine xb_t (fun q => ?_)
      rw [Bool.and_eq_true, Bool.and_eq_true] at q
      obtain ⟨q1, q2⟩ := xin_o (len := len) (xs := xs) q.1
      refine xP_go (xV_R hv q1) (fun F G ip' L' Q H => ?_)
      rw [xr_R] at H
      exact ⟨⟨q2, by rw [xK_e q.2.1]; exact Nat.eq_of_beq_eq_true q.2.2⟩, H⟩
    · exact trivial
  case h_34 =>
    split
    · rename_i a r
      refine xb_t (fun q => ?_)
      rw [Bool.and_eq_true, Bool.and_eq_true] at q
      refine xP_go hv (fun F G ip' L' Q H => ?_)
      show (12 ≤ (hK (xr len xs h) a).1 ∧ (hK (xr len xs h) a).1 < 16) ∧ F (ip + 1) L (.int (Int32.ofNat (hK (xr len xs h) a).2) :: r) _
      rw [xK_e q.1]
      exact ⟨⟨Nat.le_of_ble_eq_true q.2.1, Nat.lt_succ_of_le (Nat.le_of_ble_eq_true q.2.2)⟩, H⟩
    · exact trivial
  case h_35 =>
    split
    · refine xP_go (xV_A hv) (fun F G ip' L' Q H => ?_)
      rw [xr_A hv] at H
      exact H
    · exact trivial
  case h_36 =>
    split
    · refine xb_t (fun q => xP_go (xV_A hv) (fun F G ip' L' Q H => ?_))
      rw [xr_A hv] at H
      exact ⟨xnv q, H⟩
    · exact trivial
  case h_37 =>
    split
    · refine xb_t (fun q => xP_go (xV_A hv) (fun F G ip' L' Q H => ?_))
      rw [xr_A hv] at H
      exact ⟨xnv q, H⟩
    · exact trivial
  case h_38 => exact xP_cal hv
  case h_39 => exact xP_cal hv
  case h_40 => exact xP_cal hv
  case h_41 =>
    split
    · exact fun F G ip' L' Q H => H
    · refine xb_t (fun q F G ip' L' Q H => ?_)
      exact ⟨x01 q, H⟩
    · exact trivial
  case h_42 =>
    split
    · exact fun F G ip' L' Q H => H
    · exact trivial
  case h_43 =>
    split
    · exact fun F G ip' L' Q H => H
    · exact trivial
  case h_44 => exact trivial
end XS
