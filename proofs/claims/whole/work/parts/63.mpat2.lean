/-! the reference reads its pattern: the rules of rows and of the rows behind them -/
section MP2
variable {d : Nat} {w : Nat × Nat × Nat} {T : Int → Int} {n : Int}
theorem m_rend {o : Nat} {p : Int} {z : Nat} {K : Nat → Int} {F : Nat → Nat} {f l e : Nat} (h0 : ¬ ato (tC T n p)) : PXm d w T n 0 o p z K F f l e 0 0 p z K F f l e := by
  intro D m Q hD ho ht hm h7 hp hK h16 hf hl he _ HS HF
  show W_M_readRow_6 (D + 7) (J (f : Int)) (J (l : Int)) (J (e : Int)) w m Q
  refine S_M_readRow_6 (c_isAtom ht hm hp (fun m1 f1 f2 f3 f4 => ⟨fun q => absurd q h0, fun _ => ?_⟩))
  have f16 : iq m1 261 16 = o := by rw [f1.2.1 16 (by omega) (by omega) (by omega), h16]
  obtain ⟨a1, a2, a3, a4, a5⟩ := fs3 m1 hf hl he
  have fin := HS rfl _ (f1.gp.tr a1) (a3 _ _ _ (hK.g6 f1)) a2 (a4.trans f16) (Or.inr (a5.trans f4)) (by omega) hp.2
  simp (disch := first | (unfold r32; omega) | omega) only [j_lit, J_eq, j_wr, j_nc]
  exact ⟨fun _ => ⟨by omega, fin⟩, fun q => absurd trivial q⟩
theorem m_rbad {o : Nat} {p : Int} {z : Nat} {K : Nat → Int} {F : Nat → Nat} {f l e : Nat} {x y p' : Int} {z' : Nat} {K' : Nat → Int} {F' : Nat → Nat} {f' l' e' : Nat} (h0 : ato (tC T n p)) (hx : x ≠ 0) (h2 : PXm d w T n 2 o p z K F 0 0 0 x y p' z' K' F' f' l' e') : PXm d w T n 0 o p z K F f l e x y p' z' K' F' f' l' e' := by
  intro D m Q hD ho ht hm h7 hp hK h16 hf hl he _ HS HF
  show W_M_readRow_6 (D + 7) (J (f : Int)) (J (l : Int)) (J (e : Int)) w m Q
  refine S_M_readRow_6 (c_isAtom ht hm hp (fun m1 f1 f2 f3 f4 => ⟨fun _ => ?_, fun q => absurd h0 q⟩))
  simp (disch := first | (unfold r32; omega) | omega) only [j_lit, J_eq]
  refine ⟨fun q => by omega, fun _ => ?_⟩
  refine h2 D m1 _ hD ho (ht.g6 f1) (Or.inr f4) (by rw [f1.2.1 7 (by omega) (by omega) (by omega), h7]) hp (hK.g6 f1) (by rw [f1.2.1 16 (by omega) (by omega) (by omega), h16]) (by omega) (by omega) (by omega) (fun q => by omega) (fun q => absurd q hx) (fun _ m2 g1 g2 g3 => ?_)
  simp (disch := first | (unfold r32; omega) | omega) only [J_eq]
  exact ⟨fun q => absurd trivial q, fun _ => HF hx m2 (f1.gp.gpf.tr g1) g2 g3⟩
theorem m_rgo {o : Nat} {p : Int} {z : Nat} {K : Nat → Int} {F : Nat → Nat} {f l e : Nat} {p1 : Int} {z1 : Nat} {K1 : Nat → Int} {F1 : Nat → Nat} {f1 l1 e1 : Nat} {x y p' : Int} {z' : Nat} {K' : Nat → Int} {F' : Nat → Nat} {f' l' e' : Nat} (h0 : ato (tC T n p)) (h2 : PXm d w T n 2 o p z K F 0 0 0 0 0 p1 z1 K1 F1 f1 l1 e1) (h3 : PXm d w T n 0 o p1 z1 K1 (pp_lnk F1 z1 l f1) (f ||| (if e = 0 then 0 else f1)) (l1 ||| (if e1 = 0 then 0 else l)) (e &&& e1) x y p' z' K' F' f' l' e') : PXm d w T n 0 o p z K F f l e x y p' z' K' F' f' l' e' := by
  intro D m Q hD ho ht hm h7 hp hK h16 hf hl he _ HS HF
  show W_M_readRow_6 (D + 7) (J (f : Int)) (J (l : Int)) (J (e : Int)) w m Q
  refine S_M_readRow_6 (c_isAtom ht hm hp (fun m1 g1 g2 g3 g4 => ⟨fun _ => ?_, fun q => absurd h0 q⟩))
  simp (disch := first | (unfold r32; omega) | omega) only [j_lit, J_eq]
  refine ⟨fun q => by omega, fun _ => ?_⟩
  refine h2 D m1 _ hD ho (ht.g6 g1) (Or.inr g4) (by rw [g1.2.1 7 (by omega) (by omega) (by omega), h7]) hp (hK.g6 g1) (by rw [g1.2.1 16 (by omega) (by omega) (by omega), h16]) (by omega) (by omega) (by omega) (fun q => by omega) (fun _ m2 q1 q2 q3 q4 q5 q6 q7 => ?_) (fun q => absurd rfl q)
  obtain ⟨u1, u2, u3, u4, u5, u6⟩ := q3
  simp (disch := first | (unfold r32; omega) | omega) only [j_lit, J_eq, j_rd, j_nc, u1]
  refine ⟨fun _ => c_follows (z := z1) u4 hl q2.2.1 q2.1 (fun k hk => (q2.2.2 k hk).2.2) (fun i hi => (q2.2.2 i hi).2.1) (fun m3 k1 k2 k3 => ?_), fun q => by omega⟩
  have v1 : iq m3 261 17 = f1 := (k1.i (by simp) 17).trans u1
  have v2 : iq m3 261 18 = l1 := (k1.i (by simp) 18).trans u2
  have v3 : iq m3 261 19 = e1 := (k1.i (by simp) 19).trans u3
  have gp13 : gp m m3 := (g1.gp.tr q1).tr (gp.fr7 k1)
  have hK3 : PM m3 z1 K1 (pp_lnk F1 z1 l f1) := ⟨q2.1, (k1.i (by simp) 15).trans q2.2.1, fun i hi => ⟨by rw [k1.i (by simp)]; exact (q2.2.2 i hi).1, k3 i hi, pp_lnk_lt (q2.2.2 i hi).2.2 u4⟩⟩
  have o1 : (f ||| if e = 0 then 0 else f1) < 4096 := pp_or_lt hf (by split <;> omega)
  have o2 : (l1 ||| if e1 = 0 then 0 else l) < 4096 := pp_or_lt u5 (by split <;> omega)
  have o3 := pp_e2 he u6
  have ht3 := ht.gp gp13
  have h73 : iq m3 261 7 = 0 := by rw [gp13.2.1 7 (by omega) (by omega) (by omega) (by omega), h7]
  have h163 : iq m3 261 16 = o := (k1.i (by simp) 16).trans q4
  have h63 : iq m3 261 6 = p1 ∨ iq m3 261 6 = tP T n p1 := by rw [k1.i (by simp)]; exact q5
  have go : W_M_readRow_6 (D + 7) (J ((f ||| (if e = 0 then 0 else f1) : Nat) : Int)) (J ((l1 ||| (if e1 = 0 then 0 else l) : Nat) : Int)) (J ((e &&& e1 : Nat) : Int)) w m3 Q :=
    h3 D m3 Q hD ho ht3 h63 h73 ⟨by omega, q7⟩ hK3 h163 o1 o2 o3 (fun q => by omega) (fun q => (HS q).up gp13 q6) (fun q => (HF q).up gp13)
  have e38 := c_mp38 he u6 v3 go
  have lor := J_or (a := l) (b := l1) (by omega) (by omega)
  have ffor := J_or (a := f) (b := f1) (by omega) (by omega)
  rcases (show e = 0 ∨ e = 1 by omega) with rfl | rfl <;> rcases (show e1 = 0 ∨ e1 = 1 by omega) with rfl | rfl
  · rw [if_pos rfl, if_pos rfl, Nat.or_zero, Nat.or_zero] at e38
    simp (disch := first | (unfold r32; omega) | omega) only [J_eq, j_rd, j_nc, v1, v2, v3] at e38 ⊢
    exact ⟨fun _ => ⟨fun _ => e38, fun q => absurd trivial q⟩, fun q => absurd trivial q⟩
  · rw [if_pos rfl, if_neg (by decide), Nat.or_zero, Nat.or_comm] at e38
    simp (disch := first | (unfold r32; omega) | omega) only [J_eq, j_rd, j_nc, v1, v2, v3, lor] at e38 ⊢
    exact ⟨fun _ => ⟨fun q => by omega, fun _ => e38⟩, fun q => absurd trivial q⟩
  · rw [if_neg (by decide), if_pos rfl, Nat.or_zero] at e38
    simp (disch := first | (unfold r32; omega) | omega) only [J_eq, j_rd, j_nc, v1, v2, v3, ffor] at e38 ⊢
    exact ⟨fun q => by omega, fun _ => ⟨fun _ => e38, fun q => absurd trivial q⟩⟩
  · rw [if_neg (by decide), if_neg (by decide), Nat.or_comm l1 l] at e38
    simp (disch := first | (unfold r32; omega) | omega) only [J_eq, j_rd, j_nc, v1, v2, v3, lor, ffor] at e38 ⊢
    exact ⟨fun q => by omega, fun _ => ⟨fun q => by omega, fun _ => e38⟩⟩
theorem m_aend {o : Nat} {p : Int} {z : Nat} {K : Nat → Int} {F : Nat → Nat} {f l e : Nat} (h0 : tC T n p ≠ 124) : PXm d w T n 1 o p z K F f l e 0 0 p z K F f l e := by
  intro D m Q hD ho ht hm h7 hp hK h16 hf hl he hF HS HF
  show W_M_readAlt_5 (D + 8) w m Q
  have hr := tC_r (n := n) (p := p) ht.2.2.2.2
  refine S_M_readAlt_5 (c_see' ht hm hp (fun m1 f1 f2 f3 f4 => ?_))
  have fin := HS rfl m1 f1.gp (hK.g6 f1) ((hF (Or.inl rfl)).g6 f1) (by rw [f1.2.1 16 (by omega) (by omega) (by omega), h16]) (Or.inr f4) (by omega) hp.2
  simp (disch := first | (unfold r32; omega) | omega) only [j_lit, J_eq]
  exact ⟨fun _ => fin, fun q => absurd q h0⟩
theorem m_nB {m1 : zM} {p : Int} (ht : tpM m1 T n) (hp : 0 ≤ p ∧ p ≤ n) (h : tC T n p ≠ -1) : tP T n p + 1 = nB T n p := ((nB_bd (T := T) hp.2).2.2.2.2 h).2.symm
theorem m_abad {o : Nat} {p : Int} {z : Nat} {K : Nat → Int} {F : Nat → Nat} {f l e : Nat} {x y p' : Int} {z' : Nat} {K' : Nat → Int} {F' : Nat → Nat} {f' l' e' : Nat} (h0 : tC T n p = 124) (hx : x ≠ 0) (h2 : PXm d w T n 0 o (nB T n p) z K F 0 0 1 x y p' z' K' F' f' l' e') : PXm d w T n 1 o p z K F f l e x y p' z' K' F' f' l' e' := by
  intro D m Q hD ho ht hm h7 hp hK h16 hf hl he hF HS HF
  show W_M_readAlt_5 (D + 8) w m Q
  have hb := nB_bd (T := T) hp.2
  have hb5 := hb.2.2.2.2 (by omega)
  have hn := ht.2.1
  refine S_M_readAlt_5 (c_see' ht hm hp (fun m1 f1 f2 f3 f4 => ?_))
  have g2 : gp m1 (sq m1 261 6 (nB T n p)) := gp.si (by omega) (by omega)
  have f12 := f1.gp.tr g2
  simp (disch := first | (unfold r32; omega) | omega) only [j_lit, J_eq, h0, j_rd, j_nc, f4, j_ops, j_wr, ← hb5.2]
  refine ⟨fun q => absurd trivial q, fun _ => S_M_readRow ?_⟩
  have go : ∀ Q' : Int32 → zM → Prop, pmF (sq m1 261 6 (nB T n p)) Q' x y → W_M_readRow_6 (D + 7) (J 0) (J 0) (J 1) w (sq m1 261 6 (nB T n p)) Q' := fun Q' hF' =>
    h2 D (sq m1 261 6 (nB T n p)) Q' hD ho (ht.gp f12) (Or.inl (iq_eq (by unfold r32; omega))) (by rw [f12.2.1 7 (by omega) (by omega) (by omega) (by omega), h7]) ⟨by omega, hb.2.2.2.1⟩ ((hK.g6 f1).si (by omega) (by omega)) (by rw [iq_ne (by omega) (by omega) (by omega), f1.2.1 16 (by omega) (by omega) (by omega), h16]) (by omega) (by omega) (by omega) (fun q => by omega) (fun q => absurd q hx) (fun _ => hF')
  simp only [j_lit]
  refine go _ (fun m2 y1 y2 y3 => ?_)
  simp (disch := first | (unfold r32; omega) | omega) only [J_eq]
  exact ⟨fun q => absurd trivial q, fun _ => HF hx m2 (f12.gpf.tr y1) y2 y3⟩
theorem m_ago {o : Nat} {p : Int} {z : Nat} {K : Nat → Int} {F : Nat → Nat} {f l e : Nat} {p1 : Int} {z1 : Nat} {K1 : Nat → Int} {F1 : Nat → Nat} {f1 l1 e1 : Nat} {x y p' : Int} {z' : Nat} {K' : Nat → Int} {F' : Nat → Nat} {f' l' e' : Nat} (h0 : tC T n p = 124) (h2 : PXm d w T n 0 o (nB T n p) z K F 0 0 1 0 0 p1 z1 K1 F1 f1 l1 e1) (h3 : PXm d w T n 1 o p1 z1 K1 F1 (f ||| f1) (l ||| l1) (e ||| e1) x y p' z' K' F' f' l' e') : PXm d w T n 1 o p z K F f l e x y p' z' K' F' f' l' e' := by
  intro D m Q hD ho ht hm h7 hp hK h16 hf hl he hF HS HF
  show W_M_readAlt_5 (D + 8) w m Q
  have hb := nB_bd (T := T) hp.2
  have hb5 := hb.2.2.2.2 (by omega)
  have hn := ht.2.1
  refine S_M_readAlt_5 (c_see' ht hm hp (fun m1 g1 g2 g3 g4 => ?_))
  obtain ⟨t1, t2, t3, t4, t5, t6⟩ := (hF (Or.inl rfl)).g6 g1
  have gg : gp m1 (sq m1 261 6 (nB T n p)) := gp.si (by omega) (by omega)
  have f12 := g1.gp.tr gg
  simp (disch := first | (unfold r32; omega) | omega) only [j_lit, J_eq, h0, j_rd, j_nc, g4, t1, t2, t3, j_ops, j_wr, ← hb5.2]
  refine ⟨fun q => absurd trivial q, fun _ => S_M_readRow ?_⟩
  have go : ∀ Q' : Int32 → zM → Prop, pmS T n o (sq m1 261 6 (nB T n p)) Q' (nB T n p) z1 K1 F1 p1 f1 l1 e1 → W_M_readRow_6 (D + 7) (J 0) (J 0) (J 1) w (sq m1 261 6 (nB T n p)) Q' := fun Q' hF' =>
    h2 D (sq m1 261 6 (nB T n p)) Q' hD ho (ht.gp f12) (Or.inl (iq_eq (by unfold r32; omega))) (by rw [f12.2.1 7 (by omega) (by omega) (by omega) (by omega), h7]) ⟨by omega, hb.2.2.2.1⟩ ((hK.g6 g1).si (by omega) (by omega)) (by rw [iq_ne (by omega) (by omega) (by omega), g1.2.1 16 (by omega) (by omega) (by omega), h16]) (by omega) (by omega) (by omega) (fun q => by omega) (fun _ => hF') (fun q => absurd rfl q)
  simp only [j_lit]
  refine go _ (fun m2 q1 q2 q3 q4 q5 q6 q7 => ?_)
  obtain ⟨u1, u2, u3, u4, u5, u6⟩ := q3
  have o1 := pp_or_lt hf u4
  have o2 := pp_or_lt hl u5
  have o3 : e ||| e1 < 2 := Nat.or_lt_two_pow (n := 1) he u6
  have lor := J_or (a := l1) (b := l) (by omega) (by omega)
  have ffor := J_or (a := f1) (b := f) (by omega) (by omega)
  obtain ⟨a1, a2, a3, a4, a5⟩ := fs3 m2 o1 o2 o3
  have gp13 := (f12.tr q1).tr a1
  have w18 : iq (sq m2 261 17 ((f ||| f1 : Nat) : Int)) 261 18 = iq m2 261 18 := iq_ne (Or.inr (by omega)) (by omega) (by omega)
  have w19 : ∀ v, iq (sq (sq m2 261 17 ((f ||| f1 : Nat) : Int)) 261 18 v) 261 19 = iq m2 261 19 := fun v => by rw [iq_ne (by omega) (by omega) (by omega), iq_ne (by omega) (by omega) (by omega)]
  have fin : W_M_readAlt_5 (D + 8) w (sq (sq (sq m2 261 17 ((f ||| f1 : Nat) : Int)) 261 18 ((l ||| l1 : Nat) : Int)) 261 19 ((e ||| e1 : Nat) : Int)) Q :=
    h3 D _ Q hD ho (ht.gp gp13) (by rw [a5]; exact q5) (by rw [gp13.2.1 7 (by omega) (by omega) (by omega) (by omega), h7]) ⟨by omega, q7⟩ (a3 _ _ _ q2) (a4.trans q4) o1 o2 o3 (fun _ => a2) (fun q => (HS q).up gp13 (by omega)) (fun q => (HF q).up gp13)
  have hf1 := Nat.or_comm f1 f
  have hl1 := Nat.or_comm l1 l
  rcases (show e = 0 ∨ e = 1 by omega) with rfl | rfl <;> rcases (show e1 = 0 ∨ e1 = 1 by omega) with rfl | rfl
  · rw [show (0 ||| 0 : Nat) = 0 from rfl] at fin
    simp (disch := first | (unfold r32; omega) | omega) only [j_lit, J_eq, j_rd, j_nc, u1, u2, u3, ffor, lor, hf1, hl1, j_wr, w18, w19] at fin ⊢
    exact ⟨fun _ => ⟨fun q => absurd trivial q, fun _ => ⟨fun _ => fin, fun q => absurd trivial q⟩⟩, fun q => by omega⟩
  · rw [show (0 ||| 1 : Nat) = 1 from rfl] at fin
    simp (disch := first | (unfold r32; omega) | omega) only [j_lit, J_eq, j_rd, j_nc, u1, u2, u3, ffor, lor, hf1, hl1, j_wr, w18, w19] at fin ⊢
    exact ⟨fun _ => ⟨fun _ => fin, fun q => by omega⟩, fun q => by omega⟩
  · rw [show (1 ||| 0 : Nat) = 1 from rfl] at fin
    simp (disch := first | (unfold r32; omega) | omega) only [j_lit, J_eq, j_rd, j_nc, u1, u2, u3, ffor, lor, hf1, hl1, j_wr, w18, w19] at fin ⊢
    exact ⟨fun _ => ⟨fun q => absurd trivial q, fun _ => ⟨fun q => by omega, fun _ => fin⟩⟩, fun q => by omega⟩
  · rw [show (1 ||| 1 : Nat) = 1 from rfl] at fin
    simp (disch := first | (unfold r32; omega) | omega) only [j_lit, J_eq, j_rd, j_nc, u1, u2, u3, ffor, lor, hf1, hl1, j_wr, w18, w19] at fin ⊢
    exact ⟨fun _ => ⟨fun _ => fin, fun q => by omega⟩, fun q => by omega⟩
end MP2
