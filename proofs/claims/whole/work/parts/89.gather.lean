/-! the class gathers the terms -/
abbrev SG : List Nat := [233, 237, 238, 239, 240, 241, 242, 243, 244, 245, 246, 247, 248, 249, 250, 251]
def opn (m : zM) (T R k x : Int) : zM := sq (sq (sq (sq (sq (sq (sq (sq (sq (sq (sq (sq (sq (sl m 238 T R) 239 T k) 246 T x) 240 T 0) 241 T 0) 242 T 0) 243 T 0) 244 T 0) 247 T 0) 248 T 0) 249 T 0) 250 T 0) 251 T (-1)) 237 19 (T + 1)
theorem opn_fr (m : zM) (T R k x : Int) : fr SG m (opn m T R k x) := by
  unfold opn
  exact ((((((((((((((fr.rf _ m).sll (by simp) _ _).si (by simp) _ _).si (by simp) _ _).si (by simp) _ _).si (by simp) _ _).si (by simp) _ _).si (by simp) _ _).si (by simp) _ _).si (by simp) _ _).si (by simp) _ _).si (by simp) _ _).si (by simp) _ _).si (by simp) _ _).si (by simp) _ _
theorem opn_i {m : zM} {T R k x : Int} (hT : 0 ≤ T) {a : Nat} {i : Int} (ha : a ≠ 237) (hi : i ≠ T) (h0 : 0 ≤ i) : iq (opn m T R k x) a i = iq m a i := by
  unfold opn
  rw [iq_ne (Or.inl ha) (by omega) h0, iq_ne (Or.inr hi) hT h0, iq_ne (Or.inr hi) hT h0, iq_ne (Or.inr hi) hT h0, iq_ne (Or.inr hi) hT h0, iq_ne (Or.inr hi) hT h0, iq_ne (Or.inr hi) hT h0, iq_ne (Or.inr hi) hT h0, iq_ne (Or.inr hi) hT h0, iq_ne (Or.inr hi) hT h0, iq_ne (Or.inr hi) hT h0, iq_ne (Or.inr hi) hT h0, iq_ne (Or.inr hi) hT h0]
  rfl
theorem opn_l {m : zM} {T R k x : Int} (hT : 0 ≤ T) (hR : r64 R) {i : Int} (h0 : 0 ≤ i) : lq (opn m T R k x) 238 i = if i = T then R else lq m 238 i := by
  show lq (sl m 238 T R) 238 i = _
  by_cases e : i = T
  · rw [if_pos e, e, lq_eq hR]
  · rw [if_neg e, lq_ne (Or.inr e) hT h0]
theorem opn_T {m : zM} {T R k x : Int} (hT : 0 ≤ T ∧ T < 100000) (hk : r32 k) (hx : r32 x) : iq (opn m T R k x) 239 T = k ∧ iq (opn m T R k x) 246 T = x ∧ iq (opn m T R k x) 240 T = 0 ∧ iq (opn m T R k x) 241 T = 0 ∧ iq (opn m T R k x) 242 T = 0 ∧ iq (opn m T R k x) 243 T = 0 ∧ iq (opn m T R k x) 244 T = 0 ∧ iq (opn m T R k x) 247 T = 0 ∧ iq (opn m T R k x) 248 T = 0 ∧ iq (opn m T R k x) 249 T = 0 ∧ iq (opn m T R k x) 250 T = 0 ∧ iq (opn m T R k x) 251 T = -1 ∧ iq (opn m T R k x) 237 19 = T + 1 := by
  unfold opn
  simp (disch := first | exact hk | exact hx | omega | (unfold r32; omega)) only [iq_eq, iq_ne, and_self]
section GTH
variable {d : Nat} {w : Nat × Nat × Nat} {b : Nat} {C : Int} {N : Int → Int} {mv : zM}
theorem c_open {Q : zM → Prop} {m : zM} {T k x R : Int} (hT : iq m 237 19 = T) (h0 : 0 ≤ T ∧ T < 1200) (hx : 0 ≤ x ∧ x < 1200) (hR : lq m 235 x = R) (H : Q (opn m T R k x)) : cV (d + 1) 82 [.ref 237, .int (J x), .int (J k)] w m Q := by
  refine S_Terms_open (c_atl (n := 1200) rfl (by decide) (by unfold r32; omega) (by omega) ?_)
  have hz : iq (sq (sq (sq (sq (sq (sq (sq (sq (sq (sq (sq (sq (sl m 238 T R) 239 T k) 246 T x) 240 T 0) 241 T 0) 242 T 0) 243 T 0) 244 T 0) 247 T 0) 248 T 0) 249 T 0) 250 T 0) 251 T (-1)) 237 19 = T := by
    simp (disch := omega) only [iq_ne]
    exact hT
  simp only [j_lit, j_rd, j_nc, hT, hR, j_ops]
  refine c_putl (n := 1200) rfl (by decide) (by unfold r32; omega) (by omega) ?_
  refine c_put (n := 1200) rfl (by decide) (by unfold r32; omega) (by omega) ?_
  refine c_put (n := 1200) rfl (by decide) (by unfold r32; omega) (by omega) ?_
  refine c_put (n := 1200) rfl (by decide) (by unfold r32; omega) (by omega) ?_
  refine c_put (n := 1200) rfl (by decide) (by unfold r32; omega) (by omega) ?_
  refine c_put (n := 1200) rfl (by decide) (by unfold r32; omega) (by omega) ?_
  refine c_put (n := 1200) rfl (by decide) (by unfold r32; omega) (by omega) ?_
  refine c_put (n := 1200) rfl (by decide) (by unfold r32; omega) (by omega) ?_
  refine c_put (n := 1200) rfl (by decide) (by unfold r32; omega) (by omega) ?_
  refine c_put (n := 1200) rfl (by decide) (by unfold r32; omega) (by omega) ?_
  refine c_put (n := 1200) rfl (by decide) (by unfold r32; omega) (by omega) ?_
  refine c_put (n := 1200) rfl (by decide) (by unfold r32; omega) (by omega) ?_
  refine c_put (n := 1200) rfl (by decide) (by unfold r32; omega) (by omega) ?_
  rw [hz, j_wr]
  exact H
/-- one match taken in by its term -/
def tak (m : zM) (t x wv mi dv : Int) : zM := sq (sq (sq (sq (sq m 233 x t) 240 t (iq m 240 t + 1)) 241 t (iq m 241 t + 1 - wv)) 246 t mi) 248 t dv
theorem tak_fr (m : zM) (t x wv mi dv : Int) : fr [233, 240, 241, 246, 248] m (tak m t x wv mi dv) := by
  unfold tak
  exact (((((fr.rf _ m).si (by simp) _ _).si (by simp) _ _).si (by simp) _ _).si (by simp) _ _).si (by simp) _ _
theorem tak_i {m : zM} {t x wv mi dv : Int} (ht : 0 ≤ t) (hx : 0 ≤ x) {a : Nat} {i : Int} (ha : a ≠ 233) (hi : i ≠ t) (h0 : 0 ≤ i) : iq (tak m t x wv mi dv) a i = iq m a i := by
  unfold tak
  rw [iq_ne (Or.inr hi) ht h0, iq_ne (Or.inr hi) ht h0, iq_ne (Or.inr hi) ht h0, iq_ne (Or.inr hi) ht h0, iq_ne (Or.inl ha) hx h0]
theorem tak_x {m : zM} {t x wv mi dv : Int} (ht : 0 ≤ t ∧ t < 100000) (hx : 0 ≤ x) {i : Int} (h0 : 0 ≤ i) : iq (tak m t x wv mi dv) 233 i = if i = x then t else iq m 233 i := by
  unfold tak
  rw [iq_ne (by omega) ht.1 h0, iq_ne (by omega) ht.1 h0, iq_ne (by omega) ht.1 h0, iq_ne (by omega) ht.1 h0]
  by_cases e : i = x
  · rw [if_pos e, e, iq_eq (by unfold r32; omega)]
  · rw [if_neg e, iq_ne (Or.inr e) hx h0]
theorem tak_t {m : zM} {t x wv mi dv : Int} (ht : 0 ≤ t ∧ t < 100000) (h1 : r32 (iq m 240 t + 1)) (h2 : r32 (iq m 241 t + 1 - wv)) (h3 : r32 mi) (h4 : r32 dv) : iq (tak m t x wv mi dv) 240 t = iq m 240 t + 1 ∧ iq (tak m t x wv mi dv) 241 t = iq m 241 t + 1 - wv ∧ iq (tak m t x wv mi dv) 246 t = mi ∧ iq (tak m t x wv mi dv) 248 t = dv := by
  unfold tak
  simp (disch := first | exact h1 | exact h2 | exact h3 | exact h4 | omega) only [iq_eq, iq_ne, and_self]
theorem c_take {Q : zM → Prop} {m : zM} {t x wv V v : Nat} {fi : Int} (hb : zT b) (hN : TR C m b N) (hV : TR C mv b N) (hF : MF N m) (hx : (x : Int) < Mn N) (ht : t < 1200) (hw : iq m 234 (x : Int) = (wv : Int)) (hfi : iq m 246 (t : Int) = fi) (hfi2 : r32 fi) (hdv : iq m 248 (t : Int) = (V : Int)) (hV2 : V < 256) (hd : dcN N (mk N (x : Int)) = (v : Int)) (hv : v < 8) (h240 : 0 ≤ iq m 240 (t : Int) ∧ iq m 240 (t : Int) ≤ 1200) (h241 : 0 ≤ iq m 241 (t : Int) ∧ iq m 241 (t : Int) ≤ 1200)
    (H : Q (tak m t x wv (if fi ≤ (x : Int) then fi else (x : Int)) ((V ||| 2 ^ v : Nat) : Int))) : cV (d + 2) 83 [.ref 237, .ref b, .int (J (t : Int)), .int (J (x : Int))] w m Q := by
  have hbb := zT_b hb
  have hM := Mn_b hV
  have hmb := mk_bd hV (i := (x : Int)) (by omega) hx
  refine S_Terms_take hb (c_put (n := 1200) rfl (by decide) (by unfold r32; omega) (by omega) (c_at (n := 1200) rfl (by decide) (by unfold r32; omega) (by omega) ?_))
  have e1 : iq (sq m 233 (x : Int) (t : Int)) 240 (t : Int) = iq m 240 (t : Int) := iq_ne (by omega) (by omega) (by omega)
  simp only [e1, j_lit, j_ops]
  refine c_put (n := 1200) rfl (by decide) (by unfold r32; omega) (by omega) (c_at (n := 1200) rfl (by decide) (by unfold r32; omega) (by omega) (c_at (n := 1200) rfl (by decide) (by unfold r32; omega) (by omega) ?_))
  have e2 : iq (sq (sq m 233 (x : Int) (t : Int)) 240 (t : Int) (iq m 240 (t : Int) + 1)) 241 (t : Int) = iq m 241 (t : Int) := by rw [iq_ne (by omega) (by omega) (by omega), iq_ne (by omega) (by omega) (by omega)]
  have e3 : iq (sq (sq m 233 (x : Int) (t : Int)) 240 (t : Int) (iq m 240 (t : Int) + 1)) 234 (x : Int) = (wv : Int) := by rw [iq_ne (by omega) (by omega) (by omega), iq_ne (by omega) (by omega) (by omega), hw]
  simp only [e2, e3, j_lit, j_ops]
  refine c_put (n := 1200) rfl (by decide) (by unfold r32; omega) (by omega) (c_at (n := 1200) rfl (by decide) (by unfold r32; omega) (by omega) ?_)
  have e4 : iq (sq (sq (sq m 233 (x : Int) (t : Int)) 240 (t : Int) (iq m 240 (t : Int) + 1)) 241 (t : Int) (iq m 241 (t : Int) + 1 - (wv : Int))) 246 (t : Int) = fi := by rw [iq_ne (by omega) (by omega) (by omega), iq_ne (by omega) (by omega) (by omega), iq_ne (by omega) (by omega) (by omega), hfi]
  rw [e4]
  refine c_min hfi2 (by unfold r32; omega) (c_put (n := 1200) rfl (by decide) (by unfold r32; omega) (by omega) (c_at (n := 1200) rfl (by decide) (by unfold r32; omega) (by omega) (c_at (n := 1200) rfl (by decide) (by unfold r32; omega) (by omega) ?_)))
  generalize hmi : (if fi ≤ (x : Int) then fi else (x : Int)) = mi at *
  generalize hmm : sq (sq (sq (sq m 233 (x : Int) (t : Int)) 240 (t : Int) (iq m 240 (t : Int) + 1)) 241 (t : Int) (iq m 241 (t : Int) + 1 - (wv : Int))) 246 (t : Int) mi = mm at *
  have f : fr [233, 240, 241, 246] m mm := by rw [← hmm]; exact ((((fr.rf _ m).si (by simp) _ _).si (by simp) _ _).si (by simp) _ _).si (by simp) _ _
  have e5 : iq mm 248 (t : Int) = (V : Int) := by rw [f.i (by simp)]; exact hdv
  have e6 : iq mm 231 (x : Int) = mk N (x : Int) := by rw [f.i (by simp)]; exact (hF.2 (x : Int) (by omega) hx).1
  rw [e5, e6]
  refine c_docAt hb (hN.frm f hb (by intro c hc; simp at hc; omega)) ⟨hmb.1, by omega⟩ (fun _ _ => ?_)
  rw [hd]
  have h2 := Nat.pow_lt_pow_right (a := 2) (by decide) hv
  have h2' : 2 ^ v < 256 := h2
  have ho := J_or (a := V) (b := 2 ^ v) (by omega) (by omega)
  have hb1 : J 1 <<< (J (v : Int) &&& J 31) = J ((2 ^ v : Nat) : Int) := J_bit (by omega)
  simp only [j_lit, hb1, ho]
  refine c_put (n := 1200) rfl (by decide) (by unfold r32; omega) (by omega) ?_
  rw [← hmm]
  exact H
end GTH
