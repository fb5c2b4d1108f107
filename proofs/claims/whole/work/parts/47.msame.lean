/-! the reference reads the words that are the same -/
theorem rs_mono {N : Int → Int} {r v : Int} {z : Nat} (h : rs N z r = some v) : ∀ k : Nat, rs N (z + k) r = some v := by
  intro k
  induction k with
  | zero => exact h
  | succ k ih =>
    rw [show z + (k + 1) = (z + k) + 1 by omega, rs_s, ih]
theorem rs_in {N : Int → Int} {r v : Int} : ∀ n : Nat, rs N n r = some v → ∃ k : Int, 0 ≤ k ∧ k < n ∧ v = N (219 + k) := by
  intro n
  induction n with
  | zero => intro h; exact absurd h (by show ¬ (none : Option Int) = some v; intro z; cases z)
  | succ n ih =>
    intro h
    rw [rs_s] at h
    cases e : rs N n r with
    | some v' =>
      rw [e] at h
      obtain ⟨k, h1, h2, h3⟩ := ih (by rw [e]; exact h)
      exact ⟨k, h1, by omega, h3⟩
    | none =>
      rw [e] at h
      have h' : (if N (179 + n) = r ∧ N (219 + n) ≠ 0 ∧ N (219 + n) ≠ r then some (N (219 + n)) else none) = some v := h
      split at h'
      · exact ⟨n, by omega, by omega, by cases h'; rfl⟩
      · cases h'
section MS
variable {d : Nat} {w : Nat × Nat × Nat} {T : Int → Int} {n : Int}
theorem sof_r {m : zM} {N : Int → Int} {r : Int} (hN : rowM m N) (h0 : 0 ≤ N 178 ∧ N 178 ≤ 40) (hr : r64 r) : r64 (sof N r) := by
  unfold sof
  cases e : rs N (N 178).toNat r with
  | none => exact hr
  | some v =>
    obtain ⟨k, h1, h2, h3⟩ := rs_in _ e
    show r64 v
    rw [h3, ← hN (219 + k) (by omega) (by omega)]
    exact lq_r _ _ _
theorem c_sameOf_l {Q : Int64 → zM → Prop} {m : zM} {N : Int → Int} {r : Int} (hN : rowM m N) (h0 : 0 ≤ N 178 ∧ N 178 ≤ 40) (hr : r64 r) (H : Q (JL (sof N r)) m) : ∀ (k : Nat) (z : Nat), z + k = (N 178).toNat → rs N z r = none → W_M_sameOf_2 d (JL r) (J (z : Int)) w m Q := by
  have hs0 : lq m 262 178 = N 178 := hN 178 (by omega) (by omega)
  intro k
  induction k with
  | zero =>
    intro z hz hn
    refine S_M_sameOf_2 ?_
    simp (disch := first | (unfold r32; omega) | (unfold r64; omega) | omega) only [j_lit, vp_J, J_cl, jl_rd, lq_tn, hs0, J_64, JL_le]
    refine ⟨by omega, fun _ => ?_, fun q => by omega⟩
    have e : sof N r = r := by
      unfold sof
      rw [show (N 178).toNat = z by omega, hn]
    rw [e] at H
    exact H
  | succ k ih =>
    intro z hz hn
    have a1 : lq m 262 (179 + (z : Int)) = N (179 + z) := hN _ (by omega) (by omega)
    have a2 : lq m 262 (219 + (z : Int)) = N (219 + z) := hN _ (by omega) (by omega)
    have b1 : r64 (N (179 + z)) := by rw [← a1]; exact lq_r _ _ _
    have b2 : r64 (N (219 + z)) := by rw [← a2]; exact lq_r _ _ _
    have es := rs_s N z r
    rw [hn] at es
    have es : rs N (z + 1) r = if N (179 + z) = r ∧ N (219 + z) ≠ 0 ∧ N (219 + z) ≠ r then some (N (219 + z)) else none := es
    have nx : rs N (z + 1) r = none → W_M_sameOf_2 d (JL r) (J ((z : Int) + 1)) w m Q := fun q => by
      have := ih (z + 1) (by omega) q
      rw [show (((z + 1 : Nat) : Nat) : Int) = (z : Int) + 1 by omega] at this
      exact this
    refine S_M_sameOf_2 ?_
    simp (disch := first | exact hr | exact b1 | exact b2 | (unfold r32; omega) | (unfold r64; omega) | omega) only [j_lit, jl_lit, j_ops, vp_J, J_cl, jl_rd, lq_tn, hs0, J_64, JL_le, JL_eq, a1, a2]
    refine ⟨by omega, fun q => by omega, fun _ => ⟨by omega, fun q => nx (by rw [es, if_neg (fun z => q z.1)]), fun q => ⟨by omega, fun q2 => nx (by rw [es, if_neg (fun z => z.2.1 q2)]), fun q2 => ⟨by omega, fun q3 => nx (by rw [es, if_neg (fun z => z.2.2 q3)]), fun q3 => ⟨by omega, ?_⟩⟩⟩⟩⟩
    rw [if_pos ⟨q, q2, q3⟩] at es
    have := rs_mono es k
    have e : sof N r = N (219 + z) := by
      unfold sof
      rw [show (N 178).toNat = z + 1 + k by omega, this]
    rw [e] at H
    exact H
theorem c_sameOf {Q : Int64 → zM → Prop} {m : zM} {N : Int → Int} {r : Int} (hN : rowM m N) (h0 : 0 ≤ N 178 ∧ N 178 ≤ 40) (hr : r64 r) (H : Q (JL (sof N r)) m) : cL d 192 [.ref 261, .long (JL r)] w m Q :=
  S_M_sameOf (c_sameOf_l hN h0 hr H (N 178).toNat 0 (by omega) rfl)
/-- the word is put down, with what it is the same as -/
theorem c_mput {Q : Int32 → zM → Prop} {m : zM} {p f v r c : Int} {N : Int → Int} (ht : tpM m T n) (hm : iq m 261 6 = p) (hp : 0 ≤ p ∧ p ≤ n) (hN : rowM m N) (h0 : 0 ≤ N 178 ∧ N 178 < 40) (hw : lq m 261 11 = r) (hv : r64 v) (hc : 0 ≤ c ∧ c < 600) (hvc : v = if c = 0 then 0 else f)
    (H0 : ∀ m', c = 0 → gq m m' → rowM m' (sadd N r v) → iq m' 261 6 = p → W_M_readSame_13 (d + 2) (JL f) (J (c + 1)) w m' Q)
    (H1 : ∀ m', c ≠ 0 → tS T n p ≠ 59 → gq m m' → rowM m' (sadd N r v) → iq m' 261 6 = tP T n p → W_M_readSame_13 (d + 2) (JL f) (J (c + 1)) w m' Q)
    (H2 : ∀ m', c ≠ 0 → tS T n p = 59 → gq m m' → rowM m' (sadd N r v) → iq m' 261 6 = tB T n p → W_M_readSame_5 (d + 2) w m' Q) : W_M_readSame_37 (d + 2) (JL f) (J c) w m Q := by
  have hn := ht.2.1
  have hs0 : lq m 262 178 = N 178 := hN 178 (by omega) (by omega)
  have hr : r64 r := by rw [← hw]; exact lq_r _ _ _
  have hbd := tok_bd (T := T) hp.2
  have hr2 := tC_r (n := n) (p := p) ht.2.2.2.2
  have e1 := tC_1 (n := n) (p := p) ht.2.2.2.2 (c := 59) (by omega) (by omega)
  have c1 : lq (sl m 262 (179 + N 178) r) 262 178 = N 178 := by rw [lq_sl (by omega) (by omega) hr, if_neg (by omega), hs0]
  have c2 : lq (sl (sl m 262 (179 + N 178) r) 262 (219 + N 178) v) 262 178 = N 178 := by rw [lq_sl (by omega) (by omega) hv, if_neg (by omega), c1]
  have fq : gq m (sl (sl (sl m 262 (179 + N 178) r) 262 (219 + N 178) v) 262 178 (N 178 + 1)) := (((gq.rf m).sl _ _).sl _ _).sl _ _
  have rw' : rowM (sl (sl (sl m 262 (179 + N 178) r) 262 (219 + N 178) v) 262 178 (N 178 + 1)) (sadd N r v) := by
    refine rowM.gs (N := fun z => if z = 219 + N 178 then v else if z = 179 + N 178 then r else N z) ?_ (by omega) (by unfold r64; omega) (fun y _ _ => rfl)
    refine rowM.gs (N := fun z => if z = 179 + N 178 then r else N z) ?_ (by omega) hv (fun y _ _ => rfl)
    exact hN.gs (by omega) hr (fun y _ _ => rfl)
  have tail : W_M_readSame_63 (d + 2) (JL f) (J c) (J (219 + N 178)) (JL v) w (sl m 262 (179 + N 178) r) Q := by
    refine S_M_readSame_63 ?_
    simp (disch := first | (unfold r32; omega) | (unfold r64; omega) | omega) only [j_lit, jl_lit, j_ops, jl_ops, vp_J, J_cl, jl_rd, jl_wr, sl_tn, lq_tn, hs0, c1, c2, J_lt]
    refine ⟨by omega, by omega, by omega, fun q => H0 _ (by omega) fq rw' hm, fun q => ?_⟩
    refine c_see (ht.gq fq) hm hp (fun m3 g1 g2 g3 g4 => ?_)
    simp (disch := first | (unfold r32; omega) | omega) only [j_lit, j_rd, j_nc, j_wr, J_eq, g4, j_ops]
    refine ⟨fun q2 => ?_, fun q2 => ?_⟩
    · exact H1 m3 (by omega) (fun z => q2 (e1.mpr z)) (fq.tr g1.gq) (rw'.g6 g1) g4
    · have e := e1.mp q2
      have et := tB_1 ht.2.2.2.2 e (by omega)
      have g5 : g6 m3 (sq m3 261 6 (tP T n p + 1)) := (g6.rf m3).si (by omega) (by omega) (by unfold r32; omega)
      refine H2 _ (by omega) e ((fq.tr g1.gq).tr g5.gq) ((rw'.g6 g1).g6 g5) ?_
      rw [iq_sq (by omega) (by omega) (by unfold r32; omega), if_pos ⟨rfl, rfl⟩, et]
  refine S_M_readSame_37 ?_
  simp (disch := first | (unfold r32; omega) | (unfold r64; omega) | omega) only [j_lit, jl_lit, j_ops, jl_ops, vp_J, J_cl, jl_rd, j_nc, jl_wr, sl_tn, lq_tn, hs0, hw, JL_32, c1, J_eq]
  refine ⟨by omega, by omega, by omega, fun q => ?_, fun q => ?_⟩
  · rw [if_neg q] at hvc
    rw [hvc] at tail
    exact tail
  · rw [if_pos q] at hvc
    rw [hvc] at tail
    exact tail
theorem c_msame1 {Q : Int32 → zM → Prop} {m : zM} {p f c : Int} {N : Int → Int} (ht : tpM m T n) (hm : iq m 261 6 = p ∨ iq m 261 6 = tP T n p) (h7 : iq m 261 7 = 0) (hp : 0 ≤ p ∧ p ≤ n) (hN : rowM m N) (h0 : 0 ≤ N 178 ∧ N 178 ≤ 40) (hf : r64 f) (hc : 0 ≤ c ∧ c < 600)
    (F1 : ∀ m', tS T n p ≠ -2 → gf m m' → iq m' 261 7 = 1 → iq m' 261 8 = tP T n p → Q (J 0) m')
    (F2 : ∀ m', tS T n p = -2 → N 178 = 40 → gf m m' → iq m' 261 7 = 2 → iq m' 261 8 = tP T n p → Q (J 0) m')
    (G0 : ∀ m', c = 0 → tS T n p = -2 → N 178 ≠ 40 → gq m m' → rowM m' (sadd N (eM (tL T n p)) 0) → iq m' 261 6 = tB T n p → W_M_readSame_13 (d + 2) (JL (sof N (eM (tL T n p)))) (J 1) w m' Q)
    (G1 : ∀ m', c ≠ 0 → tS T n p = -2 → N 178 ≠ 40 → tS T n (tB T n p) ≠ 59 → gq m m' → rowM m' (sadd N (eM (tL T n p)) f) → iq m' 261 6 = tP T n (tB T n p) → W_M_readSame_13 (d + 2) (JL f) (J (c + 1)) w m' Q)
    (G2 : ∀ m', c ≠ 0 → tS T n p = -2 → N 178 ≠ 40 → tS T n (tB T n p) = 59 → gq m m' → rowM m' (sadd N (eM (tL T n p)) f) → iq m' 261 6 = tB T n (tB T n p) → W_M_readSame_5 (d + 2) w m' Q) : W_M_readSame_13 (d + 2) (JL f) (J c) w m Q := by
  have hn := ht.2.1
  have hbd := tok_bd (T := T) hp.2
  refine S_M_readSame_13 (c_readWord' ht hm h7 hp (fun m1 a1 f1 f5 f6 f7 => ?_) (fun m1 a1 f1 f5 f6 => ?_))
  · have hwd := (tL_wd hp.2 a1 ht.2.2.2.2).1
    have hb := eM_bd hwd
    have ht1 := ht.g6 f1
    have hN1 := hN.g6 f1
    have h71 : iq m1 261 7 = 0 := by rw [f1.2.1 7 (by omega) (by omega) (by omega), h7]
    have hs0 : lq m1 262 178 = N 178 := hN1 178 (by omega) (by omega)
    simp (disch := first | (unfold r32; omega) | (unfold r64; omega) | omega) only [j_lit, jl_lit, J_eq, j_ops, vp_J, J_cl, lq_tn, j_rd, jl_rd, j_nc, f5, f7, hs0, JL_eq]
    refine ⟨fun _ => ⟨by omega, fun q2 => ⟨fun q3 => ?_, fun q3 => ?_⟩, fun q2 => ?_⟩, fun z => by omega⟩
    · refine c_mput (p := tB T n p) (v := f) ht1 f6 (by omega) hN1 (by omega) f7 hf hc (by rw [if_neg q3]) (fun m' z => absurd z q3) (fun m' _ y1 y2 y3 y4 => ?_) (fun m' _ y1 y2 y3 y4 => ?_)
      · exact G1 m' q3 a1 q2 y1 (f1.gq.tr y2) y3 y4
      · exact G2 m' q3 a1 q2 y1 (f1.gq.tr y2) y3 y4
    · refine c_sameOf hN1 h0 (by unfold r64; omega) ?_
      refine c_mput (p := tB T n p) (v := 0) ht1 f6 (by omega) hN1 (by omega) f7 (by unfold r64; omega) hc (by rw [if_pos q3]) (fun m' _ y1 y2 y3 => ?_) (fun m' z => absurd q3 z) (fun m' z => absurd q3 z)
      have := G0 m' q3 a1 q2 (f1.gq.tr y1) y2 y3
      rw [q3]
      exact this
    · refine c_fails h71 (by unfold r32; omega) (by unfold r32; omega) (fun m4 g1 g2 g3 g4 g5 g6 => ⟨Or.inl rfl, ?_⟩)
      exact F2 m4 a1 q2 (f1.g8.gf.tr g1.gf) g5 g6
  · simp (disch := first | (unfold r32; omega) | omega) only [j_lit, J_eq, j_ops]
    exact ⟨fun z => absurd trivial z, fun _ => F1 m1 a1 f1.gf f5 f6⟩
def SXm (d : Nat) (w : Nat × Nat × Nat) (T : Int → Int) (n : Int) (o : Option Int) (p : Int) (N : Int → Int) (x y : Int) (N' : Int → Int) : Prop :=
  ∀ (m : zM) (Q : Int32 → zM → Prop), tpM m T n → (iq m 261 6 = p ∨ iq m 261 6 = tP T n p) → iq m 261 7 = 0 → 0 ≤ p ∧ p ≤ n → rowM m N → 0 ≤ N 178 ∧ N 178 ≤ 40 →
    (x = 0 → ∀ m', gq m m' → rowM m' N' → Q (J 1) m') → (x ≠ 0 → ∀ m', gf m m' → iq m' 261 7 = x → iq m' 261 8 = y → Q (J 0) m') →
    (o = none → W_M_readSame_5 (d + 2) w m Q) ∧ (∀ k c, o = some k → r64 k → 1 ≤ c → c ≤ N 178 → W_M_readSame_13 (d + 2) (JL k) (J c) w m Q)
/-- a line's first -/
theorem c_msame0 {Q : Int32 → zM → Prop} {m : zM} {p : Int} {N : Int → Int} (ht : tpM m T n) (hm : iq m 261 6 = p ∨ iq m 261 6 = tP T n p) (h7 : iq m 261 7 = 0) (hp : 0 ≤ p ∧ p ≤ n) (hN : rowM m N) (h0 : 0 ≤ N 178 ∧ N 178 ≤ 40)
    (H0 : ∀ m', tS T n p = -1 → g6 m m' → Q (J 1) m')
    (F1 : ∀ m', tS T n p ≠ -1 → tS T n p ≠ -2 → gf m m' → iq m' 261 7 = 1 → iq m' 261 8 = tP T n p → Q (J 0) m')
    (F2 : ∀ m', tS T n p = -2 → N 178 = 40 → gf m m' → iq m' 261 7 = 2 → iq m' 261 8 = tP T n p → Q (J 0) m')
    (G0 : ∀ m', tS T n p = -2 → N 178 ≠ 40 → gq m m' → rowM m' (sadd N (eM (tL T n p)) 0) → iq m' 261 6 = tB T n p → W_M_readSame_13 (d + 2) (JL (sof N (eM (tL T n p)))) (J 1) w m' Q) : W_M_readSame_5 (d + 2) w m Q := by
  have hn := ht.2.1
  have hr := tC_r (n := n) (p := p) ht.2.2.2.2
  refine S_M_readSame_5 (c_see' ht hm hp (fun m1 f1 f1l f3 f4 => ?_))
  have e1 := tC_1 (n := n) (p := p) ht.2.2.2.2 (c := -1) (by omega) (by omega)
  simp (disch := first | (unfold r32; omega) | omega) only [j_lit, jl_lit, J_eq, j_ops]
  refine ⟨fun q => H0 m1 (e1.mp q) f1, fun q => ?_⟩
  have q' : tS T n p ≠ -1 := fun z => q (e1.mpr z)
  refine c_msame1 (ht.g6 f1) (Or.inr f4) (by rw [f1.2.1 7 (by omega) (by omega) (by omega), h7]) hp (hN.g6 f1) h0 (by unfold r64; omega) (by omega) (fun m' a f g1 g2 => F1 m' q' a (f1.g8.gf.tr f) g1 g2) (fun m' a b f g1 g2 => F2 m' a b (f1.g8.gf.tr f) g1 g2) (fun m' _ a b f g1 g2 => G0 m' a b (f1.gq.tr f) g1 g2) (fun m' z => absurd rfl z) (fun m' z => absurd rfl z)
theorem c_msame {o : Option Int} {p x y : Int} {N N' : Int → Int} (h : SX T n o p N x y N') : SXm d w T n o p N x y N' := by
  refine h (SXm d w T n) ⟨?_, ?_, ?_, ?_, ?_, ?_, ?_, ?_⟩
  · intro p N e m Q ht hm h7 hp hN h0 HS HF
    refine ⟨fun _ => ?_, fun k c z => by cases z⟩
    exact c_msame0 ht hm h7 hp hN h0 (fun m' _ f => HS rfl m' f.gq (hN.g6 f)) (fun m' z => absurd e z) (fun m' z => by omega) (fun m' z => by omega)
  · intro p N e1 e2 m Q ht hm h7 hp hN h0 HS HF
    refine ⟨fun _ => ?_, fun k c z => by cases z⟩
    exact c_msame0 ht hm h7 hp hN h0 (fun m' z => absurd z e1) (fun m' _ _ f g1 g2 => HF (by omega) m' f g1 g2) (fun m' z => absurd z e2) (fun m' z => absurd z e2)
  · intro p N e1 e2 m Q ht hm h7 hp hN h0 HS HF
    refine ⟨fun _ => ?_, fun k c z => by cases z⟩
    exact c_msame0 ht hm h7 hp hN h0 (fun m' z => by omega) (fun m' _ z => absurd e1 z) (fun m' _ _ f g1 g2 => HF (by omega) m' f g1 g2) (fun m' _ z => absurd e2 z)
  · intro p N N' x y e1 e2 ih m Q ht hm h7 hp hN h0 HS HF
    have hbd := tok_bd (T := T) hp.2
    have hwd := (tL_wd hp.2 e1 ht.2.2.2.2).1
    have hb := eM_bd hwd
    have hsr := sof_r hN h0 (r := eM (tL T n p)) (by unfold r64; omega)
    refine ⟨fun _ => ?_, fun k c z => by cases z⟩
    refine c_msame0 ht hm h7 hp hN h0 (fun m' z => by omega) (fun m' _ z => absurd e1 z) (fun m' _ z => absurd z e2) (fun m' _ _ f g1 g2 => ?_)
    refine (ih m' Q (ht.gq f) (Or.inl g2) (by rw [f.2.1 7 (by omega) (by omega) (by omega), h7]) (by omega) g1 (by rw [sadd_178]; omega) (fun z m2 y1 y2 => HS z m2 (f.tr y1) y2) (fun z m2 y1 y2 y3 => HF z m2 (f.gf.tr y1) y2 y3)).2 _ 1 rfl hsr (by omega) (by rw [sadd_178]; omega)
  · intro k p N e m Q ht hm h7 hp hN h0 HS HF
    refine ⟨fun z => (by cases z), fun k' c z hk c1 c2 => ?_⟩
    cases z
    exact c_msame1 ht hm h7 hp hN h0 hk (by omega) (fun m' _ f g1 g2 => HF (by omega) m' f g1 g2) (fun m' z => absurd z e) (fun m' z => by omega) (fun m' _ z => absurd z e) (fun m' _ z => absurd z e)
  · intro k p N e1 e2 m Q ht hm h7 hp hN h0 HS HF
    refine ⟨fun z => (by cases z), fun k' c z hk c1 c2 => ?_⟩
    cases z
    exact c_msame1 ht hm h7 hp hN h0 hk (by omega) (fun m' z => absurd e1 z) (fun m' _ _ f g1 g2 => HF (by omega) m' f g1 g2) (fun m' z => by omega) (fun m' _ _ z => absurd e2 z) (fun m' _ _ z => absurd e2 z)
  · intro k p N N' x y e1 e2 e3 ih m Q ht hm h7 hp hN h0 HS HF
    have hbd := tok_bd (T := T) hp.2
    refine ⟨fun z => (by cases z), fun k' c z hk c1 c2 => ?_⟩
    cases z
    refine c_msame1 ht hm h7 hp hN h0 hk (by omega) (fun m' z => absurd e1 z) (fun m' _ z => absurd z e2) (fun m' z => by omega) (fun m' _ _ _ _ f g1 g2 => ?_) (fun m' _ _ _ z => absurd z e3)
    exact (ih m' Q (ht.gq f) (Or.inr g2) (by rw [f.2.1 7 (by omega) (by omega) (by omega), h7]) (by omega) g1 (by rw [sadd_178]; omega) (fun z m2 y1 y2 => HS z m2 (f.tr y1) y2) (fun z m2 y1 y2 y3 => HF z m2 (f.gf.tr y1) y2 y3)).2 _ (c + 1) rfl hk (by omega) (by rw [sadd_178]; omega)
  · intro k p N N' x y e1 e2 e3 ih m Q ht hm h7 hp hN h0 HS HF
    have hbd := tok_bd (T := T) hp.2
    have hbd1 := tok_bd (T := T) (p := tB T n p) hbd.2.2.2.1
    refine ⟨fun z => (by cases z), fun k' c z hk c1 c2 => ?_⟩
    cases z
    refine c_msame1 ht hm h7 hp hN h0 hk (by omega) (fun m' z => absurd e1 z) (fun m' _ z => absurd z e2) (fun m' z => by omega) (fun m' _ _ _ z => absurd e3 z) (fun m' _ _ _ _ f g1 g2 => ?_)
    exact (ih m' Q (ht.gq f) (Or.inl g2) (by rw [f.2.1 7 (by omega) (by omega) (by omega), h7]) (by omega) g1 (by rw [sadd_178]; omega) (fun z m2 y1 y2 => HS z m2 (f.tr y1) y2) (fun z m2 y1 y2 y3 => HF z m2 (f.gf.tr y1) y2 y3)).1 rfl
theorem c_M_readSame {Q : Int32 → zM → Prop} {m : zM} {x y : Int} {N N' : Int → Int} (h : SX T n none 0 (s0 N) x y N') (ht : tpM m T n) (h6 : iq m 261 6 = 0) (h7 : iq m 261 7 = 0) (hN : rowM m N)
    (HS : x = 0 → ∀ m', gq m m' → rowM m' N' → Q (J 1) m') (HF : x ≠ 0 → ∀ m', gf m m' → iq m' 261 7 = x → iq m' 261 8 = y → Q (J 0) m') : cI (d + 3) 208 [.ref 261] w m Q := by
  refine S_M_readSame ?_
  simp (disch := first | (unfold r32; omega) | omega) only [j_lit, jl_lit, vp_J, J_cl, jl_wr, sl_tn]
  have f0 : gq m (sl m 262 178 0) := (gq.rf m).sl _ _
  have e178 : s0 N 178 = 0 := if_pos rfl
  exact ⟨by omega, (c_msame (d := d) (w := w) h _ Q (ht.gq f0) (Or.inl h6) h7 ⟨by omega, ht.1⟩ (hN.gs (by omega) (by unfold r64; omega) (fun y _ _ => rfl)) (by rw [e178]; omega) (fun z m2 y1 y2 => HS z m2 (f0.tr y1) y2) (fun z m2 y1 y2 y3 => HF z m2 (f0.gf.tr y1) y2 y3)).1 rfl⟩
end MS
