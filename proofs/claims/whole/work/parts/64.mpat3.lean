/-! the reference reads its pattern: the rules of items and of the signs behind them -/
section MP3
variable {d : Nat} {w : Nat × Nat × Nat} {T : Int → Int} {n : Int}
theorem c_msuf {D : Nat} {o : Nat} {p : Int} {z : Nat} {K : Nat → Int} {F : Nat → Nat} {f l e : Nat} {Q : Int32 → zM → Prop} {m : zM} (ht : tpM m T n) (hm : iq m 261 6 = p ∨ iq m 261 6 = tP T n p) (hp : 0 ≤ p ∧ p ≤ n) (hK : PM m z K F) (h16 : iq m 261 16 = o) (hF : FS m f l e)
    (HS : ∀ F' p' e', (tC T n p ≠ 42 ∧ tC T n p ≠ 43 ∧ tC T n p ≠ 63 ∧ F' = F ∧ p' = p ∧ e' = e) ∨ (tC T n p = 42 ∧ F' = pp_lnk F z l f ∧ p' = nB T n p ∧ e' = 1) ∨ (tC T n p = 43 ∧ F' = pp_lnk F z l f ∧ p' = nB T n p ∧ e' = e) ∨ (tC T n p = 63 ∧ F' = F ∧ p' = nB T n p ∧ e' = 1) → pmS T n o m Q p z K F' p' f l e') : sufM (D + 6) w m Q := by
  have hr := tC_r (n := n) (p := p) ht.2.2.2.2
  have hb := nB_bd (T := T) hp.2
  have hn := ht.2.1
  unfold sufM
  refine c_see' ht hm hp (fun m1 g1 g2 g3 g4 => ?_)
  have hF1 := hF.g6 g1
  have hK1 := hK.g6 g1
  have k16 : iq m1 261 16 = o := by rw [g1.2.1 16 (by omega) (by omega) (by omega), h16]
  obtain ⟨u1, u2, u3, u4, u5, u6⟩ := hF1
  -- past the sign, the link made or not, then the emptiness
  have tail : ∀ (c : Int) (m3 : zM) (F' : Nat → Nat) (e' : Nat), (c = 42 ∨ c = 43 ∨ c = 63) → tC T n p = c → e' = (if e = 0 ∧ c = 43 then 0 else 1) → gp m m3 → PM m3 z K F' → FS m3 f l e → iq m3 261 16 = o → iq m3 261 6 = nB T n p → pmS T n o m Q p z K F' (nB T n p) f l e' → W_M_readItem_34 (D + 6) (J c) w m3 Q := by
    intro c m3 F' e' hc htc he' gg kk ff a16 a6 hS
    have hlt := hb.2.2.2.2 (by omega)
    have e2 : e' < 2 := by rw [he']; split <;> omega
    refine c_mp34 hc u6 ff.2.2.1 he' ?_
    refine hS _ (gg.tr (gp.si (by omega) (by omega))) (kk.si (by omega) (by omega)) ⟨(iq_ne (by omega) (by omega) (by omega)).trans ff.1, (iq_ne (by omega) (by omega) (by omega)).trans ff.2.1, iq_eq (by unfold r32; omega), u4, u5, e2⟩ ((iq_ne (by omega) (by omega) (by omega)).trans a16) (Or.inl ((iq_ne (by omega) (by omega) (by omega)).trans a6)) (by omega) hb.2.2.2.1
  have link : ∀ (c : Int) (e' : Nat), (c = 42 ∨ c = 43) → tC T n p = c → e' = (if e = 0 ∧ c = 43 then 0 else 1) → pmS T n o m Q p z K (pp_lnk F z l f) (nB T n p) f l e' → cV (D + 6) 212 [.ref 261, .int (J (l : Int)), .int (J (f : Int))] w (sq m1 261 6 (nB T n p)) (fun m3 => W_M_readItem_34 (D + 6) (J c) w m3 Q) := by
    intro c e' hc htc he' hS
    have gg : gp m1 (sq m1 261 6 (nB T n p)) := gp.si (by omega) (by omega)
    have kk := hK1.si (y := 6) (v := nB T n p) (by omega) (by omega)
    refine c_follows (z := z) u4 u5 kk.2.1 kk.1 (fun k hk => (kk.2.2 k hk).2.2) (fun i hi => (kk.2.2 i hi).2.1) (fun m3 k1 k2 k3 => ?_)
    have hK3 : PM m3 z K (pp_lnk F z l f) := ⟨kk.1, (k1.i (by simp) 15).trans kk.2.1, fun i hi => ⟨by rw [k1.i (by simp)]; exact (kk.2.2 i hi).1, k3 i hi, pp_lnk_lt (kk.2.2 i hi).2.2 u4⟩⟩
    refine tail c m3 _ e' (by omega) htc he' ((g1.gp.tr gg).tr (gp.fr7 k1)) hK3 (((hF.g6 g1).si (by omega) (by omega)).fr k1) ?_ ?_ hS
    · rw [k1.i (by simp), iq_ne (by omega) (by omega) (by omega), k16]
    · rw [k1.i (by simp), iq_eq (by unfold r32; omega)]
  by_cases c1 : tC T n p = 42
  · have hlt := hb.2.2.2.2 (by omega)
    have := link 42 1 (Or.inl rfl) c1 (by rw [if_neg (by omega)]) (HS _ _ _ (Or.inr (Or.inl ⟨c1, rfl, rfl, rfl⟩)))
    simp (disch := first | (unfold r32; omega) | omega) only [j_lit, J_eq, c1, j_rd, j_nc, g4, u1, u2, j_ops, j_wr, ← hlt.2]
    exact ⟨fun _ => ⟨fun q => by omega, fun _ => this⟩, fun q => absurd trivial q⟩
  by_cases c2 : tC T n p = 43
  · have hlt := hb.2.2.2.2 (by omega)
    have := link 43 e (Or.inr rfl) c2 (by split <;> omega) (HS _ _ _ (Or.inr (Or.inr (Or.inl ⟨c2, rfl, rfl, rfl⟩))))
    simp (disch := first | (unfold r32; omega) | omega) only [j_lit, J_eq, c2, j_rd, j_nc, g4, u1, u2, j_ops, j_wr, ← hlt.2]
    exact ⟨fun q => by omega, fun _ => ⟨fun _ => ⟨fun q => by omega, fun _ => this⟩, fun q => absurd trivial q⟩⟩
  by_cases c3 : tC T n p = 63
  · have hlt := hb.2.2.2.2 (by omega)
    have gg : gp m1 (sq m1 261 6 (nB T n p)) := gp.si (by omega) (by omega)
    have := tail 63 (sq m1 261 6 (nB T n p)) F 1 (by omega) c3 (by rw [if_neg (by omega)]) (g1.gp.tr gg) (hK1.si (by omega) (by omega)) ((hF.g6 g1).si (by omega) (by omega)) ((iq_ne (by omega) (by omega) (by omega)).trans k16) (iq_eq (by unfold r32; omega)) (HS _ _ _ (Or.inr (Or.inr (Or.inr ⟨c3, rfl, rfl, rfl⟩))))
    simp (disch := first | (unfold r32; omega) | omega) only [j_lit, J_eq, c3, j_rd, j_nc, g4, u1, u2, j_ops, j_wr, ← hlt.2]
    exact ⟨fun q => by omega, fun _ => ⟨fun q => by omega, fun _ => ⟨fun _ => ⟨fun _ => this, fun q => absurd trivial q⟩, fun q => absurd trivial q⟩⟩⟩
  · have fin := HS F p e (Or.inl ⟨c1, c2, c3, rfl, rfl, rfl⟩) m1 g1.gp hK1 (hF.g6 g1) k16 (Or.inr g4) (by omega) hp.2
    simp (disch := first | (unfold r32; omega) | omega) only [j_lit, J_eq]
    exact ⟨fun q => absurd q c1, fun _ => ⟨fun q => absurd q c2, fun _ => ⟨fun q => absurd q c3, fun _ => fin⟩⟩⟩
theorem m_suf {o : Nat} {p : Int} {z : Nat} {K : Nat → Int} {F F' : Nat → Nat} {f l e e' : Nat} {p' : Int} (h : (tC T n p ≠ 42 ∧ tC T n p ≠ 43 ∧ tC T n p ≠ 63 ∧ F' = F ∧ p' = p ∧ e' = e) ∨ (tC T n p = 42 ∧ F' = pp_lnk F z l f ∧ p' = nB T n p ∧ e' = 1) ∨ (tC T n p = 43 ∧ F' = pp_lnk F z l f ∧ p' = nB T n p ∧ e' = e) ∨ (tC T n p = 63 ∧ F' = F ∧ p' = nB T n p ∧ e' = 1)) : PXm d w T n 3 o p z K F f l e 0 0 p' z K F' f l e' := by
  intro D m Q hD ho ht hm h7 hp hK h16 hf hl he hF HS HF
  show sufM (D + 6) w m Q
  refine c_msuf ht hm hp hK h16 (hF (Or.inr rfl)) (fun F2 p2 e2 h2 => ?_)
  have e : F2 = F' ∧ p2 = p' ∧ e2 = e' := by
    rcases h with ⟨a, b, c, h⟩ | ⟨a, h⟩ | ⟨a, h⟩ | ⟨a, h⟩ <;> rcases h2 with ⟨a', b', c', h2⟩ | ⟨a', h2⟩ | ⟨a', h2⟩ | ⟨a', h2⟩ <;> first | omega | exact ⟨h2.1.trans h.1.symm, h2.2.1.trans h.2.1.symm, h2.2.2.trans h.2.2.symm⟩
  rw [e.1, e.2.1, e.2.2]
  exact HS rfl
/-- an item, from its atom -/
def atP (D : Nat) (w : Nat × Nat × Nat) (Q : Int32 → zM → Prop) : Int32 → zM → Prop := fun v1 m1 => (v1 = J 1 → sufM (D + 6) w m1 Q) ∧ (v1 = J 0 → Q (J 0) m1) ∧ (v1 = J 0 ∨ v1 = J 1)
theorem atP_0 {D : Nat} {m : zM} {Q : Int32 → zM → Prop} (H : Q (J 0) m) : atP D w Q (J 0) m := ⟨fun z => absurd z (by decide), fun _ => H, Or.inl rfl⟩
theorem atP_1 {D : Nat} {m : zM} {Q : Int32 → zM → Prop} (H : sufM (D + 6) w m Q) : atP D w Q (J 1) m := ⟨fun _ => H, fun z => absurd z (by decide), Or.inr rfl⟩
theorem m_item {D : Nat} {m : zM} {Q : Int32 → zM → Prop} (H : cI (D + 6) 210 [.ref 261] w m (atP D w Q)) : cI (D + 7) 213 [.ref 261] w m Q := by
  refine S_M_readItem ?_
  refine mm_C_mono H (Nat.le_refl _) (fun r h1 q => ?_)
  obtain ⟨v, m1, e1, e2, q⟩ := q
  refine ⟨v, m1, e1, e2, ?_⟩
  obtain ⟨q1, q2, q3⟩ := q
  rcases q3 with rfl | rfl
  · exact ⟨fun z => absurd rfl z, fun _ => q2 rfl⟩
  · exact ⟨fun _ => q1 rfl, fun z => absurd z (by decide)⟩
theorem m_ifull {o : Nat} {p : Int} {z : Nat} {K : Nat → Int} {F : Nat → Nat} (h0 : ato (tC T n p)) (h1 : tC T n p ≠ 40) (h2 : z = 12) : PXm d w T n 2 o p z K F 0 0 0 2 (tP T n p) p z K F 0 0 0 := by
  intro D m Q hD ho ht hm h7 hp hK h16 hf hl he _ HS HF
  show cI (D + 7) 213 [.ref 261] w m Q
  have hr := tC_r (n := n) (p := p) ht.2.2.2.2
  have hb := nB_bd (T := T) hp.2
  have hn := ht.2.1
  refine m_item (S_M_readAtom (c_see' ht hm hp (fun m1 g1 g2 g3 g4 => ?_)))
  have k15 := (hK.g6 g1).2.1
  simp (disch := first | (unfold r32; omega) | omega) only [j_lit, J_eq, j_rd, j_nc, g4, k15]
  refine ⟨fun _ => ⟨fun q => by omega, fun _ => ?_⟩, fun q => absurd q h1⟩
  refine c_fails (by rw [g1.2.1 7 (by omega) (by omega) (by omega), h7]) (by unfold r32; omega) (by unfold r32; omega) (fun m2 a1 a2 a3 a4 a5 a6 => ⟨Or.inl rfl, atP_0 ?_⟩)
  exact HF (by decide) m2 (g1.g8.tr a1).gpf a5 a6
theorem m_ideep {o : Nat} {p : Int} {z : Nat} {K : Nat → Int} {F : Nat → Nat} (h1 : tC T n p = 40) (h2 : o = 4) : PXm d w T n 2 o p z K F 0 0 0 2 (tP T n p) p z K F 0 0 0 := by
  intro D m Q hD ho ht hm h7 hp hK h16 hf hl he _ HS HF
  show cI (D + 7) 213 [.ref 261] w m Q
  have hb := nB_bd (T := T) hp.2
  have hn := ht.2.1
  refine m_item (S_M_readAtom (c_see' ht hm hp (fun m1 g1 g2 g3 g4 => ?_)))
  have k16 : iq m1 261 16 = o := by rw [g1.2.1 16 (by omega) (by omega) (by omega), h16]
  simp (disch := first | (unfold r32; omega) | omega) only [j_lit, J_eq, h1, j_rd, j_nc, g4, k16]
  refine ⟨fun q => absurd trivial q, fun _ => ⟨fun q => by omega, fun _ => ?_⟩⟩
  refine c_fails (by rw [g1.2.1 7 (by omega) (by omega) (by omega), h7]) (by unfold r32; omega) (by unfold r32; omega) (fun m2 a1 a2 a3 a4 a5 a6 => ⟨Or.inl rfl, atP_0 ?_⟩)
  exact HF (by decide) m2 (g1.g8.tr a1).gpf a5 a6
theorem m_sh : ∀ k : Fin 12, (J 1 <<< (J (k.val : Int) &&& J 31)) = J ((2 ^ k.val : Nat) : Int) := by decide
theorem m_kpk {c v : Int} (h : (c = 46 ∧ v = 7) ∨ (c = 120 ∧ v = 6) ∨ (kb c ≠ -1 ∧ v = kb c)) : pkr c v := by
  rcases h with ⟨a, b⟩ | ⟨a, b⟩ | ⟨a, b⟩
  · exact Or.inr (Or.inr ⟨b, a⟩)
  · exact Or.inr (Or.inl ⟨b, a⟩)
  · rw [b]; exact Or.inl (kb_kr a)
/-- what one kind more leaves -/
def ptS (m1 : zM) (z v b q : Int) : zM := sq (sq (sq (sq (sq (sq (sq m1 266 z v) 267 z 0) 261 17 b) 261 18 b) 261 19 0) 261 15 (z + 1)) 261 6 q
theorem ptS_f {m1 : zM} {z : Nat} {v b q c : Int} {K : Nat → Int} {F : Nat → Nat} (hK : PM m1 z K F) (hz : z < 12) (hv : r32 v) (hc : pkr c v) (hb : 0 ≤ b ∧ b < 4096) (hq : r32 q) : gp m1 (ptS m1 z v b q) ∧ PM (ptS m1 z v b q) (z + 1) (fun k => if k = z then c else K k) (fun k => if k = z then 0 else F k) ∧ FS (ptS m1 z v b q) b.toNat b.toNat 0 ∧ iq (ptS m1 z v b q) 261 16 = iq m1 261 16 ∧ iq (ptS m1 z v b q) 261 6 = q := by
  have hA : fr [266] m1 (sq m1 266 (z : Int) v) := (fr.rf _ m1).si (by simp) _ _
  have hB : fr [267] (sq m1 266 (z : Int) v) (sq (sq m1 266 (z : Int) v) 267 (z : Int) 0) := (fr.rf _ _).si (by simp) _ _
  unfold ptS
  refine ⟨((((((gp.fr6 hA).tr (gp.fr7 hB)).tr (gp.si (by omega) (by omega))).tr (gp.si (by omega) (by omega))).tr (gp.si (by omega) (by omega))).tr (gp.si (by omega) (by omega))).tr (gp.si (by omega) (by omega)), ⟨by omega, ?_, fun i hi => ?_⟩, ⟨?_, ?_, ?_, by omega, by omega, by omega⟩, ?_, ?_⟩
  · simp (disch := first | omega | (unfold r32; omega)) only [iq_eq, iq_ne]
    omega
  · by_cases x : i = z
    · subst x
      simp (disch := first | exact hv | omega | (unfold r32; omega)) only [iq_eq, iq_ne]
      rw [if_pos trivial, if_pos trivial]
      exact ⟨hc, rfl, by omega⟩
    · simp (disch := first | omega | (unfold r32; omega)) only [iq_eq, iq_ne]
      rw [if_neg x, if_neg x]
      exact hK.2.2 i (by omega)
  · simp (disch := first | omega | (unfold r32; omega)) only [iq_eq, iq_ne]
    omega
  · simp (disch := first | omega | (unfold r32; omega)) only [iq_eq, iq_ne]
    omega
  · simp (disch := first | omega | (unfold r32; omega)) only [iq_eq, iq_ne]
    rfl
  · simp (disch := first | omega | (unfold r32; omega)) only [iq_ne]
  · exact iq_eq hq
theorem m_ikind {o : Nat} {p : Int} {z : Nat} {K : Nat → Int} {F : Nat → Nat} {x y p' : Int} {z' : Nat} {K' : Nat → Int} {F' : Nat → Nat} {f' l' e' : Nat} (h0 : ato (tC T n p)) (h1 : tC T n p ≠ 40) (h2 : z ≠ 12) (h3 : PXm d w T n 3 o (nB T n p) (z + 1) (fun k => if k = z then tC T n p else K k) (fun k => if k = z then 0 else F k) (2 ^ z) (2 ^ z) 0 x y p' z' K' F' f' l' e') : PXm d w T n 2 o p z K F 0 0 0 x y p' z' K' F' f' l' e' := by
  intro D m Q hD ho ht hm h7 hp hK h16 hf hl he _ HS HF
  show cI (D + 7) 213 [.ref 261] w m Q
  have hr := tC_r (n := n) (p := p) ht.2.2.2.2
  have hb := nB_bd (T := T) hp.2
  have hn := ht.2.1
  have hc1 : tC T n p ≠ -1 := by
    intro q
    rcases h0 with h | h | h | h
    · omega
    · omega
    · omega
    · rw [q] at h; exact h (by decide)
  have hlt := hb.2.2.2.2 hc1
  have hz12 : z < 12 := by have := hK.1; omega
  have h2z := pp_2z hz12
  refine m_item (S_M_readAtom (c_see' ht hm hp (fun m1 g1 g2 g3 g4 => ?_)))
  have hK1 := hK.g6 g1
  have k15 := hK1.2.1
  have k16 : iq m1 261 16 = o := by rw [g1.2.1 16 (by omega) (by omega) (by omega), h16]
  have put : ∀ (v : Int) (P : Int32 → zM → Prop), r32 v → P (J 1) (ptS m1 z v ((2 ^ z : Nat) : Int) (nB T n p)) → W_M_readAtom_71 (D + 5) (J (z : Int)) (J v) w m1 P := by
    intro v P hv hP
    have sh : (J 1 <<< (J (z : Int) &&& J 31)) = J ((2 ^ z : Nat) : Int) := m_sh ⟨z, hz12⟩
    refine S_M_readAtom_71 ?_
    simp (disch := first | (unfold r32; omega) | omega) only [j_lit, vp_J, J_cl, j_wr, sq_tn, j_rd, j_nc, k15, g4, sh, j_ops, ← hlt.2]
    exact ⟨by omega, by omega, hP⟩
  have fin : ∀ v : Int, pkr (tC T n p) v → r32 v → atP D w Q (J 1) (ptS m1 z v ((2 ^ z : Nat) : Int) (nB T n p)) := by
    intro v hv hv2
    obtain ⟨a1, a2, a3, a4, a5⟩ := ptS_f (q := nB T n p) (b := ((2 ^ z : Nat) : Int)) hK1 hz12 hv2 hv ⟨Int.natCast_nonneg _, Int.ofNat_lt.mpr h2z⟩ (by unfold r32; omega)
    rw [Int.toNat_natCast] at a3
    have f12 := g1.gp.tr a1
    exact atP_1 (h3 D _ Q hD ho (ht.gp f12) (Or.inl a5) (by rw [f12.2.1 7 (by omega) (by omega) (by omega) (by omega), h7]) ⟨by omega, hb.2.2.2.1⟩ a2 (a4.trans k16) h2z h2z (by omega) (fun _ => a3) (fun q => (HS q).up f12 (by omega)) (fun q => (HF q).up f12))
  simp (disch := first | (unfold r32; omega) | omega) only [j_lit, J_eq, j_rd, j_nc, k15]
  refine ⟨fun _ => ⟨fun _ => ⟨fun q1 => ⟨fun q2 => c_kindBy (by unfold r32; omega) ?_, fun q2 => put 6 _ (by unfold r32; omega) (fin 6 (m_kpk (Or.inr (Or.inl ⟨q2, rfl⟩))) (by unfold r32; omega))⟩, fun q1 => put 7 _ (by unfold r32; omega) (fin 7 (m_kpk (Or.inl ⟨q1, rfl⟩)) (by unfold r32; omega))⟩, fun q => by omega⟩, fun q => absurd q h1⟩
  have hk : -1 ≤ kb (tC T n p) ∧ kb (tC T n p) ≤ 5 := by
    unfold kb
    repeat (first | omega | split)
  refine put _ _ (by unfold r32; omega) (fin _ (m_kpk (Or.inr (Or.inr ⟨?_, rfl⟩))) (by unfold r32; omega))
  rcases h0 with h | h | h | h
  · exact absurd h h1
  · exact absurd h q1
  · exact absurd h q2
  · exact h
/-- what comes behind the rows in brackets -/
def gAlt (D : Nat) (w : Nat × Nat × Nat) (Q : Int32 → zM → Prop) : Int32 → zM → Prop := fun v4 m4 => (v4 = J 0 → atP D w Q (J 0) m4) ∧ (¬ v4 = J 0 → cI (D + 5) 205 [.ref 261, .int (J 41)] w m4 (fun v5 m5 => (¬ v5 = J 0 → atP D w Q (J 1) (sq m5 261 16 (iq m5 261 16 - 1))) ∧ (v5 = J 0 → atP D w Q (J 0) m5)))
theorem gAlt_0 {D : Nat} {m : zM} {Q : Int32 → zM → Prop} (H : Q (J 0) m) : gAlt D w Q (J 0) m := ⟨fun _ => atP_0 H, fun z => absurd rfl z⟩
theorem m_grp {o D : Nat} {p : Int} {z : Nat} {K : Nat → Int} {F : Nat → Nat} {m : zM} {Q : Int32 → zM → Prop} (h40 : tC T n p = 40) (ho : o < 4) (ht : tpM m T n) (hm : iq m 261 6 = p ∨ iq m 261 6 = tP T n p) (h7 : iq m 261 7 = 0) (hp : 0 ≤ p ∧ p ≤ n) (hK : PM m z K F) (h16 : iq m 261 16 = o)
    (H : ∀ m1, gp m m1 → tpM m1 T n → PM m1 z K F → iq m1 261 16 = ((o + 1 : Nat) : Int) → iq m1 261 6 = nB T n p → iq m1 261 7 = 0 → W_M_readRow_6 (D + 7) (J ((0 : Nat) : Int)) (J ((0 : Nat) : Int)) (J ((1 : Nat) : Int)) w m1 (fun v m2 => (¬ v = J 0 → W_M_readAlt_5 (D + 8) w m2 (gAlt (D + 4) w Q)) ∧ (v = J 0 → gAlt (D + 4) w Q (J 0) m2))) : cI (D + 4 + 7) 213 [.ref 261] w m Q := by
  have hb := nB_bd (T := T) hp.2
  have hlt := hb.2.2.2.2 (by omega)
  have hn := ht.2.1
  refine m_item (S_M_readAtom (c_see' ht hm hp (fun m1 g1 g2 g3 g4 => ?_)))
  have k16 : iq m1 261 16 = o := by rw [g1.2.1 16 (by omega) (by omega) (by omega), h16]
  have e6 : ∀ a : Int, iq (sq m1 261 16 a) 261 6 = tP T n p := fun a => by rw [iq_ne (by omega) (by omega) (by omega), g4]
  have gg : gp m1 (sq (sq m1 261 16 ((o : Int) + 1)) 261 6 (nB T n p)) := (gp.si (by omega) (by omega)).tr (gp.si (by omega) (by omega))
  have f12 := g1.gp.tr gg
  have key : cI (D + 4 + 5) 215 [.ref 261] w (sq (sq m1 261 16 ((o : Int) + 1)) 261 6 (nB T n p)) (gAlt (D + 4) w Q) := by
    refine S_M_readAlt (d := D + 8) (S_M_readRow (d := D + 7) ?_)
    have := H _ f12 (ht.gp f12) (((hK.g6 g1).si (by omega) (by omega)).si (by omega) (by omega)) ?_ (iq_eq (by unfold r32; omega)) (by rw [f12.2.1 7 (by omega) (by omega) (by omega) (by omega), h7])
    · simp only [j_nc] at this
      simp only [j_lit]
      exact this
    · rw [iq_ne (by omega) (by omega) (by omega), iq_eq (by unfold r32; omega)]
      omega
  simp (disch := first | (unfold r32; omega) | omega) only [j_lit, J_eq, h40, j_rd, j_nc, k16, g4, j_ops, j_wr, ← hlt.2]
  exact ⟨fun q => absurd trivial q, fun _ => ⟨fun _ => key, fun q => by omega⟩⟩
theorem m_dep {d o : Nat} (h : o ≤ 4) (h2 : o ≠ 4) : d + 4 * (4 - o) = d + 4 * (4 - (o + 1)) + 4 := by omega
theorem m_ig1 {o : Nat} {p : Int} {z : Nat} {K : Nat → Int} {F : Nat → Nat} {x y p' : Int} {z' : Nat} {K' : Nat → Int} {F' : Nat → Nat} {f' l' e' : Nat} (h0 : tC T n p = 40) (h1 : o ≠ 4) (h2 : x ≠ 0) (i0 : PXm d w T n 0 (o + 1) (nB T n p) z K F 0 0 1 x y p' z' K' F' f' l' e') : PXm d w T n 2 o p z K F 0 0 0 x y p' z' K' F' f' l' e' := by
  intro D m Q hD ho ht hm h7 hp hK h16 hf hl he _ HS HF
  show cI (D + 7) 213 [.ref 261] w m Q
  have hb := nB_bd (T := T) hp.2
  have hlt := hb.2.2.2.2 (by omega)
  rw [hD, m_dep ho h1]
  refine m_grp h0 (by omega) ht hm h7 hp hK h16 (fun m1 g1 t1 k1 k16 k6 k7 => ?_)
  refine i0 _ m1 _ rfl (by omega) t1 (Or.inl k6) k7 ⟨by omega, hb.2.2.2.1⟩ k1 k16 (by omega) (by omega) (by omega) (fun q => by omega) (fun q => absurd q h2) (fun _ m2 y1 y2 y3 => ?_)
  exact ⟨fun q => absurd rfl q, fun _ => gAlt_0 (HF h2 m2 (g1.gpf.tr y1) y2 y3)⟩
theorem m_ig2 {o : Nat} {p : Int} {z : Nat} {K : Nat → Int} {F : Nat → Nat} {p1 : Int} {z1 : Nat} {K1 : Nat → Int} {F1 : Nat → Nat} {f1 l1 e1 : Nat} {x y p' : Int} {z' : Nat} {K' : Nat → Int} {F' : Nat → Nat} {f' l' e' : Nat} (h0 : tC T n p = 40) (h1 : o ≠ 4) (h2 : x ≠ 0) (i0 : PXm d w T n 0 (o + 1) (nB T n p) z K F 0 0 1 0 0 p1 z1 K1 F1 f1 l1 e1) (i1 : PXm d w T n 1 (o + 1) p1 z1 K1 F1 f1 l1 e1 x y p' z' K' F' f' l' e') : PXm d w T n 2 o p z K F 0 0 0 x y p' z' K' F' f' l' e' := by
  intro D m Q hD ho ht hm h7 hp hK h16 hf hl he _ HS HF
  show cI (D + 7) 213 [.ref 261] w m Q
  have hb := nB_bd (T := T) hp.2
  have hlt := hb.2.2.2.2 (by omega)
  rw [hD, m_dep ho h1]
  refine m_grp h0 (by omega) ht hm h7 hp hK h16 (fun m1 g1 t1 k1 k16 k6 k7 => ?_)
  refine i0 _ m1 _ rfl (by omega) t1 (Or.inl k6) k7 ⟨by omega, hb.2.2.2.1⟩ k1 k16 (by omega) (by omega) (by omega) (fun q => by omega) (fun _ m2 y1 y2 y3 y4 y5 y6 y7 => ?_) (fun q => absurd rfl q)
  refine ⟨fun _ => ?_, fun q => absurd q (by decide)⟩
  refine i1 _ m2 _ rfl (by omega) (t1.gp y1) y5 (by rw [y1.2.1 7 (by omega) (by omega) (by omega) (by omega), k7]) ⟨by omega, y7⟩ y2 y4 y3.2.2.2.1 y3.2.2.2.2.1 y3.2.2.2.2.2 (fun _ => y3) (fun q => absurd q h2) (fun _ m3 v1 v2 v3 => ?_)
  exact gAlt_0 (HF h2 m3 ((g1.tr y1).gpf.tr v1) v2 v3)
theorem m_ig34 {o : Nat} {p : Int} {z : Nat} {K : Nat → Int} {F : Nat → Nat} {p1 : Int} {z1 : Nat} {K1 : Nat → Int} {F1 : Nat → Nat} {f1 l1 e1 : Nat} {p2 : Int} {z2 : Nat} {K2 : Nat → Int} {F2 : Nat → Nat} {f2 l2 e2 : Nat} {x y p' : Int} {z' : Nat} {K' : Nat → Int} {F' : Nat → Nat} {f' l' e' : Nat} (h0 : tC T n p = 40) (h1 : o ≠ 4) (i0 : PXm d w T n 0 (o + 1) (nB T n p) z K F 0 0 1 0 0 p1 z1 K1 F1 f1 l1 e1) (i1 : PXm d w T n 1 (o + 1) p1 z1 K1 F1 f1 l1 e1 0 0 p2 z2 K2 F2 f2 l2 e2)
    (h : (tC T n p2 = 41 ∧ PXm d w T n 3 o (nB T n p2) z2 K2 F2 f2 l2 e2 x y p' z' K' F' f' l' e') ∨ (tC T n p2 ≠ 41 ∧ x = 1 ∧ y = tP T n p2)) : PXm d w T n 2 o p z K F 0 0 0 x y p' z' K' F' f' l' e' := by
  intro D m Q hD ho ht hm h7 hp hK h16 hf hl he _ HS HF
  show cI (D + 7) 213 [.ref 261] w m Q
  have hb := nB_bd (T := T) hp.2
  have hlt := hb.2.2.2.2 (by omega)
  have hn := ht.2.1
  have hD0 := hD
  rw [hD, m_dep ho h1]
  refine m_grp h0 (by omega) ht hm h7 hp hK h16 (fun m1 g1 t1 k1 k16 k6 k7 => ?_)
  refine i0 _ m1 _ rfl (by omega) t1 (Or.inl k6) k7 ⟨by omega, hb.2.2.2.1⟩ k1 k16 (by omega) (by omega) (by omega) (fun q => by omega) (fun _ m2 y1 y2 y3 y4 y5 y6 y7 => ?_) (fun q => absurd rfl q)
  refine ⟨fun _ => ?_, fun q => absurd q (by decide)⟩
  have t2 := t1.gp y1
  have k72 : iq m2 261 7 = 0 := by rw [y1.2.1 7 (by omega) (by omega) (by omega) (by omega), k7]
  refine i1 _ m2 _ rfl (by omega) t2 y5 k72 ⟨by omega, y7⟩ y2 y4 y3.2.2.2.1 y3.2.2.2.2.1 y3.2.2.2.2.2 (fun _ => y3) (fun _ m3 v1 v2 v3 v4 v5 v6 v7 => ?_) (fun q => absurd rfl q)
  have g13 := (g1.tr y1).tr v1
  have t3 := t2.gp v1
  have k73 : iq m3 261 7 = 0 := by rw [v1.2.1 7 (by omega) (by omega) (by omega) (by omega), k72]
  have hb2 := nB_bd (T := T) v7
  refine ⟨fun q => absurd q (by decide), fun _ => c_takesB t3 v5 k73 ⟨by omega, v7⟩ (by omega) (fun m4 a1 a2 a3 a4 => ?_) (fun m4 a1 a2 a3 a4 => ?_)⟩
  · rcases h with ⟨e1, h3⟩ | ⟨e1, _⟩
    · refine ⟨fun _ => ?_, fun q => absurd q (by decide)⟩
      have e16 : iq m4 261 16 = ((o + 1 : Nat) : Int) := by rw [a2.2.1 16 (by omega) (by omega) (by omega), v4]
      have g14 := (g13.tr a2.gp).tr (gp.si (m := m4) (z := 16) (v := iq m4 261 16 - 1) (by omega) (by omega))
      have hl2 := hb2.2.2.2.2 (by omega)
      refine atP_1 ?_
      rw [← m_dep ho h1]
      exact h3 _ _ Q rfl ho (ht.gp g14) (Or.inl ((iq_ne (by omega) (by omega) (by omega)).trans a4)) (by rw [g14.2.1 7 (by omega) (by omega) (by omega) (by omega), h7]) ⟨by omega, hb2.2.2.2.1⟩ ((v2.g6 a2).si (by omega) (by omega)) (by rw [iq_eq (by unfold r32; omega)]; omega) v3.2.2.2.1 v3.2.2.2.2.1 v3.2.2.2.2.2 (fun _ => (v3.g6 a2).si (by omega) (by omega)) (fun q => (HS q).up g14 (by omega)) (fun q => (HF q).up g14)
    · exact absurd a1 e1
  · rcases h with ⟨e1, h3⟩ | ⟨_, e2, e3⟩
    · exact absurd e1 a1
    · refine ⟨fun q => absurd rfl q, fun _ => atP_0 (HF (by omega) m4 (g13.gpf.tr a2.gpf) (by rw [a3, e2]) (by rw [a4, e3]))⟩
/-- all rules -/
theorem m_px {g o : Nat} {p : Int} {z : Nat} {K : Nat → Int} {F : Nat → Nat} {f l e : Nat} {x y p' : Int} {z' : Nat} {K' : Nat → Int} {F' : Nat → Nat} {f' l' e' : Nat} (h : PX T n g o p z K F f l e x y p' z' K' F' f' l' e') : PXm d w T n g o p z K F f l e x y p' z' K' F' f' l' e' :=
  h (PXm d w T n) ⟨m_rend, m_rbad, m_rgo, m_aend, m_abad, m_ago, m_ifull, m_ikind, m_ideep, m_ig1, m_ig2, fun a b c i0 i1 => m_ig34 a b i0 i1 (Or.inr ⟨c, rfl, rfl⟩), fun a b c i0 i1 i2 => m_ig34 a b i0 i1 (Or.inl ⟨c, i2⟩), fun a => m_suf (Or.inr (Or.inl ⟨a, rfl, rfl, rfl⟩)), fun a => m_suf (Or.inr (Or.inr (Or.inl ⟨a, rfl, rfl, rfl⟩))), fun a => m_suf (Or.inr (Or.inr (Or.inr ⟨a, rfl, rfl, rfl⟩))), fun a b c => m_suf (Or.inl ⟨a, b, c, rfl, rfl, rfl⟩)⟩
theorem c_M_readPattern {Q : Int32 → zM → Prop} {m : zM} {K : Nat → Int} {F : Nat → Nat} {x y : Int} {z' : Nat} {K' : Nat → Int} {F' : Nat → Nat} {f' l' e' : Nat} (ht : tpM m T n) (h6 : iq m 261 6 = 0) (h7 : iq m 261 7 = 0) (h : WX T n K F x y z' K' F' f' l' e')
    (HS : x = 0 → ∀ m', gp m m' → PM m' z' K' F' → FS m' f' l' e' → iq m' 261 7 = 0 → iq m' 261 8 = iq m 261 8 → Q (J 1) m') (HF : x ≠ 0 → pmF m Q x y) : cI (d + 26) 216 [.ref 261] w m Q := by
  have hn := ht.2.1
  have g0 : gp m (sq (sq m 261 15 0) 261 16 0) := (gp.si (by omega) (by omega)).tr (gp.si (by omega) (by omega))
  have k0 : PM (sq (sq m 261 15 0) 261 16 0) 0 K F := ⟨by omega, by rw [iq_ne (by omega) (by omega) (by omega), iq_eq (by unfold r32; omega)]; rfl, fun i hi => by omega⟩
  have k16 : iq (sq (sq m 261 15 0) 261 16 0) 261 16 = ((0 : Nat) : Int) := by rw [iq_eq (by unfold r32; omega)]; rfl
  have k6 : iq (sq (sq m 261 15 0) 261 16 0) 261 6 = 0 := by rw [iq_ne (by omega) (by omega) (by omega), iq_ne (by omega) (by omega) (by omega), h6]
  have k7 : iq (sq (sq m 261 15 0) 261 16 0) 261 7 = 0 := by rw [iq_ne (by omega) (by omega) (by omega), iq_ne (by omega) (by omega) (by omega), h7]
  refine S_M_readPattern ?_
  simp only [j_lit, j_wr, j_nc]
  have t0 := ht.gp g0
  generalize sq (sq m 261 15 0) 261 16 0 = m0 at *
  refine S_M_readAlt (d := d + 24) (S_M_readRow (d := d + 23) ?_)
  simp only [j_lit]
  have row : ∀ {x1 y1 p1 z1 K1 F1 f1 l1 e1} (P : Int32 → zM → Prop), PX T n 0 0 0 0 K F 0 0 1 x1 y1 p1 z1 K1 F1 f1 l1 e1 → (x1 = 0 → pmS T n 0 m0 P 0 z1 K1 F1 p1 f1 l1 e1) → (x1 ≠ 0 → pmF m0 P x1 y1) → W_M_readRow_6 (d + 23) (J 0) (J 0) (J 1) w m0 P := by
    intro x1 y1 p1 z1 K1 F1 f1 l1 e1 P hx a b
    have := m_px (d := d) (w := w) hx (d + 16) m0 P rfl (by omega) t0 (Or.inl k6) k7 ⟨by omega, ht.1⟩ k0 k16 (by omega) (by omega) (by omega) (fun q => by omega) a b
    have this : W_M_readRow_6 (d + 16 + 7) (J ((0 : Nat) : Int)) (J ((0 : Nat) : Int)) (J ((1 : Nat) : Int)) w m0 P := this
    simp only [j_nc] at this
    exact this
  have alt : ∀ {x1 y1 p0 p1 z0 K0 F0 f0 l0 e0 z1 K1 F1 f1 l1 e1} (m1 : zM) (P : Int32 → zM → Prop), PX T n 1 0 p0 z0 K0 F0 f0 l0 e0 x1 y1 p1 z1 K1 F1 f1 l1 e1 → gp m0 m1 → PM m1 z0 K0 F0 → FS m1 f0 l0 e0 → iq m1 261 16 = ((0 : Nat) : Int) → (iq m1 261 6 = p0 ∨ iq m1 261 6 = tP T n p0) → 0 ≤ p0 → p0 ≤ n → (x1 = 0 → pmS T n 0 m1 P p0 z1 K1 F1 p1 f1 l1 e1) → (x1 ≠ 0 → pmF m1 P x1 y1) → W_M_readAlt_5 (d + 24) w m1 P := by
    intro x1 y1 p0 p1 z0 K0 F0 f0 l0 e0 z1 K1 F1 f1 l1 e1 m1 P hx g a1 a2 a3 a4 a5 a6 a b
    exact m_px (d := d) (w := w) hx (d + 16) m1 P rfl (by omega) (t0.gp g) a4 (by rw [g.2.1 7 (by omega) (by omega) (by omega) (by omega), k7]) ⟨a5, a6⟩ a1 a3 a2.2.2.2.1 a2.2.2.2.2.1 a2.2.2.2.2.2 (fun _ => a2) a b
  rcases h with ⟨p1, hx, px⟩ | ⟨p1, z1, K1, F1, f1, l1, e1, p2, hx, px, pa⟩ | ⟨p1, z1, K1, F1, f1, l1, e1, p2, px, pa, hx⟩
  · refine row _ px (fun q => absurd q hx) (fun _ m2 y1 y2 y3 => ?_)
    exact ⟨fun q => absurd rfl q, fun _ => ⟨fun _ => HF hx m2 (g0.gpf.tr y1) y2 y3, fun q => absurd trivial q⟩⟩
  · refine row _ px (fun _ m2 y1 y2 y3 y4 y5 y6 y7 => ⟨fun _ => ?_, fun q => absurd q (by decide)⟩) (fun q => absurd rfl q)
    refine alt m2 _ pa y1 y2 y3 y4 y5 y6 y7 (fun q => absurd q hx) (fun _ m3 v1 v2 v3 => ?_)
    exact ⟨fun _ => HF hx m3 ((g0.tr y1).gpf.tr v1) v2 v3, fun q => absurd rfl q⟩
  · refine row _ px (fun _ m2 y1 y2 y3 y4 y5 y6 y7 => ⟨fun _ => ?_, fun q => absurd q (by decide)⟩) (fun q => absurd rfl q)
    refine alt m2 _ pa y1 y2 y3 y4 y5 y6 y7 (fun _ m3 v1 v2 v3 v4 v5 v6 v7 => ⟨fun q => absurd q (by decide), fun _ => ?_⟩) (fun q => absurd rfl q)
    have g13 := (g0.tr y1).tr v1
    have hr := tC_r (n := n) (p := p2) ht.2.2.2.2
    have hb := nB_bd (T := T) v7
    refine c_see' (ht.gp g13) v5 ⟨by omega, v7⟩ (fun m4 a1 a2 a3 a4 => ?_)
    have g14 := g13.tr a1.gp
    have k74 : iq m4 261 7 = 0 := by rw [g14.2.1 7 (by omega) (by omega) (by omega) (by omega), h7]
    simp (disch := first | (unfold r32; omega) | omega) only [J_eq, j_rd, j_nc, a4, j_ops]
    rcases hx with ⟨e1, e2, e3⟩ | ⟨e1, e2, e3⟩
    · refine ⟨fun q => absurd q e1, fun _ => c_fails k74 (by unfold r32; omega) (by unfold r32; omega) (fun m5 b1 b2 b3 b4 b5 b6 => ?_)⟩
      exact ⟨fun _ => HF (by omega) m5 (g14.gpf.tr b1.gpf) (by rw [b5, e2]) (by rw [b6, e3]), fun q => absurd rfl q⟩
    · refine ⟨fun _ => HS e2 m4 g14 (v2.g6 a1) (v3.g6 a1) k74 (by rw [g14.2.1 8 (by omega) (by omega) (by omega) (by omega)]), fun q => absurd e1 q⟩
end MP3
