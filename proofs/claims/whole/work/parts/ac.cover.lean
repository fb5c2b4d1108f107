/-! cover: the class -/
/-- in a match -/
def inM (N : Int → Int) (x j : Int) : Prop := mk N x ≤ j ∧ j < mk N x + ml N x
/-- in a match of the first n terms of an order -/
def CVP (N o : Int → Int) (n j : Int) : Prop := ∃ r, 0 ≤ r ∧ r < n ∧ ∃ x, 0 ≤ x ∧ x < Mn N ∧ pkm N x = tr N (o r) ∧ inM N x j
def CVQ (N : Int → Int) (g n v : Int) : Prop := if 0 ≤ g ∧ g < 7 ∧ 0 ≤ n ∧ n ≤ Zn N then (∃ o, SB (AR N g) o 0 (Zn N) ∧ v = cnt (CVP N o n) (wW N).toNat) else v = -1
/-- the tally has a set of words -/
def TY (N : Int → Int) (S : Int → Prop) (m : zM) : Prop := ∀ j, 0 ≤ j → j < wW N → iq m 253 j = bi (S j)
theorem cnt_one (S : Int → Prop) {z : Int} (z0 : 0 ≤ z) : ∀ n : Nat, z < n → cnt (fun j => S j ∨ j = z) n = cnt S n + (1 - bi (S z)) := by
  intro n hn
  have h := sm_upd (f := fun j => bi (S j ∨ j = z)) (g := fun j => bi (S j)) z0 n hn (fun k k0 k1 q => bi_congr ⟨fun y => by
    rcases y with y | y
    · exact y
    · exact absurd y q, Or.inl⟩)
  have e : bi (S z ∨ z = z) = 1 := bi_1 (Or.inr rfl)
  show sm (fun j => bi (S j ∨ j = z)) n = sm (fun j => bi (S j)) n + (1 - bi (S z))
  rw [h]
  show _ + (bi (S z ∨ z = z) - bi (S z)) = _
  rw [e]
section CVC
variable {d : Nat} {w : Nat × Nat × Nat} {C : Int} {N : Int → Int} {mv : zM} {b : Nat}
theorem TY.cg {S S' : Int → Prop} {m : zM} (h : TY N S m) (e : ∀ j, 0 ≤ j → j < wW N → (S j ↔ S' j)) : TY N S' m := fun j j0 j1 => by rw [h j j0 j1]; exact bi_congr (e j j0 j1)
theorem CVQ.uniq (h : TR C mv b N) {g n v v' : Int} (h1 : CVQ N g n v) (h2 : CVQ N g n v') : v = v' := by
  unfold CVQ at h1 h2
  by_cases q : 0 ≤ g ∧ g < 7 ∧ 0 ≤ n ∧ n ≤ Zn N
  · rw [if_pos q] at h1 h2
    obtain ⟨o, a1, a2⟩ := h1
    obtain ⟨o', c1, c2⟩ := h2
    rw [a2, c2]
    refine cnt_congr _ (fun j _ _ => ⟨fun ⟨r, r0, r1, x, x0, x1, x2, x3⟩ => ⟨r, r0, r1, x, x0, x1, ?_, x3⟩, fun ⟨r, r0, r1, x, x0, x1, x2, x3⟩ => ⟨r, r0, r1, x, x0, x1, ?_, x3⟩⟩)
    · rw [← SBu h a1 c1 r0 (by omega)]; exact x2
    · rw [SBu h a1 c1 r0 (by omega)]; exact x2
  · rw [if_neg q] at h1 h2; omega
theorem c_cover1 {Q : Int32 → zM → Prop} {m0 : zM} {x : Int} {S : Int → Prop} (h : TR C mv b N) (hF : MF N m0) (hx : 0 ≤ x ∧ x < Mn N) (hS : TY N S m0) (H : ∀ m, fr [253] m0 m → TY N (fun j => S j ∨ inM N x j) m → Q (J (cnt (fun j => S j ∨ inM N x j) (wW N).toNat - cnt S (wW N).toNat)) m) : cI (d + 1) 29 [.ref 255, .int (J x)] w m0 Q := by
  have hM := Mn_b h
  have hW := h.words
  have bd := mk_bd h hx.1 hx.2
  obtain ⟨f1, f2, _, _⟩ := hF.2 x hx.1 hx.2
  refine S_Measures_coverOne (c_at (n := 1200) rfl (by decide) (by unfold r32; omega) (by omega) (c_at (n := 1200) rfl (by decide) (by unfold r32; omega) (by omega) ?_))
  rw [f1, f2]
  simp only [j_lit]
  have cb := cnt_b S (wW N).toNat
  have key : ∀ (z : Nat) (i : Int) (m : zM), mk N x ≤ i → i + z = mk N x + ml N x → fr [253] m0 m → TY N (fun j => S j ∨ (mk N x ≤ j ∧ j < i)) m → W_Measures_coverOne_18 d (J (mk N x)) (J (ml N x)) (J (cnt (fun j => S j ∨ (mk N x ≤ j ∧ j < i)) (wW N).toNat - cnt S (wW N).toNat)) (J i) w m Q := by
    intro z
    induction z with
    | zero =>
      intro i m i0 hz f hI
      have e : i = mk N x + ml N x := by omega
      refine S_Measures_coverOne_18 ?_
      simp (disch := first | (unfold r32; omega) | omega) only [j_lit, j_ops, J_le]
      rw [e] at hI ⊢
      exact ⟨fun _ => H m f hI, fun q => by omega⟩
    | succ z ih =>
      intro i m i0 hz f hI
      refine S_Measures_coverOne_18 ?_
      simp (disch := first | (unfold r32; omega) | omega) only [j_lit, j_ops, J_le]
      refine ⟨fun q => by omega, fun _ => c_at (n := 240) rfl (by decide) (by unfold r32; omega) (by omega) (c_put (n := 240) rfl (by decide) (by unfold r32; omega) (by omega) ?_)⟩
      rw [hI i (by omega) (by omega)]
      simp only [j_ops]
      have e1 : bi (S i ∨ (mk N x ≤ i ∧ i < i)) = bi (S i) := bi_congr ⟨fun y => by
        rcases y with y | y
        · exact y
        · omega, Or.inl⟩
      have e2 := cnt_one (fun j => S j ∨ (mk N x ≤ j ∧ j < i)) (show 0 ≤ i by omega) (wW N).toNat (by omega)
      have e3 : cnt (fun j => (S j ∨ (mk N x ≤ j ∧ j < i)) ∨ j = i) (wW N).toNat = cnt (fun j => S j ∨ (mk N x ≤ j ∧ j < i + 1)) (wW N).toNat := cnt_congr _ (fun j j0 j1 => by
        constructor
        · intro y
          rcases y with (y | y) | y
          · exact Or.inl y
          · exact Or.inr (by omega)
          · exact Or.inr (by omega)
        · intro y
          rcases y with y | y
          · exact Or.inl (Or.inl y)
          · by_cases g : j = i
            · exact Or.inr g
            · exact Or.inl (Or.inr (by omega)))
      have := ih (i + 1) (sq m 253 i 1) (by omega) (by omega) (f.si (by simp) _ _) (fun j j0 j1 => by
        by_cases g : j = i
        · rw [g, iq_eq (by unfold r32; omega), bi_1 (Or.inr (by omega))]
        · rw [iq_ne (Or.inr g) (by omega) j0, hI j j0 j1]
          refine bi_congr ⟨fun y => ?_, fun y => ?_⟩
          · rcases y with y | y
            · exact Or.inl y
            · exact Or.inr (by omega)
          · rcases y with y | y
            · exact Or.inl y
            · exact Or.inr (by omega))
      rw [← e3, e2] at this
      have e4 : cnt (fun j => S j ∨ (mk N x ≤ j ∧ j < i)) (wW N).toNat - cnt S (wW N).toNat + (1 - bi (S i ∨ (mk N x ≤ i ∧ i < i))) = cnt (fun j => S j ∨ (mk N x ≤ j ∧ j < i)) (wW N).toNat + (1 - bi (S i ∨ (mk N x ≤ i ∧ i < i))) - cnt S (wW N).toNat := by omega
      rw [e4]
      exact this
  have z0 : cnt (fun j => S j ∨ (mk N x ≤ j ∧ j < mk N x)) (wW N).toNat = cnt S (wW N).toNat := cnt_congr _ (fun j _ _ => ⟨fun y => by
    rcases y with y | y
    · exact y
    · omega, Or.inl⟩)
  have := key (ml N x).toNat (mk N x) m0 (Int.le_refl _) (by omega) (fr.rf _ _) (hS.cg (fun j _ _ => ⟨Or.inl, fun y => by
    rcases y with y | y
    · exact y
    · omega⟩))
  rw [z0, Int.sub_self] at this
  exact this
/-- in the first k matches of a term -/
def CV24 (N o ord' : Int → Int) (s r k j : Int) : Prop := CVP N o r j ∨ ∃ k', 0 ≤ k' ∧ k' < k ∧ inM N (ord' (s + k')) j
theorem c_cov24 {Q : Int32 → zM → Prop} {m0 : zM} {o : Int → Int} {g n r : Int} (hg : 0 ≤ g ∧ g < 7) (h : TR C mv b N) (hd : DC m0 N) (hr : 0 ≤ r ∧ r < Zn N) (ho : 0 ≤ o r ∧ o r < Zn N) (H : ∀ m, fr [253] m0 m → TY N (CVP N o (r + 1)) m → W_Measures_coveredBy_9 (d + 1) (J g) (J n) (J (cnt (CVP N o (r + 1)) (wW N).toNat)) (J (r + 1)) w m Q) : ∀ (z : Nat) (k : Int) (m : zM), 0 ≤ k → k + z = ct N (o r) → fr [253] m0 m → TY N (CV24 N o (iq m0 229) (iq m0 239 (o r)) r k) m → W_Measures_coveredBy_24 (d + 1) (J g) (J n) (J (cnt (CV24 N o (iq m0 229) (iq m0 239 (o r)) r k) (wW N).toNat)) (J r) (J (o r)) (J k) w m Q := by
  have hM := Mn_b h
  have hZ := Zn_b h
  have hc := ct_b h ho.1 ho.2
  have hT0 := hd.2.2.1
  obtain ⟨a1, a2, a3, a4, a5, a6, a7, a8, a9, a10⟩ := hT0.2.1 (o r) ho.1 ho.2
  have hMn : (((Mn N).toNat : Nat) : Int) = Mn N := by omega
  have hS' : SB (AM N) (iq m0 229) 0 (((Mn N).toNat : Nat) : Int) := by rw [hMn]; exact hd.2.1.2.2
  have hp := hS'.prm (AM_ord N _)
  intro z
  induction z with
  | zero =>
    intro k m k0 hz f hI
    have hT1 := (hd.frm f (by intro c hc; simp at hc; omega)).2.2.1
    have e : ∀ j, CV24 N o (iq m0 229) (iq m0 239 (o r)) r k j ↔ CVP N o (r + 1) j := fun j => by
      constructor
      · intro y
        rcases y with ⟨r', r0, r1, x⟩ | ⟨k', k'0, k'1, y⟩
        · exact ⟨r', r0, by omega, x⟩
        · have b1 := hS'.2 (iq m0 239 (o r) + k') (by omega) (by omega)
          exact ⟨r, hr.1, by omega, _, b1.1, by omega, (a10 _ (by omega) (by omega)).mpr (by omega), y⟩
      · intro ⟨r', r0, r1, x, x0, x1, x2, x3⟩
        by_cases q : r' = r
        · rw [q] at x2
          obtain ⟨jj, j0, j1, j2⟩ := prm_sur hp x0 (by omega)
          have := (a10 jj j0 (by omega)).mp (by rw [j2]; exact x2)
          refine Or.inr ⟨jj - iq m0 239 (o r), by omega, by omega, ?_⟩
          rw [show iq m0 239 (o r) + (jj - iq m0 239 (o r)) = jj by omega, j2]
          exact x3
        · exact Or.inl ⟨r', r0, by omega, x, x0, x1, x2, x3⟩
    have ec : cnt (CV24 N o (iq m0 229) (iq m0 239 (o r)) r k) (wW N).toNat = cnt (CVP N o (r + 1)) (wW N).toNat := cnt_congr _ (fun j _ _ => e j)
    rw [ec]
    have a2' : iq m 240 (o r) = ct N (o r) := (hT1.2.1 (o r) ho.1 ho.2).2.1
    refine S_Measures_coveredBy_24 (c_at (n := 1200) rfl (by decide) (by unfold r32; omega) (by omega) ?_)
    rw [a2']
    simp (disch := first | (unfold r32; omega) | omega) only [j_lit, j_ops, J_le]
    exact ⟨fun _ => H m f (hI.cg (fun j _ _ => e j)), fun q => by omega⟩
  | succ z ih =>
    intro k m k0 hz f hI
    have hd1 := hd.frm f (by intro c hc; simp at hc; omega)
    have hT1 := hd1.2.2.1
    have a2' : iq m 240 (o r) = ct N (o r) := (hT1.2.1 (o r) ho.1 ho.2).2.1
    refine S_Measures_coveredBy_24 (c_at (n := 1200) rfl (by decide) (by unfold r32; omega) (by omega) ?_)
    rw [a2']
    simp (disch := first | (unfold r32; omega) | omega) only [j_lit, j_ops, J_le]
    refine ⟨fun q => by omega, fun _ => c_matchOf (d := d) h hT1 ho ⟨k0, by omega⟩ (fun x hx _ => ?_)⟩
    have ex : x = iq m0 229 (iq m0 239 (o r) + k) := by rw [hx, f.i (by simp), f.i (by simp)]
    have b1 := hS'.2 (iq m0 239 (o r) + k) (by omega) (by omega)
    have cb := cnt_b (CV24 N o (iq m0 229) (iq m0 239 (o r)) r k) (wW N).toNat
    refine c_cover1 (d := d) h hd1.2.1.1 (by rw [ex]; omega) hI (fun m' f' hI' => ?_)
    have e : ∀ j, (CV24 N o (iq m0 229) (iq m0 239 (o r)) r k j ∨ inM N x j) ↔ CV24 N o (iq m0 229) (iq m0 239 (o r)) r (k + 1) j := fun j => by
      constructor
      · intro y
        rcases y with (y | ⟨k', k'0, k'1, y⟩) | y
        · exact Or.inl y
        · exact Or.inr ⟨k', k'0, by omega, y⟩
        · exact Or.inr ⟨k, k0, by omega, by rw [← ex]; exact y⟩
      · intro y
        rcases y with y | ⟨k', k'0, k'1, y⟩
        · exact Or.inl (Or.inl y)
        · by_cases q : k' = k
          · rw [q, ← ex] at y; exact Or.inr y
          · exact Or.inl (Or.inr ⟨k', k'0, by omega, y⟩)
    have ec : cnt (fun j => CV24 N o (iq m0 229) (iq m0 239 (o r)) r k j ∨ inM N x j) (wW N).toNat = cnt (CV24 N o (iq m0 229) (iq m0 239 (o r)) r (k + 1)) (wW N).toNat := cnt_congr _ (fun j _ _ => e j)
    rw [ec, j_ops.1]
    have := ih (k + 1) m' (by omega) (by omega) (f.tr f') (hI'.cg (fun j _ _ => e j))
    rw [show cnt (CV24 N o (iq m0 229) (iq m0 239 (o r)) r k) (wW N).toNat + (cnt (CV24 N o (iq m0 229) (iq m0 239 (o r)) r (k + 1)) (wW N).toNat - cnt (CV24 N o (iq m0 229) (iq m0 239 (o r)) r k) (wW N).toNat) = cnt (CV24 N o (iq m0 229) (iq m0 239 (o r)) r (k + 1)) (wW N).toNat by omega]
    exact this
theorem c_coverQ {Q : Int32 → zM → Prop} {m : zM} {g n : Int} (rg : r32 g) (rn : r32 n) (hI : IVN C w m N) (H : ∀ m' v, IVN C w m' N → CVQ N g n v → Q (J v) m') : cI (d + 9) 142 [.ref 3, .int (J g), .int (J n)] w m Q := by
  have hb := hI.zT
  refine S_T_cover hb (c_Ldraw (d := d) hI (fun m1 hI1 h14 hd hk _ => ?_))
  have hT := hI1.2.2.2.2.1
  have hM := Mn_b hT
  have hZ := Zn_b hT
  have hW := hT.words
  have e19 := hd.2.2.1.1
  have no : ¬ (0 ≤ g ∧ g < 7 ∧ 0 ≤ n ∧ n ≤ Zn N) → Q (J (-1)) m1 := fun q => H m1 _ hI1 (by unfold CVQ; rw [if_neg q])
  simp (disch := first | exact rg | exact rn | (unfold r32; omega) | omega) only [j_lit, j_ops, J_lt, J_le, j_rd, j_nc, e19]
  refine ⟨fun q => no (by omega), fun q1 => ⟨fun q => no (by omega), fun q2 => ⟨fun q => no (by omega), fun q3 => ⟨fun q4 => ?_, fun q => no (by omega)⟩⟩⟩⟩
  refine c_prepare (d := d + 2) ⟨by omega, by omega⟩ hI1 hd hk h14 (fun m2 hI2 hd2 hS => S_Measures_coveredBy ?_)
  rw [show (240 : Int32) = J 240 from rfl]
  refine c_clear (a := 253) (n := 240) (v := 240) rfl (by decide) (by omega) (fun m3 f3 h3 => ?_)
  simp only [j_lit]
  have key : ∀ (z : Nat) (r : Int) (m4 : zM), 0 ≤ r → r + z = n → fr [253] m2 m4 → TY N (CVP N (fun r => iq m2 260 (1200 * g + r)) r) m4 → W_Measures_coveredBy_9 (d + 7) (J g) (J n) (J (cnt (CVP N (fun r => iq m2 260 (1200 * g + r)) r) (wW N).toNat)) (J r) w m4 Q := by
    intro z
    induction z with
    | zero =>
      intro r m4 r0 hz f4 h4
      refine S_Measures_coveredBy_9 ?_
      simp (disch := first | exact rn | (unfold r32; omega) | omega) only [j_lit, j_ops, J_le]
      refine ⟨fun _ => H m4 _ (hI2.gx f4 (by intro c hc; simp at hc; omega) (fun z _ _ _ => f4.i (by simp) z) (fun _ k => k.frm f4 (by simp) (by simp))) ?_, fun q => by omega⟩
      unfold CVQ
      rw [if_pos (by omega), show r = n by omega]
      exact ⟨_, hS, rfl⟩
    | succ z ih =>
      intro r m4 r0 hz f4 h4
      have hd4 := hd2.frm f4 (by intro c hc; simp at hc; omega)
      have e19' := hd4.2.2.1.1
      have bo := hS.2 r r0 (by omega)
      have e60 : iq m4 260 (1200 * g + r) = iq m2 260 (1200 * g + r) := f4.i (by simp) _
      refine S_Measures_coveredBy_9 ?_
      simp (disch := first | exact rn | (unfold r32; omega) | omega) only [j_lit, j_ops, J_le, j_rd, j_nc, e19']
      refine ⟨fun q => by omega, fun _ => ⟨fun q => by omega, fun _ => S_Measures_termAt ?_⟩⟩
      rw [show (1200 : Int32) = J 1200 from rfl, j_ops.2.2.1, j_ops.1, show g * 1200 + r = 1200 * g + r by omega]
      refine c_at (n := 8400) rfl (by decide) (by unfold r32; omega) (by omega) ?_
      rw [e60]
      have hc := ct_b hT bo.1 bo.2
      have ez : ∀ j, CV24 N (fun r => iq m2 260 (1200 * g + r)) (iq m4 229) (iq m4 239 (iq m2 260 (1200 * g + r))) r 0 j ↔ CVP N (fun r => iq m2 260 (1200 * g + r)) r j := fun j => ⟨fun y => by
        rcases y with y | ⟨k', _, _, _⟩
        · exact y
        · omega, Or.inl⟩
      have := c_cov24 (d := d + 6) (m0 := m4) (o := fun r => iq m2 260 (1200 * g + r)) (g := g) (n := n) (r := r) (Q := Q) (w := w) ⟨by omega, by omega⟩ hT hd4 ⟨r0, by omega⟩ bo (fun m5 f5 h5 => ih (r + 1) m5 (by omega) (by omega) (f4.tr f5) h5) (ct N (iq m2 260 (1200 * g + r))).toNat 0 m4 (by omega) (by have h1 : ct N ((fun r => iq m2 260 (1200 * g + r)) r) = ct N (iq m2 260 (1200 * g + r)) := rfl; rw [h1]; omega) (fr.rf _ _) (h4.cg (fun j _ _ => (ez j).symm))
      have ec : cnt (CV24 N (fun r => iq m2 260 (1200 * g + r)) (iq m4 229) (iq m4 239 (iq m2 260 (1200 * g + r))) r 0) (wW N).toNat = cnt (CVP N (fun r => iq m2 260 (1200 * g + r)) r) (wW N).toNat := cnt_congr _ (fun j _ _ => ez j)
      rw [ec] at this
      exact this
  have c0 : cnt (CVP N (fun r => iq m2 260 (1200 * g + r)) 0) (wW N).toNat = 0 := cnt_no _ (fun j _ _ ⟨r, r0, r1, _⟩ => by omega)
  have := key n.toNat 0 m3 (by omega) (by omega) f3 (fun j j0 j1 => by rw [h3 j j0 (by omega), bi_0 (fun ⟨r, r0, r1, _⟩ => by omega)])
  rw [c0] at this
  exact this
end CVC
