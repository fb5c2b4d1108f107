/-! a text read by both: what it comes to -/
/-- the reference's number of a kind in the pattern -/
def gk (c : Int) : Int := if c = 46 then 7 else if c = 120 then 6 else kb c
theorem kr_kb {c r : Int} (h : kr c r) : r = kb c ∧ kb c ≠ -1 ∧ c ≠ 46 ∧ c ≠ 120 := by
  unfold kr at h
  rcases h with ⟨a, b⟩ | ⟨a, b⟩ | ⟨a, b⟩ | ⟨a, b⟩ | ⟨a, b⟩ | ⟨a, b⟩ <;> subst a <;> subst b <;> decide
theorem pkr_gk {c r : Int} (h : pkr c r) : r = gk c := by
  unfold gk
  rcases h with h | ⟨a, b⟩ | ⟨a, b⟩
  · obtain ⟨h1, h2, h3, h4⟩ := kr_kb h
    rw [if_neg h3, if_neg h4]
    exact h1
  · rw [b]; exact a
  · rw [b]; exact a
theorem gk_pkr {c : Int} (h : c = 46 ∨ c = 120 ∨ kb c ≠ -1) : pkr c (gk c) := by
  unfold gk
  by_cases a : c = 46
  · rw [if_pos a]; exact Or.inr (Or.inr ⟨rfl, a⟩)
  · rw [if_neg a]
    by_cases b : c = 120
    · rw [if_pos b]; exact Or.inr (Or.inl ⟨rfl, b⟩)
    · rw [if_neg b]
      rcases h with h | h | h
      · exact absurd h a
      · exact absurd h b
      · exact Or.inl (kb_kr h)
theorem gk_r {c : Int} : r32 (gk c) := by
  unfold gk kb r32
  repeat (first | omega | split)
def gset (N : Int → Int) (v : Int) : Int → Int := fun z => if z = 1069 then v else N z
/-- text which, of what is told (N): the fault, where, what is told then -/
def RD (T : Int → Int) (n : Int) (N : Int → Int) (wh : Int) (x y : Int) (N' : Int → Int) : Prop :=
  (wh = 0 ∧ LX T n none 0 N x y N') ∨ (wh = 1 ∧ EX T n 0 (e0 N) x y N') ∨ (wh = 2 ∧ SX T n none 0 (s0 N) x y N') ∨
  (wh = 3 ∧ ∃ k' N1, DX T n 1070 1470 0 0 0 N x y k' N1 ∧ (x = 0 → 0 ≤ k' ∧ k' ≤ 240) ∧ N' = gset N1 k') ∨
  (wh = 4 ∧ ∃ K0 F0 z K F f l e, WX T n K0 F0 x y z K F f l e ∧ (x = 0 → f < 4096 ∧ l < 4096 ∧ e < 2 ∧ z ≤ 12 ∧ ∀ i : Nat, i < z → F i < 4096 ∧ (K i = 46 ∨ K i = 120 ∨ kb (K i) ≠ -1)) ∧ N' = kp N z (fun i => gk (K i)) F f l e)
/-- all but the reader's row and the slot stays -/
def fx (b : Nat) (m m' : zM) : Prop := ∀ c, c ≠ 8 → (c < b ∨ b + 21 ≤ c) → m'.1 c = m.1 c ∧ m'.2 c = m.2 c
theorem fr.fx {S : List Nat} {b : Nat} {m m' : zM} (h : fr S m m') (hs : ∀ c ∈ S, c = 8 ∨ (b ≤ c ∧ c < b + 21)) : fx b m m' := fun c h8 hb => h c (fun q => by have := hs c q; omega)
section RI2
variable {d : Nat} {w : Nat × Nat × Nat} {T : Int → Int} {n C : Int} {b : Nat}
theorem trP_kp {m : zM} {N : Int → Int} {z : Nat} {K : Nat → Int} {F : Nat → Nat} {f l e : Nat} (hK : KF (b + 17) m z K F) (h3 : iq m (b + 17) 3 = f) (h4 : iq m (b + 17) 4 = l) (hf : f < 4096) (hl : l < 4096) : trP m b (kp N z (fun i => gk (K i)) F f l e) := by
  have e0 : kp N z (fun i => gk (K i)) F f l e 1870 = z := by
    unfold kp kk
    rw [if_neg (by omega), if_neg (by omega), if_neg (by omega), if_neg (by omega), if_neg (by omega), if_pos rfl]
  have e1 : kp N z (fun i => gk (K i)) F f l e 1895 = f := by
    unfold kp
    rw [if_neg (by omega), if_neg (by omega), if_pos rfl]
  have e2 : kp N z (fun i => gk (K i)) F f l e 1896 = l := by
    unfold kp
    rw [if_neg (by omega), if_pos rfl]
  obtain ⟨k1, k2, k3⟩ := hK
  refine ⟨by omega, by omega, by rw [e0]; exact k2, by rw [e1]; exact h3, by rw [e2]; exact h4, by omega, by omega, by omega, by omega, fun k g0 g1 => ?_⟩
  rw [e0] at g1
  obtain ⟨i, rfl⟩ : ∃ i : Nat, k = (i : Int) := ⟨k.toNat, by omega⟩
  obtain ⟨q1, q2, q3, q4⟩ := k3 i (by omega)
  have a1 : kp N z (fun i => gk (K i)) F f l e (1871 + (i : Int)) = gk (K i) := by
    unfold kp kk
    rw [if_neg (by omega), if_neg (by omega), if_neg (by omega), if_neg (by omega), if_pos (by omega)]
    rw [show (1871 + (i : Int) - 1871).toNat = i by omega]
  have a2 : kp N z (fun i => gk (K i)) F f l e (1883 + (i : Int)) = (F i : Nat) := by
    unfold kp kk
    rw [if_neg (by omega), if_neg (by omega), if_neg (by omega), if_pos (by omega)]
    rw [show (1883 + (i : Int) - 1883).toNat = i by omega]
  rw [a1, a2]
  refine ⟨?_, q2, by omega, by omega⟩
  show pkr (iq m (b + 17 + 1) (i : Int)) _
  rw [q1]
  exact gk_pkr q4
theorem kp_o {N : Int → Int} {z : Nat} {G : Nat → Int} {F : Nat → Nat} {f l e : Int} (hz : z ≤ 12) : ∀ y, y < 1870 ∨ 1898 ≤ y → kp N z G F f l e y = N y := fun y hy => by
  unfold kp kk
  rw [if_neg (by omega), if_neg (by omega), if_neg (by omega), if_neg (by omega), if_neg (by omega), if_neg (by omega)]
/-- the class reads the text into its draft -/
theorem c_readInto {Q : zM → Prop} {m : zM} {N : Int → Int} {wh : Int} (hb : zT b) (ht : tpC m T n) (hN : TR C m b N) (hw : 0 ≤ wh ∧ wh ≤ 4)
    (H : ∀ m' x y N', RD T n N wh x y N' → fx b m m' → iq m' 8 5 = x → iq m' 8 6 = y → (x = 0 → TR C m' b N') → Q m') : cV (d + 27) 148 [.ref 3, .ref b, .int (J wh)] w m Q := by
  have hb9 := zT_9 hb
  obtain ⟨t1, t2, t3, t4, t5, t6, t7⟩ := id hN
  refine S_T_readInto hb ?_
  simp (disch := first | (unfold r32; omega) | omega) only [j_lit, J_eq, j_wr, j_nc]
  -- the slot's rows but those of S, S within i .. j
  have sr0 : ∀ {S : List Nat} {m' : zM} (f : fr S m m') (i j : Nat), (∀ c ∈ S, c = 8 ∨ c < b + i ∨ b + j < c) → sr m m' b i j := fun f i j hs c h1 h2 => f c (fun q => by have := hs c q; omega)
  refine ⟨fun h0 => ?_, fun h0 => ⟨fun h1 => ?_, fun h1 => ⟨fun h2 => ?_, fun h2 => ⟨fun h3 => ?_, fun h3 => ?_⟩⟩⟩⟩
  · refine c_readLexicon (d := d + 20) hb ht t1 (fun m' x y N' hx f g5 g6 hT => ?_)
    refine H m' x y N' (Or.inl ⟨h0, hx⟩) (f.fx (by simp <;> omega)) g5 g6 (fun q => ?_)
    obtain ⟨u1, u2⟩ := hT q
    exact ⟨u1, trE_c t2 (sr0 f _ _ (by simp <;> omega)) (fun k a1 a2 => u2 k (by omega)), trS_c t3 (sr0 f _ _ (by simp <;> omega)) (f.i (by simp <;> omega) 8) (fun k a1 a2 => u2 k (by omega)), trD_c t4 (Int.le_refl _) (sr0 f _ _ (by simp <;> omega)) (f.i (by simp <;> omega) 9) (fun k a1 a2 => u2 k (by omega)), trG_c t5 (sr0 f _ _ (by simp <;> omega)) (fun k a1 a2 => u2 k (by omega)), trP_c t6 (sr0 f _ _ (by simp <;> omega)) (fun k a1 a2 => u2 k (by omega)), trW_c t7 (sr0 f _ _ (by simp <;> omega)) (f.i (by simp <;> omega) 10) (f.i (by simp <;> omega) 11) (f.i (by simp <;> omega) 12) (fun k a1 a2 => u2 k (by omega))⟩
  · refine c_readEndings (d := d + 20) (N := N) hb ht (fun m' x y N' hx f g5 g6 hT => ?_)
    refine H m' x y N' (Or.inr (Or.inl ⟨h1, hx⟩)) (f.fx (by simp <;> omega)) g5 g6 (fun q => ?_)
    obtain ⟨u1, u2⟩ := hT q
    exact ⟨trL_c t1 (sr0 f _ _ (by simp <;> omega)) (fun k a1 a2 => u2 k (by omega)), u1, trS_c t3 (sr0 f _ _ (by simp <;> omega)) (f.i (by simp <;> omega) 8) (fun k a1 a2 => u2 k (by omega)), trD_c t4 (Int.le_refl _) (sr0 f _ _ (by simp <;> omega)) (f.i (by simp <;> omega) 9) (fun k a1 a2 => u2 k (by omega)), trG_c t5 (sr0 f _ _ (by simp <;> omega)) (fun k a1 a2 => u2 k (by omega)), trP_c t6 (sr0 f _ _ (by simp <;> omega)) (fun k a1 a2 => u2 k (by omega)), trW_c t7 (sr0 f _ _ (by simp <;> omega)) (f.i (by simp <;> omega) 10) (f.i (by simp <;> omega) 11) (f.i (by simp <;> omega) 12) (fun k a1 a2 => u2 k (by omega))⟩
  · refine c_readSame (d := d + 20) (N := N) hb ht (fun m' x y N' hx fs g5 g6 hT => ?_)
    have f := fs.1
    refine H m' x y N' (Or.inr (Or.inr (Or.inl ⟨h2, hx⟩))) (f.fx (by simp <;> omega)) g5 g6 (fun q => ?_)
    obtain ⟨u1, u2⟩ := hT q
    exact ⟨trL_c t1 (sr0 f _ _ (by simp <;> omega)) (fun k a1 a2 => u2 k (by omega)), trE_c t2 (sr0 f _ _ (by simp <;> omega)) (fun k a1 a2 => u2 k (by omega)), u1, trD_c t4 (Int.le_refl _) (sr0 f _ _ (by simp <;> omega)) (fs.2 9 (by omega) (by omega)) (fun k a1 a2 => u2 k (by omega)), trG_c t5 (sr0 f _ _ (by simp <;> omega)) (fun k a1 a2 => u2 k (by omega)), trP_c t6 (sr0 f _ _ (by simp <;> omega)) (fun k a1 a2 => u2 k (by omega)), trW_c t7 (sr0 f _ _ (by simp <;> omega)) (fs.2 10 (by omega) (by omega)) (fs.2 11 (by omega) (by omega)) (fs.2 12 (by omega) (by omega)) (fun k a1 a2 => u2 k (by omega))⟩
  · have f1 : fr [b + 14] m (sq m (b + 14) 2 0) := (fr.rf _ m).si (by simp) 2 0
    have k0 : iq (sq m (b + 14) 2 0) (b + 14) 2 = 0 := iq_eq (by unfold r32; omega)
    refine c_readProse (d := d + 22) (W := 1070) (S := 1470) (base := 0) (N0 := N) (zT_ge hb) (by omega) (ht.fr f1 (by simp <;> omega) (by simp <;> omega)) k0 (by omega) (by omega) (by rw [if_pos rfl]) (by omega) (fun m' x y k' N1 hx f g5 g6 hP => ?_)
    have f2 : fr [8, b + 14, b + 15, b + 16] m m' := (f1.mo (by simp)).tr (f.mo (by simp))
    refine H m' x y (gset N1 k') (Or.inr (Or.inr (Or.inr (Or.inl ⟨h3, k', N1, hx, fun q => ⟨(hP q).1, (hP q).2.1⟩, rfl⟩)))) (f2.fx (by simp <;> omega)) g5 g6 (fun q => ?_)
    obtain ⟨p1, p2, p3, p4, p5, p6, p7⟩ := hP q
    have go : ∀ z, z < 1069 ∨ 1870 ≤ z → gset N1 k' z = N z := fun z hz => by
      unfold gset
      rw [if_neg (by omega), p7 z (by omega) (by omega)]
    have g69 : gset N1 k' 1069 = k' := if_pos rfl
    have gg : ∀ z, 1069 < z → gset N1 k' z = N1 z := fun z hz => if_neg (by omega)
    refine ⟨trL_c t1 (sr0 f2 _ _ (by simp <;> omega)) (fun k a1 a2 => go k (by omega)), trE_c t2 (sr0 f2 _ _ (by simp <;> omega)) (fun k a1 a2 => go k (by omega)), trS_c t3 (sr0 f2 _ _ (by simp <;> omega)) (f2.i (by simp <;> omega) 8) (fun k a1 a2 => go k (by omega)), trD_c t4 (Int.le_refl _) (sr0 f2 _ _ (by simp <;> omega)) (f2.i (by simp <;> omega) 9) (fun k a1 a2 => go k (by omega)), ⟨by omega, by omega, by rw [g69]; exact p3, fun k a1 a2 => ?_, fun i j a1 a2 a3 => ?_⟩, trP_c t6 (sr0 f2 _ _ (by simp <;> omega)) (fun k a1 a2 => go k (by omega)), trW_c t7 (sr0 f2 _ _ (by simp <;> omega)) (f2.i (by simp <;> omega) 10) (f2.i (by simp <;> omega) 11) (f2.i (by simp <;> omega) 12) (fun k a1 a2 => go k (by omega))⟩
    · rw [g69] at a2
      obtain ⟨q1, q2, q3, q4⟩ := p5 k a1 a2
      rw [gg _ (by omega), gg _ (by omega)]
      exact ⟨q1, by rw [← Int.zero_add (N1 (1470 + k))]; exact q2, q3, q4⟩
    · rw [g69] at a3
      rw [gg _ (by omega), gg _ (by omega)]
      exact p6 i j a1 a2 a3
  · refine c_readPattern (d := d) (zT_pt hb) (by omega) ht (fun _ => 0) (fun _ => 0) (fun m' x y z K F fa la e hx f g5 g6 hP => ?_)
    refine H m' x y _ (Or.inr (Or.inr (Or.inr (Or.inr ⟨by omega, _, _, z, K, F, fa, la, e, hx, fun q => ?_, rfl⟩)))) (f.fx (by simp <;> omega)) g5 g6 (fun q => ?_)
    · obtain ⟨u1, u2, u3, u4, u5, u6⟩ := hP q
      exact ⟨u4, u5, u6, u1.1, fun i hi => ⟨(u1.2.2 i hi).2.2.1, (u1.2.2 i hi).2.2.2⟩⟩
    · obtain ⟨u1, u2, u3, u4, u5, u6⟩ := hP q
      have go := kp_o (N := N) (G := fun i => gk (K i)) (F := F) (f := (fa : Int)) (l := (la : Int)) (e := (e : Int)) u1.1
      exact ⟨trL_c t1 (sr0 f _ _ (by simp <;> omega)) (fun k a1 a2 => go k (by omega)), trE_c t2 (sr0 f _ _ (by simp <;> omega)) (fun k a1 a2 => go k (by omega)), trS_c t3 (sr0 f _ _ (by simp <;> omega)) (f.i (by simp <;> omega) 8) (fun k a1 a2 => go k (by omega)), trD_c t4 (Int.le_refl _) (sr0 f _ _ (by simp <;> omega)) (f.i (by simp <;> omega) 9) (fun k a1 a2 => go k (by omega)), trG_c t5 (sr0 f _ _ (by simp <;> omega)) (fun k a1 a2 => go k (by omega)), trP_kp u1 u2 u3 u4 u5, trW_c t7 (sr0 f _ _ (by simp <;> omega)) (f.i (by simp <;> omega) 10) (f.i (by simp <;> omega) 11) (f.i (by simp <;> omega) 12) (fun k a1 a2 => go k (by omega))⟩
/-- the reference's frames of a reading -/
def gt (m m' : zM) : Prop := (∀ b, b ≠ 261 → b ≠ 262 → b ≠ 266 → b ≠ 267 → m'.1 b = m.1 b ∧ m'.2 b = m.2 b) ∧ (∀ z, 0 ≤ z → z ≠ 6 → z ≠ 7 → z ≠ 8 → z ≠ 12 → (z < 15 ∨ 19 < z) → iq m' 261 z = iq m 261 z)
theorem gf.gt {m m' : zM} (h : gf m m') : gt m m' := ⟨fun c a1 a2 _ _ => h.1 c a1 a2, fun z a b c e f _ => h.2.1 z a b c e f⟩
theorem gpf.gt {m m' : zM} (h : gpf m m') : gt m m' := ⟨fun c a1 _ a3 a4 => h.1 c a1 a3 a4, fun z a b c e f g => h.2.1 z a b c e f g⟩
theorem gt.tr {m m1 m2 : zM} (h : gt m m1) (g : gt m1 m2) : gt m m2 := ⟨fun b a c e f => ⟨(g.1 b a c e f).1.trans (h.1 b a c e f).1, (g.1 b a c e f).2.trans (h.1 b a c e f).2⟩, fun z a b c e f i => (g.2 z a b c e f i).trans (h.2 z a b c e f i)⟩
/-- the reference reads it -/
theorem c_M_readText {Q : Int32 → zM → Prop} {m : zM} {N N' : Int → Int} {wh x y : Int} (h : RD T n N wh x y N') (ht : tpM m T n) (h6 : iq m 261 6 = 0) (h7 : iq m 261 7 = 0) (hN : rowM m N) (hN0 : 0 ≤ N 0 ∧ N 0 ≤ 80)
    (HS : x = 0 → ∀ m', gt m m' → rowM m' N' → iq m' 261 7 = 0 → iq m' 261 8 = iq m 261 8 → Q (J 1) m') (HF : x ≠ 0 → ∀ m', gt m m' → iq m' 261 7 = x → iq m' 261 8 = y → Q (J 0) m') : cI (d + 27) 218 [.ref 261, .int (J wh)] w m Q := by
  have hS : x = 0 → ∀ m', gq m m' → rowM m' N' → Q (J 1) m' := fun q m' a b => HS q m' a.gf.gt b ((a.2.1 7 (by omega) (by omega) (by omega)).trans h7) (a.2.1 8 (by omega) (by omega) (by omega))
  have hF : x ≠ 0 → ∀ m', gf m m' → iq m' 261 7 = x → iq m' 261 8 = y → Q (J 0) m' := fun q m' a b c => HF q m' a.gt b c
  refine S_M_readText ?_
  rcases h with ⟨rfl, hx⟩ | ⟨rfl, hx⟩ | ⟨rfl, hx⟩ | ⟨rfl, k', N1, hx, hkb, rfl⟩ | ⟨rfl, K0, F0, z, K, F, fa, la, e, hx, hb, rfl⟩
  · simp (disch := first | (unfold r32; omega) | omega) only [j_lit, J_eq]
    exact ⟨fun q => absurd trivial q, fun _ => c_M_readLexicon (d := d + 23) hx ht h6 h7 hN hN0 (fun q m' a b => ⟨Or.inr rfl, hS q m' a b⟩) (fun q m' a b c => ⟨Or.inl rfl, hF q m' a b c⟩)⟩
  · simp (disch := first | (unfold r32; omega) | omega) only [j_lit, J_eq]
    exact ⟨fun _ => ⟨fun q => absurd trivial q, fun _ => c_M_readEndings (d := d + 23) hx ht h6 h7 hN (fun q m' a b => ⟨Or.inr rfl, hS q m' a b⟩) (fun q m' a b c => ⟨Or.inl rfl, hF q m' a b c⟩)⟩, fun q => by omega⟩
  · simp (disch := first | (unfold r32; omega) | omega) only [j_lit, J_eq]
    exact ⟨fun _ => ⟨fun _ => ⟨fun q => absurd trivial q, fun _ => c_M_readSame (d := d + 23) hx ht h6 h7 hN (fun q m' a b => ⟨Or.inr rfl, hS q m' a b⟩) (fun q m' a b c => ⟨Or.inl rfl, hF q m' a b c⟩)⟩, fun q => by omega⟩, fun q => by omega⟩
  · have key : cI (d + 26) 209 [.ref 261, .int (J 1070), .int (J 1470), .int (J 0)] w m (fun v3 m3 => (0 ≤ (1069 : Int) ∧ (1069 : Int) < ((1906 : Nat) : Int)) ∧ ((v3 = J (-1) → Q (J 0) (zL m3 262 (1069 : Int).toNat v3.toInt64)) ∧ (¬ v3 = J (-1) → Q (J 1) (zL m3 262 (1069 : Int).toNat v3.toInt64)))) := by
      refine c_M_readWords (d := d + 23) (by omega) hx ht h6 h7 hN (by omega) (fun q k0 m' a b => ⟨by omega, fun e => ?_, fun e => ?_⟩) (fun q k0 m' a b c => ⟨by omega, fun e => ?_, fun e => ?_⟩)
      · have hk := hkb q
        rw [J_eq (by unfold r32; omega) (by unfold r32; omega)] at e
        omega
      · have hk := hkb q
        rw [J_64 (by unfold r32; omega)]
        refine HS q _ (a.sl 1069 k').gf.gt ?_ ((a.2.1 7 (by omega) (by omega) (by omega)).trans h7) (a.2.1 8 (by omega) (by omega) (by omega))
        exact b.gs (by omega) (by unfold r64; omega) (fun y _ _ => rfl)
      · rw [J_64 (by unfold r32; omega)]
        exact HF q _ (a.tr ((gq.rf m').sl 1069 (-1)).gf).gt b c
      · exact absurd rfl e
    simp (disch := first | (unfold r32; omega) | omega) only [j_lit, J_eq, vp_J, J_cl]
    exact ⟨fun _ => ⟨fun _ => ⟨fun _ => ⟨fun q => absurd trivial q, fun _ => key⟩, fun q => by omega⟩, fun q => by omega⟩, fun q => by omega⟩
  · simp (disch := first | (unfold r32; omega) | omega) only [j_lit, J_eq]
    refine ⟨fun _ => ⟨fun _ => ⟨fun _ => ⟨fun _ => ?_, fun q => by omega⟩, fun q => by omega⟩, fun q => by omega⟩, fun q => by omega⟩
    refine c_M_readPattern (d := d) ht h6 h7 hx (fun q m' a b c e7 e8 => ⟨fun _ => ?_, fun q => absurd q (by decide)⟩) (fun q m' a b c => ⟨fun q => absurd rfl q, fun _ => HF q m' a.gt b c⟩)
    obtain ⟨b1, b2, b3, b4, b5⟩ := hb q
    have hR : rowM m' N := fun k k0 k1 => by
      rw [← hN k k0 k1]
      unfold lq
      rw [(a.1 262 (by omega) (by omega) (by omega)).2]
    refine c_keepsPattern (d := d + 25) (z := z) (G := fun i => gk (K i)) (F := F) (f := (fa : Int)) (l := (la : Int)) (e := (e : Int)) b4 (by omega) (fun i hi => gk_r) (fun i hi => (b5 i hi).1) b.2.1 c.1 c.2.1 c.2.2.1 (fun i hi => ⟨pkr_gk (b.2.2 i hi).1, (b.2.2 i hi).2.1⟩) hR (fun m2 f1 f2 f3 => ?_)
    refine HS q m2 (a.gpf.gt.tr f2.gf.gt) f3 ?_ ?_
    · rw [f2.2.1 7 (by omega) (by omega) (by omega), e7]
    · rw [f2.2.1 8 (by omega) (by omega) (by omega), e8]
end RI2
