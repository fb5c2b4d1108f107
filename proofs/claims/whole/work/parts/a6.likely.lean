/-! likely: both sides -/
/-- how likely a word is -/
noncomputable def lkv (N : Int → Int) (x : Int) : Int := if 0 ≤ ei (BS N) x then lk N (ei (BS N) x) else 0
noncomputable def lkA (N : Int → Int) (x c : Int) : Int := if Zn N = 0 then (if c = 0 then 0 else 1) else if c = 0 then lwA (lkv N x) (Zn N) else lwB (lkv N x) (Zn N)
theorem lw_zero {b : Int} (hb : 0 < b) : lwA 0 b = 0 ∧ lwB 0 b = 1 := by
  unfold lwA lwB
  have e : (Int.natAbs 0).gcd b.toNat = b.toNat := Nat.gcd_zero_left _
  rw [e, show ((b.toNat : Nat) : Int) = b by omega]
  exact ⟨Int.zero_ediv _, Int.ediv_self (by omega)⟩
section LKY
variable {d : Nat} {w : Nat × Nat × Nat} {C : Int} {N : Int → Int} {mv : zM} {b : Nat}
theorem lkv_b (h : TR C mv b N) (x : Int) : 0 ≤ lkv N x ∧ lkv N x ≤ 1200 := by
  unfold lkv
  by_cases q : 0 ≤ ei (BS N) x
  · rw [if_pos q]; exact lk_b h _
  · rw [if_neg q]; omega
/-- letters alone stand on the slate -/
def sLt (m : zM) : Prop := ∀ k, 0 ≤ k → k < iq m 6 1 → iq m 7 k ≠ 32
theorem c_asWord {Q : Int64 → zM → Prop} {m : zM} (hs : SLt m) (H1 : iq m 6 1 ≤ 10 → sLt m → Q (JL (eC (lets (iq m 7) 0 (iq m 6 1).toNat))) m) (H0 : ¬ (iq m 6 1 ≤ 10 ∧ sLt m) → Q (JL 0) m) : cL (d + 1) 8 [.ref 6] w m Q := by
  obtain ⟨s0, s1, s2, s3⟩ := hs
  have key : ∀ (z k : Nat), (k : Int) + z = iq m 6 1 → iq m 6 1 ≤ 10 → (∀ i, 0 ≤ i → i < (k : Int) → iq m 7 i ≠ 32) → W_Bytes_asWord_10 d 6 (JL (eC (lets (iq m 7) 0 k))) (J (k : Int)) w m Q := by
    intro z
    induction z with
    | zero =>
      intro k hz h10 hk
      refine S_Bytes_asWord_10 (n_a := 54) ⟨rfl, rfl, rfl⟩ ?_
      simp (disch := first | (unfold r32; omega) | omega) only [j_lit, j_ops, J_le, j_rd, j_nc]
      refine ⟨fun _ => ?_, fun q => by omega⟩
      have := H1 h10 (fun i i0 i1 => hk i i0 (by omega))
      rw [show (iq m 6 1).toNat = k by omega] at this
      exact this
    | succ z ih =>
      intro k hz h10 hk
      have c3 := (s3 (k : Int) (by omega) (by omega)).2
      refine S_Bytes_asWord_10 (n_a := 54) ⟨rfl, rfl, rfl⟩ ?_
      simp (disch := first | (unfold r32; omega) | omega) only [j_lit, j_ops, J_le, j_rd, j_nc]
      refine ⟨fun q => by omega, fun _ => c_byteAt (n := 54) ⟨rfl, rfl, rfl⟩ (by decide) (by unfold r32; omega) (by omega) ?_⟩
      rw [if_pos (by omega), show (6 : Nat) + 1 = 7 from rfl]
      refine c_isLetter (by unfold r32; omega) ?_
      by_cases g : iq m 7 (k : Int) = 32
      · rw [if_neg (by omega)]
        simp (disch := first | (unfold r32; omega) | omega) only [j_lit, jl_lit, j_ops, J_eq]
        exact ⟨fun y => absurd trivial y, fun _ => H0 (fun y => y.2 (k : Int) (by omega) (by omega) g)⟩
      · rw [if_pos (by omega)]
        simp (disch := first | (unfold r32; omega) | omega) only [j_lit, j_ops, J_eq]
        refine ⟨fun _ => c_letterShift ?_, fun y => by omega⟩
        have hw : wd (lets (iq m 7) 0 k) := lets_wd (by omega) (fun i i0 i1 => by
          have a := (s3 i (by omega) (by omega)).2
          have c := hk i (by omega) (by omega)
          omega)
        have e := c_next_or (x := iq m 7 (k : Int) - 96) hw (by rw [lets_len]; omega) (by omega) (by omega)
        rw [lets_len] at e
        have es := lets_s (iq m 7) 0 k
        rw [show (0 : Int) + (k : Int) = (k : Int) by omega] at es
        have e' : JL (eC (lets (iq m 7) 0 k)) ||| ((J (iq m 7 (k : Int) - 96)).toInt64 <<< ((J (5 * (9 - (k : Int)))).toInt64 &&& 63)) = JL (eC (lets (iq m 7) 0 (k + 1))) := by rw [e, es]
        rw [e']
        have := ih (k + 1) (by omega) h10 (fun i i0 i1 => by
          by_cases y : i = k
          · rw [y]; exact g
          · exact hk i i0 (by omega))
        exact this
  refine S_Bytes_asWord (n_a := 54) ⟨rfl, rfl, rfl⟩ ?_
  simp (disch := first | (unfold r32; omega) | omega) only [j_lit, jl_lit, j_ops, J_le, j_rd, j_nc]
  exact ⟨fun q => key (iq m 6 1).toNat 0 (by omega) q (fun i i0 i1 => by omega), fun q => H0 (fun y => q y.1)⟩
theorem c_Ldraw2 {Q : zM → Prop} {m : zM} (hI : IVN C w m N) (H : ∀ m', IVN C w m' N → iq m' 3 14 = 1 → DC m' N → RKs m' N → (∀ c, (c < 220 ∧ c ≠ 3) ∨ 256 ≤ c → m'.1 c = m.1 c ∧ m'.2 c = m.2 c) → Q m') : cV (d + 8) 151 [.ref 3] w m Q := by
  have hb := hI.zT
  obtain ⟨h1, h2, h3, h4, h5, h6, h7, h8⟩ := id hI
  refine c_draw (d := d) (N := N) (C := C) hb h5 (by
    rcases h7 with g | g
    · exact Or.inl g
    · exact Or.inr ⟨g.1, g.2.1⟩) (fun g hd => ?_) (fun g m3 f hd => ?_)
  · refine H m hI g hd ?_ (fun _ _ => ⟨rfl, rfl⟩)
    rcases h7 with y | y
    · omega
    · exact y.2.2
  · have ff : fr (3 :: 255 :: SDR) m (sq (sq m3 255 6 0) 3 14 1) := ((f.mo (fun c hc => by simp [hc])).si (by simp) _ _).si (by simp) _ _
    have e14 : iq (sq (sq m3 255 6 0) 3 14 1) 3 14 = 1 := iq_eq (by unfold r32; omega)
    have e6 : iq (sq (sq m3 255 6 0) 3 14 1) 255 6 = 0 := by rw [iq_ne (by omega) (by omega) (by omega)]; exact iq_eq (by unfold r32; omega)
    have e3 : ∀ z, 0 ≤ z → z ≠ 14 → iq (sq (sq m3 255 6 0) 3 14 1) 3 z = iq m 3 z := fun z z0 z1 => by
      rw [iq_ne (Or.inr z1) (by omega) z0, iq_ne (by omega) (by omega) z0, f.i (by simp)]
    generalize sq (sq m3 255 6 0) 3 14 1 = m' at *
    have cell : ∀ c, (c < 220 ∧ c ≠ 3) ∨ 256 ≤ c → m'.1 c = m.1 c ∧ m'.2 c = m.2 c := fun c hc => ff c (by simp; omega)
    obtain ⟨r1, r2, r3, r4, r5⟩ := QR.base (N := N) hb h1 h2 h3 h4 h5 ⟨fun c c1 c2 c3 c4 => cell c (Or.inl ⟨c1, c2⟩), fun c hc => cell c (by omega), e3, fun z _ _ _ => ff.i (by simp) z⟩
    have hk : RKs m' N := ⟨by omega, by omega, fun g _ q => by rw [e6] at q; simp at q⟩
    have h61 : ∀ z, iq m' 261 z = iq m 261 z := ff.i (by simp)
    refine H m' ⟨r1, r2, r3, r4, r5, h6.mv (cell 6 (by omega)).1 (cell 7 (by omega)).1 (cell 294 (by omega)).1 (h61 54), Or.inr ⟨e14, hd, hk⟩, ?_⟩ e14 hd hk cell
    rcases h8 with g8 | g8
    · exact Or.inl ((h61 20).trans g8)
    · exact Or.inr ⟨(h61 20).trans g8.1, g8.2.frm ff (by intro c hc; simp at hc; omega)⟩
theorem c_set0 {Q : zM → Prop} {m : zM} {a : Int} (ha : -9223372036854775807 < a ∧ a < 9223372036854775807) (H : Q (sl (sl m 255 7 0) 255 8 1)) : cV (d + 2) 17 [.ref 255, .long (JL a), .long (JL 0)] w m Q := by
  refine S_Measures_set (c_gcdT (d := d) ha (by omega) ?_)
  refine ⟨fun _ => H, fun y => absurd ?_ y⟩
  show JL 0 ≤ JL 0
  rw [JL_le (by unfold r64; omega) (by unfold r64; omega)]
  omega
/-- the class's answer -/
theorem c_likelyQ {Q : Int64 → zM → Prop} {m : zM} {c : Int} (rc : r32 c) (hI : IVN C w m N) (H0 : ¬ (1 ≤ iq m 6 1 ∧ iq m 6 1 ≤ 10 ∧ sLt m) → Q (JL (-1)) m) (H1 : ∀ m', IVN C w m' N → (1 ≤ iq m 6 1 ∧ iq m 6 1 ≤ 10 ∧ sLt m) → m'.1 6 = m.1 6 ∧ m'.1 7 = m.1 7 → Q (JL (lkA N (eM (lets (iq m 7) 0 (iq m 6 1).toNat)) c)) m') : cL (d + 9) 140 [.ref 3, .int (J c)] w m Q := by
  have hs := hI.2.2.2.2.2.1
  obtain ⟨s0, s1, s2, s3⟩ := id hs
  have no : ¬ (1 ≤ iq m 6 1 ∧ iq m 6 1 ≤ 10 ∧ sLt m) → ∀ v, v = 0 → (¬ JL v = (0 : Int64) → cV (d + 8) 151 [.ref 3] w m (fun m2 => cI (d + 8) 2 [.ref 220, .long (JL v)] w m2 (fun v3 m3 => cI (d + 8) 97 [.ref 237, .int v3] w m3 (fun v4 m4 => cV (d + 8) 17 [.ref 255, .long (v4).toInt64, .long ((m4.1 237 19)).toInt64] w m4 (fun m5 => ((J c = 0 → Q (m5.2 255 7) m5) ∧ (¬ J c = 0 → Q (m5.2 255 8) m5))))))) ∧ (JL v = (0 : Int64) → Q ((-1) : Int64) m) := fun hn v hv => by
    rw [hv]
    exact ⟨fun y => absurd rfl y, fun _ => H0 hn⟩
  refine S_T_likely (c_asWord (d := d + 7) hs (fun h10 hl => ?_) (fun hn => no (fun y => hn ⟨y.2.1, y.2.2⟩) 0 rfl))
  by_cases h1 : 1 ≤ iq m 6 1
  · have hin : 1 ≤ iq m 6 1 ∧ iq m 6 1 ≤ 10 ∧ sLt m := ⟨h1, h10, hl⟩
    have hw : wd (lets (iq m 7) 0 (iq m 6 1).toNat) := lets_wd (by omega) (fun i i0 i1 => by
      have a := (s3 i (by omega) (by omega)).2
      have c := hl i (by omega) (by omega)
      omega)
    have hlen := lets_len (iq m 7) 0 (iq m 6 1).toNat
    have hne : lets (iq m 7) 0 (iq m 6 1).toNat ≠ [] := fun y => by rw [y] at hlen; simp at hlen; omega
    have hww : ww (eC (lets (iq m 7) 0 (iq m 6 1).toNat)) (eM (lets (iq m 7) 0 (iq m 6 1).toNat)) := ⟨_, hw, hne, rfl, rfl⟩
    have hr := ww_r hww
    generalize eC (lets (iq m 7) 0 (iq m 6 1).toNat) = y at *
    generalize eM (lets (iq m 7) 0 (iq m 6 1).toNat) = x at *
    simp (disch := first | (unfold r64; omega) | omega) only [jl_lit, JL_eq]
    refine ⟨fun _ => c_Ldraw2 (d := d) hI (fun m1 hI1 _ hd _ cell => ?_), fun q => by omega⟩
    have hT := hI1.2.2.2.2.1
    have hM := Mn_b hT
    have hZ := Zn_b hT
    have hK := BS_k hT
    have hK0 := eK_0 (BS_b hT)
    have hW := hT.words
    have kb := lkv_b hT x
    have e19 := hd.2.2.1.1
    have s67' : m1.1 6 = m.1 6 ∧ m1.1 7 = m.1 7 := ⟨(cell 6 (by omega)).1, (cell 7 (by omega)).1⟩
    have enm1 := e_spec (BS_b hT)
    -- from the number
    have fin : ∀ v, v = lkv N x → cV (d + 8) 17 [.ref 255, .long (J v).toInt64, .long ((m1.1 237 19)).toInt64] w m1 (fun m5 => ((J c = 0 → Q (m5.2 255 7) m5) ∧ (¬ J c = 0 → Q (m5.2 255 8) m5))) := fun v hv => by
      rw [hv]
      rw [j_rd, j_nc.2.2.2.2.2.2.2.2.2.2.2.2.2.2.2.2.2.2.2.1, e19, J_64 (by unfold r32; omega), J_64 (by unfold r32; omega)]
      have done : ∀ a e : Int, r64 a → r64 e → (lkA N x 0 = a) → (∀ c, c ≠ 0 → lkA N x c = e) → ((J c = 0 → Q ((sl (sl m1 255 7 a) 255 8 e).2 255 7) (sl (sl m1 255 7 a) 255 8 e)) ∧ (¬ J c = 0 → Q ((sl (sl m1 255 7 a) 255 8 e).2 255 8) (sl (sl m1 255 7 a) 255 8 e))) := fun a e ra re ea ee => by
        have l7 : lq (sl (sl m1 255 7 a) 255 8 e) 255 7 = a := by rw [lq_ne (Or.inr (by omega)) (by omega) (by omega), lq_eq ra]
        have l8 : lq (sl (sl m1 255 7 a) 255 8 e) 255 8 = e := lq_eq re
        have := H1 _ (hI1.c55 a e) hin s67'
        simp (disch := first | exact rc | (unfold r32; omega) | omega) only [j_lit, j_ops, J_eq, jl_rd, j_nc, l7, l8]
        refine ⟨fun q => ?_, fun q => ?_⟩
        · rw [q, ea] at this; exact this
        · rw [ee c q] at this; exact this
      by_cases hz : Zn N = 0
      · rw [hz]
        exact c_set0 (d := d + 6) (by omega) (done 0 1 (by unfold r64; omega) (by unfold r64; omega) (by unfold lkA; rw [if_pos hz, if_pos rfl]) (fun c hc => by unfold lkA; rw [if_pos hz, if_neg hc]))
      · have f1 := lw_f (a := lkv N x) (b := Zn N) (by omega)
        have f2 := f1.2.2.2.2.1 (by omega)
        exact c_set (d := d + 6) (by omega) (by omega) (done _ _ (by unfold r64; omega) (by unfold r64; omega) (by unfold lkA; rw [if_neg hz, if_pos rfl]) (fun c hc => by unfold lkA; rw [if_neg hz, if_neg hc]))
    have e220 := hd.1.1
    refine S_Bases_idOf ?_
    rw [j_rd, j_nc.2.2.2.2.2.2.2.1, e220]
    have hinc : inc (lq m1 226) (eK (BS N)) := fun i j i0 ij j1 => by
      have a := hd.1.2.2.1 i i0 (by omega)
      have c := hd.1.2.2.1 j (by omega) j1
      exact (ww_cmp a c).1.mpr (enm1.2.1 i j i0 ij j1)
    refine c_exact (d := d + 5) (n := 240) rfl (by decide) ⟨hK0, by omega⟩ hinc (by unfold r64; omega) (fun g => ?_) (fun i i0 i1 e => ?_)
    · refine S_Terms_likelyOf (c_at_out (n := 240) rfl (by decide) (by unfold r32; omega) (by omega) (fin 0 ?_))
      unfold lkv
      rcases ei_o (BS N) x with ⟨o1, o2, o3⟩ | ⟨_, o⟩
      · refine absurd ?_ (g _ o1 o2)
        have a := hd.1.2.2.1 _ o1 o2
        rw [o3] at a
        exact (ww_cmp a hww).2.mpr rfl
      · rw [if_neg (by omega)]
    · refine S_Terms_likelyOf (c_at (n := 240) rfl (by decide) (by unfold r32; omega) (by omega) (fin _ ?_))
      have a := hd.1.2.2.1 i i0 i1
      have ex : eU (BS N) i = x := by
        rw [e] at a
        exact (ww_cmp a hww).2.mp rfl
      have ei1 : ei (BS N) x = i := ei_is (BS_b hT) i0 i1 ex
      unfold lkv
      rw [ei1, if_pos i0]
      exact hd.2.2.2.2 i i0 i1
  · refine no (fun y => h1 y.1) _ ?_
    rw [show (iq m 6 1).toNat = 0 by omega]
    exact en_nil 32 10
theorem lets_congr {T T' : Int → Int} {q : Int} {k : Nat} (h : ∀ i : Int, 0 ≤ i → i < k → T (q + i) = T' (q + i)) : lets T q k = lets T' q k := by
  unfold lets
  refine List.map_congr_left (fun i hi => ?_)
  have := List.mem_range.mp hi
  rw [h (i : Int) (by omega) (by omega)]
/-- the reference's answer -/
theorem c_M_likely {Q : Int64 → zM → Prop} {m : zM} {c : Int} (rc : r32 c) (hI : IVN C w m N) (H0 : ¬ (1 ≤ iq m 6 1 ∧ iq m 6 1 ≤ 10 ∧ sLt m) → Q (JL (-1)) m) (H1 : ∀ m', IVN C w m' N → (1 ≤ iq m 6 1 ∧ iq m 6 1 ≤ 10 ∧ sLt m) → Q (JL (lkA N (eM (lets (iq m 7) 0 (iq m 6 1).toNat)) c)) m') : cL (d + 6) 280 [.ref 261, .int (J c)] w m Q := by
  have hs := hI.2.2.2.2.2.1
  obtain ⟨s0, s1, s2, s3⟩ := id hs
  refine S_M_likely ?_
  simp (disch := first | (unfold r32; omega) | omega) only [jl_lit, j_lit, j_rd, j_nc, s2, J_64]
  refine c_isIn (by unfold r64; omega) (by unfold r64; omega) (by unfold r64; omega) ?_
  by_cases h1 : 1 ≤ iq m 6 1 ∧ iq m 6 1 ≤ 10
  · rw [if_pos h1]
    simp (disch := first | (unfold r32; omega) | omega) only [j_lit, j_ops, J_eq]
    refine ⟨fun _ => ?_, fun y => by omega⟩
    have e9 : J 9 = J ((9 : Nat) : Int) := rfl
    rw [e9]
    refine c_power (by decide) ?_
    have key : ∀ (z k : Nat) (P : Int), (k : Int) + z = iq m 6 1 → (∀ i, 0 ≤ i → i < (k : Int) → iq m 7 i ≠ 32) → (k ≤ 9 → P = 27 ^ (9 - k)) → W_M_likely_16 (d + 5) (J c) (JL (eM (lets (iq m 7) 0 k))) (JL P) (J (k : Int)) w m Q := by
      intro z
      induction z with
      | zero =>
        intro k P hz hk hP
        have hl : sLt m := fun i i0 i1 => hk i i0 (by omega)
        have hw : wd (lets (iq m 7) 0 (iq m 6 1).toNat) := lets_wd (by omega) (fun i i0 i1 => by
          have a := (s3 i (by omega) (by omega)).2
          have c := hl i (by omega) (by omega)
          omega)
        have hb := eM_bd hw
        rw [show k = (iq m 6 1).toNat by omega]
        generalize eM (lets (iq m 7) 0 (iq m 6 1).toNat) = x at *
        refine S_M_likely_16 ?_
        simp (disch := first | (unfold r32; omega) | omega) only [j_lit, J_le, j_rd, j_nc, s2]
        refine ⟨fun _ => c_Llays (d := d) hI (fun m1 hI1 _ hd _ => ?_), fun q => by omega⟩
        have hT := hI1.2.2.2.2.1
        have hM := Mn_b hT
        have hZ := Zn_b hT
        have hK := BS_k hT
        have hK0 := eK_0 (BS_b hT)
        have hW := hT.words
        have enm1 := e_spec (BS_b hT)
        have e43 := hd.1.2.1
        have e32 := hd.2.1.2.1
        have e86 := hd.1.2.2.2.1
        have hinc : inc (lq m1 286) (eK (BS N)) := fun i j i0 ij j1 => by
          rw [e86 i i0 (by omega), e86 j (by omega) j1]
          exact enm1.2.1 i j i0 ij j1
        have fin : ∀ m2, IVN C w m2 N → Q (JL (lkA N x c)) m2 := fun m2 hI2 => H1 m2 hI2 ⟨h1.1, h1.2, hl⟩
        have zero : lkv N x = 0 ∨ Zn N = 0 → ((c = 0 → Q (JL 0) m1) ∧ (¬ c = 0 → Q (JL 1) m1)) := fun g => by
          have f1 := fin m1 hI1
          have e : lkA N x c = if c = 0 then 0 else 1 := by
            unfold lkA
            by_cases hz : Zn N = 0
            · rw [if_pos hz]
            · rw [if_neg hz]
              rcases g with g | g
              · rw [g, (lw_zero (show 0 < Zn N by omega)).1, (lw_zero (show 0 < Zn N by omega)).2]
              · exact absurd g hz
          rw [e] at f1
          refine ⟨fun q => ?_, fun q => ?_⟩
          · rw [if_pos q] at f1; exact f1
          · rw [if_neg q] at f1; exact f1
        refine c_basePlace (s := eK (BS N)) e43 ⟨hK0, by omega⟩ hinc (by unfold r64; omega) (fun p hp => ?_)
        obtain ⟨p0, p1, p2, p3⟩ := hp
        have none : (∀ i, 0 ≤ i → i < eK (BS N) → lq m1 286 i ≠ x) → lkv N x = 0 := fun g => by
          unfold lkv
          rcases ei_o (BS N) x with ⟨o1, o2, o3⟩ | ⟨_, o⟩
          · exact absurd ((e86 _ o1 o2).trans o3) (g _ o1 o2)
          · rw [if_neg (by omega)]
        have l86 := lq_r m1 286 p
        by_cases gp : p = eK (BS N)
        · simp (disch := first | exact rc | (unfold r32; omega) | (unfold r64; omega) | omega) only [j_lit, jl_lit, j_ops, J_eq, j_rd, j_nc, e32, e43]
          have zz := zero (Or.inl (none (fun i i0 i1 => by have := p2 i i0 (by omega); omega)))
          exact ⟨fun _ => zz, fun _ => ⟨fun _ => zz, fun y => absurd gp y⟩⟩
        · have e88 := hd.2.2.2.2 p p0 (by omega)
          have kb := lk_b hT p
          simp (disch := first | exact rc | exact l86 | (unfold r32; omega) | (unfold r64; omega) | omega) only [j_lit, jl_lit, j_ops, J_eq, vp_J, J_cl, iq_tn, lq_tn, j_rd, jl_rd, j_nc, e32, e43, e88, JL_eq, J_64]
          refine ⟨fun q => zero (Or.inr q), fun hz => ⟨fun y => absurd y gp, fun _ => ⟨by omega, fun q => ?_, fun q => ⟨by omega, fun q2 => ⟨by omega, ?_⟩, fun q2 => ?_⟩⟩⟩⟩
          · refine zero (Or.inl (none (fun i i0 i1 => ?_)))
            by_cases a : i < p
            · have := p2 i i0 a; omega
            · have b1 := p3 p (Int.le_refl _) (by omega)
              by_cases a2 : i = p
              · rw [a2]; exact q
              · have := hinc p i p0 (by omega) i1; omega
          · have ei1 : ei (BS N) x = p := ei_is (BS_b hT) p0 (by omega) ((e86 p p0 (by omega)).symm.trans q)
            have ek : lkv N x = lk N p := by unfold lkv; rw [ei1, if_pos p0]
            refine c_putsX (d := d + 4) (by omega) (by omega) (fun m2 f2 e1 e2 => ?_)
            have f1 := fin m2 (hI1.mx f2)
            simp only [jl_rd, j_nc, e1, e2]
            unfold lkA at f1
            rw [if_neg hz, ek] at f1
            refine ⟨fun q3 => ?_, fun q3 => ?_⟩
            · rw [if_pos q3] at f1; exact f1
            · rw [if_neg q3] at f1; exact f1
          · have ei1 : ei (BS N) x = p := ei_is (BS_b hT) p0 (by omega) ((e86 p p0 (by omega)).symm.trans q)
            exact zero (Or.inl (by unfold lkv; rw [ei1, if_pos p0]; exact q2))
      | succ z ih =>
        intro k P hz hk hP
        have c3 := s3 (k : Int) (by omega) (by omega)
        have e94 : iq m 294 (k : Int) = iq m 7 (k : Int) := c3.1.symm
        have c32 := c3.2
        refine S_M_likely_16 ?_
        have P0 : 0 ≤ P ∧ P ≤ 7625597484987 := by
          rw [hP (by omega)]
          have h1 : (27 : Nat) ^ (9 - k) ≤ 27 ^ 9 := Nat.pow_le_pow_right (by decide) (by omega)
          have h2 := Int.ofNat_le.mpr h1
          rw [Int.natCast_pow] at h2
          exact ⟨Int.pow_nonneg (by decide), h2⟩
        simp (disch := first | (unfold r32; omega) | (unfold r64; omega) | omega) only [j_lit, jl_lit, J_le, J_eq, vp_J, J_cl, iq_tn, j_rd, j_nc, s2, e94, j_ops, jl_ops, J_64, JL_eq, JL_div]
        refine ⟨fun q => by omega, fun _ => ⟨by omega, fun q => ⟨by omega, by omega, ?_⟩, fun q => H0 (fun y => y.2.2 (k : Int) (by omega) (by omega) q)⟩⟩
        have := ih (k + 1) (P / 27) (by omega) (fun i i0 i1 => by
          by_cases y : i = k
          · rw [y]; exact q
          · exact hk i i0 (by omega)) (fun hk9 => by
            rw [hP (by omega), show 9 - k = (9 - (k + 1)) + 1 by omega, Int.pow_succ]
            exact Int.mul_ediv_cancel _ (by decide))
        have es := lets_s (iq m 7) 0 k
        rw [show (0 : Int) + (k : Int) = (k : Int) by omega] at es
        rw [es, eM_snoc (by rw [lets_len]; omega), lets_len, ← hP (by omega)] at this
        exact this
    exact key (iq m 6 1).toNat 0 (27 ^ 9) (by omega) (fun i i0 i1 => by omega) (fun _ => rfl)
  · rw [if_neg h1]
    simp (disch := first | (unfold r32; omega) | omega) only [j_lit, j_ops, J_eq]
    exact ⟨fun y => absurd trivial y, fun _ => H0 (fun y => h1 ⟨y.1, y.2.1⟩)⟩
theorem p_likely {P : Int64 → Int64 → zM → Prop} {m : zM} {c : Int} (rc : r32 c) (hI : IV C w m) (H : ∀ v m', IV C w m' → P v v m') : cL (d + 9) 140 [.ref 3, .int (J c)] w m (fun x m1 => cL (d + 9) 280 [.ref 261, .int (J c)] w m1 (fun y m2 => P x y m2)) := by
  obtain ⟨N, hI⟩ := hI
  refine c_likelyQ (d := d) rc hI (fun hn => ?_) (fun m1 hI1 hin e67 => ?_)
  · exact c_M_likely (d := d + 3) rc hI (fun _ => H _ m ⟨N, hI⟩) (fun m2 _ q => absurd q hn)
  · have i6 : ∀ z, iq m1 6 z = iq m 6 z := fun z => by unfold iq; rw [e67.1]
    have i7 : iq m1 7 = iq m 7 := by funext z; unfold iq; rw [e67.2]
    have hin' : 1 ≤ iq m1 6 1 ∧ iq m1 6 1 ≤ 10 ∧ sLt m1 := by
      unfold sLt
      rw [i6, i7]
      exact hin
    refine c_M_likely (d := d + 3) rc hI1 (fun q => absurd hin' q) (fun m2 hI2 _ => ?_)
    rw [i6, i7]
    exact H _ m2 ⟨N, hI2⟩
end LKY
