/-! find: what is asked; the class -/
/-- the words on the tape from a place on, if nothing else stands there -/
def wl (T : Int → Int) (n : Int) : Nat → Int → Option (List (List Int))
  | 0, _ => none
  | k + 1, p => if tS T n p = -1 then some [] else if tS T n p = -2 then (wl T n k (tB T n p)).map (fun M => tL T n p :: M) else none
/-- the base of the j-th word -/
noncomputable def uB (N : Int → Int) (L : List (List Int)) (j : Int) : Int := bsR N (eM (L.getD j.toNat []))
noncomputable def gL (N : Int → Int) (L : List (List Int)) (j : Int) : Int := ei (BS N) (uB N L j)
/-- a row of words is a term -/
def EQT (N : Int → Int) (L : List (List Int)) (t : Int) : Prop := 0 ≤ t ∧ t < Zn N ∧ (L.length : Int) = tl N t ∧ ∃ k, 0 ≤ k ∧ k + tl N t ≤ wW N ∧ pk N k (tl N t) = tr N t ∧ ∀ j : Int, 0 ≤ j → j < L.length → uB N L j = bs N (k + j)
def FQ (N : Int → Int) (o : Option (List (List Int))) (v : Int) : Prop := (∃ L, o = some L ∧ EQT N L v) ∨ (v = -1 ∧ ∀ L t, o = some L → ¬ EQT N L t)
section FND
variable {d : Nat} {w : Nat × Nat × Nat} {C : Int} {N : Int → Int} {mv : zM} {b : Nat} {T : Int → Int} {n : Int}
theorem EQT.uniq (h : TR C mv b N) {L : List (List Int)} {s t : Int} (h1 : EQT N L s) (h2 : EQT N L t) : s = t := by
  obtain ⟨a0, a1, a2, k, a3, a4, a5, a6⟩ := h1
  obtain ⟨c0, c1, c2, l, c3, c4, c5, c6⟩ := h2
  have b1 := tl_b h a0 a1
  have b2 := tl_b h c0 c1
  refine tr_inj h a0 a1 c0 c1 ?_
  rw [← a5, ← c5]
  refine pk_leq h ⟨a3, by omega, b1.2, a4⟩ ⟨c3, by omega, b2.2, c4⟩ (by omega) (fun i i0 i1 => ?_)
  rw [← a6 i i0 (by omega), ← c6 i i0 (by omega)]
theorem FQ.uniq (h : TR C mv b N) {o : Option (List (List Int))} {v v' : Int} (h1 : FQ N o v) (h2 : FQ N o v') : v = v' := by
  rcases h1 with ⟨L, a1, a2⟩ | ⟨a1, a2⟩
  · rcases h2 with ⟨L', c1, c2⟩ | ⟨c1, c2⟩
    · rw [a1] at c1
      have e : L = L' := Option.some.inj c1
      rw [← e] at c2
      exact a2.uniq h c2
    · exact absurd a2 (c2 L v a1)
  · rcases h2 with ⟨L', c1, c2⟩ | ⟨c1, c2⟩
    · exact absurd c2 (a2 L' v' c1)
    · omega
theorem c_idOfB {Q : Int32 → zM → Prop} {m : zM} {c r : Int} (hT : TR C mv b N) (hB : DB m N) (hw : ww c r) (H : Q (J (ei (BS N) r)) m) : cI (d + 3) 2 [.ref 220, .long (JL c)] w m Q := by
  have hK := BS_k hT
  have hK0 := eK_0 (BS_b hT)
  have hW := hT.words
  have hr := ww_r hw
  have enm1 := e_spec (BS_b hT)
  have e220 := hB.1
  refine S_Bases_idOf ?_
  rw [j_rd, j_nc.2.2.2.2.2.2.2.1, e220]
  have hinc : inc (lq m 226) (eK (BS N)) := fun i j i0 ij j1 => by
    have a := hB.2.2.1 i i0 (by omega)
    have c := hB.2.2.1 j (by omega) j1
    exact (ww_cmp a c).1.mpr (enm1.2.1 i j i0 ij j1)
  refine c_exact (d := d) (n := 240) rfl (by decide) ⟨hK0, by omega⟩ hinc (by unfold r64; omega) (fun g => ?_) (fun i i0 i1 e => ?_)
  · rcases ei_o (BS N) r with ⟨o1, o2, o3⟩ | ⟨_, o⟩
    · refine absurd ?_ (g _ o1 o2)
      have a := hB.2.2.1 _ o1 o2
      rw [o3] at a
      exact (ww_cmp a hw).2.mpr rfl
    · rw [o] at H; exact H
  · have a := hB.2.2.1 i i0 i1
    have ex : eU (BS N) i = r := by
      rw [e] at a
      exact (ww_cmp a hw).2.mp rfl
    rw [ei_is (BS_b hT) i0 i1 ex] at H
    exact H
theorem wl_s (T : Int → Int) (n : Int) (k : Nat) (p : Int) : wl T n (k + 1) p = if tS T n p = -1 then some [] else if tS T n p = -2 then (wl T n k (tB T n p)).map (fun M => tL T n p :: M) else none := rfl
theorem ei_r (h : TR C mv b N) (x : Int) : -1 ≤ ei (BS N) x ∧ ei (BS N) x < 240 := by
  have hK := BS_k h
  have hW := h.words
  rcases ei_o (BS N) x with ⟨o1, o2, _⟩ | ⟨_, o⟩
  · omega
  · omega
theorem gL_okd (h : TR C mv b N) {L : List (List Int)} {c : Int} (hg : ∀ j : Int, 0 ≤ j → j < c → 0 ≤ gL N L j) : okd (gL N L) 0 c := fun j j0 j1 => by
  have a := ei_r h (uB N L j)
  have q := hg j j0 j1
  rw [show (0 : Int) + j = j by omega]
  unfold gL at *
  omega
theorem tB_le {T : Int → Int} {n p : Int} (hp : p ≤ n) : tB T n p ≤ n := (tok_bd hp).2.2.2.1
/-- all words are known, and not too many -/
def okL (N : Int → Int) (L : List (List Int)) : Prop := L.length ≤ 5 ∧ ∀ j : Int, 0 ≤ j → j < L.length → 0 ≤ gL N L j
theorem c_rr {Q : Int64 → zM → Prop} {m0 : zM} (hb : zT w.2.1) (hT : TR C m0 w.2.1 N) (hB : DB m0 N) (ht : tpC m0 T n) (H1 : ∀ m L, fr [8] m0 m → wl T n 601 0 = some L → okL N L → Q (JL (pkf (gL N L) 0 L.length)) m) (H0 : ∀ m, fr [8] m0 m → (∀ L, wl T n 601 0 = some L → ¬ okL N L) → Q (JL 0) m) :
    ∀ (k c : Nat) (p : Int) (g : Int → Int) (m : zM), c + k = 601 → c ≤ 5 → 0 ≤ p → p ≤ n → n - p < k → fr [8] m0 m → at8 m T n p → (∀ L, wl T n 601 0 = some L → c ≤ L.length ∧ wl T n k p = some (L.drop c) ∧ ∀ j : Int, 0 ≤ j → j < c → g j = gL N L j) → (wl T n 601 0 = none → wl T n k p = none) → okd g 0 c → W_T_readRow_12 (d + 4) (JL (pkf g 0 c)) (J (c : Int)) (J (c : Int)) w m Q := by
  intro k
  induction k with
  | zero => intro c p g m hc c5 p0 pn hk f h8 hL hN hg; omega
  | succ k ih =>
    intro c p g m hc c5 p0 pn hk f h8 hL hN hg
    obtain ⟨s1, s2, s3, s4⟩ := h8
    have hr8 := tS_r (n := n) (p := p) ht.2.2.2.2
    have tb := tok_bd (T := T) pn
    have ws := wl_s T n k p
    have zero : (∀ L, wl T n 601 0 = some L → ¬ okL N L) → ∀ m', fr [8] m0 m' → Q (JL 0) m' := fun g m' f' => H0 m' f' g
    have other : tS T n p ≠ -1 → tS T n p ≠ -2 → ∀ L, wl T n 601 0 = some L → ¬ okL N L := fun a1 a2 L e => by
      have := (hL L e).2.1
      rw [ws, if_neg a1, if_neg a2] at this
      exact absurd this (by simp)
    refine S_T_readRow_12 hb ?_
    simp (disch := first | (unfold r32; omega) | omega) only [j_lit, jl_lit, J_le, J_lt, J_eq, j_rd, j_nc, s1, j_ops]
    refine ⟨fun q => by omega, fun _ => ⟨fun q => ⟨fun q1 => zero (other q1 q) m f, fun q1 => ?_⟩, fun q => ?_⟩⟩
    · -- the tape's end
      rcases hw : wl T n 601 0 with _ | L
      · have := hN hw
        rw [ws, if_pos q1] at this
        exact absurd this (by simp)
      · obtain ⟨a1, a2, a3⟩ := hL L hw
        rw [ws, if_pos q1] at a2
        have a2 := Option.some.inj a2
        have al : L.length = c := by
          have := congrArg List.length a2
          rw [List.length_drop] at this
          simp at this
          omega
        have ok : okL N L := ⟨by omega, fun j j0 j1 => by
          have := a3 j j0 (by omega)
          have h2 := hg j j0 (by omega)
          rw [show (0 : Int) + j = j by omega] at h2
          omega⟩
        have e : pkf g 0 c = pkf (gL N L) 0 L.length := by
          rw [al]
          refine (pkf_inj hg (gL_okd hT (c := c) (fun j j0 j1 => ok.2 j j0 (by omega))) (by omega) (by omega) (by omega) (by omega)).mpr ⟨rfl, fun j j0 j1 => ?_⟩
          rw [show (0 : Int) + j = j by omega]
          exact a3 j j0 j1
        rw [e]
        exact H1 m L f hw ok
    · have hwd := tL_wd pn q ht.2.2.2.2
      have hT1 : TR C m w.2.1 N := hT.view (TV.rows (fun c a1 a2 => by have := zT_b hb; exact f c (by simp; omega)))
      have e4 := s4 q
      rw [jl_rd, j_nc.2.2.2.2.1, e4]
      have ne : tS T n p ≠ -1 := by omega
      refine c_baseOf (d := d) hb hT1 (r := eM (tL T n p)) ⟨_, hwd.1, hwd.2, rfl, rfl⟩ (fun cb hcb => c_idOfB (d := d + 1) hT (hB.frm f (by intro c hc q; simp at hc q; omega)) hcb ?_)
      have er := ei_r hT (bsR N (eM (tL T n p)))
      have hd0 : ∀ L, wl T n 601 0 = some L → ∃ M, wl T n k (tB T n p) = some M ∧ L.drop c = tL T n p :: M := fun L e => by
        have a2 := (hL L e).2.1
        rw [ws, if_neg ne, if_pos q] at a2
        rcases hm : wl T n k (tB T n p) with _ | M
        · rw [hm] at a2; exact absurd a2 (by simp)
        · rw [hm] at a2
          exact ⟨M, rfl, (Option.some.inj a2).symm⟩
      have hget : ∀ L, wl T n 601 0 = some L → c < L.length ∧ gL N L (c : Int) = ei (BS N) (bsR N (eM (tL T n p))) := fun L e => by
        obtain ⟨M, m1, m2⟩ := hd0 L e
        have hl := congrArg List.length m2
        rw [List.length_drop] at hl
        simp at hl
        have hg2 : L.getD c [] = tL T n p := by
          have := congrArg (fun l => l.getD 0 []) m2
          simp only [List.getD_eq_getElem?_getD, List.getElem?_drop] at this
          rw [List.getD_eq_getElem?_getD]
          simpa using this
        refine ⟨by omega, ?_⟩
        unfold gL uB
        rw [Int.toNat_natCast, hg2]
      simp (disch := first | (unfold r32; omega) | omega) only [j_lit, jl_lit, J_lt, j_ops]
      refine ⟨fun g0 => zero (fun L e ok => ?_) m f, fun g0 => ⟨fun g5 => c_cell (by omega) (by omega) ?_, fun g5 => zero (fun L e ok => ?_) m f⟩⟩
      · obtain ⟨l1, l2⟩ := hget L e
        have := ok.2 (c : Int) (by omega) (by omega)
        omega
      · have ht1 : tpC m T n := by
          obtain ⟨t1, t2, t3, t4, t5⟩ := ht
          exact ⟨t1, t2, (f.i (by simp) 1).trans t3, fun j j0 j1 => (f.i (by simp) j).trans (t4 j j0 j1), t5⟩
        have s3' : iq m 8 1 = tB T n p := s3
        have hbb := tB_le (T := T) pn
        refine c_next (d := d + 1) ht1 s3' ⟨by omega, by omega⟩ (fun m' f' h8' => ?_)
        have f2 : fr [8] m0 m' := f.tr (fun c hc => f'.1 c (by simp at hc; exact hc))
        generalize hx : ei (BS N) (bsR N (eM (tL T n p))) = x at *
        have hg' : okd (fun i => if i = (c : Int) then x else g i) 0 ((c : Int) + 1) := fun j j0 j1 => by
          show 0 ≤ (if (0 : Int) + j = (c : Int) then x else g (0 + j)) ∧ (if (0 : Int) + j = (c : Int) then x else g (0 + j)) < 240
          by_cases y : (0 : Int) + j = (c : Int)
          · rw [if_pos y]; omega
          · rw [if_neg y]; exact hg j j0 (by omega)
        have e1 : pkf g 0 (c : Int) = pkf (fun i => if i = (c : Int) then x else g i) 0 (c : Int) := (pkf_inj hg (fun j j0 j1 => hg' j j0 (by omega)) (by omega) (by omega) (by omega) (by omega)).mpr ⟨rfl, fun j j0 j1 => by
          show g (0 + j) = if (0 : Int) + j = (c : Int) then x else g (0 + j)
          rw [if_neg (by omega)]⟩
        have e2 := pk_or (g := fun i => if i = (c : Int) then x else g i) (k := 0) (n := (c : Int)) hg' (by omega) (by omega)
        have e3 : (if (0 : Int) + (c : Int) = (c : Int) then x else g (0 + (c : Int))) = x := if_pos (by omega)
        rw [e3, ← e1] at e2
        rw [e2]
        have := ih (c + 1) (tB T n p) (fun i => if i = (c : Int) then x else g i) m' (by omega) (by omega) (by omega) (by omega) (by omega) f2 h8' (fun L e => ?_) (fun e => ?_) hg'
        · exact this
        · obtain ⟨M, m1, m2⟩ := hd0 L e
          obtain ⟨l1, l2⟩ := hget L e
          refine ⟨by omega, ?_, fun j j0 j1 => ?_⟩
          · rw [m1]
            congr 1
            have := congrArg List.tail m2
            rw [List.tail_drop] at this
            exact this.symm
          · show (if j = (c : Int) then x else g j) = gL N L j
            by_cases y : j = (c : Int)
            · rw [if_pos y, y, l2]
            · rw [if_neg y]
              exact (hL L e).2.2 j j0 (by omega)
        · have := hN e
          rw [ws, if_neg ne, if_pos q] at this
          rcases hm : wl T n k (tB T n p) with _ | M
          · rfl
          · rw [hm] at this; exact absurd this (by simp)
      · obtain ⟨l1, l2⟩ := hget L e
        have := ok.1
        omega
theorem EQT_gL (h : TR C mv b N) {L : List (List Int)} {t : Int} (t0 : 0 ≤ t) (t1 : t < Zn N) : EQT N L t ↔ okL N L ∧ tr N t = pkf (gL N L) 0 L.length := by
  obtain ⟨x, x0, x1, x2⟩ := tr_ex h t0 t1
  have bd := mk_bd h x0 x1
  have lt := tl_m h x0 x1 x2
  have tb := tl_b h t0 t1
  have inB : ∀ j : Int, 0 ≤ gL N L j → ∃ i, 0 ≤ i ∧ i < wW N ∧ bs N i = uB N L j := fun j hj => by
    rcases ei_o (BS N) (uB N L j) with ⟨o1, o2, o3⟩ | ⟨_, o⟩
    · have := (e_spec (BS_b h)).2.2.1 _ o1 o2
      rw [o3] at this
      exact this
    · unfold gL at hj; omega
  constructor
  · intro ⟨_, _, a2, k, a3, a4, a5, a6⟩
    have ok : okL N L := ⟨by omega, fun j j0 j1 => by
      have := a6 j j0 j1
      unfold gL
      rw [this]
      exact (ei_in (BS_b h) ⟨k + j, by omega, by omega, rfl⟩).1⟩
    refine ⟨ok, ?_⟩
    rw [← a5, a2]
    refine (pkf_inj (okd_id h a3 a4) (gL_okd h (c := tl N t) (fun j j0 j1 => ok.2 j j0 (by omega))) (by omega) (by omega) (by omega) (by omega)).mpr ⟨rfl, fun j j0 j1 => ?_⟩
    rw [show (0 : Int) + j = j by omega]
    show ei (BS N) (bs N (k + j)) = ei (BS N) (uB N L j)
    rw [a6 j j0 (by omega)]
  · intro ⟨ok, e⟩
    have e' : pkf (idb N) (mk N x) (ml N x) = pkf (gL N L) 0 L.length := by rw [← e, ← x2]; rfl
    have k := (pkf_inj (okd_id h bd.1 bd.2.2.2.1) (gL_okd h (c := L.length) ok.2) (by omega) (by omega) bd.2.2.1 (by have := ok.1; omega)).mp e'
    refine ⟨t0, t1, by omega, mk N x, bd.1, by omega, by rw [lt]; exact x2, fun j j0 j1 => ?_⟩
    have q := k.2 j j0 (by omega)
    rw [show (0 : Int) + j = j by omega] at q
    obtain ⟨i, i0, i1, i2⟩ := inB j (ok.2 j j0 j1)
    have q' : ei (BS N) (bs N (mk N x + j)) = ei (BS N) (uB N L j) := q
    exact ((ei_inj (BS_b h) ⟨mk N x + j, by omega, by omega, rfl⟩ ⟨i, i0, i1, i2⟩).mp q').symm
/-- the class finds -/
theorem c_findQ {Q : Int32 → zM → Prop} {m : zM} (hI : IVN C w m N) (H : ∀ m1 m' v T n, IVN C w m1 N → DC m1 N → tpM m1 T n → fr [4, 8] m1 m' → iq m' 4 1 = 0 → FQ N (wl T n 601 0) v → Q (J v) m') : cI (d + 10) 131 [.ref 3] w m Q := by
  have hb := hI.zT
  refine S_T_find (c_Ldraw (d := d + 1) hI (fun m1 hI1 _ hd _ _ => ?_))
  obtain ⟨T, n, hc, hm⟩ := hI1.2.1
  have hT := hI1.2.2.2.2.1
  have hM := Mn_b hT
  have hZ := Zn_b hT
  obtain ⟨n0, n6, c4, c5, c6⟩ := id hc
  have H' : ∀ m' v, fr [4, 8] m1 m' → iq m' 4 1 = 0 → FQ N (wl T n 601 0) v → Q (J v) m' := fun m' v f e h => H m1 m' v T n hI1 hd hm f e h
  have fin0 : ∀ m2, fr [8] m1 m2 → (∀ L, wl T n 601 0 = some L → ¬ okL N L) → Q (J (-1)) (sq m2 4 1 0) := fun m2 f2 g => H' _ _ ((f2.mo (by simp)).si (by simp) _ _) (iq_eq (by unfold r32; omega)) (Or.inr ⟨rfl, fun L t e q => g L e ((EQT_gL hT q.1 q.2.1).mp q).1⟩)
  refine S_T_readRow (c_begin8 (fun m2 f2 e1 _ _ => ?_))
  have hc2 : tpC m2 T n := ⟨n0, n6, (f2.i (by simp) 1).trans c4, fun j j0 j1 => (f2.i (by simp) j).trans (c5 j j0 j1), c6⟩
  refine c_next (d := d + 5) hc2 e1 ⟨by omega, by omega⟩ (fun m3 f3 h8 => ?_)
  have f4 : fr [8] m1 m3 := f2.tr (fun c hc => f3.1 c (by simp at hc; exact hc))
  simp only [j_lit, jl_lit]
  have h0 : pkf (fun _ => (0 : Int)) 0 ((0 : Nat) : Int) = 0 := pkf_0 _ _
  have := c_rr (d := d + 4) (w := w) (m0 := m1) (T := T) (n := n) (N := N) (C := C) (Q := fun v2 m2 => ((¬ v2 = JL 0 → cI (d + 9) 91 [.ref 237, .long v2] w (zI m2 4 1 (J 0)) (fun v3 m3 => Q v3 m3)) ∧ (v2 = JL 0 → Q (J (-1)) (zI m2 4 1 (J 0))))) hb hT hd.1 hc (fun m2 L f2 e ok => ?_) (fun m2 f2 g => ?_) 601 0 0 (fun _ => 0) m3 (by omega) (by omega) (by omega) (by omega) (by omega) f4 h8 (fun L e => ⟨by omega, by rw [List.drop_zero]; exact e, fun j _ _ => by omega⟩) (fun e => e) (fun j _ _ => by omega)
  · rw [h0] at this
    exact this
  · have okd' := gL_okd hT (L := L) (c := L.length) ok.2
    have hbd := pkf_bd okd'
    have hd2 : DT0 (sq m2 4 1 0) N := (hd.frm ((f2.mo (by simp) : fr [4, 8] m1 m2).si (by simp) _ _) (by intro c hc; simp at hc; omega)).2.2.1
    have ff : fr [4, 8] m1 (sq m2 4 1 0) := (f2.mo (by simp)).si (by simp) _ _
    have e4 : iq (sq m2 4 1 0) 4 1 = 0 := iq_eq (by unfold r32; omega)
    rw [j_wr, j_nc.2.1]
    simp (disch := first | (unfold r64; omega) | omega) only [JL_eq]
    refine ⟨fun q => c_placeOf (d := d + 6) hT hd2 (by unfold r64; omega) (fun g => H' _ _ ff e4 (Or.inr ⟨rfl, fun L' t e' q2 => ?_⟩)) (fun t t0 t1 g => H' _ _ ff e4 (Or.inl ⟨L, e, (EQT_gL hT t0 t1).mpr ⟨ok, g⟩⟩)), fun q => H' _ _ ff e4 (Or.inr ⟨rfl, fun L' t e' q2 => ?_⟩)⟩
    · rw [e] at e'
      have eL : L = L' := Option.some.inj e'
      rw [← eL] at q2
      exact g t q2.1 q2.2.1 ((EQT_gL hT q2.1 q2.2.1).mp q2).2
    · rw [e] at e'
      have eL : L = L' := Option.some.inj e'
      rw [← eL] at q2
      have e2 := ((EQT_gL hT q2.1 q2.2.1).mp q2).2
      have l1 := q2.2.2.1
      have tb := tl_b hT q2.1 q2.2.1
      have e3 : pkf (gL N L) 0 L.length = pkf (gL N L) 0 0 := by rw [q, pkf_0]
      have := (pkf_inj okd' (fun j _ _ => by omega) (by omega) (by omega) (by have := ok.1; omega) (by omega)).mp e3
      omega
  · refine ⟨fun q => absurd rfl q, fun _ => ?_⟩
    rw [j_wr, j_nc.2.1]
    exact fin0 m2 f2 g
end FND
