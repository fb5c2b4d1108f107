/-! the class reads the words that are the same -/
def fs (b : Nat) (m m' : zM) : Prop := fr [8, b, b + 7, b + 8, b + 9] m m' ∧ ∀ z, 0 ≤ z → z ≠ 8 → iq m' b z = iq m b z
theorem fs.rf (b : Nat) (m : zM) : fs b m m := ⟨fr.rf _ m, fun _ _ _ => rfl⟩
theorem fs.tr {b : Nat} {m m1 m2 : zM} (h : fs b m m1) (g : fs b m1 m2) : fs b m m2 := ⟨h.1.tr g.1, fun z a c => (g.2 z a c).trans (h.2 z a c)⟩
theorem fr.fs {b : Nat} {m m1 : zM} (hb : 9 ≤ b) (h : fr [8] m m1) : fs b m m1 := ⟨h.mo (by simp), fun z _ _ => h.i (by simp; omega) z⟩
theorem fs_8 {b : Nat} (m : zM) (v : Int) (hv : r32 v) : fs b m (sq m b 8 v) := ⟨(fr.rf _ m).si (by simp) 8 v, fun z h0 h8 => by rw [iq_sq (by omega) h0 hv, if_neg (by omega)]⟩
theorem fs_pad {b : Nat} (m : zM) (s x y : Int) : fs b m (pad (b + 7) m s x y) := ⟨(pad_fr s x y).mo (by simp), fun z _ _ => (pad_fr (a := b + 7) (m := m) s x y).i (by simp; omega) z⟩
theorem trS.fr8 {m m' : zM} {b : Nat} {N : Int → Int} (hb : 9 ≤ b) (h : trS m b N) (f : fr [8] m m') : trS m' b N :=
  trS_c h (fun c h1 h2 => f c (by simp; omega)) (f.i (by simp; omega) 8) (fun _ _ _ => rfl)
section CS
variable {d : Nat} {w : Nat × Nat × Nat} {T : Int → Int} {n : Int} {b : Nat}
theorem c_takesSame {Q : Int32 → zM → Prop} {m : zM} {p s : Int} (hb : zT b) (ht : tpC m T n) (h8 : at8 m T n p) (h5 : iq m 8 5 = 0) (hs : iq m b 8 = s) (hs0 : 0 ≤ s ∧ s ≤ 40) (H : tS T n p = -2 → s < 40 → Q (J 1) (sq m b 8 (s + 1))) (H1 : ∀ m', tS T n p ≠ -2 → fr [8] m m' → iq m' 8 5 = 1 → iq m' 8 6 = tP T n p → Q (J 0) m') (H2 : ∀ m', tS T n p = -2 → ¬ s < 40 → fr [8] m m' → iq m' 8 5 = 2 → iq m' 8 6 = tP T n p → Q (J 0) m') : cI (d + 2) 76 [.ref 8, .ref b] w m Q := by
  refine S_Reader_takesSame hb ?_
  simp only [j_lit, j_ops]
  refine c_needs ht h8 h5 (by unfold r32; omega) (fun a1 => ?_) (fun m1 a1 f1 g1 g2 => ?_)
  · simp (disch := first | (unfold r32; omega) | omega) only [J_eq, J_lt, j_rd, j_nc, hs, j_wr, j_ops]
    refine ⟨fun _ => ⟨fun q => H a1 q, fun q => ?_⟩, fun z => by omega⟩
    exact c_refuse h5 h8.2.1 (by unfold r32; omega) (fun m' e1 e2 e3 => H2 m' a1 q e1 e2 e3)
  · simp (disch := first | (unfold r32; omega) | omega) only [J_eq]
    exact ⟨fun z => absurd trivial z, fun _ => H1 m1 a1 f1 g1 g2⟩
theorem c_sameAs {Q : Int64 → zM → Prop} {m : zM} {N : Int → Int} {c r : Int} (hb : zT b) (h : trS m b N) (hw : ww c r) (H : ∀ ca, ww ca (sof N r) → ca = (if 0 ≤ fi (lq m (b + 8)) (iq m (b + 7) 2).toNat c then lq m (b + 9) (fi (lq m (b + 8)) (iq m (b + 7) 2).toNat c) else c) → Q (JL ca) m) : cL (d + 2) 103 [.ref b, .long (JL c)] w m Q := by
  obtain ⟨s1, s2, s3, s4, s5, s6⟩ := h
  have hcr := ww_r hw
  have hf := fi_r (f := lq m (b + 8)) (x := c) s4
  have he := s6 c r hw
  refine S_Told_sameAs hb (c_indexOf (zT_sam hb) (by decide) rfl ⟨s4, by omega⟩ (by unfold r64; omega) ?_)
  show (0 ≤ J (fi (lq m (b + 8)) (iq m (b + 7) 2).toNat c) → _) ∧ (¬ 0 ≤ J (fi (lq m (b + 8)) (iq m (b + 7) 2).toNat c) → _)
  unfold SL at he
  generalize fi (lq m (b + 8)) (iq m (b + 7) 2).toNat c = i at *
  simp (disch := first | (unfold r32; omega) | omega) only [j_lit, J_le]
  refine ⟨fun q => ?_, fun q => ?_⟩
  · refine c_atl (zT_sam hb).2.2.2.2 (by decide) (by unfold r32; omega) (by omega) ?_
    rcases he with ⟨e1, e2⟩ | ⟨e1, v, e2, e3, e4⟩
    · omega
    · refine H _ ?_ (by rw [if_pos q])
      unfold sof
      rw [e2]
      exact e4
  · rcases he with ⟨e1, e2⟩ | ⟨e1, _⟩
    · refine H c ?_ (by rw [if_neg q])
      unfold sof
      rw [e2]
      exact hw
    · exact absurd e1 q
/-- behind takesSame: the pair, if it is new -/
theorem c_tellSame {Q : zM → Prop} {m : zM} {N : Int → Int} {c r ca ra : Int} (hb : zT b) (h : trS m b N) (h40 : N 178 < 40) (hw : ww c r) (ha : ww ca ra) (H : ∀ m', trS m' b (sadd N r ra) → fs b m m' → (∀ z, m'.1 8 z = m.1 8 z) → (∀ z, m'.2 8 z = m.2 8 z) → Q m') : cV (d + 2) 104 [.ref b, .long (JL c), .long (JL ca)] w (sq m b 8 (N 178 + 1)) Q := by
  have hb9 := zT_9 hb
  have h' := h
  obtain ⟨s1, s2, s3, s4, s5, s6⟩ := h'
  have hcr := ww_r hw
  have har := ww_r ha
  have hf := fi_r (f := lq m (b + 8)) (x := c) s4
  have r32' : r32 (N 178 + 1) := by unfold r32; omega
  have k8 : fs b m (sq m b 8 (N 178 + 1)) := fs_8 m _ r32'
  have u1 : ∀ z, (sq m b 8 (N 178 + 1)).1 8 z = m.1 8 z := fun z => by
    show (if 8 = b ∧ z = (8 : Int).toNat then J (N 178 + 1) else m.1 8 z) = m.1 8 z
    rw [if_neg (by omega)]
  have z7 : iq (sq m b 8 (N 178 + 1)) (b + 7) 2 = iq m (b + 7) 2 := by rw [iq_sq (by omega) (by omega) r32', if_neg (by omega)]
  refine S_Told_tellSame hb ?_
  simp (disch := first | (unfold r64; omega) | omega) only [JL_eq]
  refine ⟨fun q => ?_, fun q => c_indexOf (zT_sam hb) (by decide) z7 ⟨s4, by omega⟩ (by unfold r64; omega) ?_⟩
  · have e := (ww_cmp hw ha).2.mp q
    exact H _ (sadd_stay h h40 (fun c' _ _ => Or.inr e.symm)) k8 u1 (fun _ => rfl)
  · show (0 ≤ J (fi (lq m (b + 8)) (iq m (b + 7) 2).toNat c) → _) ∧ (¬ 0 ≤ J (fi (lq m (b + 8)) (iq m (b + 7) 2).toNat c) → _)
    generalize hi : fi (lq m (b + 8)) (iq m (b + 7) 2).toNat c = i at *
    simp (disch := first | (unfold r32; omega) | omega) only [j_lit, J_le]
    refine ⟨fun q2 => ?_, fun q2 => ?_⟩
    · refine H _ (sadd_stay h h40 (fun c' hc' hf' => ?_)) k8 u1 (fun _ => rfl)
      have : c' = c := (ww_cmp hc' hw).2.mpr rfl
      rw [this, hi] at hf'
      omega
    · refine c_padd (zT_sam hb) (by decide) z7 ⟨s4, by omega⟩ (fun _ => ?_) (fun z => by omega)
      have hp := sadd_pair h h40 hw ha q (by rw [hi]; omega)
      refine H _ hp (k8.tr (fs_pad _ _ _ _)) (fun z => ?_) (fun z => ?_)
      · rw [(pad_fr (a := b + 7) (m := sq m b 8 (N 178 + 1)) (iq m (b + 7) 2) c ca 8 (by simp; omega)).1]
        exact u1 z
      · rw [(pad_fr (a := b + 7) (m := sq m b 8 (N 178 + 1)) (iq m (b + 7) 2) c ca 8 (by simp; omega)).2]
        rfl
theorem tpC.fs {m m' : zM} (hb : 9 ≤ b) (h : tpC m T n) (f : fs b m m') : tpC m' T n := h.fr f.1 (by simp; omega) (by simp; omega)
theorem c_sameW {Q : zM → Prop} {ca ra : Int} (hb : zT b) (ha : ww ca ra) : ∀ (j : Nat) (m : zM) (p i : Int) (N : Int → Int), tpC m T n → at8 m T n p → iq m 8 5 = 0 → 0 ≤ p → p ≤ n → n - p < j → 0 ≤ i → i ≤ p → trS m b N →
    (∀ m' x y N', tS T n p ≠ 59 → SX T n (some ra) p N x y N' → x ≠ 0 → fs b m m' → iq m' 8 5 = x → iq m' 8 6 = y → Q m') →
    (∀ m' p' N', ((tS T n p = 59 ∧ p' = tB T n p ∧ N' = N) ∨ (tS T n p ≠ 59 ∧ ∀ x y N2, SX T n none p' N' x y N2 → SX T n (some ra) p N x y N2)) → p < p' → p' ≤ n → fs b m m' → iq m' 8 5 = 0 → iq m' 8 6 = iq m 8 6 → at8 m' T n p' → trS m' b N' → (∀ z, z < 178 ∨ 259 ≤ z → N' z = N z) → Q m') →
    W_Reader_readSameLine_19 (d + 4) b (JL ca) (J i) w m Q := by
  have hb9 := zT_9 hb
  intro j
  induction j with
  | zero => intro m p i N _ _ _ h0 h1 hj; omega
  | succ j ih =>
    intro m p i N ht h8 h5 h0 h1 hj hi0 hi hN HF HS
    have hn := ht.2.1
    have hs := tS_r (n := n) (p := p) ht.2.2.2.2
    have hbd := tok_bd (T := T) h1
    refine S_Reader_readSameLine_19 hb ?_
    simp (disch := first | (unfold r32; omega) | omega) only [j_lit, J_le, J_eq, j_rd, j_nc, h8.1, j_ops]
    refine ⟨fun q => by omega, fun _ => ⟨fun q => ?_, fun q => ?_⟩⟩
    · refine c_passes ht h8 h5 ⟨h0, h1⟩ (by unfold r32; omega) (fun m' e f g => ?_) (fun m' e f g1 g2 => ?_)
      · exact HS m' (tB T n p) N (Or.inl ⟨e, rfl, rfl⟩) (by have := hbd.2.2.2.2 (by omega); omega) hbd.2.2.2.1 (f.fr.fs hb9) (by rw [f.2.1, h5]) f.2.2 g (hN.fr8 hb9 f.fr) (fun _ _ => rfl)
      · exact HF m' 1 _ N e (SX.noword q) (by omega) (f.fs hb9) g1 g2
    · have hw := ww_tok h1 q ht.2.2.2.2
      have h178 := hN.1
      have h178' := hN.2.1
      have hlt := hbd.2.2.2.2 (by omega)
      refine c_takesSame hb ht h8 h5 hN.2.2.1 ⟨h178, h178'⟩ (fun _ q2 => ?_) (fun m' z => absurd q z) (fun m' _ q2 f g1 g2 => ?_)
      · simp (disch := first | (unfold r32; omega) | omega) only [J_eq, jl_rd, j_nc, lq_sq]
        refine ⟨fun _ => ?_, fun z => by omega⟩
        rw [h8.2.2.2 q]
        refine c_tellSame hb hN q2 hw ha (fun m1 t1 f1 u1 u2 => ?_)
        have e81 : m1.1 8 = m.1 8 := funext u1
        have e82 : m1.2 8 = m.2 8 := funext u2
        have h81 : at8 m1 T n p := h8.f8 e81 e82
        have i5 : iq m1 8 5 = 0 := by rw [← h5]; unfold iq; rw [e81]
        have i6 : iq m1 8 6 = iq m 8 6 := by unfold iq; rw [e81]
        have ht1 := ht.fs hb9 f1
        refine c_next (p := tB T n p) ht1 h81.2.2.1 (by omega) (fun m2 f g => ?_)
        have fAll : fs b m m2 := f1.tr (f.fr.fs hb9)
        have so := sadd_o (N := N) (r := eM (tL T n p)) h178 q2 ra
        refine ih m2 (tB T n p) (i + 1) _ (ht1.f8 f) g (by rw [f.2.1, i5]) (by omega) (by omega) (by omega) (by omega) (by omega) (t1.fr8 hb9 f.fr) (fun m' x y N' e1 e2 e3 e4 e5 e6 => ?_) (fun m' p' N' e1 e2 e3 e4 e5 e6 e7 e8 e9 => ?_)
        · exact HF m' x y N' (by omega) (SX.word q (by omega) e1 e2) e3 (fAll.tr e4) e5 e6
        · refine HS m' p' N' (Or.inr ⟨by omega, fun x y N2 z => ?_⟩) (by omega) e3 (fAll.tr e4) e5 (by rw [e6, f.2.2, i6]) e7 e8 (fun z hz => (e9 z hz).trans (so z hz))
          rcases e1 with ⟨a1, a2, a3⟩ | ⟨a1, a2⟩
          · rw [a2, a3] at z
            exact SX.semi q (by omega) a1 z
          · exact SX.word q (by omega) a1 (a2 x y N2 z)
      · simp (disch := first | (unfold r32; omega) | omega) only [J_eq]
        exact ⟨fun z => absurd trivial z, fun _ => HF m' 2 _ N (by omega) (SX.full q (by omega)) (by omega) (f.fs hb9) g1 g2⟩
theorem c_sameLine {Q : zM → Prop} {m : zM} {p : Int} {N : Int → Int} (hb : zT b) (ht : tpC m T n) (h8 : at8 m T n p) (h5 : iq m 8 5 = 0) (hp : 0 ≤ p ∧ p ≤ n) (hN : trS m b N) (hne : tS T n p ≠ -1)
    (HF : ∀ m' x y N', SX T n none p N x y N' → x ≠ 0 → fs b m m' → iq m' 8 5 = x → iq m' 8 6 = y → Q m')
    (HS : ∀ m' p' N', (∀ x y N2, SX T n none p' N' x y N2 → SX T n none p N x y N2) → p < p' → p' ≤ n → fs b m m' → iq m' 8 5 = 0 → iq m' 8 6 = iq m 8 6 → at8 m' T n p' → trS m' b N' → (∀ z, z < 178 ∨ 259 ≤ z → N' z = N z) → Q m') : cV (d + 5) 75 [.ref 8, .ref b] w m Q := by
  have hb9 := zT_9 hb
  have hn := ht.2.1
  have hbd := tok_bd (T := T) hp.2
  have hlt := hbd.2.2.2.2 hne
  have h178 := hN.1
  have h178' := hN.2.1
  refine S_Reader_readSameLine hb (c_takesSame hb ht h8 h5 hN.2.2.1 ⟨h178, h178'⟩ (fun a1 q2 => ?_) (fun m' a1 f g1 g2 => ?_) (fun m' a1 q2 f g1 g2 => ?_))
  · have hw := ww_tok hp.2 a1 ht.2.2.2.2
    simp (disch := first | (unfold r32; omega) | omega) only [j_lit, J_eq, jl_rd, j_nc, lq_sq, j_ops]
    refine ⟨fun _ => ?_, fun z => by omega⟩
    rw [h8.2.2.2 a1]
    have t1 : trS (sq m b 8 (N 178 + 1)) b (sadd N (eM (tL T n p)) 0) := sadd_stay hN q2 (fun _ _ _ => Or.inl rfl)
    have f1 : fs b m (sq m b 8 (N 178 + 1)) := fs_8 m _ (by unfold r32; omega)
    have so := sadd_o (N := N) (r := eM (tL T n p)) h178 q2 0
    have u1 : (sq m b 8 (N 178 + 1)).1 8 = m.1 8 := funext (fun z => by
      show (if 8 = b ∧ z = (8 : Int).toNat then J (N 178 + 1) else m.1 8 z) = m.1 8 z
      rw [if_neg (by omega)])
    have h81 : at8 (sq m b 8 (N 178 + 1)) T n p := h8.f8 u1 rfl
    have z7 : iq (sq m b 8 (N 178 + 1)) (b + 7) 2 = iq m (b + 7) 2 := by rw [iq_sq (by omega) (by omega) (by unfold r32; omega), if_neg (by omega)]
    have esf : sof (sadd N (eM (tL T n p)) 0) (eM (tL T n p)) = sof N (eM (tL T n p)) := by
      unfold sof
      rw [sadd_178, rs_sadd h178 q2]
      cases rs N (N 178).toNat (eM (tL T n p)) with
      | some v => rfl
      | none =>
        show (match (if eM (tL T n p) = eM (tL T n p) ∧ (0 : Int) ≠ 0 ∧ 0 ≠ eM (tL T n p) then some 0 else none : Option Int) with | some v => v | none => eM (tL T n p)) = _
        rw [if_neg (fun z => z.2.1 rfl)]
    refine c_sameAs hb t1 hw (fun ca hca _ => ?_)
    rw [esf] at hca
    have ht1 := ht.fs hb9 f1
    have i5 : iq (sq m b 8 (N 178 + 1)) 8 5 = 0 := by rw [← h5]; unfold iq; rw [u1]
    have i6 : iq (sq m b 8 (N 178 + 1)) 8 6 = iq m 8 6 := by unfold iq; rw [u1]
    refine c_next (p := tB T n p) ht1 h81.2.2.1 (by omega) (fun m2 f g => ?_)
    have fAll : fs b m m2 := f1.tr (f.fr.fs hb9)
    have i52 : iq m2 8 5 = 0 := by rw [f.2.1, i5]
    have ht2 := ht1.f8 f
    refine c_needs ht2 g i52 (by unfold r32; omega) (fun a2 => ?_) (fun m3 a2 f3 g3 g4 => ?_)
    · simp (disch := first | (unfold r32; omega) | omega) only [J_eq]
      refine ⟨fun _ => ?_, fun z => by omega⟩
      refine c_sameW hb hca 601 m2 (tB T n p) 0 _ ht2 g i52 (by omega) (by omega) (by omega) (by omega) (by omega) (t1.fr8 hb9 f.fr) (fun m' x y N' e1 e2 e3 e4 e5 e6 => ?_) (fun m' p' N' e1 e2 e3 e4 e5 e6 e7 e8 e9 => ?_)
      · exact HF m' x y N' (SX.first a1 (by omega) e2) e3 (fAll.tr e4) e5 e6
      · refine HS m' p' N' (fun x y N2 z => ?_) (by omega) e3 (fAll.tr e4) e5 (by rw [e6, f.2.2, i6]) e7 e8 (fun z hz => (e9 z hz).trans (so z hz))
        rcases e1 with ⟨y1, y2, y3⟩ | ⟨y1, y2⟩
        · omega
        · exact SX.first a1 (by omega) (y2 x y N2 z)
    · simp (disch := first | (unfold r32; omega) | omega) only [J_eq]
      exact ⟨fun z => absurd trivial z, fun _ => HF m3 1 _ _ (SX.first a1 (by omega) (SX.noword a2)) (by omega) (fAll.tr (f3.fs hb9)) g3 g4⟩
  · simp (disch := first | (unfold r32; omega) | omega) only [j_lit, J_eq]
    exact ⟨fun z => absurd trivial z, fun _ => HF m' 1 _ N (SX.nofirst hne a1) (by omega) (f.fs hb9) g1 g2⟩
  · simp (disch := first | (unfold r32; omega) | omega) only [j_lit, J_eq]
    exact ⟨fun z => absurd trivial z, fun _ => HF m' 2 _ N (SX.full0 a1 (by omega)) (by omega) (f.fs hb9) g1 g2⟩
end CS
