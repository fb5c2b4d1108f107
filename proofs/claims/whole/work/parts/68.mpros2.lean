/-! the reference reads words and stops: with a fault too the row is known -/
theorem rowM.g8 {m m' : zM} {N : Int → Int} (h : rowM m N) (f : g8 m m') : rowM m' N := fun k k0 k1 => by
  rw [← h k k0 k1]
  unfold lq
  rw [(f.1 262 (by omega)).2]
theorem DX_low {T : Int → Int} {n W S p k s : Int} {N N' : Int → Int} {x y k' : Int} (h : DX T n W S p k s N x y k' N') (hk : 0 ≤ k) : ∀ z, z < W → z < S → N' z = N z := by
  refine h (fun p k s N x y k' N' => 0 ≤ k → ∀ z, z < W → z < S → N' z = N z) ⟨?_, ?_, ?_, ?_, ?_⟩ hk
  · intro p k s N _ _ z _ _; rfl
  · intro p k s k' N N' x y _ ih hk z a b; exact ih hk z a b
  · intro p k s N _ _ _ _ z _ _; rfl
  · intro p k s N _ _ _ z _ _; rfl
  · intro p k s k' N N' x y _ _ ih hk z a b
    rw [ih (by omega) z a b]
    unfold padr
    rw [if_neg (by omega), if_neg (by omega)]
section MPR
variable {d : Nat} {w : Nat × Nat × Nat} {T : Int → Int} {n W S : Int}
theorem c_mprose0r {Q : Int32 → zM → Prop} {m : zM} {p k s : Int} {N : Int → Int} (hW : 0 ≤ W ∧ W + 240 ≤ S ∧ S + 240 ≤ 1906) (ht : tpM m T n) (hm : iq m 261 6 = p) (h7 : iq m 261 7 = 0) (hp : 0 ≤ p ∧ p ≤ n) (hN : rowM m N) (hk : 0 ≤ k ∧ k ≤ 240) (hs : 0 ≤ s ∧ s ≤ p)
    (H0 : ∀ m', tS T n p = -1 → gq m m' → rowM m' N → Q (J k) m')
    (H1 : ∀ m', tS T n p = 46 → gq m m' → rowM m' N → iq m' 261 6 = tB T n p → W_M_readWords_4 (d + 2) (J W) (J S) (J k) (J (s + 1)) w m' Q)
    (H2 : ∀ m', tS T n p ≠ -1 → tS T n p ≠ 46 → tS T n p ≠ -2 → gf m m' → rowM m' N → iq m' 261 7 = 1 → iq m' 261 8 = tP T n p → Q (J (-1)) m')
    (H3 : ∀ m', tS T n p = -2 → k = 240 → gf m m' → rowM m' N → iq m' 261 7 = 2 → iq m' 261 8 = tP T n p → Q (J (-1)) m')
    (H4 : ∀ m', tS T n p = -2 → k ≠ 240 → gq m m' → rowM m' (padr N W S k (eM (tL T n p)) s) → iq m' 261 6 = tB T n p → W_M_readWords_4 (d + 2) (J W) (J S) (J (k + 1)) (J s) w m' Q) : W_M_readWords_4 (d + 2) (J W) (J S) (J k) (J s) w m Q := by
  have hn := ht.2.1
  have hr := tC_r (n := n) (p := p) ht.2.2.2.2
  have hbd := tok_bd (T := T) hp.2
  have e1 := tC_1 (n := n) (p := p) ht.2.2.2.2 (c := -1) (by omega) (by omega)
  have e2 := tC_1 (n := n) (p := p) ht.2.2.2.2 (c := 46) (by omega) (by omega)
  refine S_M_readWords_4 (c_see ht hm hp (fun m1 f1 f1l f3 f4 => ?_))
  simp (disch := first | (unfold r32; omega) | omega) only [j_lit, J_eq, j_ops]
  refine ⟨fun q => H0 m1 (e1.mp q) f1.gq (hN.g6 f1), fun q => ?_⟩
  have q' : tS T n p ≠ -1 := fun z => q (e1.mpr z)
  refine c_see' (ht.g6 f1) (Or.inr f4) hp (fun m2 f5 f5l f6 f7 => ?_)
  have f12 := f1.tr f5
  have ht2 := ht.g6 f12
  have h72 : iq m2 261 7 = 0 := by rw [f12.2.1 7 (by omega) (by omega) (by omega), h7]
  simp (disch := first | (unfold r32; omega) | omega) only [J_eq, j_rd, j_nc, j_wr, f7, j_ops]
  refine ⟨fun q2 => ?_, fun q2 => ?_⟩
  · have q2' : tS T n p ≠ 46 := fun z => q2 (e2.mpr z)
    refine c_readWord' ht2 (Or.inr f7) h72 hp (fun m3 a1 g1 g2 g3 g4 => ?_) (fun m3 a1 g1 g2 g3 => ?_)
    · have hwd := (tL_wd hp.2 a1 ht.2.2.2.2).1
      have hb := eM_bd hwd
      have f13 := f12.tr g1
      have hN3 := hN.g6 f13
      have h73 : iq m3 261 7 = 0 := by rw [g1.2.1 7 (by omega) (by omega) (by omega), h72]
      simp (disch := first | (unfold r32; omega) | omega) only [J_eq, j_rd, jl_rd, j_nc, g2, g4, j_ops, vp_J, J_cl, jl_wr, sl_tn, J_64]
      refine ⟨fun _ => ⟨fun q3 => ⟨by omega, by omega, ?_⟩, fun q3 => ?_⟩, fun z => by omega⟩
      · refine H4 _ a1 q3 ((f13.gq.sl _ _).sl _ _) ?_ g3
        refine rowM.gs (N := fun z => if z = W + k then eM (tL T n p) else N z) ?_ (by omega) (by unfold r64; omega) (fun y _ _ => rfl)
        exact hN3.gs (by omega) (by unfold r64; omega) (fun y _ _ => rfl)
      · refine c_fails h73 (by unfold r32; omega) (by unfold r32; omega) (fun m4 g5 g6 g7 g8 g9 g10 => ?_)
        exact H3 m4 a1 q3 (f13.g8.gf.tr g5.gf) (hN3.g8 g5) g9 g10
    · simp (disch := first | (unfold r32; omega) | omega) only [J_eq]
      exact ⟨fun z => absurd trivial z, fun _ => H2 m3 q' q2' a1 (f12.g8.gf.tr g1.gf) ((hN.g6 f12).g8 g1) g2 g3⟩
  · have e := e2.mp q2
    have et := tB_1 ht.2.2.2.2 e (by omega)
    have g5 : g6 m2 (sq m2 261 6 (tP T n p + 1)) := (g6.rf m2).si (by omega) (by omega) (by unfold r32; omega)
    refine H1 _ e (f12.tr g5).gq (hN.g6 (f12.tr g5)) ?_
    rw [iq_sq (by omega) (by omega) (by unfold r32; omega), if_pos ⟨rfl, rfl⟩, et]
def DXmr (d : Nat) (w : Nat × Nat × Nat) (T : Int → Int) (n W S : Int) (p k s : Int) (N : Int → Int) (x y k' : Int) (N' : Int → Int) : Prop :=
  ∀ (m : zM) (Q : Int32 → zM → Prop), tpM m T n → iq m 261 6 = p → iq m 261 7 = 0 → 0 ≤ p ∧ p ≤ n → rowM m N → 0 ≤ k ∧ k ≤ 240 → 0 ≤ s ∧ s ≤ p →
    (x = 0 → 0 ≤ k' → ∀ m', gq m m' → rowM m' N' → Q (J k') m') → (x ≠ 0 → k' = -1 → ∀ m', gf m m' → rowM m' N' → iq m' 261 7 = x → iq m' 261 8 = y → Q (J (-1)) m') → W_M_readWords_4 (d + 2) (J W) (J S) (J k) (J s) w m Q
theorem c_mproser {p k s x y k' : Int} {N N' : Int → Int} (hW : 0 ≤ W ∧ W + 240 ≤ S ∧ S + 240 ≤ 1906) (h : DX T n W S p k s N x y k' N') : DXmr d w T n W S p k s N x y k' N' := by
  refine h (DXmr d w T n W S) ⟨?_, ?_, ?_, ?_, ?_⟩
  · intro p k s N e m Q ht hm h7 hp hN hk hs HS HF
    exact c_mprose0r hW ht hm h7 hp hN hk hs (fun m' _ f g => HS rfl hk.1 m' f g) (fun m' z => by omega) (fun m' z => absurd e z) (fun m' z => by omega) (fun m' z => by omega)
  · intro p k s k' N N' x y e ih m Q ht hm h7 hp hN hk hs HS HF
    have hbd := tok_bd (T := T) hp.2
    refine c_mprose0r hW ht hm h7 hp hN hk hs (fun m' z => by omega) (fun m' _ f g1 g2 => ?_) (fun m' _ z => absurd e z) (fun m' z => by omega) (fun m' z => by omega)
    exact ih m' Q (ht.gq f) g2 (by rw [f.2.1 7 (by omega) (by omega) (by omega), h7]) (by omega) g1 hk (by have := hbd.2.2.2.2 (by omega); omega) (fun z z2 m2 y1 y2 => HS z z2 m2 (f.tr y1) y2) (fun z z2 m2 y1 y2 y3 y4 => HF z z2 m2 (f.gf.tr y1) y2 y3 y4)
  · intro p k s N e1 e2 e3 m Q ht hm h7 hp hN hk hs HS HF
    exact c_mprose0r hW ht hm h7 hp hN hk hs (fun m' z => absurd z e1) (fun m' z => absurd z e2) (fun m' _ _ _ f g0 g1 g2 => HF (by omega) rfl m' f g0 g1 g2) (fun m' z => absurd z e3) (fun m' z => absurd z e3)
  · intro p k s N e1 e2 m Q ht hm h7 hp hN hk hs HS HF
    exact c_mprose0r hW ht hm h7 hp hN hk hs (fun m' z => by omega) (fun m' z => by omega) (fun m' _ _ z => absurd e1 z) (fun m' _ _ f g0 g1 g2 => HF (by omega) rfl m' f g0 g1 g2) (fun m' _ z => absurd e2 z)
  · intro p k s k' N N' x y e1 e2 ih m Q ht hm h7 hp hN hk hs HS HF
    have hbd := tok_bd (T := T) hp.2
    refine c_mprose0r hW ht hm h7 hp hN hk hs (fun m' z => by omega) (fun m' z => by omega) (fun m' _ _ z => absurd e1 z) (fun m' _ z => absurd z e2) (fun m' _ _ f g1 g2 => ?_)
    exact ih m' Q (ht.gq f) g2 (by rw [f.2.1 7 (by omega) (by omega) (by omega), h7]) (by omega) g1 (by omega) (by omega) (fun z z2 m2 y1 y2 => HS z z2 m2 (f.tr y1) y2) (fun z z2 m2 y1 y2 y3 y4 => HF z z2 m2 (f.gf.tr y1) y2 y3 y4)
theorem c_M_readWordsR {Q : Int32 → zM → Prop} {m : zM} {k x y k' : Int} {N N' : Int → Int} (hW : 0 ≤ W ∧ W + 240 ≤ S ∧ S + 240 ≤ 1906) (h : DX T n W S 0 k 0 N x y k' N') (ht : tpM m T n) (h6 : iq m 261 6 = 0) (h7 : iq m 261 7 = 0) (hN : rowM m N) (hk : 0 ≤ k ∧ k ≤ 240)
    (HS : x = 0 → 0 ≤ k' → ∀ m', gq m m' → rowM m' N' → Q (J k') m') (HF : x ≠ 0 → k' = -1 → ∀ m', gf m m' → rowM m' N' → iq m' 261 7 = x → iq m' 261 8 = y → Q (J (-1)) m') : cI (d + 3) 209 [.ref 261, .int (J W), .int (J S), .int (J k)] w m Q := by
  refine S_M_readWords ?_
  simp only [j_lit]
  exact c_mproser (d := d) (w := w) hW h m Q ht h6 h7 ⟨by omega, ht.1⟩ hN hk ⟨by omega, by omega⟩ HS HF
end MPR
