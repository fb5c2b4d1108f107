/-! the class's pattern: the rows behind a row, the item, all of them together -/
section CPI
variable {w : Nat × Nat × Nat} {T : Int → Int} {n : Int} {a : Nat}
theorem pp_orp {f l e f1 l1 e1 : Nat} (hf : f < 4096) (hl : l < 4096) (he : e < 2) (h1 : f1 < 4096) (h2 : l1 < 4096) (h3 : e1 < 2) : J ((ppk f l e : Nat) : Int) ||| J ((ppk f1 l1 e1 : Nat) : Int) = J ((ppk (f ||| f1) (l ||| l1) (e ||| e1) : Nat) : Int) ∧ e ||| e1 < 2 := by
  have k1 := pp_pk_lt hf hl he
  have k2 := pp_pk_lt h1 h2 h3
  refine ⟨?_, Nat.or_lt_two_pow (n := 1) he h3⟩
  rw [J_or (by omega) (by omega), pp_pk_or hf hl h1 h2]
theorem e600 {p i : Int} (h1 : p ≤ n) (hn : n ≤ 600) (hi : i ≤ p) (q : ¬ i < 600) : tC T n p = -1 := by
  unfold tC
  have := sk_bd (T := T) h1
  rw [if_neg (by omega)]
theorem c_paltF {Q : Int32 → zM → Prop} {m : zM} {D : Nat} {o i v : Int32} {x : Int} (ha : zPt w a) (h5 : iq m 8 5 = x) (hx : x ≠ 0) (H : Q v m) : W_Pattern_readAlt_7 D a o v i w m Q := by
  have hxr : r32 x := by rw [← h5]; exact iq_r _ _ _
  refine S_Pattern_readAlt_7 ha ?_
  simp (disch := first | exact hxr | (unfold r32; omega) | omega) only [j_lit, J_eq, j_rd, j_nc, h5]
  exact ⟨fun _ => H, fun _ => ⟨fun _ => H, fun q => absurd q hx⟩⟩
theorem c_palt {D o j : Nat} (ha : zPt w a) (ha9 : 9 ≤ a) (hR : RowS w a T n (D + 2) o j) (hA : AltS w a T n (D + 3) o j) : AltS w a T n (D + 3) o (j + 1) := by
  intro Q m p i z K F f l e ht h8 h5 h0 h1 hj hi0 hi hE hK hf hl he HS HT HF
  have hn := ht.2.1
  have hr := tC_r (n := n) (p := p) ht.2.2.2.2
  have hbd := nB_bd (T := T) h1
  have stop : tC T n p ≠ 124 → Q (J ((ppk f l e : Nat) : Int)) m := fun q => HS m p z K F f l e (PX.aend q) (by unfold rEnd at hE; omega) (by omega) h1 hf hl he (fp.rf a m) h5 rfl h8 hK
  refine S_Pattern_readAlt_7 ha ?_
  simp (disch := first | (unfold r32; omega) | omega) only [j_lit, J_le, J_eq, j_rd, j_nc, h8.1, h5, j_ops]
  refine ⟨fun q => stop (by rw [e600 h1 hn hi (by omega)]; omega), fun _ => ⟨fun q => absurd trivial q, fun _ => ⟨fun q => stop q, fun q => ?_⟩⟩⟩
  have hlt := hbd.2.2.2.2 (by omega)
  refine c_nextB (p := nB T n p) ht h8.2.2 (by omega) (fun m1 f1 f1l g1 => ?_)
  have hK1 : KF a m1 z K F := hK.mv f1.fr (by simp; omega) (by simp; omega) (by simp; omega)
  refine S_Pattern_readRow ?_
  have i5 : iq m1 8 5 = 0 := by rw [f1.2.1, h5]
  have f01 : fp a m m1 := f1.fr.fp8 ha9
  refine hR _ m1 (nB T n p) 0 z K F 0 0 1 (ht.f8 f1) g1 i5 (by omega) (by omega) (by omega) (by omega) (by omega) hK1 (by omega) (by omega) (by omega) (fun m2 p1 z1 K1 F1 x1 x2 x3 px hE1 b1 b2 b3 b4 b5 ff g5 g6 g8 gK => ?_) (fun m2 p1 z1 K1 F1 x1 x2 x3 c px y1 y2 y3 y4 b1 b2 oc ff g5 g6 => ?_) (fun m2 x y p1 z1 K1 F1 x1 x2 x3 c px hx oc ff g5 g6 => ?_)
  · obtain ⟨po, pe⟩ := pp_orp hf hl he b3 b4 b5
    show W_Pattern_readAlt_7 (D + 3) a _ (J ((ppk f l e : Nat) : Int) ||| J ((ppk x1 x2 x3 : Nat) : Int)) _ w m2 Q
    rw [po]
    have f02 := f01.tr ff
    refine hA Q m2 p1 (i + 1) z1 K1 F1 _ _ _ (ht.fr f02.1 (by simp; omega) (by simp; omega)) g8 g5 (by omega) b2 (by omega) (by omega) (by omega) hE1 gK (pp_or_lt hf b3) (pp_or_lt hl b4) pe (fun m' p' z' K' F' f' l' e' v1 v2 v3 v4 v5 v6 v7 v8 v9 v10 v11 v12 => ?_) (fun m' p' z' K' F' f' l' e' c v1 v2 v3 v4 v5 v6 v7 v8 v9 v10 v11 => ?_) (fun m' x y p' z' K' F' f' l' e' c v1 v2 v3 v4 v5 v6 => ?_)
    · exact HS m' p' z' K' F' f' l' e' (PX.ago q px v1) v2 (by omega) v4 v5 v6 v7 (f02.tr v8) v9 (by rw [v10, g6, f1.2.2]) v11 v12
    · exact HT m' p' z' K' F' f' l' e' c (PX.ago q px v1) v2 v3 v4 v5 (by omega) v7 v8 (f02.tr v9) v10 v11
    · exact HF m' x y p' z' K' F' f' l' e' c (PX.ago q px v1) v2 v3 (f02.tr v4) v5 v6
  · obtain ⟨c1, c2, c3, c4⟩ := oc
    obtain ⟨po, pe⟩ := pp_orp hf hl he c1 c2 c3
    refine c_paltF ha g5 (by omega) ?_
    rw [po]
    exact HT m2 p1 _ _ _ _ _ _ (_, _, _) (PX.ago q px (PX.aend y3)) y1 y2 y3 y4 (by omega) b2 ⟨pp_or_lt hf c1, pp_or_lt hl c2, pe, c4⟩ (f01.tr ff) g5 g6
  · obtain ⟨c1, c2, c3, c4⟩ := oc
    obtain ⟨po, pe⟩ := pp_orp hf hl he c1 c2 c3
    refine c_paltF ha g5 hx ?_
    rw [po]
    exact HF m2 x y _ _ _ _ _ _ _ (_, _, _) (PX.abad q hx px) hx ⟨pp_or_lt hf c1, pp_or_lt hl c2, pe, c4⟩ (f01.tr ff) g5 g6
theorem c_psufF {Q : Int32 → zM → Prop} {m : zM} {D : Nat} {v : Int32} {x : Int} (h5 : iq m 8 5 = x) (hx : x ≠ 0) (H : Q v m) : W_Pattern_readItem_12 D a v w m Q := by
  have hxr : r32 x := by rw [← h5]; exact iq_r _ _ _
  refine S_Pattern_readItem_12 ?_
  simp (disch := first | exact hxr | (unfold r32; omega) | omega) only [j_lit, J_eq, j_rd, j_nc, h5]
  exact ⟨fun q => absurd q hx, fun _ => H⟩
theorem c_pitem {D o j : Nat} (ha : zPt w a) (ha9 : 9 ≤ a) (ho : o ≤ 4) (hR : o ≠ 4 → RowS w a T n (D + 2) (o + 1) j) (hA : o ≠ 4 → AltS w a T n (D + 3) (o + 1) j) : ItemS w a T n (D + 6) o (j + 1) := by
  intro Q m p z K F ht h8 h5 h0 h1 hj hK hc1 HS HT HF
  have hn := ht.2.1
  have hr := tC_r (n := n) (p := p) ht.2.2.2.2
  have hbd := nB_bd (T := T) h1
  have hlt := hbd.2.2.2.2 hc1
  have ok0 : ∀ m', KF a m' z K F → okP a m' (0, 0, 0) := fun m' k => ⟨by decide, by decide, by decide, z, K, F, k⟩
  refine S_Pattern_readItem ha ?_
  simp (disch := first | (unfold r32; omega) | omega) only [j_lit, J_eq, j_rd, j_nc, h8.1]
  refine ⟨fun q => ?_, fun q => ?_⟩
  · refine c_pkind ha ha9 ht h8 h5 ⟨h0, h1⟩ hK q hc1 (fun m1 hat hz f1 f1a g5 g6 g8 gK => ?_) (fun m1 hna f1 g5 g6 => ?_) (fun m1 hat hz f1 g5 g6 => ?_)
    · have hz12 : z < 12 := by have := hK.1; omega
      have f01 : fp a m m1 := ⟨f1, f1a⟩
      refine c_psuf (o := o) ha ha9 (ht.fr f1 (by simp; omega) (by simp; omega)) g8 g5 (by omega) gK (pp_2z hz12) (pp_2z hz12) (by omega) (fun m2 p' F' e' px b1 b2 b3 f2 k5 k6 k8 kK => ?_)
      exact HS m2 p' _ _ _ _ _ _ (PX.ikind hat q hz px) ⟨hat, by omega⟩ (by omega) b2 (pp_2z hz12) (pp_2z hz12) b3 (f01.tr (f2.fp2 ha9)) k5 (by rw [k6, g6]) k8 kK
    · refine c_psufF g5 (by omega) ?_
      exact HT m1 (0, 0, 0) hna (ok0 _ (hK.mv f1 (by simp; omega) (by simp; omega) (by simp; omega))) (f1.fp8 ha9) g5 g6
    · refine c_psufF g5 (by omega) ?_
      exact HF hat m1 2 _ _ _ _ _ _ _ _ (0, 0, 0) (PX.ifull hat q hz) (by omega) (ok0 _ (hK.mv f1 (by simp; omega) (by simp; omega) (by simp; omega))) (f1.fp8 ha9) g5 g6
  · have hat : ato (tC T n p) := Or.inl q
    have hF := HF hat
    refine S_Pattern_readGroup ha ?_
    simp (disch := first | (unfold r32; omega) | omega) only [j_lit, J_lt, j_ops]
    refine ⟨fun q4 => ?_, fun q4 => c_refuse h5 h8.2.1 (by unfold r32; omega) (fun m1 f1 g5 g6 => ?_)⟩
    · have ho4 : o ≠ 4 := by omega
      refine c_nextB (p := nB T n p) ht h8.2.2 (by omega) (fun m1 f1 f1l g1 => ?_)
      have hK1 : KF a m1 z K F := hK.mv f1.fr (by simp; omega) (by simp; omega) (by simp; omega)
      have i5 : iq m1 8 5 = 0 := by rw [f1.2.1, h5]
      have f01 : fp a m m1 := f1.fr.fp8 ha9
      refine S_Pattern_readAlt ha (S_Pattern_readRow ?_)
      have eo : J ((o : Int) + 1) = J (((o + 1 : Nat) : Nat) : Int) := by rw [show (((o + 1 : Nat) : Nat) : Int) = (o : Int) + 1 by omega]
      rw [eo]
      -- with a fault: the sign that is asked for can't count
      have fb : ∀ (m2 : zM) (v : Int32) (x : Int), iq m2 8 5 = x → x ≠ 0 → Q v m2 → cI (D + 4) 66 [.ref 8, .int (J 41)] w m2 (fun v3 m3 => ((v3 = J 0 → W_Pattern_readItem_12 (D + 5) a v w m3 Q) ∧ (¬ v3 = J 0 → cV (D + 4) 64 [.ref 8] w m3 (fun m4 => W_Pattern_readItem_12 (D + 5) a v w m4 Q)))) := by
        intro m2 v x k5 hx G
        refine c_needsF k5 hx (by unfold r32; omega) ⟨fun _ => c_psufF k5 hx G, fun y => absurd rfl y⟩
      refine hR ho4 _ m1 (nB T n p) 0 z K F 0 0 1 (ht.f8 f1) g1 i5 (by omega) (by omega) (by omega) (by omega) (by omega) hK1 (by omega) (by omega) (by omega) (fun m2 p1 z1 K1 F1 x1 x2 x3 px hE1 b1 b2 b3 b4 b5 ff g5 g6 g8 gK => ?_) (fun m2 p1 z1 K1 F1 x1 x2 x3 c px y1 y2 y3 y4 b1 b2 oc ff g5 g6 => ?_) (fun m2 x y p1 z1 K1 F1 x1 x2 x3 c px hx oc ff g5 g6 => ?_)
      · have f02 := f01.tr ff
        have ht2 := ht.fr f02.1 (by simp; omega) (by simp; omega)
        refine hA ho4 _ m2 p1 0 z1 K1 F1 x1 x2 x3 ht2 g8 g5 (by omega) b2 (by omega) (by omega) (by omega) hE1 gK b3 b4 b5 (fun m3 p2 z2 K2 F2 w1 w2 w3 pa v2 v3 v4 v5 v6 v7 v8 v9 v10 v11 v12 => ?_) (fun m3 p2 z2 K2 F2 w1 w2 w3 c pa v2 v3 v4 v5 v6 v7 v8 v9 v10 v11 => ?_) (fun m3 x y p2 z2 K2 F2 w1 w2 w3 c pa v2 v3 v4 v5 v6 => ?_)
        · have f03 := f02.tr v8
          have ht3 := ht.fr f03.1 (by simp; omega) (by simp; omega)
          have hbd2 := nB_bd (T := T) v4
          refine c_needsB ht3 v11 v9 (by unfold r32; omega) (fun e41 => ?_) (fun m4 e41 f4 k5 k6 => ?_)
          · simp (disch := first | (unfold r32; omega) | omega) only [J_eq]
            refine ⟨fun y => by omega, fun _ => ?_⟩
            refine c_nextB (p := nB T n p2) ht3 v11.2.2 (by omega) (fun m4 f4 f4l g4 => ?_)
            have f04 := f03.tr (f4.fr.fp8 ha9)
            refine c_psuf (o := o) ha ha9 (ht.fr f04.1 (by simp; omega) (by simp; omega)) g4 (by rw [f4.2.1, v9]) (by omega) (v12.mv f4.fr (by simp; omega) (by simp; omega) (by simp; omega)) v5 v6 v7 (fun m5 p' F' e' ps u1 u2 u3 u4 u5 u6 u7 u8 => ?_)
            exact HS m5 p' _ _ _ _ _ _ (PX.ig4 q ho4 e41 px pa ps) ⟨hat, by omega⟩ (by omega) u2 v5 v6 u3 (f04.tr (u4.fp2 ha9)) u5 (by rw [u6, f4.2.2, v10, g6, f1.2.2]) u7 u8
          · refine ⟨fun _ => c_psufF k5 (by omega) ?_, fun y => absurd rfl y⟩
            exact hF m4 1 _ _ _ _ _ _ _ _ (_, _, _) (PX.ig3 q ho4 e41 px pa) (by omega) ⟨v5, v6, v7, _, _, _, v12.mv f4 (by simp; omega) (by simp; omega) (by simp; omega)⟩ (f03.tr (f4.fp8 ha9)) k5 k6
        · exact fb m3 _ 1 v10 (by omega) (hF m3 1 _ _ _ _ _ _ _ _ c (PX.ig3 q ho4 v5 px pa) (by omega) v8 (f02.tr v9) v10 v11)
        · exact fb m3 _ x v5 v2 (hF m3 x y _ _ _ _ _ _ _ c (PX.ig2 q ho4 v2 px pa) v2 v3 (f02.tr v4) v5 v6)
      · refine c_paltF ha g5 (by omega) ?_
        exact fb m2 _ 1 g5 (by omega) (hF m2 1 _ _ _ _ _ _ _ _ c (PX.ig3 q ho4 y4 px (PX.aend y3)) (by omega) oc (f01.tr ff) g5 g6)
      · refine c_paltF ha g5 hx ?_
        exact fb m2 _ x g5 hx (hF m2 x y _ _ _ _ _ _ _ c (PX.ig1 q ho4 hx px) hx oc (f01.tr ff) g5 g6)
    · refine c_psufF g5 (by omega) ?_
      exact hF m1 2 _ _ _ _ _ _ _ _ (0, 0, 0) (PX.ideep q (by omega)) (by omega) (ok0 _ (hK.mv f1 (by simp; omega) (by simp; omega) (by simp; omega))) (f1.fp8 ha9) g5 g6
theorem c_pall {d : Nat} (ha : zPt w a) (ha9 : 9 ≤ a) : ∀ (j t o : Nat), o + t = 4 → ItemS w a T n (d + 4 * t + 6) o j ∧ RowS w a T n (d + 4 * t + 6) o j ∧ AltS w a T n (d + 4 * t + 7) o j := by
  intro j
  induction j with
  | zero =>
    intro t o _
    refine ⟨?_, ?_, ?_⟩
    · intro Q m p z K F _ _ _ h0 h1 hj; omega
    · intro Q m p i z K F f l e _ _ _ h0 h1 hj; omega
    · intro Q m p i z K F f l e _ _ _ h0 h1 hj; omega
  | succ j ih =>
    intro t o ho
    obtain ⟨_, r, s⟩ := ih t o ho
    have up : o ≠ 4 → RowS w a T n (d + 4 * t + 2) (o + 1) j ∧ AltS w a T n (d + 4 * t + 3) (o + 1) j := by
      intro h
      have := ih (t - 1) (o + 1) (by omega)
      rw [show d + 4 * (t - 1) + 6 = d + 4 * t + 2 by omega, show d + 4 * (t - 1) + 7 = d + 4 * t + 3 by omega] at this
      exact ⟨this.2.1, this.2.2⟩
    have it := c_pitem (D := d + 4 * t) ha ha9 (by omega) (fun h => (up h).1) (fun h => (up h).2)
    exact ⟨it, c_prow (D := d + 4 * t + 4) ha ha9 it r, c_palt (D := d + 4 * t + 4) ha ha9 r s⟩
end CPI
