/-! how large the measures are -/
theorem mul_in {k x K X Y : Int} (k0 : 0 ≤ k) (k1 : k ≤ K) (Y0 : 0 ≤ Y) (X0 : 0 ≤ X) (x0 : -Y ≤ x) (x1 : x ≤ X) : -(K * Y) ≤ k * x ∧ k * x ≤ K * X := by
  have a1 : k * x ≤ k * X := Int.mul_le_mul_of_nonneg_left x1 k0
  have a2 : k * X ≤ K * X := Int.mul_le_mul_of_nonneg_right k1 X0
  have b1 : k * (-Y) ≤ k * x := Int.mul_le_mul_of_nonneg_left x0 k0
  have b2 : k * Y ≤ K * Y := Int.mul_le_mul_of_nonneg_right k1 Y0
  rw [Int.mul_neg] at b1
  omega
theorem mul_pos2 {k x K X : Int} (k0 : 1 ≤ k) (k1 : k ≤ K) (x0 : 1 ≤ x) (x1 : x ≤ X) : 1 ≤ k * x ∧ k * x ≤ K * X := by
  have h := mul_in (k := k) (x := x) (K := K) (X := X) (Y := 0) (by omega) k1 (by omega) (by omega) (by omega) x1
  have p := Int.mul_pos (show 0 < k by omega) (show 0 < x by omega)
  omega
section MBD
variable {C : Int} {N : Int → Int} {mv : zM} {b : Nat}
theorem tkn_ct (h : TR C mv b N) {t : Int} (t0 : 0 ≤ t) (t1 : t < Zn N) : tkn N t + ct N t ≤ Mn N := by
  have hM := Mn_b h
  have hZ := Zn_b h
  have e1 : tkn N t = sm (fun s => sm (fun m => bi (hol N t s) * bi (pkm N m = tr N s)) (Mn N).toNat) (Zn N).toNat := sm_congr (f := fun s => bi (hol N t s) * ct N s) (g := fun s => sm (fun m => bi (hol N t s) * bi (pkm N m = tr N s)) (Mn N).toNat) _ (fun s s0 s1 => (sm_mul (bi (hol N t s)) (fun m => bi (pkm N m = tr N s)) (Mn N).toNat).symm)
  rw [sm_swap (fun s m => bi (hol N t s) * bi (pkm N m = tr N s))] at e1
  have e2 : sm (fun m => sm (fun s => bi (hol N t s) * bi (pkm N m = tr N s)) (Zn N).toNat) (Mn N).toNat = sm (fun m => bi (hol N t (tn N m))) (Mn N).toNat := sm_congr (f := fun m => sm (fun s => bi (hol N t s) * bi (pkm N m = tr N s)) (Zn N).toNat) (g := fun m => bi (hol N t (tn N m))) _ (fun m m0 m1 => by
    have a := tn_in h m0 (by omega)
    show sm (fun s => bi (hol N t s) * bi (pkm N m = tr N s)) (Zn N).toNat = bi (hol N t (tn N m))
    rw [sm_pick (f := fun s => bi (hol N t s) * bi (pkm N m = tr N s)) a.1 _ (by omega) (fun k k0 k1 q => by
      show bi (hol N t k) * bi (pkm N m = tr N k) = 0
      rw [bi_0 (p := pkm N m = tr N k) (fun z => q (tr_inj h k0 (by omega) a.1 a.2.1 (z.symm.trans a.2.2.symm))), Int.mul_zero])]
    show bi (hol N t (tn N m)) * bi (pkm N m = tr N (tn N m)) = bi (hol N t (tn N m))
    rw [bi_1 a.2.2.symm, Int.mul_one])
  have e3 : tkn N t + ct N t = sm (fun m => bi (hol N t (tn N m)) + bi (pkm N m = tr N t)) (Mn N).toNat := by
    rw [sm_add (fun m => bi (hol N t (tn N m))) (fun m => bi (pkm N m = tr N t)), ← e2, ← e1]
    rfl
  have e4 : sm (fun m => bi (hol N t (tn N m)) + bi (pkm N m = tr N t)) (Mn N).toNat ≤ sm (fun _ => (1 : Int)) (Mn N).toNat := sm_le _ (fun m m0 m1 => by
    have a := tn_in h m0 (by omega)
    have c1 := bi_b (hol N t (tn N m))
    have c2 := bi_b (pkm N m = tr N t)
    show bi (hol N t (tn N m)) + bi (pkm N m = tr N t) ≤ 1
    by_cases g : pkm N m = tr N t
    · have ht : tn N m = t := tr_inj h a.1 a.2.1 t0 t1 (a.2.2.trans g)
      rw [bi_0 (p := hol N t (tn N m)) (fun z => by
        have := z.1
        rw [ht] at this
        omega)]
      omega
    · rw [bi_0 g]; omega)
  rw [sm_const] at e4
  rw [e3]
  omega
theorem lo_tkn (h : TR C mv b N) {t : Int} : 0 ≤ lo N t ∧ lo N t ≤ tkn N t := by
  have hZ := Zn_b h
  refine ⟨(cnt_b _ _).1, ?_⟩
  have e : sm (fun s => bi (hol N t s)) (Zn N).toNat ≤ sm (fun s => bi (hol N t s) * ct N s) (Zn N).toNat := sm_le _ (fun s s0 s1 => by
    have c := ct_b h s0 (show s < Zn N by omega)
    show bi (hol N t s) ≤ bi (hol N t s) * ct N s
    by_cases g : hol N t s
    · rw [bi_1 g]; omega
    · rw [bi_0 g]; omega)
  exact e
theorem ms_b (h : TR C mv b N) {t : Int} (t0 : 0 ≤ t) (t1 : t < Zn N) : 0 ≤ lo N t ∧ lo N t ≤ 1199 ∧ 0 ≤ tkn N t ∧ tkn N t ≤ 1199 ∧ (lo N t = 0 → tkn N t = 0) ∧ 0 ≤ gn N t ∧ gn N t ≤ 240 ∧ 1 ≤ wB N t ∧ wB N t ≤ 1199 ∧ -10800 ≤ wA N t ∧ wA N t ≤ 2073600 ∧ 1 ≤ oA N t ∧ oA N t ≤ 57840 ∧ 1 ≤ oB N t ∧ oB N t ≤ 58081 ∧ 0 ≤ nr N t ∧ nr N t ≤ 8640000 ∧ 1 ≤ Zn N ∧ Zn N ≤ 1200 ∧ 0 ≤ N 1069 ∧ N 1069 ≤ 240 ∧ 0 ≤ wW N ∧ wW N ≤ 240 := by
  have hM := Mn_b h
  have hZ := Zn_b h
  have hc := ct_b h t0 t1
  have h1 := tkn_ct h t0 t1
  have h2 := lo_tkn h (t := t)
  have hW := h.words
  have hG := h.2.2.2.2.1
  have g0 := hG.1
  have g1 := hG.2.1
  have gb := cnt_b (fun i => GMs N t i) (N 1069).toNat
  have gb' : 0 ≤ gn N t ∧ gn N t ≤ ((N 1069).toNat : Nat) := gb
  have hl := tl_b h t0 t1
  have hw := (h.2.2.2.2.2.2.1 (tl N t) hl.1 hl.2).2
  have nb : 0 ≤ nr N t ∧ nr N t ≤ (Mn N).toNat * 7200 := nrk_b h t (Mn N).toNat
  have z0 : lo N t = 0 → tkn N t = 0 := fun q => sm_zero (f := fun s => bi (hol N t s) * ct N s) _ (fun s s0 s1 => by
    show bi (hol N t s) * ct N s = 0
    rw [bi_0 (fun z => by
      have := cnt_pos (P := fun s => hol N t s) s0 z (Zn N).toNat (by omega)
      unfold lo at q
      omega), Int.zero_mul])
  have hB : 1 ≤ wB N t ∧ wB N t ≤ 1199 ∧ 0 ≤ ct N t * wB N t ∧ ct N t * wB N t ≤ 230400 := by
    unfold wB
    by_cases q : 1 < lo N t
    · rw [if_pos q]
      have p1 : ct N t * lo N t ≤ ct N t * (1200 - ct N t) := Int.mul_le_mul_of_nonneg_left (by omega) (by omega)
      have p2 : 0 ≤ (240 - ct N t) * (960 - ct N t) := Int.mul_nonneg (by omega) (by omega)
      have p3 : 0 ≤ ct N t * lo N t := Int.mul_nonneg (by omega) (by omega)
      rw [Int.sub_mul, Int.mul_sub, Int.mul_sub] at p2
      rw [Int.mul_sub] at p1
      exact ⟨by omega, by omega, p3, by omega⟩
    · rw [if_neg q]; exact ⟨by omega, by omega, by omega, by omega⟩
  have hA : -10800 ≤ wA N t ∧ wA N t ≤ 2073600 := by
    have := mul_in (k := N (1900 + tl N t)) (x := ct N t * wB N t - tkn N t) (K := 9) (X := 230400) (Y := 1200) hw.1 hw.2 (by omega) (by omega) (by omega) (by omega)
    unfold wA
    omega
  have ho := mul_pos2 (k := ct N t) (x := N 1069 + 1) (K := 240) (X := 241) (by omega) (by omega) (by omega) (by omega)
  have hp := mul_pos2 (k := gn N t + 1) (x := wW N + 1) (K := 241) (X := 241) (by omega) (by omega) (by omega) (by omega)
  have ho' : 1 ≤ oA N t ∧ oA N t ≤ 57840 := by unfold oA; omega
  have hp' : 1 ≤ oB N t ∧ oB N t ≤ 58081 := by unfold oB; omega
  refine ⟨h2.1, by omega, by omega, by omega, z0, gb'.1, by omega, hB.1, hB.2.1, hA.1, hA.2, ho'.1, ho'.2, hp'.1, hp'.2, nb.1, by omega, by omega, by omega, g0, g1, hW.2.1, hW.2.2.1⟩
theorem dcm_b (N : Int → Int) (t : Int) : 0 ≤ dcm N t ∧ dcm N t ≤ 8 := cnt_b _ 8
/-- over and under of a measure -/
theorem mov_b (h : TR C mv b N) {t : Int} (g : Int) (t0 : 0 ≤ t) (t1 : t < Zn N) : -119937024000 ≤ mov N g t ∧ mov N g t ≤ 119937024000 ∧ 1 ≤ mun N g t ∧ mun N g t ≤ 69639119 := by
  obtain ⟨l0, l1, k0, k1, kz, g0, g1, wb0, wb1, wa0, wa1, oa0, oa1, ob0, ob1, n0, n1, z0, z1, _⟩ := ms_b h t0 t1
  have hc := ct_b h t0 t1
  have hd := dcm_b N t
  have hM := Mn_b h
  have hf : 0 ≤ fe N t ∧ fe N t ≤ ((Mn N).toNat : Nat) := cnt_b _ _
  have p1 := mul_in (k := oA N t) (x := wA N t) (K := 57840) (X := 2073600) (Y := 10800) (by omega) oa1 (by omega) (by omega) (by omega) wa1
  rw [Int.mul_comm (oA N t)] at p1
  have p2 := mul_pos2 (k := wB N t) (x := oB N t) (K := 1199) (X := 58081) wb0 wb1 ob0 ob1
  have p3 := mul_in (k := Zn N) (x := 4 * wA N t) (K := 1200) (X := 8294400) (Y := 43200) (by omega) z1 (by omega) (by omega) (by omega) (by omega)
  rw [Int.mul_comm (Zn N)] at p3
  have p4 := mul_in (k := wB N t) (x := nr N t) (K := 1199) (X := 8640000) (Y := 0) (by omega) wb1 (by omega) (by omega) (by omega) n1
  rw [Int.mul_comm (wB N t)] at p4
  have p5 := mul_pos2 (k := 5 * wB N t) (x := Zn N) (K := 5995) (X := 1200) (by omega) (by omega) z0 z1
  unfold mov mun
  by_cases q0 : g = 0
  · rw [if_pos q0, if_pos q0]; omega
  rw [if_neg q0, if_neg q0]
  by_cases q1 : g = 1
  · rw [if_pos q1, if_pos q1]; omega
  rw [if_neg q1, if_neg q1]
  by_cases q2 : g = 2
  · rw [if_pos q2, if_pos q2]; omega
  rw [if_neg q2, if_neg q2]
  by_cases q3 : g = 3
  · rw [if_pos q3, if_pos q3]; omega
  rw [if_neg q3, if_neg q3]
  by_cases q4 : g = 4
  · rw [if_pos q4, if_pos q4]; omega
  rw [if_neg q4, if_neg q4]
  by_cases q5 : g = 5
  · rw [if_pos q5, if_pos q5]; omega
  rw [if_neg q5, if_neg q5]; omega
end MBD
