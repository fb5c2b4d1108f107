/-! near and around, as sums over the bases -/
theorem lsm_sum {f : Int → Int} {K : Nat} : ∀ l : List Int, (∀ x ∈ l, 0 ≤ x ∧ x < K) → lsm f l = sm (fun x => lct x l * f x) K := by
  intro l
  induction l with
  | nil =>
    intro _
    refine (sm_zero (f := fun x => lct x [] * f x) K (fun x _ _ => ?_)).symm
    show (0 : Int) * f x = 0
    exact Int.zero_mul _
  | cons y l ih =>
    intro h
    have hy := h y (by simp)
    have e1 := ih (fun x hx => h x (by simp [hx]))
    have e2 : sm (fun x => lct x (y :: l) * f x) K = sm (fun x => bi (y = x) * f x + lct x l * f x) K := sm_congr K (fun x _ _ => by
      show (bi (y = x) + lct x l) * f x = bi (y = x) * f x + lct x l * f x
      exact Int.add_mul _ _ _)
    have e3 := sm_add (fun x => bi (y = x) * f x) (fun x => lct x l * f x) K
    have e4 := sm_pick (f := fun x => bi (y = x) * f x) hy.1 K hy.2 (fun k _ _ q => by
      show bi (y = k) * f k = 0
      rw [bi_0 (fun z => q z.symm), Int.zero_mul])
    have e5 : bi (y = y) * f y = f y := by rw [bi_1 rfl, Int.one_mul]
    rw [e2, e3, e4, ← e1]
    show f y + lsm f l = bi (y = y) * f y + lsm f l
    rw [e5]
section NE2
variable {C : Int} {N : Int → Int} {mv : zM} {b : Nat}
theorem nr_tm (h : TR C mv b N) (t : Int) : nr N t = sm (fun x => tm N t x * lk N x) (eK (BS N)).toNat := by
  have hM := Mn_b h
  have hK0 := eK_0 (BS_b h)
  have s1 : nr N t = sm (fun m => sm (fun x => bi (pkm N m = tr N t) * (lct x (sds N m) * lk N x)) (eK (BS N)).toNat) (Mn N).toNat := sm_congr (f := fun m => bi (pkm N m = tr N t) * lsm (lk N) (sds N m)) (g := fun m => sm (fun x => bi (pkm N m = tr N t) * (lct x (sds N m) * lk N x)) (eK (BS N)).toNat) _ (fun m m0 m1 => by
    show bi (pkm N m = tr N t) * lsm (lk N) (sds N m) = sm (fun x => bi (pkm N m = tr N t) * (lct x (sds N m) * lk N x)) (eK (BS N)).toNat
    rw [sm_mul (bi (pkm N m = tr N t)) (fun x => lct x (sds N m) * lk N x)]
    rw [lsm_sum (K := (eK (BS N)).toNat) (sds N m) (fun x hx => by
      have := sds_mem h m0 (by omega) x hx
      omega)])
  rw [s1, sm_swap (fun m x => bi (pkm N m = tr N t) * (lct x (sds N m) * lk N x))]
  refine sm_congr _ (fun x _ _ => ?_)
  have s2 : sm (fun m => bi (pkm N m = tr N t) * (lct x (sds N m) * lk N x)) (Mn N).toNat = sm (fun m => lk N x * (bi (pkm N m = tr N t) * lct x (sds N m))) (Mn N).toNat := sm_congr _ (fun m _ _ => by
    show bi (pkm N m = tr N t) * (lct x (sds N m) * lk N x) = lk N x * (bi (pkm N m = tr N t) * lct x (sds N m))
    rw [← Int.mul_assoc, Int.mul_comm])
  have s3 := sm_mul (lk N x) (fun m => bi (pkm N m = tr N t) * lct x (sds N m)) (Mn N).toNat
  show sm (fun m => bi (pkm N m = tr N t) * (lct x (sds N m) * lk N x)) (Mn N).toNat = tm N t x * lk N x
  rw [s2, s3]
  exact Int.mul_comm _ _
theorem ua_tm (h : TR C mv b N) (t : Int) : ua N t = cnt (fun x => 0 < tm N t x) (eK (BS N)).toNat := cnt_congr _ (fun x _ _ => Ar_tm h t x)
end NE2
section QAO
variable {d : Nat} {w : Nat × Nat × Nat} {C : Int} {N : Int → Int} {mv : zM} {b : Nat}
theorem c_M_aroundOf {Q : Int32 → zM → Prop} {m0 : zM} {t : Int} (h : TR C mv b N) (hR : rowM m0 N) (hD : DMB m0 N) (hM : MRF N m0) (hC : DMC N m0) (ht : 0 ≤ t ∧ t < Zn N) (H : ∀ m, fr [289] m0 m → Q (J (ua N t)) m) : cI (d + 2) 276 [.ref 261, .int (J t)] w m0 Q := by
  have hMb := Mn_b h
  have hBk := BS_k h
  have hW := h.words
  have hK0 := eK_0 (BS_b h)
  refine S_M_aroundOf (c_surrounds (d := d) h hR hD hM hC ht (fun m f h2 => ?_))
  simp only [j_lit]
  have e43 : iq m 261 43 = eK (BS N) := (f.i (by simp) 43).trans hD.2.1
  have key : ∀ (z : Nat) (x : Int), 0 ≤ x → x + z = eK (BS N) → W_M_aroundOf_7 (d + 1) (J (cnt (fun x => 0 < tm N t x) x.toNat)) (J x) w m Q := by
    intro z
    induction z with
    | zero =>
      intro x x0 hz
      have := H m f
      rw [ua_tm h t, show (eK (BS N)).toNat = x.toNat by omega] at this
      refine S_M_aroundOf_7 ?_
      simp (disch := first | (unfold r32; omega) | omega) only [j_lit, j_ops, j_rd, j_nc, e43, J_le]
      exact ⟨fun _ => this, fun q => by omega⟩
    | succ z ih =>
      intro x x0 hz
      have tb : 0 ≤ tm N t x ∧ tm N t x ≤ (Mn N).toNat * 6 := tmk_b h t x (Mn N).toNat
      have e89 := h2 x x0 (by omega)
      refine S_M_aroundOf_7 ?_
      simp (disch := first | (unfold r32; omega) | omega) only [j_lit, j_ops, vp_J, J_cl, iq_tn, j_rd, j_nc, e43, e89, J_le]
      refine ⟨fun q => by omega, fun _ => ⟨by omega, fun q => c_one01 (Or.inl rfl) ?_, fun q => c_one01 (Or.inr rfl) ?_⟩⟩
      · have := ih (x + 1) (by omega) (by omega)
        rw [cnt_z _ x0, bi_0 (by omega)] at this
        rw [j_ops.1]
        exact this
      · have := ih (x + 1) (by omega) (by omega)
        rw [cnt_z _ x0, bi_1 (by omega)] at this
        rw [j_ops.1]
        exact this
  exact key (eK (BS N)).toNat 0 (by omega) (by omega)
end QAO
