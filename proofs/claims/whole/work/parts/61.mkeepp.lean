/-! the reference keeps the pattern in its row -/
def kk (N : Int → Int) (z : Nat) (G : Nat → Int) (F : Nat → Nat) (k : Nat) : Int → Int := fun y => if 1883 ≤ y ∧ y < 1883 + k then (F (y - 1883).toNat : Nat) else if 1871 ≤ y ∧ y < 1871 + k then G (y - 1871).toNat else if y = 1870 then (z : Int) else N y
def kp (N : Int → Int) (z : Nat) (G : Nat → Int) (F : Nat → Nat) (f l e : Int) : Int → Int := fun y => if y = 1897 then e else if y = 1896 then l else if y = 1895 then f else kk N z G F z y
section KPT
variable {d : Nat} {w : Nat × Nat × Nat}
theorem c_keepp_l {Q : zM → Prop} {N : Int → Int} {z : Nat} {G : Nat → Int} {F : Nat → Nat} {f l e : Int} (hz : z ≤ 12) (he : 0 ≤ e ∧ e ≤ 1) (hG : ∀ i, i < z → r32 (G i)) (hF : ∀ i, i < z → F i < 4096) : ∀ (j k : Nat) (m : zM), k + j = z → iq m 261 15 = z → iq m 261 17 = f → iq m 261 18 = l → iq m 261 19 = e → (∀ i : Nat, i < z → iq m 266 (i : Int) = G i ∧ iq m 267 (i : Int) = (F i : Nat)) → rowM m (kk N z G F k) →
    (∀ m', m'.1 = m.1 → gq m m' → rowM m' (kp N z G F f l e) → Q m') → W_M_keepsPattern_9 d (J (k : Int)) w m Q := by
  intro j
  induction j with
  | zero =>
    intro k m hk h15 h17 h18 h19 hI hR H
    have kz : k = z := by omega
    have hfr : r32 f := by rw [← h17]; exact iq_r _ _ _
    have hlr : r32 l := by rw [← h18]; exact iq_r _ _ _
    have hf64 : r64 f := r64_32 hfr
    have hl64 : r64 l := r64_32 hlr
    refine S_M_keepsPattern_9 ?_
    simp (disch := first | exact hfr | exact hlr | (unfold r32; omega) | omega) only [j_lit, J_le, j_rd, j_nc, h15, h17, h18, h19, vp_J, J_cl, jl_wr, sl_tn, J_64]
    refine ⟨fun _ => ⟨by omega, by omega, S_M_one ?_⟩, fun q => by omega⟩
    have fin : Q (sl (sl (sl m 262 1895 f) 262 1896 l) 262 1897 e) := by
      refine H _ rfl ((((gq.rf m).sl _ _).sl _ _).sl _ _) ?_
      refine rowM.gs (N := fun y => if y = 1896 then l else if y = 1895 then f else kk N z G F z y) ?_ (by omega) (by unfold r64; omega) (fun y _ _ => rfl)
      refine rowM.gs (N := fun y => if y = 1895 then f else kk N z G F z y) ?_ (by omega) hl64 (fun y _ _ => rfl)
      rw [kz] at hR
      exact hR.gs (by omega) hf64 (fun y _ _ => rfl)
    simp (disch := first | (unfold r32; omega) | omega) only [j_lit, J_eq]
    refine ⟨fun q => ?_, fun q => ?_⟩
    · simp (disch := first | (unfold r32; omega) | omega) only [vp_J, J_cl, jl_wr, sl_tn, J_64]
      rw [q] at fin
      exact ⟨by omega, fin⟩
    · simp (disch := first | (unfold r32; omega) | omega) only [vp_J, J_cl, jl_wr, sl_tn, J_64]
      rw [show e = 1 by omega] at fin
      exact ⟨by omega, fin⟩
  | succ j ih =>
    intro k m hk h15 h17 h18 h19 hI hR H
    obtain ⟨hg, hf⟩ := hI k (by omega)
    have hgr := hG k (by omega)
    have hfl := hF k (by omega)
    have g64 : r64 (G k) := r64_32 hgr
    refine S_M_keepsPattern_9 ?_
    simp (disch := first | exact hgr | (unfold r32; omega) | omega) only [j_lit, J_le, j_rd, iq_tn, j_nc, h15, vp_J, J_cl, jl_wr, sl_tn, j_ops, hg, hf, J_64]
    refine ⟨fun q => by omega, fun _ => ⟨by omega, by omega, by omega, by omega, ?_⟩⟩
    have fq : gq m (sl (sl m 262 (1871 + (k : Int)) (G k)) 262 (1883 + (k : Int)) ((F k : Nat) : Int)) := ((gq.rf m).sl _ _).sl _ _
    have := ih (k + 1) (sl (sl m 262 (1871 + (k : Int)) (G k)) 262 (1883 + (k : Int)) ((F k : Nat) : Int)) (by omega) h15 h17 h18 h19 hI ?_ (fun m' f1 f2 f3 => H m' f1 (fq.tr f2) f3)
    · rw [show (((k + 1 : Nat) : Nat) : Int) = (k : Int) + 1 by omega] at this
      exact this
    · refine rowM.gs (N := fun y => if y = 1871 + (k : Int) then G k else kk N z G F k y) ?_ (by omega) (by unfold r64; omega) (fun y y0 y1 => ?_)
      · exact hR.gs (by omega) g64 (fun y _ _ => rfl)
      · unfold kk
        by_cases a : y = 1883 + k
        · rw [if_pos a, if_pos (by omega), show (y - 1883).toNat = k by omega]
        · rw [if_neg a]
          by_cases b : y = 1871 + k
          · rw [if_pos b, if_neg (by omega), if_pos (by omega), show (y - 1871).toNat = k by omega]
          · rw [if_neg b]
            by_cases c : 1883 ≤ y ∧ y < 1883 + k
            · rw [if_pos c, if_pos (by omega)]
            · rw [if_neg c, if_neg (by omega)]
              by_cases c2 : 1871 ≤ y ∧ y < 1871 + k
              · rw [if_pos c2, if_pos (by omega)]
              · rw [if_neg c2, if_neg (by omega)]
theorem c_keepsPattern {Q : zM → Prop} {m : zM} {N : Int → Int} {z : Nat} {G : Nat → Int} {F : Nat → Nat} {f l e : Int} (hz : z ≤ 12) (he : 0 ≤ e ∧ e ≤ 1) (hG : ∀ i, i < z → r32 (G i)) (hF : ∀ i, i < z → F i < 4096) (h15 : iq m 261 15 = z) (h17 : iq m 261 17 = f) (h18 : iq m 261 18 = l) (h19 : iq m 261 19 = e) (hI : ∀ i : Nat, i < z → iq m 266 (i : Int) = G i ∧ iq m 267 (i : Int) = (F i : Nat)) (hR : rowM m N)
    (H : ∀ m', m'.1 = m.1 → gq m m' → rowM m' (kp N z G F f l e) → Q m') : cV (d + 1) 217 [.ref 261] w m Q := by
  refine S_M_keepsPattern ?_
  simp (disch := first | (unfold r32; omega) | omega) only [j_lit, j_rd, j_nc, h15, vp_J, J_cl, jl_wr, sl_tn, J_64]
  have fq : gq m (sl m 262 1870 (z : Int)) := (gq.rf m).sl _ _
  refine ⟨by omega, c_keepp_l hz he hG hF z 0 _ (by omega) h15 h17 h18 h19 hI ?_ (fun m' f1 f2 f3 => H m' f1 (fq.tr f2) f3)⟩
  refine hR.gs (by omega) (by unfold r64; omega) (fun y _ _ => ?_)
  unfold kk
  rw [if_neg (by omega), if_neg (by omega)]
end KPT
