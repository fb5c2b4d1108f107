/-! words on the slates -/
def sp (l : List Int) : List Int := l.map (· + 96)
theorem sp_len (l : List Int) : (sp l).length = l.length := List.length_map ..
theorem sy_sz {ar ob : Nat} {f : Int} {m : zM} {x : Int} (hf : 0 ≤ f) (h : r32 (iq m ob f + 1)) : iq (sy ar ob f m x) ob f = iq m ob f + 1 := by
  unfold sy
  rw [iq_sq hf hf h, if_pos ⟨rfl, rfl⟩]
section SL
variable {d : Nat} {w : Nat × Nat × Nat} {m : zM} {a n : Nat}
theorem c_says {Q : zM → Prop} {x : Int} (h : 0 ≤ iq m 261 54 ∧ iq m 261 54 < 64) (H : Q (sy 294 261 54 m x)) : cV d 263 [.ref 261, .int (J x)] w m Q := by
  refine S_M_says ?_
  simp (disch := first | exact iq_r _ _ _ | (unfold r32; omega) | omega) only [j_lit, j_rd, j_nc, vp_J, J_cl, j_wr, sq_tn, iq_tn, j_ops]
  exact ⟨by omega, H⟩
theorem c_saysWord_l {Q : zM → Prop} : ∀ (l : List Int) (m : zM), wd l → 0 ≤ iq m 261 54 → iq m 261 54 + l.length ≤ 64 → Q (sys 294 261 54 m (sp l)) → W_M_saysWord_2 d (JL (eM l)) w m Q := by
  intro l
  induction l with
  | nil =>
    intro m _ _ _ H
    exact S_M_saysWord_2 ⟨fun _ => H, fun q => absurd rfl q⟩
  | cons x r ih =>
    intro m hl h0 h1 H
    obtain ⟨s1, s2, s3⟩ := eM_shift hl
    have hp := eM_pos hl (by simp)
    have hb := eM_bd hl
    simp only [List.length_cons] at h1
    have hx := hl.2 x List.mem_cons_self
    refine S_M_saysWord_2 ?_
    have e9 : (9 : Int32) = J ((9 : Nat) : Int) := rfl
    rw [e9]
    simp (disch := first | (unfold r64; omega) | omega) only [jl_lit, jl_ops.1, jl_ops.2.2.1, JL_eq, JL_mod, s1]
    refine ⟨fun q => by omega, fun q => ?_⟩
    refine c_power (by decide) ⟨?_, ?_⟩
    · rw [show JL (27 ^ 9) = JL 7625597484987 from rfl, JL_eq (by unfold r64; omega) (by unfold r64; omega)]
      omega
    · rw [show JL (27 ^ 9) = JL 7625597484987 from rfl, JL_div hb.1 (by unfold r64; omega) (by omega) (by unfold r64; omega), s2, JL_32, show (96 : Int32) = J 96 from rfl, j_ops.1]
      refine c_says (by omega) ⟨by decide, ?_⟩
      have e := sy_sz (ar := 294) (ob := 261) (f := 54) (m := m) (x := x + 96) (by omega) (by unfold r32; omega)
      exact ih _ s3 (by omega) (by omega) H
theorem c_saysWord {Q : zM → Prop} {l : List Int} (hl : wd l) (h0 : 0 ≤ iq m 261 54) (h1 : iq m 261 54 + l.length ≤ 64) (H : Q (sys 294 261 54 m (sp l))) : cV (d + 1) 264 [.ref 261, .long (JL (eM l))] w m Q :=
  S_M_saysWord (c_saysWord_l l m hl h0 h1 H)
theorem c_addWord_l {Q : zM → Prop} {l : List Int} (ha : zBy w a n) (hn : n < 100000) (hl : wd l) : ∀ (k : Nat) (z : Nat) (m : zM), z + k = l.length → 0 ≤ iq m a 1 → iq m a 1 + k ≤ n → Q (sys (a + 1) a 1 m (sp (l.drop z))) → W_Bytes_addWord_5 (d + 1) a (JL (eC l)) (J l.length) (J z) w m Q := by
  have h10 := hl.1
  intro k
  induction k with
  | zero =>
    intro z m hz h0 h1 H
    refine S_Bytes_addWord_5 ha ?_
    simp (disch := first | (unfold r32; omega) | omega) only [j_lit, J_le]
    rw [List.drop_of_length_le (by omega)] at H
    exact ⟨fun _ => H, fun q => by omega⟩
  | succ k ih =>
    intro z m hz h0 h1 H
    refine S_Bytes_addWord_5 ha ?_
    simp (disch := first | (unfold r32; omega) | omega) only [j_lit, J_le]
    refine ⟨fun q => by omega, fun _ => ⟨fun q => by omega, fun _ => c_letterAt hl (by omega) (by unfold r32; omega) ?_⟩⟩
    have hi : z < l.length := by omega
    have hx := hl.2 _ (List.getElem_mem hi)
    have eg : l.getD z 0 = l[z] := by rw [List.getD_eq_getElem?_getD, List.getElem?_eq_getElem hi]; rfl
    simp only [Int.toNat_natCast, j_ops, eg]
    refine c_add ha hn (by omega) ?_
    have e := sy_sz (ar := a + 1) (ob := a) (f := 1) (m := m) (x := (96 + l[z]) % 256) (by omega) (by unfold r32; omega)
    refine ih (z + 1) _ (by omega) (by omega) (by omega) ?_
    rw [List.drop_eq_getElem_cons hi] at H
    have e2 : (96 + l[z]) % 256 = l[z] + 96 := by omega
    rw [e2]
    exact H
theorem c_addWord {Q : zM → Prop} {l : List Int} (ha : zBy w a n) (hn : n < 100000) (hl : wd l) (h0 : 0 ≤ iq m a 1) (h1 : iq m a 1 + l.length ≤ n) (H : Q (sys (a + 1) a 1 m (sp l))) : cV (d + 3) 6 [.ref a, .long (JL (eC l))] w m Q :=
  S_Bytes_addWord (c_lettersOf hl (c_addWord_l (d := d + 1) ha hn hl l.length 0 m (by omega) h0 h1 H))
theorem c_byteAt {Q : Int32 → zM → Prop} {z : Int} (ha : zBy w a n) (hn : n < 100000) (hz : r32 z) (h1 : iq m a 1 ≤ n) (H : Q (J (if 0 ≤ z ∧ z < iq m a 1 then iq m (a + 1) z else -1)) m) : cI d 7 [.ref a, .int (J z)] w m Q := by
  refine S_Bytes_byteAt ha ?_
  have hz2 := hz
  unfold r32 at hz2
  simp (disch := first | exact iq_r _ _ _ | exact hz | (unfold r32; omega) | omega) only [j_lit, ofn_J, j_rd, j_nc, J_lt, J_le, vp_J, J_cl, iq_tn]
  refine ⟨fun q => ?_, fun q => ⟨fun q2 => ?_, fun q2 => ⟨fun q3 => ⟨by omega, ?_⟩, fun q3 => by omega⟩⟩⟩
  · rw [if_neg (by omega)] at H; exact H
  · rw [if_neg (by omega)] at H; exact H
  · rw [if_pos (by omega)] at H; exact H
end SL
