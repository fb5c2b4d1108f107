/-! any instruction; then the whole -/
/-- the text's charAt -/
def mm_chN : MethodName := ⟨"java/lang/String", "charAt", "(I)C"⟩
def mm_CH (l : Launch) (z : mm_Z) : Prop := ∃ (b : ByteArray) (ml : Nat), ml ≤ 40 ∧ Jvm.Cond.code mm_chN b ml (some .char) ∈ mm_gT ∧ Jvm.Cond.instanceMethod mm_chN ∈ mm_gT ∧ Jvm.Cond.selects "java/lang/String" mm_chN mm_chN ∈ mm_gT ∧ Jvm.Cond.initialized "java/lang/String" ∈ mm_gT ∧
  ∀ (h : mm_H) (i : Int32), vp_in i 7 → Met l mm_chN (.code mm_chN b ml (some .char) :: mm_gT) { frames := 8, cells := 0, slots := 0, locals := 500 } (mm_Pc z [.ref 2, .int i] h) (mm_Qc z (some (.int (mm_chr i.toNatClampNeg))) h) 0 0 (fun q => z.1.2.2.1 ≤ q)
theorem mm_slL (z : mm_Z) : ∀ as : List Value, (lg_sl (as.map (mm_tr z))).length = mm_cs as := by
  intro as
  induction as with
  | nil => rfl
  | cons a r ih =>
    show (lg_sl (mm_tr z a :: r.map (mm_tr z))).length = mm_ca a + mm_cs r
    rw [← ih]
    unfold lg_sl
    rw [List.flatMap_cons, List.length_append]
    congr 1
    cases a <;> rfl
section STEP3
variable {p : Program} {l : Launch} {e : Env} {R : Room} {s : State} {m : MethodId} {args : Array Value} {below : List Frame} {meth : Method} {c : Code} {Q : State → Prop}
variable {z : mm_Z} {mi d n0 m0 : Nat} {F : Nat → mm_Lv → List Value → mm_H → Prop} {G : Nat → List Value → mm_Q → Prop} {Qr : mm_Q}
variable {ip pc : Nat} {L : mm_Lv} {st : List Value} {h : mm_H} {H : Heap} {locs : List Loc} {ls : Array Slot} {cells slots : Nat} {x : List Nat} {v : Value} {aux : List Nat}
theorem mm_rec_o {ks : List Nat} {as : List Value} {P : Prop} (h1 : mm_gd (mm_rec h ks as) P) : ∃ a as', as = .ref a :: as' ∧ mm_kd (hK h a).1 ks ∧ P := by
  unfold mm_rec at h1
  split at h1
  · rename_i a as'
    exact ⟨a, as', rfl, h1.1, h1.2⟩
  · exact h1.1.elim
theorem mm_ckU_k {own C : String} {idx k n pl ps pd pcc pi pz : Nat} {x : MethodName} (hc : mm_ckU own C idx k n x pl ps pd pcc pi pz = true) : k < 293 := by
  unfold mm_ckU at hc
  rw [Bool.and_eq_true] at hc
  simpa using hc.2
theorem mm_n2_o {k n : Nat} (h : mm_n2 k n st = true) : mm_cs (mm_rv (mm_tk n st) []) ≤ mm_ml k := Nat.le_of_ble_eq_true h
/-- the stack at an object's call -/
theorem mm_stackV {n a : Nat} {as : List Value} (hn : mm_n n st = true) (ha : mm_rv (mm_tk n st) [] = .ref a :: as) : st.map (mm_tr z) = (as.map (mm_tr z)).reverse ++ .ref (mm_ad z a) :: (mm_dr n st).map (mm_tr z) ∧ as.length = n - 1 ∧ (((mm_dr n st).map (mm_tr z)).map fun v => v.category).sum ≤ 8 := by
  obtain ⟨e1, e2, e3⟩ := mm_stack (z := z) hn
  rw [ha] at e1 e2
  refine ⟨?_, by simp at e2; omega, e3⟩
  rw [e1, List.map_cons, List.reverse_cons, List.append_assoc]
  rfl
theorem mm_p_static {idx : Nat} (hF : mm_Fr p R s m args meth c z mi d) (hl : lv_has ls (mm_ml mi) (mm_pr z 0 L)) (hRl : mm_Rel z h H) (hlo : ∀ q ∈ locs, z.1.2.2.1 ≤ q.base) (hce : cells + n0 = hN h) (hsl : slots + m0 = hM h) (ck : mm_ck mi ip (.invokestatic idx) pc x v aux = true) (HO : mm_oW (mm_s1 (.invokestatic idx) x v ip L st h) F G ip L h Qr) (K : mm_KN p l e R s m args below meth c Q z mi n0 m0 F) (HG : ∀ (k : Nat) (as : List Value) (P : mm_Q), k < 293 → mm_cs as ≤ mm_ml k → G k as P → (∀ r h1, P r h1 → hN h1 ≤ R.cells + n0 ∧ hM h1 ≤ R.slots + m0) → mm_CO l R z d n0 m0 h k as P) (HB : ∀ (i : Nat) (L : mm_Lv) (st : List Value) (h : mm_H), F i L st h → hN h ≤ R.cells + n0 ∧ hM h ≤ R.slots + m0) : W p l e R s m args below meth c H locs cells slots Q (F0 m pc ls (st.map (mm_tr z))) := by
  obtain ⟨hx, hb, hml, hown, hts, hFN, hini, hfr, hlc, h40⟩ := id hF
  replace ck : mm_ckV mi ip (.invokestatic idx) idx pc x aux = true := ck
  replace HO : mm_oW (mm_cal x ip L st h) F G ip L h Qr := HO
  unfold mm_ckV at ck
  rw [Bool.and_eq_true] at ck
  obtain ⟨c1, c2⟩ := ck
  obtain ⟨hd, hp⟩ := mm_d_dec c1
  split at c2
  · rename_i k n
    simp only [Bool.and_eq_true] at c2
    obtain ⟨⟨⟨-, c2⟩, c3⟩, c4⟩ := c2
    replace HO : mm_oW (if (mm_n n st && mm_n2 k n st) = true then mm_cl2 none k (mm_rv (mm_tk n st) []) (mm_dr n st) else none) F G ip L h Qr := HO
    split at HO
    · rename_i hn
      rw [Bool.and_eq_true] at hn
      obtain ⟨e1, e2, e3⟩ := mm_stack (z := z) hn.1
      rw [e1]
      exact mm_c_st hF hl hRl hlo hce hsl (HG _ _ _ (mm_ckC_o c2 hFN hts).2.2.2.2 (mm_n2_o hn.2) HO (fun _ _ q => HB _ _ _ _ q)) e2 e3 (mm_ckC_o c2 hFN hts) (hts _ (mm_tA_in c3)) (hts _ (mm_tA_in c4)) hd hp K
    · exact HO.elim
  · simp at c2
  · simp at c2
  · simp at c2
  · simp at c2
  · simp at c2
  · simp at c2
  · simp only [Bool.and_eq_true, decide_eq_true_eq] at c2
    obtain ⟨⟨-, c2⟩, c3⟩ := c2
    replace HO : mm_oW (mm_j5 ip L st h) F G ip L h Qr := HO
    unfold mm_j5 at HO
    split at HO
    · rename_i w r
      split at HO
      · rename_i hw
        have hw := Nat.le_of_ble_eq_true hw
        have HF : F (ip + 1) L (.int w.toInt32 :: r) h := HO
        exact vn_f2i hx hb (hml.trans hl.1.symm) hown (hts _ (mm_tA_in c2)) (hts _ mm_nf1) (hts _ mm_nf2) (hts _ mm_nf3) (by omega) (by rw [mm_cs_sum]; omega) hd (K _ _ _ _ _ _ _ _ _ _ HF hp hRl hl hlo hce hsl)
      · exact HO.elim
    · exact HO.elim
  · simp only [Bool.and_eq_true, decide_eq_true_eq] at c2
    obtain ⟨⟨-, c2⟩, c3⟩ := c2
    replace HO : mm_oW (mm_j6 ip L st h) F G ip L h Qr := HO
    unfold mm_j6 at HO
    split at HO
    · rename_i w r
      split at HO
      · rename_i hw
        have hw := Nat.le_of_ble_eq_true hw
        have HF : F (ip + 1) L (.long w.toInt64 :: r) h := HO
        exact vn_d2l hx hb (hml.trans hl.1.symm) hown (hts _ (mm_tA_in c2)) (hts _ mm_nd1) (hts _ mm_nd2) (hts _ mm_nd3) (by omega) (by rw [mm_cs_sum]; omega) hd (K _ _ _ _ _ _ _ _ _ _ HF hp hRl hl hlo hce hsl)
      · exact HO.elim
    · exact HO.elim
  · simp at c2
  · simp at c2
theorem mm_p_virtual {idx : Nat} (hF : mm_Fr p R s m args meth c z mi d) (hl : lv_has ls (mm_ml mi) (mm_pr z 0 L)) (hRl : mm_Rel z h H) (hlo : ∀ q ∈ locs, z.1.2.2.1 ≤ q.base) (hce : cells + n0 = hN h) (hsl : slots + m0 = hM h) (ck : mm_ck mi ip (.invokevirtual idx) pc x v aux = true) (HO : mm_oW (mm_s1 (.invokevirtual idx) x v ip L st h) F G ip L h Qr) (K : mm_KN p l e R s m args below meth c Q z mi n0 m0 F) (HG : ∀ (k : Nat) (as : List Value) (P : mm_Q), k < 293 → mm_cs as ≤ mm_ml k → G k as P → (∀ r h1, P r h1 → hN h1 ≤ R.cells + n0 ∧ hM h1 ≤ R.slots + m0) → mm_CO l R z d n0 m0 h k as P) (hCH : mm_CH l z) (HB : ∀ (i : Nat) (L : mm_Lv) (st : List Value) (h : mm_H), F i L st h → hN h ≤ R.cells + n0 ∧ hM h ≤ R.slots + m0) : W p l e R s m args below meth c H locs cells slots Q (F0 m pc ls (st.map (mm_tr z))) := by
  obtain ⟨hx, hb, hml, hown, hts, hFN, hini, hfr, hlc, h40⟩ := id hF
  replace ck : mm_ckV mi ip (.invokevirtual idx) idx pc x aux = true := ck
  replace HO : mm_oW (mm_cal x ip L st h) F G ip L h Qr := HO
  unfold mm_ckV at ck
  rw [Bool.and_eq_true] at ck
  obtain ⟨c1, c2⟩ := ck
  obtain ⟨hd, hp⟩ := mm_d_dec c1
  split at c2
  · simp at c2
  · rename_i k n ci
    simp only [Bool.and_eq_true] at c2
    obtain ⟨⟨⟨⟨⟨⟨-, c0⟩, c2⟩, c3⟩, c4⟩, c5⟩, c6⟩ := c2
    have c6 : ci < 12 := by simpa using c6
    replace HO : mm_oW (if (mm_n n st && mm_n2 k n st) = true then mm_cl2 (mm_rec h [ci] (mm_rv (mm_tk n st) [])) k (mm_rv (mm_tk n st) []) (mm_dr n st) else none) F G ip L h Qr := HO
    split at HO
    · rename_i hn
      rw [Bool.and_eq_true] at hn
      obtain ⟨a, as, q1, q2, HO⟩ := mm_rec_o HO
      have h2 := mm_n2_o hn.2
      obtain ⟨e1, e2, e3⟩ := mm_stackV (z := z) hn.1 q1
      rw [q1] at HO h2
      rw [e1]
      exact mm_c_vi hF hl hRl hlo hce hsl (HG _ _ _ (mm_ckC_o c2 hFN hts).2.2.2.2 h2 HO (fun _ _ q => HB _ _ _ _ q)) e2 e3 (mm_ckC_o c2 hFN hts) (hts _ (mm_tA_in c3)) (hts _ (mm_tA_in c4)) q2 c6 (hts _ (mm_tA_in c5)) hd hp K
    · exact HO.elim
  · rename_i k n ci
    simp only [Bool.and_eq_true] at c2
    obtain ⟨⟨⟨-, c0⟩, c6⟩, c2⟩ := c2
    have c6 : ci < 12 := by simpa using c6
    replace HO : mm_oW (if (mm_n n st && mm_n2 k n st) = true then mm_cl2 (mm_rec h [ci] (mm_rv (mm_tk n st) [])) k (mm_rv (mm_tk n st) []) (mm_dr n st) else none) F G ip L h Qr := HO
    split at c2
    · split at HO
      · rename_i hn
        rw [Bool.and_eq_true] at hn
        obtain ⟨a, as, q1, q2, HO⟩ := mm_rec_o HO
        have h2 := mm_n2_o hn.2
        obtain ⟨e1, e2, e3⟩ := mm_stackV (z := z) hn.1 q1
        rw [q1] at HO h2
        rw [e1]
        exact mm_c_vu hF hl hRl hlo hce hsl (HG _ _ _ (mm_ckU_k c2) h2 HO (fun _ _ q => HB _ _ _ _ q)) e2 e3 c2 q2 c6 hd hp K
      · exact HO.elim
    · cases c2
  · rename_i k n ci cj
    simp only [Bool.and_eq_true] at c2
    obtain ⟨⟨⟨⟨⟨-, c0⟩, c6⟩, c7⟩, c2⟩, c3⟩ := c2
    have c6 : ci < 12 := by simpa using c6
    have c7 : cj < 12 := by simpa using c7
    replace HO : mm_oW (if (mm_n n st && mm_n2 k n st) = true then mm_cl2 (mm_rec h [ci, cj] (mm_rv (mm_tk n st) [])) k (mm_rv (mm_tk n st) []) (mm_dr n st) else none) F G ip L h Qr := HO
    split at HO
    · rename_i hn
      rw [Bool.and_eq_true] at hn
      obtain ⟨a, as, q1, q2, HO⟩ := mm_rec_o HO
      have h2 := mm_n2_o hn.2
      obtain ⟨e1, e2, e3⟩ := mm_stackV (z := z) hn.1 q1
      rw [q1] at HO h2
      rw [e1]
      have q2 : (hK h a).1 = ci ∨ (hK h a).1 = cj := q2
      rcases q2 with q2 | q2
      · exact mm_c_vu hF hl hRl hlo hce hsl (HG _ _ _ (mm_ckU_k c2) h2 HO (fun _ _ q => HB _ _ _ _ q)) e2 e3 c2 q2 c6 hd hp K
      · exact mm_c_vu hF hl hRl hlo hce hsl (HG _ _ _ (mm_ckU_k c3) h2 HO (fun _ _ q => HB _ _ _ _ q)) e2 e3 c3 q2 c7 hd hp K
    · exact HO.elim
  · rename_i n k1 j1 k2 j2
    simp only [Bool.and_eq_true] at c2
    obtain ⟨⟨⟨⟨-, c0⟩, c6⟩, c7⟩, c2⟩ := c2
    have c6 : k1 < 12 := by simpa using c6
    have c7 : k2 < 12 := by simpa using c7
    split at c2
    · rw [Bool.and_eq_true] at c2
      replace HO : mm_oW (if (mm_n n st && (mm_n2 j1 n st && mm_n2 j2 n st)) = true then (match mm_rv (mm_tk n st) [] with | .ref a :: as => mm_cl2 (some (mm_kd (hK h a).1 [k1, k2])) (if (hK h a).1 = k1 then j1 else j2) (.ref a :: as) (mm_dr n st) | _ => none) else none) F G ip L h Qr := HO
      split at HO
      · rename_i hn
        simp only [Bool.and_eq_true] at hn
        have h2 := mm_n2_o hn.2.1
        have h3 := mm_n2_o hn.2.2
        split at HO
        · rename_i a as q1
          obtain ⟨q2, HO⟩ := HO
          obtain ⟨e1, e2, e3⟩ := mm_stackV (z := z) hn.1 q1
          rw [q1] at h2 h3
          rw [e1]
          by_cases q3 : (hK h a).1 = k1
          · rw [if_pos q3] at HO
            exact mm_c_vu hF hl hRl hlo hce hsl (HG _ _ _ (mm_ckU_k c2.1) h2 HO (fun _ _ q => HB _ _ _ _ q)) e2 e3 c2.1 q3 c6 hd hp K
          · rw [if_neg q3] at HO
            have q2 : (hK h a).1 = k1 ∨ (hK h a).1 = k2 := q2
            exact mm_c_vu hF hl hRl hlo hce hsl (HG _ _ _ (mm_ckU_k c2.2) h3 HO (fun _ _ q => HB _ _ _ _ q)) e2 e3 c2.2 (q2.resolve_left q3) c7 hd hp K
        · exact HO.elim
      · exact HO.elim
    · cases c2
  · simp at c2
  · simp only [Bool.and_eq_true] at c2
    obtain ⟨-, c2⟩ := c2
    replace HO : mm_oW (mm_j4 ip L st h) F G ip L h Qr := HO
    unfold mm_j4 at HO
    split at HO
    · rename_i i r
      split at HO
      · rename_i hw
        have hw := Nat.le_of_ble_eq_true hw
        obtain ⟨hi, HF⟩ := HO
        have HF : F (ip + 1) L (mm_rs (some (.int (mm_chr i.toNatClampNeg))) r) h := HF
        obtain ⟨b0, ml0, k1, k2, k3, k4, k5, hMt⟩ := hCH
        obtain ⟨hB1, hB2⟩ := HB _ _ _ _ HF
        have hMt := hMt h i hi
        obtain ⟨s1, av, ff, s2, -⟩ := hFN.2.2.2.2.2.2
        obtain ⟨cell, g1, g2, g3, -⟩ := (s2.1 0 (by decide)).1
        have hlt : z.1.2.1 < z.1.2.2.1 := by rw [← s1]; exact (Array.getElem?_eq_some_iff.mp g1).1
        have hPV : PreV s H "java/lang/String" (mm_ad z 2) (mm_Pc z [.ref 2, .int i] h) [.int i] := ⟨mm_Pc_blind z _ h, ⟨cell, (hRl.2.2.1 _ hlt).trans g1, g2, g3⟩, fun U hU hW => ⟨rfl, by rw [hU]; exact hRl, mm_FN.warm hW hFN⟩⟩
        have hCB : CallB R s args (mm_yn mi).cls idx mm_chN b0 ml0 (some .char) (.code mm_chN b0 ml0 (some .char) :: mm_gT) { frames := 8, cells := 0, slots := 0, locals := 500 } 0 0 1 := callB_of (ws' := mm_gT) 1 hts (mm_gG _ _ _ _ k2) rfl rfl rfl (hts _ k5) (hts _ (mm_tA_in c2)) ⟨by decide, by decide, by decide +kernel⟩ ⟨by show 8 + 1 ≤ R.frames; omega, by show 8 + (ml0 + 11) + 500 ≤ R.locals; omega⟩
        have hrun := va_runV (l := l) (rest := r.map (mm_tr z)) (cells := cells) (slots := slots) (locs := locs) (g := F0 m pc ls ((Value.int i :: .ref 2 :: r).map (mm_tr z))) (Ts := mm_gT) (meth := meth) (p := p) (e := e) (below := below) ⟨hx, hb, hml, hown, hts⟩ hMt ⟨hCB, hts _ k3, hts _ k4⟩ hPV rfl rfl hl.1 rfl (by show 2 * 0 + _ ≤ _; rw [mm_cs_sum]; omega) hd ⟨by omega, by omega⟩
        exact mm_after hrun hlo (fun H1 locs1 hR1 hl1 => K _ _ _ _ _ _ _ _ _ _ HF hp hR1 hl hl1 hce hsl)
      · exact HO.elim
    · exact HO.elim
  · simp at c2
  · simp at c2
  · simp at c2
  · simp at c2
theorem mm_p_special {idx : Nat} (hF : mm_Fr p R s m args meth c z mi d) (hl : lv_has ls (mm_ml mi) (mm_pr z 0 L)) (hRl : mm_Rel z h H) (hlo : ∀ q ∈ locs, z.1.2.2.1 ≤ q.base) (hce : cells + n0 = hN h) (hsl : slots + m0 = hM h) (ck : mm_ck mi ip (.invokespecial idx) pc x v aux = true) (HO : mm_oW (mm_s1 (.invokespecial idx) x v ip L st h) F G ip L h Qr) (K : mm_KN p l e R s m args below meth c Q z mi n0 m0 F) (HG : ∀ (k : Nat) (as : List Value) (P : mm_Q), k < 293 → mm_cs as ≤ mm_ml k → G k as P → (∀ r h1, P r h1 → hN h1 ≤ R.cells + n0 ∧ hM h1 ≤ R.slots + m0) → mm_CO l R z d n0 m0 h k as P) (HB : ∀ (i : Nat) (L : mm_Lv) (st : List Value) (h : mm_H), F i L st h → hN h ≤ R.cells + n0 ∧ hM h ≤ R.slots + m0) : W p l e R s m args below meth c H locs cells slots Q (F0 m pc ls (st.map (mm_tr z))) := by
  obtain ⟨hx, hb, hml, hown, hts, hFN, hini, hfr, hlc, h40⟩ := id hF
  replace ck : mm_ckV mi ip (.invokespecial idx) idx pc x aux = true := ck
  replace HO : mm_oW (mm_cal x ip L st h) F G ip L h Qr := HO
  unfold mm_ckV at ck
  rw [Bool.and_eq_true] at ck
  obtain ⟨c1, c2⟩ := ck
  obtain ⟨hd, hp⟩ := mm_d_dec c1
  split at c2
  · simp at c2
  · simp at c2
  · simp at c2
  · simp at c2
  · simp at c2
  · rename_i k n ci
    simp only [Bool.and_eq_true, decide_eq_true_eq] at c2
    obtain ⟨⟨⟨⟨⟨⟨-, c0⟩, c2⟩, c3⟩, c4⟩, c5⟩, c6⟩ := c2
    replace HO : mm_oW (if (mm_n n st && mm_n2 k n st) = true then mm_cl2 (mm_rec h [ci] (mm_rv (mm_tk n st) [])) k (mm_rv (mm_tk n st) []) (mm_dr n st) else none) F G ip L h Qr := HO
    split at HO
    · rename_i hn
      rw [Bool.and_eq_true] at hn
      obtain ⟨a, as, q1, q2, HO⟩ := mm_rec_o HO
      have h2 := mm_n2_o hn.2
      obtain ⟨e1, e2, e3⟩ := mm_stackV (z := z) hn.1 q1
      rw [q1] at HO h2
      rw [e1]
      exact mm_c_in hF hl hRl hlo hce hsl (HG _ _ _ (mm_ckC_o c2 hFN hts).2.2.2.2 h2 HO (fun _ _ q => HB _ _ _ _ q)) e2 e3 (mm_ckC_o c2 hFN hts) (hts _ (mm_tA_in c3)) c5 c6 (hts _ (mm_tA_in c4)) hd hp K
    · exact HO.elim
  · simp at c2
  · simp at c2
  · simp at c2
  · simp only [Bool.and_eq_true] at c2
    obtain ⟨-, c2⟩ := c2
    replace HO : mm_oW (mm_j7 ip L st h) F G ip L h Qr := HO
    unfold mm_j7 at HO
    split at HO
    · rename_i w r
      split at HO
      · rename_i hw
        have hw := Nat.le_of_ble_eq_true hw
        have HF : F (ip + 1) L r h := HO
        exact W.objInit hx hb hown (hts _ (mm_tA_in c2)) (hts _ mm_oi1) (hts _ mm_oi2) rfl (hl.1.trans hml.symm) rfl hd (by omega) (by show 2 * 0 + _ + 12 ≤ _; rw [mm_cs_sum]; omega) (K _ _ _ _ _ _ _ _ _ _ HF hp hRl hl hlo hce hsl)
      · exact HO.elim
    · exact HO.elim
  · simp at c2
theorem mm_p_ireturn (hF : mm_Fr p R s m args meth c z mi d) (hl : lv_has ls (mm_ml mi) (mm_pr z 0 L)) (hRl : mm_Rel z h H) (hlo : ∀ q ∈ locs, z.1.2.2.1 ≤ q.base) (hce : cells + n0 = hN h) (hsl : slots + m0 = hM h) (ck : mm_ck mi ip .ireturn pc x v aux = true) (HO : mm_oW (mm_s1 .ireturn x v ip L st h) F G ip L h Qr) (HR : ∀ r : Option Value, Qr r h → mm_ro mi pc r → W p l e R s m args below meth c H locs cells slots Q (F0 m pc ls (mm_rs (r.map (mm_tr z)) []))) : W p l e R s m args below meth c H locs cells slots Q (F0 m pc ls (st.map (mm_tr z))) := by
  replace HO : mm_oW (mm_ret x st) F G ip L h Qr := HO
  simp only [mm_ck, Bool.and_eq_true, decide_eq_true_eq] at ck
  obtain ⟨hd, c2⟩ := ck
  unfold mm_ret at HO
  split at HO
  · simp at c2
  · rename_i w
    simp only [decide_eq_true_eq] at c2
    exact HR (some (.int w)) HO ⟨hd, Or.inl c2⟩
  · rename_i w
    simp only [decide_eq_true_eq] at c2
    exact HR (some (.int w)) HO.2 ⟨hd, Or.inr ⟨c2, HO.1⟩⟩
  · simp at c2
  · simp at c2
  · exact HO.elim
theorem mm_p_lreturn (hF : mm_Fr p R s m args meth c z mi d) (hl : lv_has ls (mm_ml mi) (mm_pr z 0 L)) (hRl : mm_Rel z h H) (hlo : ∀ q ∈ locs, z.1.2.2.1 ≤ q.base) (hce : cells + n0 = hN h) (hsl : slots + m0 = hM h) (ck : mm_ck mi ip .lreturn pc x v aux = true) (HO : mm_oW (mm_s1 .lreturn x v ip L st h) F G ip L h Qr) (HR : ∀ r : Option Value, Qr r h → mm_ro mi pc r → W p l e R s m args below meth c H locs cells slots Q (F0 m pc ls (mm_rs (r.map (mm_tr z)) []))) : W p l e R s m args below meth c H locs cells slots Q (F0 m pc ls (st.map (mm_tr z))) := by
  replace HO : mm_oW (mm_ret x st) F G ip L h Qr := HO
  simp only [mm_ck, Bool.and_eq_true, decide_eq_true_eq] at ck
  obtain ⟨hd, c2⟩ := ck
  unfold mm_ret at HO
  split at HO
  · simp at c2
  · simp at c2
  · simp at c2
  · rename_i w
    simp only [decide_eq_true_eq] at c2
    exact HR (some (.long w)) HO ⟨hd, c2⟩
  · simp at c2
  · exact HO.elim
theorem mm_p_areturn (hF : mm_Fr p R s m args meth c z mi d) (hl : lv_has ls (mm_ml mi) (mm_pr z 0 L)) (hRl : mm_Rel z h H) (hlo : ∀ q ∈ locs, z.1.2.2.1 ≤ q.base) (hce : cells + n0 = hN h) (hsl : slots + m0 = hM h) (ck : mm_ck mi ip .areturn pc x v aux = true) (HO : mm_oW (mm_s1 .areturn x v ip L st h) F G ip L h Qr) (HR : ∀ r : Option Value, Qr r h → mm_ro mi pc r → W p l e R s m args below meth c H locs cells slots Q (F0 m pc ls (mm_rs (r.map (mm_tr z)) []))) : W p l e R s m args below meth c H locs cells slots Q (F0 m pc ls (st.map (mm_tr z))) := by
  replace HO : mm_oW (mm_ret x st) F G ip L h Qr := HO
  simp only [mm_ck, Bool.and_eq_true, decide_eq_true_eq] at ck
  obtain ⟨hd, c2⟩ := ck
  unfold mm_ret at HO
  split at HO
  · simp at c2
  · simp at c2
  · simp at c2
  · simp at c2
  · rename_i w
    refine HR (some (.ref w)) HO ⟨hd, ?_⟩
    replace c2 : (match mm_yr mi with | some (.object _) => true | some (.array _) => true | _ => false) = true := c2
    split at c2
    · rename_i n q
      exact Or.inl ⟨n, q⟩
    · rename_i n q
      exact Or.inr ⟨n, q⟩
    · cases c2
  · exact HO.elim
theorem mm_p_return (hF : mm_Fr p R s m args meth c z mi d) (hl : lv_has ls (mm_ml mi) (mm_pr z 0 L)) (hRl : mm_Rel z h H) (hlo : ∀ q ∈ locs, z.1.2.2.1 ≤ q.base) (hce : cells + n0 = hN h) (hsl : slots + m0 = hM h) (ck : mm_ck mi ip .return_ pc x v aux = true) (HO : mm_oW (mm_s1 .return_ x v ip L st h) F G ip L h Qr) (HR : ∀ r : Option Value, Qr r h → mm_ro mi pc r → W p l e R s m args below meth c H locs cells slots Q (F0 m pc ls (mm_rs (r.map (mm_tr z)) []))) : W p l e R s m args below meth c H locs cells slots Q (F0 m pc ls (st.map (mm_tr z))) := by
  replace HO : mm_oW (mm_ret x st) F G ip L h Qr := HO
  simp only [mm_ck, Bool.and_eq_true, decide_eq_true_eq] at ck
  obtain ⟨hd, c2⟩ := ck
  unfold mm_ret at HO
  split at HO
  · simp only [decide_eq_true_eq] at c2
    exact HR none HO ⟨hd, c2⟩
  · simp at c2
  · simp at c2
  · simp at c2
  · simp at c2
  · exact HO.elim
end STEP3
