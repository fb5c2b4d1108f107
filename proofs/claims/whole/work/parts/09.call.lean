/-! calls and returns -/
theorem mm_ar1 {w d r : Nat} (h : w ≤ 40) (h2 : 64 * (d + 10) ≤ r) : 8 + (w + 11) + 64 * (d + 9) ≤ r := by
  have e : 64 * (d + 10) = 64 * (d + 9) + 64 := Nat.mul_succ 64 (d + 9)
  rw [e] at h2
  generalize 64 * (d + 9) = q at h2 ⊢
  omega
section CALLS
variable {p : Program} {l : Launch} {e : Env} {R : Room} {s : State} {m : MethodId} {args : Array Value} {below : List Frame} {meth : Method} {c : Code} {Q : State → Prop}
variable {z : mm_Z} {mi d n0 m0 : Nat} {F : Nat → mm_Lv → List Value → mm_H → Prop} {G : Nat → List Value → mm_Q → Prop} {Qr : mm_Q}
variable {ip pc : Nat} {L : mm_Lv} {st : List Value} {h : mm_H} {H : Heap} {locs : List Loc} {ls : Array Slot} {cells slots : Nat} {x : List Nat} {v : Value} {aux : List Nat}
theorem mm_gG (y : MethodName) (b : ByteArray) (ml : Nat) (r : Option FieldType) (h : Jvm.Cond.code y b ml r ∈ mm_gT) : GoodIn mm_gT (.code y b ml r :: mm_gT) := by
  intro w hw
  have hw : w ∈ mm_gT := by
    rcases List.mem_cons.mp hw with rfl | hw
    · exact h
    · exact hw
  exact ⟨hw, good_of_word (List.mem_filter.mp hw).2⟩
theorem mm_ckC_o {own : String} {idx k n : Nat} (hc : mm_ckC own idx mi n aux k = true) (hF : mm_FN z s) (hts : ∀ w ∈ mm_gT, w.before args s = true) : ((Jvm.Cond.methodLink own idx (mm_yn mi)).before args s = true ∨ va_Nw (.methodLinkNest own idx (mm_yn mi) "TermDraw") s) ∧ (parseMethodDescriptor (mm_yn mi).desc).map (fun d => d.parameters.length) = some n ∧ (mm_yn mi).cls ≠ "java/lang/invoke/MethodHandle" ∧ (mm_yn mi).cls ≠ "java/lang/invoke/VarHandle" ∧ mi < 293 := by
  unfold mm_ckC at hc
  simp only [Bool.and_eq_true, decide_eq_true_eq] at hc
  obtain ⟨⟨⟨⟨c1, c2⟩, c3⟩, c4⟩, c5⟩ := hc
  refine ⟨?_, c2, c3, c4, by simpa using c5⟩
  split at c1
  · unfold mm_tN at c1
    simp only [decide_eq_true_eq] at c1
    exact Or.inr (hF.1 _ (List.mem_of_getElem? c1) rfl)
  · exact Or.inl (hts _ (mm_tA_in c1))
/-- the stack behind a call -/
def mm_rs (r : Option Value) (rest : List Value) : List Value := match r with
  | none => rest
  | some v => v :: rest
theorem mm_join {rest : List Value} {r : Option Value} {h1 : mm_H} {ar : Array Value} {st0 : List Value}
    (hr : va_Run p l e R s m args below meth c H locs cells slots (hN h1 - hN h) (hM h1 - hM h) (F0 m pc ls st0) (rest.map (mm_tr z)) (mm_Qc z r h1 ar) (fun q => z.1.2.2.1 ≤ q))
    (hlo : ∀ q ∈ locs, z.1.2.2.1 ≤ q.base) (hl : lv_has ls (mm_ml mi) (mm_pr z 0 L)) (hce : cells + n0 = hN h) (hsl : slots + m0 = hM h) (g1 : hN h ≤ hN h1) (g2 : hM h ≤ hM h1) (hp : mm_po mi (ip + 1) (pc + 3) = true)
    (HF : F (ip + 1) L (mm_rs r rest) h1) (K : mm_KN p l e R s m args below meth c Q z mi n0 m0 F) : W p l e R s m args below meth c H locs cells slots Q (F0 m pc ls st0) :=
  mm_after hr hlo (fun H1 locs1 hR1 hl1 => K _ _ _ _ _ _ _ _ _ _ HF hp hR1 hl hl1 (by omega) (by omega))
/-- a static call -/
theorem mm_c_st {rest as : List Value} {k n idx : Nat} (hF : mm_Fr p R s m args meth c z mi d) (hl : lv_has ls (mm_ml mi) (mm_pr z 0 L)) (hRl : mm_Rel z h H) (hlo : ∀ q ∈ locs, z.1.2.2.1 ≤ q.base) (hce : cells + n0 = hN h) (hsl : slots + m0 = hM h)
    (hCO : mm_CO l R z d n0 m0 h k as (fun r h1 => F (ip + 1) L (mm_rs r rest) h1)) (hn : as.length = n) (hw : ((rest.map (mm_tr z)).map fun v => v.category).sum ≤ 8)
    (hk : ((Jvm.Cond.methodLink (mm_yn mi).cls idx (mm_yn k)).before args s = true ∨ va_Nw (.methodLinkNest (mm_yn mi).cls idx (mm_yn k) "TermDraw") s) ∧ (parseMethodDescriptor (mm_yn k).desc).map (fun d => d.parameters.length) = some n ∧ (mm_yn k).cls ≠ "java/lang/invoke/MethodHandle" ∧ (mm_yn k).cls ≠ "java/lang/invoke/VarHandle" ∧ k < 293)
    (hs : (Jvm.Cond.static (mm_yn k)).before args s = true) (hi : (Jvm.Cond.initialized (mm_yn k).cls).before args s = true) (hd : decode (mm_yb mi) pc = .ok (.invokestatic idx, 3)) (hp : mm_po mi (ip + 1) (pc + 3) = true)
    (K : mm_KN p l e R s m args below meth c Q z mi n0 m0 F) : W p l e R s m args below meth c H locs cells slots Q (F0 m pc ls ((as.map (mm_tr z)).reverse ++ rest.map (mm_tr z))) := by
  obtain ⟨hx, hb, hml, hown, hts, hFN, hini, hfr, hlc, h40⟩ := id hF
  obtain ⟨r, h1, HF, g1, g2, g3, g4, g5, g6, hMt⟩ := hCO
  obtain ⟨k1, k2, k3, k4, k5⟩ := hk
  have hG := mm_gG _ _ _ _ (g6 k5)
  have hPS : PreS s H (mm_Pc z as h) (as.map (mm_tr z)) := ⟨mm_Pc_blind z as h, fun U hU hW => ⟨rfl, by rw [hU]; exact hRl, mm_FN.warm hW hFN⟩⟩
  have hCB : (Jvm.Cond.methodLink (mm_yn mi).cls idx (mm_yn k)).before args s = true → CallB R s args (mm_yn mi).cls idx (mm_yn k) (mm_yb k) (mm_ml k) (mm_yr k) (.code (mm_yn k) (mm_yb k) (mm_ml k) (mm_yr k) :: mm_gT) { frames := d + 9, cells := hN h1 - hN h, slots := hM h1 - hM h, locals := 64 * (d + 9) } (hN h1 - hN h) (hM h1 - hM h) n := fun k1 => callB_of (ws' := mm_gT) n hts hG rfl rfl rfl hi k1 ⟨k3, k4, k2⟩ ⟨hfr, mm_ar1 g5 hlc⟩
  have hCN : va_Nw (.methodLinkNest (mm_yn mi).cls idx (mm_yn k) "TermDraw") s → va_CN R s args (mm_yn mi).cls idx (mm_yn k) "TermDraw" (mm_yb k) (mm_ml k) (mm_yr k) (.code (mm_yn k) (mm_yb k) (mm_ml k) (mm_yr k) :: mm_gT) { frames := d + 9, cells := hN h1 - hN h, slots := hM h1 - hM h, locals := 64 * (d + 9) } (hN h1 - hN h) (hM h1 - hM h) n := fun k1 => va_cnB (ws' := mm_gT) n hts hG rfl rfl rfl k1 hi ⟨k3, k4, k2⟩ ⟨hfr, mm_ar1 g5 hlc⟩
  rcases k1 with k1 | k1
  · exact mm_join (mi := mi) (va_runS (Ts := mm_gT) ⟨hx, hb, hml, hown, hts⟩ hMt ⟨hCB k1, hs⟩ hPS rfl (by rw [List.length_map]; exact hn) hl.1 rfl (by show 2 * 0 + _ ≤ _; omega) hd ⟨by omega, by omega⟩) hlo hl hce hsl g1 g2 hp HF K
  · exact mm_join (mi := mi) (va_runSN (Ts := mm_gT) ⟨hx, hb, hml, hown, hts⟩ hMt ⟨hCN k1, hs, trivial⟩ hPS rfl (by rw [List.length_map]; exact hn) hl.1 rfl (by show 2 * 0 + _ ≤ _; omega) hd ⟨by omega, by omega⟩) hlo hl hce hsl g1 g2 hp HF K
/-- a call of an object's own method -/
theorem mm_c_vi {rest as : List Value} {k n idx a ci : Nat} (hF : mm_Fr p R s m args meth c z mi d) (hl : lv_has ls (mm_ml mi) (mm_pr z 0 L)) (hRl : mm_Rel z h H) (hlo : ∀ q ∈ locs, z.1.2.2.1 ≤ q.base) (hce : cells + n0 = hN h) (hsl : slots + m0 = hM h)
    (hCO : mm_CO l R z d n0 m0 h k (.ref a :: as) (fun r h1 => F (ip + 1) L (mm_rs r rest) h1)) (hn : as.length = n) (hw : ((rest.map (mm_tr z)).map fun v => v.category).sum ≤ 8)
    (hk : ((Jvm.Cond.methodLink (mm_yn mi).cls idx (mm_yn k)).before args s = true ∨ va_Nw (.methodLinkNest (mm_yn mi).cls idx (mm_yn k) "TermDraw") s) ∧ (parseMethodDescriptor (mm_yn k).desc).map (fun d => d.parameters.length) = some n ∧ (mm_yn k).cls ≠ "java/lang/invoke/MethodHandle" ∧ (mm_yn k).cls ≠ "java/lang/invoke/VarHandle" ∧ k < 293)
    (hs : (Jvm.Cond.instanceMethod (mm_yn k)).before args s = true) (hse : (Jvm.Cond.selects (mm_kn ci) (mm_yn k) (mm_yn k)).before args s = true) (hka : (hK h a).1 = ci) (hci : ci < 12) (hi : (Jvm.Cond.initialized (mm_yn k).cls).before args s = true) (hd : decode (mm_yb mi) pc = .ok (.invokevirtual idx, 3)) (hp : mm_po mi (ip + 1) (pc + 3) = true)
    (K : mm_KN p l e R s m args below meth c Q z mi n0 m0 F) : W p l e R s m args below meth c H locs cells slots Q (F0 m pc ls ((as.map (mm_tr z)).reverse ++ .ref (mm_ad z a) :: rest.map (mm_tr z))) := by
  obtain ⟨hx, hb, hml, hown, hts, hFN, hini, hfr, hlc, h40⟩ := id hF
  obtain ⟨r, h1, HF, g1, g2, g3, g4, g5, g6, hMt⟩ := hCO
  obtain ⟨k1, k2, k3, k4, k5⟩ := hk
  have hG := mm_gG _ _ _ _ (g6 k5)
  have hPV : PreV s H (mm_kn ci) (mm_ad z a) (mm_Pc z (.ref a :: as) h) (as.map (mm_tr z)) := ⟨mm_Pc_blind z _ h, mm_recv hRl hFN hka hci, fun U hU hW => ⟨rfl, by rw [hU]; exact hRl, mm_FN.warm hW hFN⟩⟩
  have hCB : (Jvm.Cond.methodLink (mm_yn mi).cls idx (mm_yn k)).before args s = true → CallB R s args (mm_yn mi).cls idx (mm_yn k) (mm_yb k) (mm_ml k) (mm_yr k) (.code (mm_yn k) (mm_yb k) (mm_ml k) (mm_yr k) :: mm_gT) { frames := d + 9, cells := hN h1 - hN h, slots := hM h1 - hM h, locals := 64 * (d + 9) } (hN h1 - hN h) (hM h1 - hM h) n := fun k1 => callB_of (ws' := mm_gT) n hts hG rfl rfl rfl hi k1 ⟨k3, k4, k2⟩ ⟨hfr, mm_ar1 g5 hlc⟩
  have hCN : va_Nw (.methodLinkNest (mm_yn mi).cls idx (mm_yn k) "TermDraw") s → va_CN R s args (mm_yn mi).cls idx (mm_yn k) "TermDraw" (mm_yb k) (mm_ml k) (mm_yr k) (.code (mm_yn k) (mm_yb k) (mm_ml k) (mm_yr k) :: mm_gT) { frames := d + 9, cells := hN h1 - hN h, slots := hM h1 - hM h, locals := 64 * (d + 9) } (hN h1 - hN h) (hM h1 - hM h) n := fun k1 => va_cnB (ws' := mm_gT) n hts hG rfl rfl rfl k1 hi ⟨k3, k4, k2⟩ ⟨hfr, mm_ar1 g5 hlc⟩
  rcases k1 with k1 | k1
  · exact mm_join (mi := mi) (va_runV (Ts := mm_gT) ⟨hx, hb, hml, hown, hts⟩ hMt ⟨hCB k1, hs, hse⟩ hPV rfl (by rw [List.length_map]; exact hn) hl.1 rfl (by show 2 * 0 + _ ≤ _; omega) hd ⟨by omega, by omega⟩) hlo hl hce hsl g1 g2 hp HF K
  · exact mm_join (mi := mi) (va_runVN (Ts := mm_gT) ⟨hx, hb, hml, hown, hts⟩ hMt ⟨hCN k1, hs, hse⟩ hPV rfl (by rw [List.length_map]; exact hn) hl.1 rfl (by show 2 * 0 + _ ≤ _; omega) hd ⟨by omega, by omega⟩) hlo hl hce hsl g1 g2 hp HF K
/-- a constructor's call -/
theorem mm_c_in {rest as : List Value} {k n idx a : Nat} (hF : mm_Fr p R s m args meth c z mi d) (hl : lv_has ls (mm_ml mi) (mm_pr z 0 L)) (hRl : mm_Rel z h H) (hlo : ∀ q ∈ locs, z.1.2.2.1 ≤ q.base) (hce : cells + n0 = hN h) (hsl : slots + m0 = hM h)
    (hCO : mm_CO l R z d n0 m0 h k (.ref a :: as) (fun r h1 => F (ip + 1) L (mm_rs r rest) h1)) (hn : as.length = n) (hw : ((rest.map (mm_tr z)).map fun v => v.category).sum ≤ 8)
    (hk : ((Jvm.Cond.methodLink (mm_yn mi).cls idx (mm_yn k)).before args s = true ∨ va_Nw (.methodLinkNest (mm_yn mi).cls idx (mm_yn k) "TermDraw") s) ∧ (parseMethodDescriptor (mm_yn k).desc).map (fun d => d.parameters.length) = some n ∧ (mm_yn k).cls ≠ "java/lang/invoke/MethodHandle" ∧ (mm_yn k).cls ≠ "java/lang/invoke/VarHandle" ∧ k < 293)
    (hs : (Jvm.Cond.instanceMethod (mm_yn k)).before args s = true) (hnm : (mm_yn k).name = "<init>") (hrt : mm_yr k = none) (hi : (Jvm.Cond.initialized (mm_yn k).cls).before args s = true) (hd : decode (mm_yb mi) pc = .ok (.invokespecial idx, 3)) (hp : mm_po mi (ip + 1) (pc + 3) = true)
    (K : mm_KN p l e R s m args below meth c Q z mi n0 m0 F) : W p l e R s m args below meth c H locs cells slots Q (F0 m pc ls ((as.map (mm_tr z)).reverse ++ .ref (mm_ad z a) :: rest.map (mm_tr z))) := by
  obtain ⟨hx, hb, hml, hown, hts, hFN, hini, hfr, hlc, h40⟩ := id hF
  obtain ⟨r, h1, HF, g1, g2, g3, g4, g5, g6, hMt⟩ := hCO
  rw [hrt] at g6 hMt
  obtain ⟨k1, k2, k3, k4, k5⟩ := hk
  have hG := mm_gG _ _ _ _ (g6 k5)
  have hPS : PreS s H (mm_Pc z (.ref a :: as) h) (.ref (mm_ad z a) :: as.map (mm_tr z)) := ⟨mm_Pc_blind z _ h, fun U hU hW => ⟨rfl, by rw [hU]; exact hRl, mm_FN.warm hW hFN⟩⟩
  have hCB : (Jvm.Cond.methodLink (mm_yn mi).cls idx (mm_yn k)).before args s = true → CallB R s args (mm_yn mi).cls idx (mm_yn k) (mm_yb k) (mm_ml k) (none) (.code (mm_yn k) (mm_yb k) (mm_ml k) (none) :: mm_gT) { frames := d + 9, cells := hN h1 - hN h, slots := hM h1 - hM h, locals := 64 * (d + 9) } (hN h1 - hN h) (hM h1 - hM h) n := fun k1 => callB_of (ws' := mm_gT) n hts hG rfl rfl rfl hi k1 ⟨k3, k4, k2⟩ ⟨hfr, mm_ar1 g5 hlc⟩
  have hCN : va_Nw (.methodLinkNest (mm_yn mi).cls idx (mm_yn k) "TermDraw") s → va_CN R s args (mm_yn mi).cls idx (mm_yn k) "TermDraw" (mm_yb k) (mm_ml k) (none) (.code (mm_yn k) (mm_yb k) (mm_ml k) (none) :: mm_gT) { frames := d + 9, cells := hN h1 - hN h, slots := hM h1 - hM h, locals := 64 * (d + 9) } (hN h1 - hN h) (hM h1 - hM h) n := fun k1 => va_cnB (ws' := mm_gT) n hts hG rfl rfl rfl k1 hi ⟨k3, k4, k2⟩ ⟨hfr, mm_ar1 g5 hlc⟩
  rcases k1 with k1 | k1
  · exact mm_join (mi := mi) (va_runI (Ts := mm_gT) ⟨hx, hb, hml, hown, hts⟩ hMt ⟨hCB k1, hnm, hs⟩ hPS rfl (by rw [List.length_map]; exact hn) hl.1 rfl (by show 2 * 0 + _ ≤ _; omega) hd ⟨by omega, by omega⟩) hlo hl hce hsl g1 g2 hp HF K
  · exact mm_join (mi := mi) (va_runIN (Ts := mm_gT) ⟨hx, hb, hml, hown, hts⟩ hMt ⟨hCN k1, hnm, hs⟩ hPS rfl (by rw [List.length_map]; exact hn) hl.1 rfl (by show 2 * 0 + _ ≤ _; omega) hd ⟨by omega, by omega⟩) hlo hl hce hsl g1 g2 hp HF K
/-- what a checked call across the classes says -/
theorem mm_ckU_o {own C : String} {idx k n pl ps pd pcc pi pz : Nat} {x : MethodName} (hc : mm_ckU own C idx k n x pl ps pd pcc pi pz = true) (hF : mm_FN z s) (hts : ∀ w ∈ mm_gT, w.before args s = true) (hcode : k < 293 → Jvm.Cond.code (mm_yn k) (mm_yb k) (mm_ml k) (mm_yr k) ∈ mm_gT) :
    (Jvm.Cond.methodLink own idx x).before args s = true ∧ (Jvm.Cond.sameMethod x.cls "TermDraw$Order" x.name x.desc).before args s = true ∧ va_Decl s ⟨"TermDraw$Order", x.name, x.desc⟩ ∧ (Jvm.Cond.selects C x (mm_yn k)).before args s = true ∧ (Jvm.Cond.instanceMethod (mm_yn k)).before args s = true ∧ (Jvm.Cond.initialized (mm_yn k).cls).before args s = true ∧ (parseMethodDescriptor x.desc).map (fun d => d.parameters.length) = some n ∧ k < 293 := by
  unfold mm_ckU at hc
  simp only [Bool.and_eq_true, Bool.or_eq_true, decide_eq_true_eq] at hc
  obtain ⟨⟨⟨⟨⟨⟨⟨c1, c2⟩, c3⟩, c4⟩, c5⟩, c6⟩, c7⟩, c8⟩ := hc
  have c8 : k < 293 := by simpa using c8
  refine ⟨hts _ (mm_tA_in c1), hts _ (mm_tA_in c2), ?_, hts _ (mm_tA_in c4), hts _ (mm_tA_in c5), hts _ (mm_tA_in c6), c7, c8⟩
  rcases c3 with c3 | c3
  · unfold mm_tN at c3
    simp only [decide_eq_true_eq] at c3
    exact va_Decl.abs (hF.1 _ (List.mem_of_getElem? c3) rfl)
  · rw [c3]
    exact va_Decl.of (hts _ (mm_tA_in c5)) (hts _ (hcode c8))
/-- a call up or across the classes -/
theorem mm_c_vu {rest as : List Value} {k n idx a ci : Nat} {x : MethodName} (hF : mm_Fr p R s m args meth c z mi d) (hl : lv_has ls (mm_ml mi) (mm_pr z 0 L)) (hRl : mm_Rel z h H) (hlo : ∀ q ∈ locs, z.1.2.2.1 ≤ q.base) (hce : cells + n0 = hN h) (hsl : slots + m0 = hM h)
    (hCO : mm_CO l R z d n0 m0 h k (.ref a :: as) (fun r h1 => F (ip + 1) L (mm_rs r rest) h1)) (hn : as.length = n) (hw : ((rest.map (mm_tr z)).map fun v => v.category).sum ≤ 8) {pl ps pd pcc pi pz : Nat}
    (hc : mm_ckU (mm_yn mi).cls (mm_kn ci) idx k n x pl ps pd pcc pi pz = true) (hka : (hK h a).1 = ci) (hci : ci < 12) (hd : decode (mm_yb mi) pc = .ok (.invokevirtual idx, 3)) (hp : mm_po mi (ip + 1) (pc + 3) = true)
    (K : mm_KN p l e R s m args below meth c Q z mi n0 m0 F) : W p l e R s m args below meth c H locs cells slots Q (F0 m pc ls ((as.map (mm_tr z)).reverse ++ .ref (mm_ad z a) :: rest.map (mm_tr z))) := by
  obtain ⟨hx, hb, hml, hown, hts, hFN, hini, hfr, hlc, h40⟩ := id hF
  obtain ⟨r, h1, HF, g1, g2, g3, g4, g5, g6, hMt⟩ := hCO
  obtain ⟨k1, k2, k3, k4, k5, k6, k7, k8⟩ := mm_ckU_o hc hFN hts g6
  have hG := mm_gG _ _ _ _ (g6 k8)
  have hPV : PreV s H (mm_kn ci) (mm_ad z a) (mm_Pc z (.ref a :: as) h) (as.map (mm_tr z)) := ⟨mm_Pc_blind z _ h, mm_recv hRl hFN hka hci, fun U hU hW => ⟨rfl, by rw [hU]; exact hRl, mm_FN.warm hW hFN⟩⟩
  have hcw : va_CU R s args (mm_yn mi).cls (mm_kn ci) "TermDraw$Order" idx x (mm_yn k) (mm_yb k) (mm_ml k) (mm_yr k) (.code (mm_yn k) (mm_yb k) (mm_ml k) (mm_yr k) :: mm_gT) { frames := d + 9, cells := hN h1 - hN h, slots := hM h1 - hM h, locals := 64 * (d + 9) } (hN h1 - hN h) (hM h1 - hM h) n := by
    refine ⟨⟨rfl, rfl, hfr, mm_ar1 g5 hlc, pay_in hts hG, List.mem_cons_self⟩, hts _ (g6 k8), k6, ⟨by decide, by decide⟩, fun sig q => ?_, k1, k2, k3, k4, k5⟩
    rw [q] at k7
    exact (Option.some.inj k7).symm
  exact mm_join (mi := mi) (va_runU (Ts := mm_gT) ⟨hx, hb, hml, hown, hts⟩ hMt hcw hPV rfl (by rw [List.length_map]; exact hn) hl.1 rfl (by show 2 * 0 + _ ≤ _; omega) hd ⟨by omega, by omega⟩) hlo hl hce hsl g1 g2 hp HF K
end CALLS
