/-! the text's charAt, as the JDK's own code
-/
def chX (X : State → Prop) : Prop := ∀ U V : State, U.vm.Alike V.vm → X U → X V
def chP (z : mm_Z) (h : mm_H) (as : List Value) (X : State → Prop) : Array Value → State → Prop := fun v U => v = as.toArray ∧ mm_Rel z h U.heap ∧ mm_FN z U ∧ X U
def chQ (z : mm_Z) (h : mm_H) (r : Option Value) : Array Value → State → Outcome → State → Prop := fun _ _ o t => o = .returned r ∧ mm_Rel z h t.heap
theorem chP_blind (z : mm_Z) (h : mm_H) (as : List Value) {X : State → Prop} (hX : chX X) : FrameBlind (chP z h as X) := fun a U g mk hp => ⟨hp.1, hp.2.1, mm_FN.same (u := U) rfl hp.2.2.1, hX U _ (Vm.Alike.refl _) hp.2.2.2⟩
theorem chT : chX (fun _ => True) := fun _ _ _ _ => trivial
def chM (l : Launch) (z : mm_Z) (h : mm_H) (y : MethodName) (b : ByteArray) (ml : Nat) (ret : Option FieldType) (f lc : Nat) (as : List Value) (X : State → Prop) (r : Option Value) : Prop :=
  Met l y (.code y b ml ret :: mm_gT) { frames := f, cells := 0, slots := 0, locals := lc } (chP z h as X) (chQ z h r) 0 0 (fun q => z.1.2.2.1 ≤ q)
theorem ch_of {X : State → Prop} {l : Launch} {z : mm_Z} {h : mm_H} {y : MethodName} {b : ByteArray} {ml : Nat} {ret : Option FieldType} {f lc : Nat} {as : List Value} {r : Option Value} (hy : plainFor y = true) (hl : (lg_sl as).length ≤ ml)
    (body : ∀ (p : Program) (e : Env) (R : Room) (s : State) (m : MethodId) (below : List Frame) (meth : Method) (c : Code), f ≤ R.frames → lc ≤ R.locals → p.tables.exec = Jvm.exec → c.code = b → c.maxLocals = ml → s.vm.findClass y.cls = some m.cls → (∀ w ∈ mm_gT, w.before as.toArray s = true) → mm_Rel z h s.heap → mm_FN z s → X s → meth.sig.returnType = ret → meth.locks = false → ∀ ls, lv_has ls ml (lv_args 0 as) →
      W p l e R s m as.toArray below meth c s.heap [] 0 0 (MQ below (chQ z h r) as.toArray s 0 0 (fun q => z.1.2.2.1 ≤ q)) (F0 m 0 ls [])) : chM l z h y b ml ret f lc as X r := by
  refine mm_ofWF (cc := b) (maxL := ml) (ret := ret) hy rfl ?_
  intro p e s m args below meth c s₁ B hml hv
  obtain ⟨rfl, hRl, hFN, hX⟩ := hv
  have hts0 := atoms_spec (ws := .code y b ml ret :: mm_gT) B.pre
  have hl := lv_entry as (n := ml) hl
  rw [lg_entry_eq]
  exact body p e _ s m below meth c (Nat.le_refl _) (Nat.le_refl _) B.exec B.bytes hml (findClass_of_methodNamed B.named) (fun w hw => hts0 w (List.mem_cons_of_mem _ hw)) hRl hFN hX B.returns B.notSynchronized _ hl
section CHS
variable {p : Program} {l : Launch} {e : Env} {R : Room} {s : State} {m : MethodId} {args : Array Value} {below : List Frame} {meth : Method} {c : Code} {H : Heap} {locs : List Loc} {cells slots : Nat} {Q : State → Prop}
variable {z : mm_Z} {h : mm_H} {pc : Nat} {ls : Array Slot} {cc : ByteArray} {own : String}
theorem ch_S (h0 : mm_Rel z h s.heap) (h1 : mm_Rel z h H) (hlo : ∀ q ∈ locs, z.1.2.2.1 ≤ q.base) : va_S (fun q => z.1.2.2.1 ≤ q) s.heap H locs :=
  ⟨by have := h0.2.1; have := h1.2.1; omega, fun q _ hA => (h1.2.2.1 q (Nat.not_le.mp hA)).trans (h0.2.2.1 q (Nat.not_le.mp hA)).symm, hlo⟩
theorem ch_k (h0 : mm_Rel z h s.heap) : ∀ a : Nat, a < z.1.2.2.2.size → ¬ z.1.2.2.1 ≤ a → s.heap[a]? = z.1.2.2.2[a]? := fun a _ hA => h0.2.2.1 a (Nat.not_le.mp hA)
theorem ch_after {r : Option Value} {a : Array Value} {rest st0 : List Value} (hr : va_Run p l e R s m args below meth c H locs cells slots 0 0 (F0 m pc ls st0) rest (chQ z h r a) (fun q => z.1.2.2.1 ≤ q)) (hlo : ∀ q ∈ locs, z.1.2.2.1 ≤ q.base)
    (kk : ∀ (H1 : Heap) (locs1 : List Loc), mm_Rel z h H1 → (∀ q ∈ locs1, z.1.2.2.1 ≤ q.base) → W p l e R s m args below meth c H1 locs1 cells slots Q (F0 m (pc + 3) ls (r.toList ++ rest))) : W p l e R s m args below meth c H locs cells slots Q (F0 m pc ls st0) := by
  intro T hT X
  obtain ⟨v, st₀, t, T', L, h0, X', hL, e1, e2, ⟨hv, hRel⟩, stp⟩ := hr T hT X
  have hv : v = r := Outcome.returned.inj hv
  subst hv
  obtain ⟨t2, a1, b1⟩ := kk T'.heap (locs ++ L) (by rw [e1]; exact hRel) (fun q hq => by
    rcases List.mem_append.mp hq with h | h
    · exact hlo q h
    · exact hL q h) T' rfl X'
  exact ⟨t2, stp t2 a1, b1⟩
theorem ch_cS {X : State → Prop} {y' : MethodName} {b' : ByteArray} {ml ml' : Nat} {ret' : Option FieldType} {f lc n idx : Nat} {as : List Value} {r : Option Value} {rest : List Value} (hx : p.tables.exec = Jvm.exec) (hb : c.code = cc) (hml : c.maxLocals = ml) (hown : s.vm.findClass own = some m.cls) (hts : ∀ w ∈ mm_gT, w.before args s = true) (hFN : mm_FN z s) (hRl : mm_Rel z h H) (hlo : ∀ q ∈ locs, z.1.2.2.1 ≤ q.base)
    (hX : chX X) (hXs : X s) (hM : chM l z h y' b' ml' ret' f lc as X r) (hcode : Jvm.Cond.code y' b' ml' ret' ∈ mm_gT) (hst : Jvm.Cond.static y' ∈ mm_gT) (hini : Jvm.Cond.initialized y'.cls ∈ mm_gT) (hlk : Jvm.Cond.methodLink own idx y' ∈ mm_gT) (hd : y'.cls ≠ "java/lang/invoke/MethodHandle" ∧ y'.cls ≠ "java/lang/invoke/VarHandle" ∧ (parseMethodDescriptor y'.desc).map (fun d => d.parameters.length) = some n) (hn : as.length = n)
    (hf : f + 1 ≤ R.frames) (hlc : 8 + (ml' + 11) + lc ≤ R.locals) (hsz : ls.size = ml) (hw : (rest.map fun v => v.category).sum ≤ 8) (hce : cells ≤ R.cells) (hsl : slots ≤ R.slots) (hdg : decode cc pc = .ok (.invokestatic idx, 3))
    (kk : ∀ (H1 : Heap) (locs1 : List Loc), mm_Rel z h H1 → (∀ q ∈ locs1, z.1.2.2.1 ≤ q.base) → W p l e R s m args below meth c H1 locs1 cells slots Q (F0 m (pc + 3) ls (r.toList ++ rest))) : W p l e R s m args below meth c H locs cells slots Q (F0 m pc ls (as.reverse ++ rest)) := by
  have hPS : PreS s H (chP z h as X) as := ⟨chP_blind z h as hX, fun U hU hW => ⟨rfl, by rw [hU]; exact hRl, mm_FN.warm hW hFN, hX _ _ hW.alike hXs⟩⟩
  have hCB : CallB R s args own idx y' b' ml' ret' (.code y' b' ml' ret' :: mm_gT) { frames := f, cells := 0, slots := 0, locals := lc } 0 0 n := callB_of (ws' := mm_gT) n hts (mm_gG _ _ _ _ hcode) rfl rfl rfl (hts _ hini) (hts _ hlk) hd ⟨hf, hlc⟩
  exact ch_after (va_runS (Ts := mm_gT) ⟨hx, hb, hml, hown, hts⟩ hM ⟨hCB, hts _ hst⟩ hPS rfl hn hsz rfl (by show 2 * 0 + _ ≤ _; omega) hdg ⟨by omega, by omega⟩) hlo kk
end CHS
section CHM
variable {l : Launch} {z : mm_Z} {h : mm_H} {i : Int32}
theorem ch_in (hi : vp_in i 7) : (i = 0 ∨ i = 1 ∨ i = 2 ∨ i = 3 ∨ i = 4 ∨ i = 5 ∨ i = 6) := by
  have e : i = J i.toInt := (J_of i).symm
  have r : r32 i.toInt := by have h1 := i.toInt_lt; have h2 := i.le_toInt; unfold r32; omega
  rw [e] at hi
  rw [vp_J r] at hi
  have hc : i.toInt = 0 ∨ i.toInt = 1 ∨ i.toInt = 2 ∨ i.toInt = 3 ∨ i.toInt = 4 ∨ i.toInt = 5 ∨ i.toInt = 6 := by have := hi.1; have := hi.2; omega
  rcases hc with q | q | q | q | q | q | q <;> rw [q] at e <;> subst e <;> decide
def ch_ycA : MethodName := ⟨"java/lang/String", "charAt", "(I)C"⟩
set_option maxRecDepth 100000 in
theorem ch_wcA : Jvm.Cond.code ch_ycA prog_19_method_56_code 2 (some .char) ∈ mm_gT := mm_inG (i := 1364) rfl rfl
def ch_yiL : MethodName := ⟨"java/lang/String", "isLatin1", "()Z"⟩
set_option maxRecDepth 100000 in
theorem ch_wiL : Jvm.Cond.code ch_yiL prog_19_method_154_code 1 (some .boolean) ∈ mm_gT := mm_inG (i := 1368) rfl rfl
def ch_ylA : MethodName := ⟨"java/lang/StringLatin1", "charAt", "([BI)C"⟩
set_option maxRecDepth 100000 in
theorem ch_wlA : Jvm.Cond.code ch_ylA prog_20_method_2_code 2 (some .char) ∈ mm_gT := mm_inG (i := 1373) rfl rfl
def ch_ycI : MethodName := ⟨"java/lang/String", "checkIndex", "(II)V"⟩
set_option maxRecDepth 100000 in
theorem ch_wcI : Jvm.Cond.code ch_ycI prog_19_method_155_code 2 (none) ∈ mm_gT := mm_inG (i := 1376) rfl rfl
def ch_ypI : MethodName := ⟨"jdk/internal/util/Preconditions", "checkIndex", "(IILjava/util/function/BiFunction;)I"⟩
set_option maxRecDepth 100000 in
theorem ch_wpI : Jvm.Cond.code ch_ypI prog_22_method_11_code 3 (some .int) ∈ mm_gT := mm_inG (i := 1381) rfl rfl
theorem ch_pI {f : Value} (hf : f = .null ∨ ∃ a, f = .ref a) (hi : vp_in i 7) : chM l z h ch_ypI prog_22_method_11_code 3 (some .int) 1 50 [.int i, .int 7, f] (fun _ => True) (some (.int i)) := by
  have hi := ch_in hi
  refine ch_of (by decide +kernel) (by rcases hf with rfl | ⟨a, rfl⟩ <;> exact Nat.le_refl 3) ?_
  intro p e R s m below meth c hf hlc hx hb hml hown hts hRl hFN hX hrt hlk ls hl
  have h0 := lv_at hl 0 (i := 0) (v := .int i) rfl
  have h1 := lv_at hl 1 (i := 1) (v := .int 7) rfl
  refine lv_iload_n hx hb (k := 0) (by decide +kernel) rfl h0 ?_
  refine lv_if_lt hx hb (off := 8) (tgt := 9) (by decide +kernel) rfl (fun q => absurd q (by rcases hi with rfl | rfl | rfl | rfl | rfl | rfl | rfl <;> decide)) (fun _ => ?_)
  refine lv_iload_n hx hb (k := 0) (by decide +kernel) rfl h0 ?_
  refine lv_iload_n hx hb (k := 1) (by decide +kernel) rfl h1 ?_
  refine lv_icmp_lt hx hb (off := 10) (tgt := 16) (by decide +kernel) rfl (fun _ => ?_) (fun q => absurd (show i < 7 by rcases hi with rfl | rfl | rfl | rfl | rfl | rfl | rfl <;> decide) q)
  refine lv_iload_n hx hb (k := 0) (by decide +kernel) rfl h0 ?_
  exact W.iret hx hb hrt (fun t hH hW => ⟨rfl, by rw [hH]; exact hRl⟩) (fun q hq => by cases hq) (by decide +kernel) hlk
theorem ch_cI (hi : vp_in i 7) : chM l z h ch_ycI prog_19_method_155_code 2 (none) 2 100 [.int i, .int 7] (fun _ => True) none := by
  refine ch_of (by decide +kernel) (Nat.le_refl _) ?_
  intro p e R s m below meth c hf hlc hx hb hml hown hts hRl hFN hX hrt hlk ls hl
  have h0 := lv_at hl 0 (i := 0) (v := .int i) rfl
  have h1 := lv_at hl 1 (i := 1) (v := .int 7) rfl
  obtain ⟨s1, av, ff, s2, s3, s4, s5⟩ := hFN.2.2.2.2.2.2
  refine lv_iload_n hx hb (k := 0) (by decide +kernel) rfl h0 ?_
  refine lv_iload_n hx hb (k := 1) (by decide +kernel) rfl h1 ?_
  refine va_gets hx hb (own := "java/lang/String") (index := 1053) (ref := "jdk/internal/util/Preconditions") (s4.kept (ch_k hRl)) (ch_S hRl hRl (fun q hq => by cases hq)) hown (hts _ (mm_tA_in (i := 1377) (by decide +kernel))) (fun x q => q) (by decide +kernel) ?_
  refine ch_cS (own := "java/lang/String") (idx := 1059) (n := 3) (rest := []) (as := [.int i, .int 7, ff]) hx hb hml hown hts hFN hRl (fun q hq => by cases hq) chT trivial (ch_pI s5 hi) ch_wpI (mm_tA_in (i := 1380) (by decide +kernel)) (mm_tA_in (i := 120) (by decide +kernel)) (mm_tA_in (i := 1379) (by decide +kernel)) ⟨by decide, by decide, by decide +kernel⟩ rfl (by omega) (by omega) hl.1 (by decide) (Nat.zero_le _) (Nat.zero_le _) (by decide +kernel) ?_
  intro H1 locs1 hR1 hl1
  refine lv_pop hx hb (by decide +kernel) rfl ?_
  exact W.vret hx hb hrt (fun t hH hW => ⟨rfl, by rw [hH]; exact hR1⟩) hl1 (by decide +kernel) hlk
theorem ch_val (hi : vp_in i 7) : ((([[40, 97, 124, 110, 41, 42, 110]] : List (List Int32)).getD 0 []).getD i.toNatClampNeg 0 &&& 255).toUInt32 % 65536 = (mm_chr i.toNatClampNeg).toUInt32 ∧ narrow .char (.int (mm_chr i.toNatClampNeg)) = .int (mm_chr i.toNatClampNeg) := by
  rcases ch_in hi with rfl | rfl | rfl | rfl | rfl | rfl | rfl <;> exact ⟨by decide +kernel, by decide +kernel⟩
def chV (z : mm_Z) (av : Nat) (U : State) : Prop := va_T .byte av 7 (fun j => .int ((([[40, 97, 124, 110, 41, 42, 110]] : List (List Int32)).getD 0 []).getD j 0)) (fun q => z.1.2.2.1 ≤ q) U z.1.2.2.2
theorem ch_vX (av : Nat) : chX (chV z av) := fun _ _ hv h => va_T.moved hv h
theorem ch_lA (hi : vp_in i 7) {av : Nat} : chM l z h ch_ylA prog_20_method_2_code 2 (some .char) 3 150 [.ref av, .int i] (chV z av) (some (.int (mm_chr i.toNatClampNeg))) := by
  refine ch_of (by decide +kernel) (Nat.le_refl _) ?_
  intro p e R s m below meth c hf hlc hx hb hml hown hts hRl hFN hX hrt hlk ls hl
  have h0 := lv_at hl 0 (i := 0) (v := .ref av) rfl
  have h1 := lv_at hl 1 (i := 1) (v := .int i) rfl
  obtain ⟨v1, v2⟩ := ch_val hi
  have hT := va_T.kept hX (ch_k hRl)
  refine lv_iload_n hx hb (k := 1) (by decide +kernel) rfl h1 ?_
  refine lv_aload_n hx hb (k := 0) (by decide +kernel) rfl h0 ?_
  refine va_tlen hx hb hT (ch_S hRl hRl (fun q hq => by cases hq)) (v := 7) rfl (by decide +kernel) ?_
  refine ch_cS (own := "java/lang/StringLatin1") (idx := 9) (n := 2) (rest := []) (as := [.int i, .int 7]) hx hb hml hown hts hFN hRl (fun q hq => by cases hq) chT trivial (ch_cI hi) ch_wcI (mm_tA_in (i := 1375) (by decide +kernel)) (mm_tA_in (i := 118) (by decide +kernel)) (mm_tA_in (i := 1374) (by decide +kernel)) ⟨by decide, by decide, by decide +kernel⟩ rfl (by omega) (by omega) hl.1 (by decide) (Nat.zero_le _) (Nat.zero_le _) (by decide +kernel) ?_
  intro H1 locs1 hR1 hl1
  refine lv_aload_n hx hb (k := 0) (by decide +kernel) rfl h0 ?_
  refine lv_iload_n hx hb (k := 1) (by decide +kernel) rfl h1 ?_
  refine va_tb hx hb hT (ch_S hRl hR1 hl1) hi rfl (by decide +kernel) ?_
  refine lv_sipush hx hb (n := 255) (v := 255) (by decide +kernel) (by decide) ?_
  refine lv_iand hx hb (by decide +kernel) ?_
  refine lv_i2c hx hb (v := mm_chr i.toNatClampNeg) (by decide +kernel) (by rw [v1]; rfl) ?_
  exact W.zret (ty := .char) hx hb hrt v2 (fun t hH hW => ⟨rfl, by rw [hH]; exact hR1⟩) hl1 (by decide +kernel) hlk
theorem ch_iL : chM l z h ch_yiL prog_19_method_154_code 1 (some .boolean) 1 50 [.ref z.1.2.1] (fun _ => True) (some (.int 1)) := by
  refine ch_of (by decide +kernel) (Nat.le_refl _) ?_
  intro p e R s m below meth c hf hlc hx hb hml hown hts hRl hFN hX hrt hlk ls hl
  have h0 := lv_at hl 0 (i := 0) (v := .ref z.1.2.1) rfl
  obtain ⟨s1, av, ff, s2, s3, s4, s5⟩ := hFN.2.2.2.2.2.2
  refine va_gets hx hb (own := "java/lang/String") (index := 38) (ref := "java/lang/String") (s3.kept (ch_k hRl)) (ch_S hRl hRl (fun q hq => by cases hq)) hown (hts _ (mm_tA_in (i := 1369) (by decide +kernel))) (fun x q => q) (by decide +kernel) ?_
  refine lv_if_eq hx hb (off := 14) (tgt := 17) (by decide +kernel) rfl (fun q => absurd q (by decide)) (fun _ => ?_)
  refine lv_aload_n hx hb (k := 0) (by decide +kernel) rfl h0 ?_
  refine vk_getf hx hb (own := "java/lang/String") (index := 15) (ref := "java/lang/String") ((s2.1 0 (by decide)).2.1.kept (ch_k hRl)) (ch_S hRl hRl (fun q hq => by cases hq)) hown (hts _ (mm_tA_in (i := 2037) (by decide +kernel))) (fun x q => q) (by decide +kernel) ?_
  refine lv_if_ne hx hb (off := 7) (tgt := 17) (by decide +kernel) rfl (fun q => absurd rfl q) (fun _ => ?_)
  refine lv_iconst hx hb (n := 1) (v := 1) (by decide +kernel) (by decide) ?_
  refine lv_goto hx hb (off := 4) (tgt := 18) (by decide +kernel) rfl ?_
  exact W.zret (ty := .boolean) hx hb hrt rfl (fun t hH hW => ⟨rfl, by rw [hH]; exact hRl⟩) (fun q hq => by cases hq) (by decide +kernel) hlk
theorem ch_cA (hi : vp_in i 7) : chM l z h ch_ycA prog_19_method_56_code 2 (some .char) 8 500 [.ref z.1.2.1, .int i] (fun _ => True) (some (.int (mm_chr i.toNatClampNeg))) := by
  refine ch_of (by decide +kernel) (Nat.le_refl _) ?_
  intro p e R s m below meth c hf hlc hx hb hml hown hts hRl hFN hX hrt hlk ls hl
  have h0 := lv_at hl 0 (i := 0) (v := .ref z.1.2.1) rfl
  have h1 := lv_at hl 1 (i := 1) (v := .int i) rfl
  obtain ⟨v1, v2⟩ := ch_val hi
  obtain ⟨s1, av, ff, s2, s3, s4, s5⟩ := hFN.2.2.2.2.2.2
  have hvT : chV z av s := (s2.1 0 (by decide)).2.2.2
  have hS := ch_S hRl hRl (locs := []) (fun q hq => by cases hq)
  refine lv_aload_n hx hb (k := 0) (by decide +kernel) rfl h0 ?_
  have hCB : CallB R s (#[.ref z.1.2.1, .int i] : Array Value) "java/lang/String" 492 ch_yiL prog_19_method_154_code 1 (some .boolean) (.code ch_yiL prog_19_method_154_code 1 (some .boolean) :: mm_gT) { frames := 1, cells := 0, slots := 0, locals := 50 } 0 0 0 := callB_of (ws' := mm_gT) 0 hts (mm_gG _ _ _ _ ch_wiL) rfl rfl rfl (hts _ (mm_tA_in (i := 118) (by decide +kernel))) (hts _ (mm_tA_in (i := 1365) (by decide +kernel))) ⟨by decide, by decide, by decide +kernel⟩ ⟨by show 1 + 1 ≤ _; omega, by show 8 + (1 + 11) + 50 ≤ _; omega⟩
  have hPV : PreV s s.heap "java/lang/String" z.1.2.1 (chP z h [.ref z.1.2.1] (fun _ => True)) [] := ⟨chP_blind z h _ chT, vk_recv (s2.kept (ch_k hRl)) (i := 0) (by decide) hS, fun U hU hW => ⟨rfl, by rw [hU]; exact hRl, mm_FN.warm hW hFN, trivial⟩⟩
  refine ch_after (rest := []) (va_runV (Ts := mm_gT) ⟨hx, hb, hml, hown, hts⟩ (ch_iL (h := h)) ⟨hCB, (hts _ (mm_tA_in (i := 1366) (by decide +kernel))), (hts _ (mm_tA_in (i := 1367) (by decide +kernel)))⟩ hPV rfl rfl hl.1 rfl (Nat.zero_le _) (show decode prog_19_method_56_code 1 = .ok (.invokevirtual 492, 3) by decide +kernel) ⟨Nat.zero_le _, Nat.zero_le _⟩) (fun q hq => by cases hq) ?_
  intro H1 locs1 hR1 hl1
  refine lv_if_eq hx hb (off := 12) (tgt := 16) (by decide +kernel) rfl (fun q => absurd q (by decide)) (fun _ => ?_)
  refine lv_aload_n hx hb (k := 0) (by decide +kernel) rfl h0 ?_
  refine vk_getf hx hb (own := "java/lang/String") (index := 9) (ref := "java/lang/String") ((s2.1 0 (by decide)).2.2.1.kept (ch_k hRl)) (ch_S hRl hR1 hl1) hown (hts _ (mm_tA_in (i := 2038) (by decide +kernel))) (fun x q => q) (by decide +kernel) ?_
  refine lv_iload_n hx hb (k := 1) (by decide +kernel) rfl h1 ?_
  refine ch_cS (own := "java/lang/String") (idx := 495) (n := 2) (rest := []) (as := [.ref av, .int i]) hx hb hml hown hts hFN hR1 hl1 (ch_vX av) hvT (ch_lA hi) ch_wlA (mm_tA_in (i := 1372) (by decide +kernel)) (mm_tA_in (i := 119) (by decide +kernel)) (mm_tA_in (i := 1371) (by decide +kernel)) ⟨by decide, by decide, by decide +kernel⟩ rfl (by omega) (by omega) hl.1 (by decide) (Nat.zero_le _) (Nat.zero_le _) (by decide +kernel) ?_
  intro H2 locs2 hR2 hl2
  exact W.zret (ty := .char) hx hb hrt v2 (fun t hH hW => ⟨rfl, by rw [hH]; exact hR2⟩) hl2 (by decide +kernel) hlk
theorem ch_CH : mm_CH l z := ⟨prog_19_method_56_code, 2, by decide, ch_wcA, (mm_tA_in (i := 1362) (by decide +kernel)), (mm_tA_in (i := 1363) (by decide +kernel)), (mm_tA_in (i := 118) (by decide +kernel)), fun h i hi p e ha hc hk s m args below hf happ hP hK => ch_cA (h := h) hi p e ha hc hk s m args below hf happ ⟨hP.1, hP.2.1, hP.2.2, trivial⟩ hK⟩
end CHM
