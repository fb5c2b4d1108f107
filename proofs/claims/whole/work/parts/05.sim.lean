/-! the machine does what the small machine does: instruction by instruction -/
def mm_isN : Jvm.Cond → Bool
  | .methodLinkNest .. => true
  | .declares _ => true
  | _ => false
/-- the text's cells, two statics of the JDK's -/
def mm_ST (z : mm_Z) (U : State) : Prop := z.1.2.2.2.size = z.1.2.2.1 ∧ ∃ (av : Nat) (ff : Value), vk_S 1 [7] [[40, 97, 124, 110, 41, 42, 110]] (fun _ => z.1.2.1) (fun _ => av) (fun q => z.1.2.2.1 ≤ q) U z.1.2.2.2 ∧ va_Z "java/lang/String" "COMPACT_STRINGS" "Z" (.int 1) (fun q => z.1.2.2.1 ≤ q) U z.1.2.2.2 ∧ va_Z "jdk/internal/util/Preconditions" "SIOOBE_FORMATTER" "Ljava/util/function/BiFunction;" ff (fun q => z.1.2.2.1 ≤ q) U z.1.2.2.2 ∧ (ff = .null ∨ ∃ a, ff = .ref a)
theorem mm_ST.moved {z : mm_Z} {u U : State} (hv : u.vm.Alike U.vm) (h : mm_ST z u) : mm_ST z U := by
  obtain ⟨h1, av, ff, h2, h3, h4, h5⟩ := h
  exact ⟨h1, av, ff, h2.moved hv, h3.moved hv, h4.moved hv, h5⟩
/-- what the tables say, that is no plain word -/
def mm_FN (z : mm_Z) (U : State) : Prop := (∀ w ∈ mm_tbl, mm_isN w = true → va_Nw w U) ∧ va_K z.2.1 mm_cl [(z.2.2.1 12, .int), (z.2.2.1 13, .long), (z.2.2.1 14, .boolean), (z.2.2.1 15, .object "TermDraw$Told")] U ∧ va_AO "TermDraw$Told" U ∧ vk_R "TermDrawModel" 143 "(a|n)*n" z.1.2.1 U ∧ va_X z.1.1 z.2.2.2.1 z.2.2.2.2 U z.1.2.2.2 ∧ z.1.1 < z.1.2.2.1 ∧ mm_ST z U
theorem mm_FN.warm {z : mm_Z} {s U : State} (hW : s.WarmedH U.vm) (h : mm_FN z s) : mm_FN z U := by
  obtain ⟨h1, h2, h3, h4, h5, h6, h7⟩ := h
  refine ⟨fun w hw hn => ?_, va_K.moved hW.alike h2, va_AO.moved hW.alike h3, vk_R.warm hW h4, va_X.moved hW.alike h5, h6, h7.moved hW.alike⟩
  have := h1 w hw hn
  cases w <;> first | exact va_Nw.warmM hW this | exact va_Nw.warmD hW this | cases hn
theorem mm_FN.same {z : mm_Z} {u U : State} (hv : U.vm = u.vm) (h : mm_FN z u) : mm_FN z U := by
  obtain ⟨h1, h2, h3, h4, h5, h6, h7⟩ := h
  have ha : u.vm.Alike U.vm := by rw [hv]; exact Vm.Alike.refl _
  refine ⟨fun w hw hn => ?_, va_K.moved ha h2, va_AO.moved ha h3, vk_R.same hv h4, va_X.moved ha h5, h6, h7.moved ha⟩
  have := h1 w hw hn
  cases w <;> first | exact va_Nw.same rfl hv.symm this | cases hn
/-- a frame of method mi, d calls deep at most below it -/
def mm_Fr (p : Program) (R : Room) (s : State) (m : MethodId) (args : Array Value) (meth : Method) (c : Code) (z : mm_Z) (mi d : Nat) : Prop :=
  p.tables.exec = Jvm.exec ∧ c.code = mm_yb mi ∧ c.maxLocals = mm_ml mi ∧ s.vm.findClass (mm_yn mi).cls = some m.cls ∧ (∀ w ∈ mm_gT, w.before args s = true) ∧ mm_FN z s ∧ ((mm_yn mi).name = "<init>" → meth.name = "<init>") ∧ d + 10 ≤ R.frames ∧ 64 * (d + 10) ≤ R.locals ∧ mm_ml mi ≤ 40
/-- how it goes on -/
def mm_KN (p : Program) (l : Launch) (e : Env) (R : Room) (s : State) (m : MethodId) (args : Array Value) (below : List Frame) (meth : Method) (c : Code) (Q : State → Prop) (z : mm_Z) (mi n0 m0 : Nat) (F : Nat → mm_Lv → List Value → mm_H → Prop) : Prop :=
  ∀ (ip pc : Nat) (L : mm_Lv) (st : List Value) (h : mm_H) (H : Heap) (locs : List Loc) (ls : Array Slot) (cells slots : Nat), F ip L st h → mm_po mi ip pc = true → mm_Rel z h H → lv_has ls (mm_ml mi) (mm_pr z 0 L) → (∀ q ∈ locs, z.1.2.2.1 ≤ q.base) → cells + n0 = hN h → slots + m0 = hM h → W p l e R s m args below meth c H locs cells slots Q (F0 m pc ls (st.map (mm_tr z)))
/-- a contract's start and end -/
def mm_Pc (z : mm_Z) (as : List Value) (h : mm_H) : Array Value → State → Prop := fun v U => v = (as.map (mm_tr z)).toArray ∧ mm_Rel z h U.heap ∧ mm_FN z U
def mm_Qc (z : mm_Z) (r : Option Value) (h : mm_H) : Array Value → State → Outcome → State → Prop := fun _ _ o t => o = .returned (r.map (mm_tr z)) ∧ mm_Rel z h t.heap
theorem mm_Pc_blind (z : mm_Z) (as : List Value) (h : mm_H) : FrameBlind (mm_Pc z as h) := fun a U g mk hp => ⟨hp.1, hp.2.1, mm_FN.same (u := U) rfl hp.2.2⟩
section SIM
variable {p : Program} {l : Launch} {e : Env} {R : Room} {s : State} {m : MethodId} {args : Array Value} {below : List Frame} {meth : Method} {c : Code} {Q : State → Prop}
variable {z : mm_Z} {mi d n0 m0 : Nat} {F : Nat → mm_Lv → List Value → mm_H → Prop}
variable {ip pc : Nat} {L : mm_Lv} {st : List Value} {h : mm_H} {H : Heap} {locs : List Loc} {ls : Array Slot} {cells slots : Nat}
theorem mm_d_dec {ins : Instr} {k : Nat} (h : mm_d mi ip ins pc k = true) : decode (mm_yb mi) pc = .ok (ins, k) ∧ mm_po mi (ip + 1) (pc + k) = true := by
  unfold mm_d at h
  simp only [Bool.and_eq_true, decide_eq_true_eq] at h
  exact h
theorem mm_tg_po {t : Nat} {off : Int} (h : mm_tg mi pc t off = true) : ∃ tgt : Nat, (pc : Int) + off = (tgt : Int) ∧ mm_po mi t tgt = true := by
  unfold mm_tg at h
  unfold mm_po
  cases hc : mm_at mi t with
  | none => rw [hc] at h; cases h
  | some q =>
    rw [hc] at h
    refine ⟨q.2.1, by simpa using h, ?_⟩
    simp
/-- what the rows of loads and stores need -/
theorem mm_s_ld {k : Nat} {v : Value} (hl : lv_has ls (mm_ml mi) (mm_pr z 0 L)) (hk : mm_lg L k = some (some v)) : ls[k]? = some (.val (mm_tr z v)) := mm_has_at hl hk
/-- a field, read -/
theorem mm_getf {own ref : String} {index ci k : Nat} {C : String} {T : u_T} {N : Nat} (hF : mm_Fr p R s m args meth c z mi d) (hRl : mm_Rel z h H) {a : Nat} (hk : (hK h a).1 = ci) (hci : ci < 12) (hc : mm_cl[ci]? = some (C, T, N)) (hu : ∀ w ∈ u_ws C T N, w ∈ mm_gT) (hkN : k < N)
    (hlink : (Jvm.Cond.fieldLink (mm_yn mi).cls index ref (T k).2.1 (T k).2.2.1) ∈ mm_gT) (hsame : (T k).1 = ref ∨ (Jvm.Cond.sameField ref (T k).1 (T k).2.1 (T k).2.2.1) ∈ mm_gT) {v : Value} (hv : mm_v z h a (mm_dc (T k).2.2.1) k = v) (hdg : decode (mm_yb mi) pc = .ok (.getfield index, 3)) {rest : List Value}
    (kk : W p l e R s m args below meth c H locs cells slots Q (F0 m (pc + 3) ls (v :: rest))) : W p l e R s m args below meth c H locs cells slots Q (F0 m pc ls (.ref (mm_ad z a) :: rest)) := by
  obtain ⟨hx, hb, hml, hown, hts, hFN, -⟩ := hF
  obtain ⟨cell, q1, q2, q3, q4⟩ := hRl.obj hk hci hc
  obtain ⟨hS, hfc, kC, hkC, hkind⟩ := hFN.2.1.1 ci _ hc
  obtain ⟨cf, kf, fi, f, hi, hsl⟩ := hS k hkN
  have hi2 : s.fieldFound? ref (T k).2.1 (T k).2.2.1 = some (cf, kf, fi, f) := by
    rcases hsame with e | e
    · rw [← e]; exact hi
    · exact u_same (hts _ e) _ hi
  refine W.getf hx hb hown (hts _ hlink) hi2 (u_facts hfc hkC (u_lays (fun w hw => hts w hw) hu hkN) hi).1 q1 (by rw [q3]; exact fun h => by cases h) (v := v) ?_ rfl rfl hdg kk
  rw [hsl, q4 k hkN]
  exact congrArg some hv
/-- a field, written -/
theorem mm_putf {own ref : String} {index ci k : Nat} {C : String} {T : u_T} {N : Nat} (hF : mm_Fr p R s m args meth c z mi d) (hRl : mm_Rel z h H) {a : Nat} (hk : (hK h a).1 = ci) (hci : ci < 12) (hc : mm_cl[ci]? = some (C, T, N)) (hu : ∀ w ∈ u_ws C T N, w ∈ mm_gT) (hkN : k < N)
    (hty : ∀ k, k < N → ∃ t, parseFieldDescriptor (T k).2.2.1 = some t) (hnm : ∀ a, a < N → ∀ b, b < N → a ≠ b → (T a).2.1 ≠ (T b).2.1)
    (hlink : (Jvm.Cond.fieldLink (mm_yn mi).cls index ref (T k).2.1 (T k).2.2.1) ∈ mm_gT) (hsame : (T k).1 = ref ∨ (Jvm.Cond.sameField ref (T k).1 (T k).2.1 (T k).2.2.1) ∈ mm_gT) (hfin : (T k).2.2.2 = false ∨ ((T k).2.2.2 = true ∧ (mm_yn mi).name = "<init>" ∧ (T k).1 = (mm_yn mi).cls)) {ty : FieldType} {v : Value} (hd : parseFieldDescriptor (T k).2.2.1 = some ty) (hn : narrow ty v = v) (hfit : fits ty v = true)
    {h' : mm_H} (hN' : hN h' = hN h) (hK' : ∀ i, hK h' i = hK h i) (hI' : ∀ i, i ≠ a → ∀ k, hI h' i k = hI h i k) (hL' : ∀ i, i ≠ a → ∀ k, hL h' i k = hL h i k) (hR' : ∀ i, i ≠ a → ∀ k, hR h' i k = hR h i k)
    (hv : ∀ j, j < N → mm_v z h' a (mm_dc (T j).2.2.1) j = updV (fun k => mm_v z h a (mm_dc (T k).2.2.1) k) k v j) (hdg : decode (mm_yb mi) pc = .ok (.putfield index, 3)) {rest : List Value} (hlo : ∀ q ∈ locs, z.1.2.2.1 ≤ q.base)
    (kk : ∀ (H1 : Heap) (locs1 : List Loc), mm_Rel z h' H1 → (∀ q ∈ locs1, z.1.2.2.1 ≤ q.base) → W p l e R s m args below meth c H1 locs1 cells slots Q (F0 m (pc + 3) ls rest)) : W p l e R s m args below meth c H locs cells slots Q (F0 m pc ls (v :: .ref (mm_ad z a) :: rest)) := by
  obtain ⟨hx, hb, hml, hown, hts, hFN, hini, -⟩ := hF
  obtain ⟨ha3, haN⟩ := hRl.in (a := a) (by omega)
  obtain ⟨cell, q1, q2, q3, q4⟩ := hRl.obj hk hci hc
  obtain ⟨hS, hfc, kC, hkC, hkind⟩ := hFN.2.1.1 ci _ hc
  obtain ⟨cf, kf, fi, f, hi, hsl⟩ := hS k hkN
  have hap : ∀ x y, x < N → y < N → x ≠ y → (z.2.1.2 ci) x ≠ (z.2.1.2 ci) y := by
    intro x y hx1 hy1 hne
    obtain ⟨_, _, _, fa, hia, ea⟩ := hS x hx1
    obtain ⟨_, _, _, fb, hib, eb⟩ := hS y hy1
    obtain ⟨tx, htx⟩ := hty x hx1
    obtain ⟨t2, ht2⟩ := hty y hy1
    rw [← ea, ← eb]
    refine u_apart (u_lays (fun w hw => hts w hw) hu hx1) (u_lays (fun w hw => hts w hw) hu hy1) hia hib ?_
    rw [(State.fieldFound?_type hia htx).1, (State.fieldFound?_type hib ht2).1]
    exact hnm x hx1 y hy1 hne
  have hi2 : s.fieldFound? ref (T k).2.1 (T k).2.2.1 = some (cf, kf, fi, f) := by
    rcases hsame with e | e
    · rw [← e]; exact hi
    · exact u_same (hts _ e) _ hi
  have hlay := hts _ (hu _ (u_in_lay hkN))
  unfold u_lay at hlay
  have hst := (u_facts hfc hkC (u_lays (fun w hw => hts w hw) hu hkN) hi).1
  have fin : ∀ H' : Heap, H'[mm_ad z a]? = some (cell.setSlot f.slot v) → H'.size = H.size → (∀ q, q ≠ mm_ad z a → H'[q]? = H[q]?) → W p l e R s m args below meth c H' (locs ++ [⟨mm_ad z a, f.slot⟩]) cells slots Q (F0 m (pc + 3) ls rest) := by
    intro H' e1 e2 e3
    refine kk H' _ (hRl.write ha3 hN' hK' hI' hL' hR' e2 e3 ?_) (fun q hq => ?_)
    · refine Or.inl ⟨by rw [hK', hk]; exact hci, (C, T, N), by rw [hK', hk]; exact hc, ?_⟩
      rw [hK', hk]
      rw [hsl] at e1
      exact t_OB.to (V := updV (fun k => mm_v z h a (mm_dc (T k).2.2.1) k) k v) ⟨_, e1, q2, q3, t_set q4 hap hkN v⟩ (fun j hj => (hv j hj).symm)
    · rcases List.mem_append.mp hq with hq | hq
      · exact hlo q hq
      · rw [List.mem_singleton.mp hq]; exact mm_ad_ge ha3
  rcases hfin with hf | ⟨hf, hin, hdecl⟩
  · rw [if_neg (by rw [hf]; decide)] at hlay
    have h6 := u_store hfc hkC hkind hlay hi hd hn hfit
    exact W.putK hx hb (f := f) ⟨hown, hts _ hlink, ⟨_, _, _, hi2⟩, hst⟩ (by rw [q2]; exact h6) q1 q3 (by rw [hsl]; exact k2_hasslot (q4 k hkN)) rfl rfl hdg fin
  · rw [if_pos hf] at hlay
    have hcf : m.cls = cf := by
      obtain ⟨_, _, c', _, _, _, -, -, hf', -, -, -, hown2, -⟩ := Cond.laysFinal_spec hlay
      have e1 : c' = cf := by have := hi.symm.trans hf'; simp at this; exact this.1.symm
      rw [hdecl] at hown2
      rw [← e1]; exact Option.some.inj (hown.symm.trans hown2)
    have h6 := u_fits hfc hkC hkind (Or.inr hlay) hi hd hn hfit
    exact W.putFinK hx hb hown (hts _ hlink) hi2 hst hcf (hini hin) (by rw [q2]; exact h6) q1 q3 (by rw [hsl]; exact k2_hasslot (q4 k hkN)) rfl rfl hdg fin
/-- an element, read: what the rows need -/
theorem mm_ar_in {kd a : Nat} {i : Int32} (hRl : mm_Rel z h H) (hk : mm_ix h a kd i) (h1 : 12 ≤ kd) (h2 : kd < 16) : ∃ cell : Cell, H[mm_ad z a]? = some cell ∧ cell = arrV (z.2.2.1 kd) (hK h a).2 (fun j => mm_v z h a (mm_aty kd) j) ∧ ¬ (i < 0 ∨ cell.slots.size ≤ i.toNatClampNeg) ∧ cell.slots[i.toNatClampNeg]? = some (mm_v z h a (mm_aty kd) i.toNatClampNeg) := by
  refine ⟨_, hRl.arr hk.1 h1 h2, rfl, by rw [arrV_size]; exact hk.2, ?_⟩
  exact arrV_read _ _ (Nat.not_le.mp fun q => hk.2 (Or.inr q))
/-- an element, written -/
theorem mm_ar_put {kd a : Nat} {i : Int32} {H' : Heap} {cell : Cell} {w : Value} {h' : mm_H} (hRl : mm_Rel z h H) (hk : mm_ix h a kd i) (h1 : 12 ≤ kd) (h2 : kd < 16) (hc : cell = arrV (z.2.2.1 kd) (hK h a).2 (fun j => mm_v z h a (mm_aty kd) j))
    (e1 : H'[mm_ad z a]? = some (cell.setSlot i.toNatClampNeg w)) (e2 : H'.size = H.size) (e3 : ∀ q, q ≠ mm_ad z a → H'[q]? = H[q]?)
    (hN' : hN h' = hN h) (hK' : ∀ i, hK h' i = hK h i) (hI' : ∀ i, i ≠ a → ∀ k, hI h' i k = hI h i k) (hL' : ∀ i, i ≠ a → ∀ k, hL h' i k = hL h i k) (hR' : ∀ i, i ≠ a → ∀ k, hR h' i k = hR h i k)
    (hv : ∀ j, mm_v z h' a (mm_aty kd) j = updV (fun j => mm_v z h a (mm_aty kd) j) i.toNatClampNeg w j) : mm_Rel z h' H' := by
  obtain ⟨ha3, haN⟩ := hRl.in (a := a) (by rw [hk.1]; exact h2)
  refine hRl.write ha3 hN' hK' hI' hL' hR' e2 e3 (Or.inr ⟨by rw [hK', hk.1]; exact h1, ?_⟩)
  rw [hK', hk.1, e1, hc, arrV_store]
  congr 2
  funext j
  exact (hv j).symm
theorem mm_recv {a ci : Nat} (hRl : mm_Rel z h H) (hFN : mm_FN z s) (hk : (hK h a).1 = ci) (hci : ci < 12) : ∃ cell : Cell, H[mm_ad z a]? = some cell ∧ cell.vm.isStatics = false ∧ s.vm.findClass (mm_kn ci) = some cell.cls := by
  have hc : ∃ r, mm_cl[ci]? = some r := by
    refine ⟨mm_cl[ci]'(by simpa using hci), ?_⟩
    simp
  obtain ⟨r, hc⟩ := hc
  obtain ⟨cell, q1, q2, q3, q4⟩ := hRl.obj hk hci hc
  obtain ⟨hS, hfc, kC, hkC, hkind⟩ := hFN.2.1.1 ci _ hc
  refine ⟨cell, q1, by rw [q3]; rfl, ?_⟩
  have : mm_kn ci = r.1 := by unfold mm_kn; rw [hc]
  rw [this, q2]
  exact hfc
theorem mm_rv_eq : ∀ (l a : List Value), mm_rv l a = l.reverse ++ a := by
  intro l
  induction l with
  | nil => intro a; rfl
  | cons v r ih => intro a; rw [mm_rv, ih]; simp
theorem mm_tk_dr : ∀ (n : Nat) (l : List Value), mm_tk n l ++ mm_dr n l = l := by
  intro n
  induction n with
  | zero => intro l; cases l <;> rfl
  | succ n ih =>
    intro l
    cases l with
    | nil => rfl
    | cons a r => simp [mm_tk, mm_dr, ih]
theorem mm_tk_len : ∀ (n : Nat) (l : List Value), n ≤ l.length → (mm_tk n l).length = n := by
  intro n
  induction n with
  | zero => intro l h; cases l <;> rfl
  | succ n ih =>
    intro l h
    cases l with
    | nil => simp at h
    | cons a r => simp [mm_tk]; exact ih r (by simpa using h)
theorem mm_cs_sum : ∀ (l : List Value), ((l.map (mm_tr z)).map fun v => v.category).sum = mm_cs l := by
  intro l
  induction l with
  | nil => rfl
  | cons a r ih =>
    simp only [List.map_cons, List.sum_cons, ih, mm_cs]
    cases a <;> rfl
/-- the stack at a call: the arguments, and what lies below -/
theorem mm_stack {n : Nat} (hn : mm_n n st = true) : st.map (mm_tr z) = ((mm_rv (mm_tk n st) []).map (mm_tr z)).reverse ++ (mm_dr n st).map (mm_tr z) ∧ (mm_rv (mm_tk n st) []).length = n ∧ (((mm_dr n st).map (mm_tr z)).map fun v => v.category).sum ≤ 8 := by
  unfold mm_n at hn
  simp only [Bool.and_eq_true] at hn
  have h1 := Nat.le_of_ble_eq_true hn.1
  have h2 := Nat.le_of_ble_eq_true hn.2
  refine ⟨?_, ?_, ?_⟩
  · rw [mm_rv_eq, List.append_nil, ← List.map_reverse, List.reverse_reverse, ← List.map_append, mm_tk_dr]
  · rw [mm_rv_eq, List.append_nil, List.length_reverse, mm_tk_len _ _ h1]
  · rw [mm_cs_sum]; exact h2
/-- behind a call -/
theorem mm_after {r : Option Value} {h1 : mm_H} {mc ms : Nat} {a : Array Value} {rest st0 : List Value} (hr : va_Run p l e R s m args below meth c H locs cells slots mc ms (F0 m pc ls st0) (rest.map (mm_tr z)) (mm_Qc z r h1 a) (fun q => z.1.2.2.1 ≤ q)) (hlo : ∀ q ∈ locs, z.1.2.2.1 ≤ q.base)
    (kk : ∀ (H1 : Heap) (locs1 : List Loc), mm_Rel z h1 H1 → (∀ q ∈ locs1, z.1.2.2.1 ≤ q.base) → W p l e R s m args below meth c H1 locs1 (cells + mc) (slots + ms) Q (F0 m (pc + 3) ls ((match r with | none => rest | some v => v :: rest).map (mm_tr z)))) : W p l e R s m args below meth c H locs cells slots Q (F0 m pc ls st0) := by
  intro T hT X
  obtain ⟨v, st₀, t, T', L, h0, X', hL, e1, e2, ⟨hv, hRel⟩, stp⟩ := hr T hT X
  have hv : v = r.map (mm_tr z) := Outcome.returned.inj hv
  subst hv
  obtain ⟨t2, a1, b1⟩ := kk T'.heap (locs ++ L) (by rw [e1]; exact hRel) (fun q hq => by
    rcases List.mem_append.mp hq with h | h
    · exact hlo q h
    · exact hL q h) T' rfl X'
  refine ⟨t2, stp t2 ?_, b1⟩
  cases r with
  | none => exact a1
  | some v => exact a1
end SIM
