/-! the world at the law's entry
-/
section WORLD
variable {s : State} {args : Array Value}
theorem ws_sel {C : String} {x0 y' y : MethodName} (hy : y.cls ≠ "java/lang/invoke/MethodHandle" ∧ y.cls ≠ "java/lang/invoke/VarHandle") (h0 : (Jvm.Cond.selects C x0 y').before args s = true) (hc : y'.cls = y.cls) (hpriv : (Jvm.Cond.privateMethod y).before args s = true) (hinst : (Jvm.Cond.instanceMethod y).before args s = true) : (Jvm.Cond.selects C y y).before args s = true := by
  obtain ⟨c, r, m', g1, g2, g3, g4, mk', g5, g6⟩ := Cond.selects_spec h0
  obtain ⟨mk, methM, hnamed, hmethM, -, -⟩ := Cond.instanceMethod_spec hinst
  have hfound : s.methodFound? y.cls y.name y.desc = some mk := State.methodFound?_of_named hnamed hy
  have hcls : mk.cls = m'.cls := by
    have h1 := findClass_of_methodNamed hnamed
    have h2 := findClass_of_methodNamed g3
    rw [hc] at h2
    exact Option.some.inj (h1.symm.trans h2)
  have hsel : selectMethod {} s.vm c mk = .method mk := selectMethod_private hmethM (Cond.privateMethod_at hpriv mk methM hnamed hmethM)
  simp only [Cond.before, Cond.holds, Cond.value, g1, hfound, hnamed, hsel, hcls, g5]
  simp
  exact g6
theorem ws_all (hts : ∀ w ∈ lw_tbl, w.before args s = true) : ∀ w ∈ mm_tbl, w.before args s = true := by
  have hat : ∀ {i : Nat} {w : Jvm.Cond}, mm_tbl[i + 2]? = some w → w.before args s = true := fun {i w} h => hts w (List.mem_of_getElem? (i := i) h)
  intro w hw
  rcases List.mem_append.mp hw with hw | hw
  · rcases List.mem_cons.mp hw with rfl | hw
    · exact ws_sel ⟨by decide, by decide⟩ (hat (i := 1000) (w := .selects "TermDraw$Matches" ⟨"TermDraw$Matches", "sort", "(I)V"⟩ ⟨"TermDraw$Order", "sort", "(I)V"⟩) (by decide +kernel)) rfl (hat (i := 1006) (by decide +kernel)) (hat (i := 1007) (by decide +kernel))
    · rcases List.mem_cons.mp hw with rfl | hw
      · exact ws_sel ⟨by decide, by decide⟩ (hat (i := 1258) (w := .selects "TermDraw$Measures" ⟨"TermDraw$Measures", "sort", "(I)V"⟩ ⟨"TermDraw$Order", "sort", "(I)V"⟩) (by decide +kernel)) rfl (hat (i := 1006) (by decide +kernel)) (hat (i := 1007) (by decide +kernel))
      · cases hw
  · exact hts w hw
theorem ws_inst : ∀ (ci : Nat) (r : vw_C), mm_cl[ci]? = some r → ∃ n, Jvm.Cond.instantiable r.1 n ∈ mm_gT := by
  intro ci r h
  match ci, h with
  | 0, h => cases h; exact ⟨8, (mm_tA_in (i := 338) (by decide +kernel))⟩
  | 1, h => cases h; exact ⟨2, (mm_tA_in (i := 135) (by decide +kernel))⟩
  | 2, h => cases h; exact ⟨9, (mm_tA_in (i := 379) (by decide +kernel))⟩
  | 3, h => cases h; exact ⟨9, (mm_tA_in (i := 520) (by decide +kernel))⟩
  | 4, h => cases h; exact ⟨3, (mm_tA_in (i := 194) (by decide +kernel))⟩
  | 5, h => cases h; exact ⟨5, (mm_tA_in (i := 244) (by decide +kernel))⟩
  | 6, h => cases h; exact ⟨3, (mm_tA_in (i := 219) (by decide +kernel))⟩
  | 7, h => cases h; exact ⟨7, (mm_tA_in (i := 154) (by decide +kernel))⟩
  | 8, h => cases h; exact ⟨20, (mm_tA_in (i := 437) (by decide +kernel))⟩
  | 9, h => cases h; exact ⟨13, (mm_tA_in (i := 188) (by decide +kernel))⟩
  | 10, h => cases h; exact ⟨15, (mm_tA_in (i := 127) (by decide +kernel))⟩
  | 11, h => cases h; exact ⟨65, (mm_tA_in (i := 1353) (by decide +kernel))⟩
  | n + 12, h => simp at h
theorem ws_arr {ty : FieldType} (hty : ∀ C, ty ≠ .object C) (h : (Jvm.Cond.arrayClass ty).before args s = true) : ∃ cA : ClassId, ArrOfT s cA ty ∧ va_RA s cA ty := by
  obtain ⟨c, k, comp, h1, h2, h3⟩ := Cond.arrayClass_spec h
  refine ⟨c, fun n z => ⟨fun k h => (by cases h), k, h2, comp, h3⟩, ?_⟩
  cases ty with
  | object C => exact absurd rfl (hty C)
  | _ => exact h1
theorem ws_arrO {C : String} (h : (Jvm.Cond.arrayOver (.object C)).before args s = true) : ∃ cA : ClassId, ArrOfT s cA (.object C) ∧ va_RA s cA (.object C) := by
  obtain ⟨comp, c, k, h1, h2, h3, h4, h5⟩ := Cond.arrayOver_spec h
  exact ⟨c, fun n z => ⟨fun k h => (by cases h), k, h3, comp, h4⟩, k, comp, h3, h4, h1, h5⟩
theorem ws_ref {t : Term} (h : (Jvm.Cond.isRef t).before args s = true) : ∃ v : Value, t.eval args s none [] s = some v ∧ (v = .null ∨ ∃ a, v = .ref a) := by
  obtain ⟨v, h1, h2⟩ := Cond.isRef_spec h
  refine ⟨v, h1, ?_⟩
  cases v with
  | null => exact Or.inl rfl
  | ref a => exact Or.inr ⟨a, rfl⟩
  | _ => cases h2
set_option maxHeartbeats 4000000 in
theorem ws_FN {b L : Nat} {xs : Nat → Int32} (hts : ∀ w ∈ lw_tbl, w.before args s = true) (hX : va_X b L xs s s.heap) (hbl : b < s.heap.size) (hgv : (Jvm.Cond.and given_1 narrow_1).before args s = true) : ∃ (tx : Nat) (D : va_G) (tA : Nat → ClassId), mm_FN ((b, tx, s.heap.size, s.heap), D, tA, L, xs) s := by
  have hall := ws_all hts
  have hgT : ∀ w ∈ mm_gT, w.before args s = true := fun w hw => hall w (List.mem_filter.mp hw).1
  have hgv := flat_of_before _ hgv
  have h0 : ∀ ci : Nat, ∃ q : ClassId × (Nat → Nat), ∀ r, mm_cl[ci]? = some r → u_Kn s r.1 r.2.1 r.2.2 q.1 q.2 := by
    intro ci
    cases hc : mm_cl[ci]? with
    | none => exact ⟨(0, fun _ => 0), fun r h => by cases h⟩
    | some r =>
      obtain ⟨n, hn⟩ := ws_inst ci r hc
      obtain ⟨cC, iS, hK⟩ := u_known hgT (mm_cls ci r hc).1 (hgT _ hn)
      exact ⟨(cC, iS), fun r' h => by cases h; exact hK⟩
  obtain ⟨ad, had⟩ := Classical.axiomOfChoice h0
  obtain ⟨a12, b12⟩ := ws_arr (ty := .int) (fun C h => by cases h) (hgT _ mm_acI)
  obtain ⟨a13, b13⟩ := ws_arr (ty := .long) (fun C h => by cases h) (hgT _ mm_acJ)
  obtain ⟨a14, b14⟩ := ws_arr (ty := .boolean) (fun C h => by cases h) (hgT _ mm_acZ)
  have hao : (Jvm.Cond.arrayOver (.object "TermDraw$Told")).before args s = true := hall _ (List.mem_of_getElem? (i := 336) (by decide +kernel))
  obtain ⟨a15, b15⟩ := ws_arrO hao
  obtain ⟨adK, adV, hV, hE⟩ := vk_Sof (args := args) (s := s) (N := 1) (tm := fun _ => .string "TermDrawModel" 143) (len := [7]) (byt := [[40, 97, 124, 110, 41, 42, 110]]) (A := fun q => s.heap.size ≤ q) (fun i hi => by rw [show i = 0 by omega]; decide) (fun i hi => hgv _ (by decide +kernel)) (fun i hi => hgv _ (by decide +kernel)) (fun i hi => hgv _ (by decide +kernel)) (fun i hi => by rw [show i = 0 by omega]; exact hgv _ (by decide +kernel)) (fun i hi j hj => by
      obtain rfl : i = 0 := by omega
      have hj : j < 7 := hj
      match j, hj with
      | 0, _ => exact hgv _ (by decide +kernel)
      | 1, _ => exact hgv _ (by decide +kernel)
      | 2, _ => exact hgv _ (by decide +kernel)
      | 3, _ => exact hgv _ (by decide +kernel)
      | 4, _ => exact hgv _ (by decide +kernel)
      | 5, _ => exact hgv _ (by decide +kernel)
      | 6, _ => exact hgv _ (by decide +kernel)
      | n + 7, h => omega) (fun i j hi hj h => absurd (by omega) h) (fun a ha => Nat.not_le.mpr ha)
  have hc1 : va_Z "java/lang/String" "COMPACT_STRINGS" "Z" (.int 1) (fun q => s.heap.size ≤ q) s s.heap := va_Zof (args := args) (hall _ (List.mem_of_getElem? (i := 1370) (by decide +kernel))) (hgT _ (mm_tA_in (i := 118) (by decide +kernel))) (va_eqi (hgv _ (by decide +kernel))) (fun a ha => Nat.not_le.mpr ha)
  obtain ⟨ff, hff, hff2⟩ := ws_ref (args := args) (s := s) (t := .static "jdk/internal/util/Preconditions" "SIOOBE_FORMATTER" "Ljava/util/function/BiFunction;") (hgv _ (by decide +kernel))
  have hc2 : va_Z "jdk/internal/util/Preconditions" "SIOOBE_FORMATTER" "Ljava/util/function/BiFunction;" ff (fun q => s.heap.size ≤ q) s s.heap := va_Zof (args := args) (hall _ (List.mem_of_getElem? (i := 1378) (by decide +kernel))) (hgT _ (mm_tA_in (i := 120) (by decide +kernel))) hff (fun a ha => Nat.not_le.mpr ha)
  refine ⟨adK 0, (fun c => (ad c).1, fun c => (ad c).2), fun k => if k = 12 then a12 else if k = 13 then a13 else if k = 14 then a14 else a15, fun w hw hn => ?_, ⟨fun c q hq => had c q hq, fun k q hq => ?_⟩, va_AO.of hao, vk_R.of (A := args) (hall _ (List.mem_of_getElem? (i := 1360) (by decide +kernel))) (hE 0 (by decide)), hX, hbl, rfl, adV 0, ff, ⟨fun i hi => ?_, fun i j hi hj _ => by omega⟩, hc1, hc2, hff2⟩
  · have hb := hall w hw
    cases w <;> first | exact va_Nw.of rfl hb | cases hn
  · match k, hq with
    | 0, hq => cases hq; exact b12
    | 1, hq => cases hq; exact b13
    | 2, hq => cases hq; exact b14
    | 3, hq => cases hq; exact b15
    | k + 4, hq => simp at hq
  · obtain rfl : i = 0 := by omega
    exact hV.1 0 (by decide)
end WORLD
