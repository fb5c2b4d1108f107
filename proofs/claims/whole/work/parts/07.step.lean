/-! one instruction -/
/-- a callee's contract, as a caller needs it -/
def mm_CO (l : Launch) (R : Room) (z : mm_Z) (d n0 m0 : Nat) (h : mm_H) (m : Nat) (as : List Value) (P : mm_Q) : Prop := ∃ r h1, P r h1 ∧ hN h ≤ hN h1 ∧ hM h ≤ hM h1 ∧ hN h1 ≤ R.cells + n0 ∧ hM h1 ≤ R.slots + m0 ∧ mm_ml m ≤ 40 ∧ (m < 293 → Jvm.Cond.code (mm_yn m) (mm_yb m) (mm_ml m) (mm_yr m) ∈ mm_gT) ∧ Met l (mm_yn m) (.code (mm_yn m) (mm_yb m) (mm_ml m) (mm_yr m) :: mm_gT) { frames := d + 9, cells := hN h1 - hN h, slots := hM h1 - hM h, locals := 64 * (d + 9) } (mm_Pc z as h) (mm_Qc z r h1) (hN h1 - hN h) (hM h1 - hM h) (fun q => z.1.2.2.1 ≤ q)
/-- a return, by its instruction -/
def mm_ro (mi pc : Nat) (r : Option Value) : Prop := match r with
  | none => decode (mm_yb mi) pc = .ok (.return_, 1) ∧ mm_yr mi = none
  | some (.int v) => decode (mm_yb mi) pc = .ok (.ireturn, 1) ∧ (mm_yr mi = some .int ∨ (mm_yr mi = some .boolean ∧ (v = 0 ∨ v = 1)))
  | some (.long _) => decode (mm_yb mi) pc = .ok (.lreturn, 1) ∧ mm_yr mi = some .long
  | some (.ref _) => decode (mm_yb mi) pc = .ok (.areturn, 1) ∧ ((∃ n, mm_yr mi = some (.object n)) ∨ ∃ t, mm_yr mi = some (.array t))
  | _ => False
section STEP
variable {p : Program} {l : Launch} {e : Env} {R : Room} {s : State} {m : MethodId} {args : Array Value} {below : List Frame} {meth : Method} {c : Code} {Q : State → Prop}
variable {z : mm_Z} {mi d n0 m0 : Nat} {F : Nat → mm_Lv → List Value → mm_H → Prop} {G : Nat → List Value → mm_Q → Prop} {Qr : mm_Q}
variable {ip pc : Nat} {L : mm_Lv} {st : List Value} {h : mm_H} {H : Heap} {locs : List Loc} {ls : Array Slot} {cells slots : Nat} {x : List Nat} {v : Value} {aux : List Nat}
theorem mm_pr_get {k : Nat} {w : Value} (hk : mm_lg L k = some (some w)) : ∃ j : Nat, (mm_pr z 0 L)[j]? = some (k, mm_tr z w) := List.getElem?_of_mem ((mm_pr_mem z _ _ _ _).mpr ⟨k, w, by omega, hk, rfl⟩)
theorem mm_sI_row {h : mm_H} {a k : Nat} {v : Int32} : hN (sI h a k v) = hN h ∧ (∀ i, hK (sI h a k v) i = hK h i) ∧ (∀ i, i ≠ a → ∀ j, hI (sI h a k v) i j = hI h i j) ∧ (∀ i, i ≠ a → ∀ j, hL (sI h a k v) i j = hL h i j) ∧ (∀ i, i ≠ a → ∀ j, hR (sI h a k v) i j = hR h i j) :=
  ⟨rfl, fun _ => rfl, fun i hi j => if_neg (fun q => hi q.1), fun _ _ _ => rfl, fun _ _ _ => rfl⟩
theorem mm_sL_row {h : mm_H} {a k : Nat} {v : Int64} : hN (sL h a k v) = hN h ∧ (∀ i, hK (sL h a k v) i = hK h i) ∧ (∀ i, i ≠ a → ∀ j, hI (sL h a k v) i j = hI h i j) ∧ (∀ i, i ≠ a → ∀ j, hL (sL h a k v) i j = hL h i j) ∧ (∀ i, i ≠ a → ∀ j, hR (sL h a k v) i j = hR h i j) :=
  ⟨rfl, fun _ => rfl, fun _ _ _ => rfl, fun i hi j => if_neg (fun q => hi q.1), fun _ _ _ => rfl⟩
theorem mm_sR_row {h : mm_H} {a k v : Nat} : hN (sR h a k v) = hN h ∧ (∀ i, hK (sR h a k v) i = hK h i) ∧ (∀ i, i ≠ a → ∀ j, hI (sR h a k v) i j = hI h i j) ∧ (∀ i, i ≠ a → ∀ j, hL (sR h a k v) i j = hL h i j) ∧ (∀ i, i ≠ a → ∀ j, hR (sR h a k v) i j = hR h i j) :=
  ⟨rfl, fun _ => rfl, fun _ _ _ => rfl, fun _ _ _ => rfl, fun i hi j => if_neg (fun q => hi q.1)⟩
theorem mm_v_sI {h : mm_H} {a k j ty ty0 : Nat} {w : Int32} (ht : j = k → ty = ty0) (h0 : ty0 ≠ 1 ∧ ty0 ≠ 2) : mm_v z (sI h a k w) a ty j = if j = k then .int w else mm_v z h a ty j := by
  by_cases e : j = k
  · subst e
    rw [if_pos rfl, ht rfl]
    unfold mm_v
    rw [if_neg h0.1, if_neg h0.2]
    exact congrArg Value.int (if_pos ⟨rfl, rfl⟩)
  · rw [if_neg e]
    unfold mm_v
    have : hI (sI h a k w) a j = hI h a j := if_neg (fun q => e q.2)
    rw [this]
    rfl
theorem mm_v_sL {h : mm_H} {a k j ty : Nat} {w : Int64} (ht : j = k → ty = 1) : mm_v z (sL h a k w) a ty j = if j = k then .long w else mm_v z h a ty j := by
  by_cases e : j = k
  · subst e
    rw [if_pos rfl, ht rfl]
    unfold mm_v
    rw [if_pos rfl]
    exact congrArg Value.long (if_pos ⟨rfl, rfl⟩)
  · rw [if_neg e]
    unfold mm_v
    have : hL (sL h a k w) a j = hL h a j := if_neg (fun q => e q.2)
    rw [this]
    rfl
theorem mm_v_sR {h : mm_H} {a k j ty w : Nat} (hw : ¬ w = 0) (ht : j = k → ty = 2) : mm_v z (sR h a k w) a ty j = if j = k then .ref (mm_ad z w) else mm_v z h a ty j := by
  by_cases e : j = k
  · subst e
    rw [if_pos rfl, ht rfl]
    unfold mm_v
    have : hR (sR h a j w) a j = w := if_pos ⟨rfl, rfl⟩
    rw [if_neg (by decide), if_pos rfl, this, if_neg hw]
  · rw [if_neg e]
    unfold mm_v
    have : hR (sR h a k w) a j = hR h a j := if_neg (fun q => e q.2)
    rw [this]
    rfl
/-- what a checked field is -/
theorem mm_ckF_o {own : String} {idx k ty pp q ci : Nat} (hc : mm_ckF own idx k ty pp q ci = true) : ∃ C T N ref, mm_cl[ci]? = some (C, T, N) ∧ ci < 12 ∧ k < N ∧ mm_dc (T k).2.2.1 = ty ∧ Jvm.Cond.fieldLink own idx ref (T k).2.1 (T k).2.2.1 ∈ mm_gT ∧ ((T k).1 = ref ∨ Jvm.Cond.sameField ref (T k).1 (T k).2.1 (T k).2.2.1 ∈ mm_gT) := by
  unfold mm_ckF at hc
  split at hc
  · rename_i o i r n dd C T N h1 h2
    simp only [Bool.and_eq_true, Bool.or_eq_true, decide_eq_true_eq] at hc
    obtain ⟨⟨⟨⟨⟨⟨⟨⟨e1, e2⟩, e3⟩, e4⟩, e5⟩, e6⟩, e7⟩, e8⟩, e9⟩ := hc
    have e2 := Nat.eq_of_beq_eq_true e2
    have e6 := Nat.eq_of_beq_eq_true e6
    subst e1; subst e2; subst e4; subst e5
    refine ⟨C, T, N, r, h2, by simpa using e9, by simpa using e3, e6, List.mem_filter.mpr ⟨List.mem_of_getElem? h1, e8⟩, ?_⟩
    rcases e7 with e7 | e7
    · exact Or.inl e7
    · exact Or.inr (mm_tA_in e7)
  · cases hc
theorem mm_kd_mem {k : Nat} : ∀ {ks : List Nat}, mm_kd k ks → k ∈ ks
  | [], h => h.elim
  | [c], h => by have : k = c := h; subst this; exact List.mem_cons_self
  | c :: d :: r, h => by
    have h : k = c ∨ mm_kd k (d :: r) := h
    rcases h with h | h
    · subst h; exact List.mem_cons_self
    · exact List.mem_cons_of_mem _ (mm_kd_mem h)
theorem mm_p_iload_n {k : Fin 4} (hF : mm_Fr p R s m args meth c z mi d) (hl : lv_has ls (mm_ml mi) (mm_pr z 0 L)) (hRl : mm_Rel z h H) (hlo : ∀ q ∈ locs, z.1.2.2.1 ≤ q.base) (hce : cells + n0 = hN h) (hsl : slots + m0 = hM h) (ck : mm_ck mi ip (.iload_n k) pc x v aux = true) (HO : mm_oW (mm_s1 (.iload_n k) x v ip L st h) F G ip L h Qr) (K : mm_KN p l e R s m args below meth c Q z mi n0 m0 F) : W p l e R s m args below meth c H locs cells slots Q (F0 m pc ls (st.map (mm_tr z))) := by
  obtain ⟨hx, hb, hml, hown, hts, hFN, hini, hfr, hlc, h40⟩ := id hF
  simp only [mm_ck, Bool.and_eq_true] at ck
  obtain ⟨c1, c2⟩ := ck
  obtain ⟨hd, hp⟩ := mm_d_dec c2
  replace HO : mm_oW (mm_ldI x ip L st h) F G ip L h Qr := HO
  unfold mm_ldI at HO
  split at HO
  · rename_i v hv
    have HF : F (ip + 1) L (.int v :: st) h := HO
    exact lv_iload_n hx hb hd (Nat.eq_of_beq_eq_true c1).symm (mm_s_ld hl hv) (K _ _ _ _ _ _ _ _ _ _ HF hp hRl hl hlo hce hsl)
  · exact HO.elim
theorem mm_p_iload {k : Nat} (hF : mm_Fr p R s m args meth c z mi d) (hl : lv_has ls (mm_ml mi) (mm_pr z 0 L)) (hRl : mm_Rel z h H) (hlo : ∀ q ∈ locs, z.1.2.2.1 ≤ q.base) (hce : cells + n0 = hN h) (hsl : slots + m0 = hM h) (ck : mm_ck mi ip (.iload k) pc x v aux = true) (HO : mm_oW (mm_s1 (.iload k) x v ip L st h) F G ip L h Qr) (K : mm_KN p l e R s m args below meth c Q z mi n0 m0 F) : W p l e R s m args below meth c H locs cells slots Q (F0 m pc ls (st.map (mm_tr z))) := by
  obtain ⟨hx, hb, hml, hown, hts, hFN, hini, hfr, hlc, h40⟩ := id hF
  simp only [mm_ck, Bool.and_eq_true] at ck
  obtain ⟨c1, c2⟩ := ck
  obtain ⟨hd, hp⟩ := mm_d_dec c2
  replace HO : mm_oW (mm_ldI x ip L st h) F G ip L h Qr := HO
  unfold mm_ldI at HO
  split at HO
  · rename_i v hv
    have HF : F (ip + 1) L (.int v :: st) h := HO
    rw [Nat.eq_of_beq_eq_true c1] at hv
    exact lv_iload hx hb hd (mm_s_ld hl hv) (K _ _ _ _ _ _ _ _ _ _ HF hp hRl hl hlo hce hsl)
  · exact HO.elim
theorem mm_p_lload_n {k : Fin 4} (hF : mm_Fr p R s m args meth c z mi d) (hl : lv_has ls (mm_ml mi) (mm_pr z 0 L)) (hRl : mm_Rel z h H) (hlo : ∀ q ∈ locs, z.1.2.2.1 ≤ q.base) (hce : cells + n0 = hN h) (hsl : slots + m0 = hM h) (ck : mm_ck mi ip (.lload_n k) pc x v aux = true) (HO : mm_oW (mm_s1 (.lload_n k) x v ip L st h) F G ip L h Qr) (K : mm_KN p l e R s m args below meth c Q z mi n0 m0 F) : W p l e R s m args below meth c H locs cells slots Q (F0 m pc ls (st.map (mm_tr z))) := by
  obtain ⟨hx, hb, hml, hown, hts, hFN, hini, hfr, hlc, h40⟩ := id hF
  simp only [mm_ck, Bool.and_eq_true] at ck
  obtain ⟨c1, c2⟩ := ck
  obtain ⟨hd, hp⟩ := mm_d_dec c2
  replace HO : mm_oW (mm_ldL x ip L st h) F G ip L h Qr := HO
  unfold mm_ldL at HO
  split at HO
  · rename_i v hv
    have HF : F (ip + 1) L (.long v :: st) h := HO
    exact lv_lload_n hx hb hd (Nat.eq_of_beq_eq_true c1).symm (mm_s_ld hl hv) (K _ _ _ _ _ _ _ _ _ _ HF hp hRl hl hlo hce hsl)
  · exact HO.elim
theorem mm_p_lload {k : Nat} (hF : mm_Fr p R s m args meth c z mi d) (hl : lv_has ls (mm_ml mi) (mm_pr z 0 L)) (hRl : mm_Rel z h H) (hlo : ∀ q ∈ locs, z.1.2.2.1 ≤ q.base) (hce : cells + n0 = hN h) (hsl : slots + m0 = hM h) (ck : mm_ck mi ip (.lload k) pc x v aux = true) (HO : mm_oW (mm_s1 (.lload k) x v ip L st h) F G ip L h Qr) (K : mm_KN p l e R s m args below meth c Q z mi n0 m0 F) : W p l e R s m args below meth c H locs cells slots Q (F0 m pc ls (st.map (mm_tr z))) := by
  obtain ⟨hx, hb, hml, hown, hts, hFN, hini, hfr, hlc, h40⟩ := id hF
  simp only [mm_ck, Bool.and_eq_true] at ck
  obtain ⟨c1, c2⟩ := ck
  obtain ⟨hd, hp⟩ := mm_d_dec c2
  replace HO : mm_oW (mm_ldL x ip L st h) F G ip L h Qr := HO
  unfold mm_ldL at HO
  split at HO
  · rename_i v hv
    have HF : F (ip + 1) L (.long v :: st) h := HO
    rw [Nat.eq_of_beq_eq_true c1] at hv
    exact lv_lload hx hb hd (mm_s_ld hl hv) (K _ _ _ _ _ _ _ _ _ _ HF hp hRl hl hlo hce hsl)
  · exact HO.elim
theorem mm_p_aload_n {k : Fin 4} (hF : mm_Fr p R s m args meth c z mi d) (hl : lv_has ls (mm_ml mi) (mm_pr z 0 L)) (hRl : mm_Rel z h H) (hlo : ∀ q ∈ locs, z.1.2.2.1 ≤ q.base) (hce : cells + n0 = hN h) (hsl : slots + m0 = hM h) (ck : mm_ck mi ip (.aload_n k) pc x v aux = true) (HO : mm_oW (mm_s1 (.aload_n k) x v ip L st h) F G ip L h Qr) (K : mm_KN p l e R s m args below meth c Q z mi n0 m0 F) : W p l e R s m args below meth c H locs cells slots Q (F0 m pc ls (st.map (mm_tr z))) := by
  obtain ⟨hx, hb, hml, hown, hts, hFN, hini, hfr, hlc, h40⟩ := id hF
  simp only [mm_ck, Bool.and_eq_true] at ck
  obtain ⟨c1, c2⟩ := ck
  obtain ⟨hd, hp⟩ := mm_d_dec c2
  replace HO : mm_oW (mm_ldA x ip L st h) F G ip L h Qr := HO
  unfold mm_ldA at HO
  split at HO
  · rename_i v hv
    have HF : F (ip + 1) L (.ref v :: st) h := HO
    exact lv_aload_n hx hb hd (Nat.eq_of_beq_eq_true c1).symm (mm_s_ld hl hv) (K _ _ _ _ _ _ _ _ _ _ HF hp hRl hl hlo hce hsl)
  · exact HO.elim
theorem mm_p_aload {k : Nat} (hF : mm_Fr p R s m args meth c z mi d) (hl : lv_has ls (mm_ml mi) (mm_pr z 0 L)) (hRl : mm_Rel z h H) (hlo : ∀ q ∈ locs, z.1.2.2.1 ≤ q.base) (hce : cells + n0 = hN h) (hsl : slots + m0 = hM h) (ck : mm_ck mi ip (.aload k) pc x v aux = true) (HO : mm_oW (mm_s1 (.aload k) x v ip L st h) F G ip L h Qr) (K : mm_KN p l e R s m args below meth c Q z mi n0 m0 F) : W p l e R s m args below meth c H locs cells slots Q (F0 m pc ls (st.map (mm_tr z))) := by
  obtain ⟨hx, hb, hml, hown, hts, hFN, hini, hfr, hlc, h40⟩ := id hF
  simp only [mm_ck, Bool.and_eq_true] at ck
  obtain ⟨c1, c2⟩ := ck
  obtain ⟨hd, hp⟩ := mm_d_dec c2
  replace HO : mm_oW (mm_ldA x ip L st h) F G ip L h Qr := HO
  unfold mm_ldA at HO
  split at HO
  · rename_i v hv
    have HF : F (ip + 1) L (.ref v :: st) h := HO
    rw [Nat.eq_of_beq_eq_true c1] at hv
    exact lv_aload hx hb hd (mm_s_ld hl hv) (K _ _ _ _ _ _ _ _ _ _ HF hp hRl hl hlo hce hsl)
  · exact HO.elim
theorem mm_p_fload_n {k : Fin 4} (hF : mm_Fr p R s m args meth c z mi d) (hl : lv_has ls (mm_ml mi) (mm_pr z 0 L)) (hRl : mm_Rel z h H) (hlo : ∀ q ∈ locs, z.1.2.2.1 ≤ q.base) (hce : cells + n0 = hN h) (hsl : slots + m0 = hM h) (ck : mm_ck mi ip (.fload_n k) pc x v aux = true) (HO : mm_oW (mm_s1 (.fload_n k) x v ip L st h) F G ip L h Qr) (K : mm_KN p l e R s m args below meth c Q z mi n0 m0 F) : W p l e R s m args below meth c H locs cells slots Q (F0 m pc ls (st.map (mm_tr z))) := by
  obtain ⟨hx, hb, hml, hown, hts, hFN, hini, hfr, hlc, h40⟩ := id hF
  simp only [mm_ck, Bool.and_eq_true] at ck
  obtain ⟨c1, c2⟩ := ck
  obtain ⟨hd, hp⟩ := mm_d_dec c2
  replace HO : mm_oW (mm_ldF x ip L st h) F G ip L h Qr := HO
  unfold mm_ldF at HO
  split at HO
  · rename_i v hv
    have HF : F (ip + 1) L (.float v :: st) h := HO
    exact lv_fload_n hx hb hd (Nat.eq_of_beq_eq_true c1).symm (mm_s_ld hl hv) (K _ _ _ _ _ _ _ _ _ _ HF hp hRl hl hlo hce hsl)
  · exact HO.elim
theorem mm_p_dload_n {k : Fin 4} (hF : mm_Fr p R s m args meth c z mi d) (hl : lv_has ls (mm_ml mi) (mm_pr z 0 L)) (hRl : mm_Rel z h H) (hlo : ∀ q ∈ locs, z.1.2.2.1 ≤ q.base) (hce : cells + n0 = hN h) (hsl : slots + m0 = hM h) (ck : mm_ck mi ip (.dload_n k) pc x v aux = true) (HO : mm_oW (mm_s1 (.dload_n k) x v ip L st h) F G ip L h Qr) (K : mm_KN p l e R s m args below meth c Q z mi n0 m0 F) : W p l e R s m args below meth c H locs cells slots Q (F0 m pc ls (st.map (mm_tr z))) := by
  obtain ⟨hx, hb, hml, hown, hts, hFN, hini, hfr, hlc, h40⟩ := id hF
  simp only [mm_ck, Bool.and_eq_true] at ck
  obtain ⟨c1, c2⟩ := ck
  obtain ⟨hd, hp⟩ := mm_d_dec c2
  replace HO : mm_oW (mm_ldD x ip L st h) F G ip L h Qr := HO
  unfold mm_ldD at HO
  split at HO
  · rename_i v hv
    have HF : F (ip + 1) L (.double v :: st) h := HO
    exact lv_dload_n hx hb hd (Nat.eq_of_beq_eq_true c1).symm (mm_s_ld hl hv) (K _ _ _ _ _ _ _ _ _ _ HF hp hRl hl hlo hce hsl)
  · exact HO.elim
theorem mm_p_istore_n {k : Fin 4} (hF : mm_Fr p R s m args meth c z mi d) (hl : lv_has ls (mm_ml mi) (mm_pr z 0 L)) (hRl : mm_Rel z h H) (hlo : ∀ q ∈ locs, z.1.2.2.1 ≤ q.base) (hce : cells + n0 = hN h) (hsl : slots + m0 = hM h) (ck : mm_ck mi ip (.istore_n k) pc x v aux = true) (HO : mm_oW (mm_s1 (.istore_n k) x v ip L st h) F G ip L h Qr) (K : mm_KN p l e R s m args below meth c Q z mi n0 m0 F) : W p l e R s m args below meth c H locs cells slots Q (F0 m pc ls (st.map (mm_tr z))) := by
  obtain ⟨hx, hb, hml, hown, hts, hFN, hini, hfr, hlc, h40⟩ := id hF
  simp only [mm_ck, Bool.and_eq_true] at ck
  obtain ⟨⟨c1, c2⟩, c3⟩ := ck
  obtain ⟨hd, hp⟩ := mm_d_dec c2
  have c1 := Nat.eq_of_beq_eq_true c1
  have c3 : mm_x0 x < mm_ml mi := by simpa using c3
  replace HO : mm_oW (mm_stI x ip L st h) F G ip L h Qr := HO
  unfold mm_stI at HO
  split at HO
  · rename_i w r
    have HF : F (ip + 1) (mm_st L (mm_x0 x) (.int w)) r h := HO
    skip
    exact lv_istore_n hx hb hd c1.symm hl c3 rfl (fun ls' hl' => K _ _ _ _ _ _ _ _ _ _ HF hp hRl (mm_has_st1 rfl hl') hlo hce hsl)
  · exact HO.elim
theorem mm_p_istore {k : Nat} (hF : mm_Fr p R s m args meth c z mi d) (hl : lv_has ls (mm_ml mi) (mm_pr z 0 L)) (hRl : mm_Rel z h H) (hlo : ∀ q ∈ locs, z.1.2.2.1 ≤ q.base) (hce : cells + n0 = hN h) (hsl : slots + m0 = hM h) (ck : mm_ck mi ip (.istore k) pc x v aux = true) (HO : mm_oW (mm_s1 (.istore k) x v ip L st h) F G ip L h Qr) (K : mm_KN p l e R s m args below meth c Q z mi n0 m0 F) : W p l e R s m args below meth c H locs cells slots Q (F0 m pc ls (st.map (mm_tr z))) := by
  obtain ⟨hx, hb, hml, hown, hts, hFN, hini, hfr, hlc, h40⟩ := id hF
  simp only [mm_ck, Bool.and_eq_true] at ck
  obtain ⟨⟨c1, c2⟩, c3⟩ := ck
  obtain ⟨hd, hp⟩ := mm_d_dec c2
  have c1 := Nat.eq_of_beq_eq_true c1
  have c3 : mm_x0 x < mm_ml mi := by simpa using c3
  replace HO : mm_oW (mm_stI x ip L st h) F G ip L h Qr := HO
  unfold mm_stI at HO
  split at HO
  · rename_i w r
    have HF : F (ip + 1) (mm_st L (mm_x0 x) (.int w)) r h := HO
    rw [← c1] at hd
    exact lv_istore hx hb hd hl c3 rfl (fun ls' hl' => K _ _ _ _ _ _ _ _ _ _ HF hp hRl (mm_has_st1 rfl hl') hlo hce hsl)
  · exact HO.elim
theorem mm_p_lstore_n {k : Fin 4} (hF : mm_Fr p R s m args meth c z mi d) (hl : lv_has ls (mm_ml mi) (mm_pr z 0 L)) (hRl : mm_Rel z h H) (hlo : ∀ q ∈ locs, z.1.2.2.1 ≤ q.base) (hce : cells + n0 = hN h) (hsl : slots + m0 = hM h) (ck : mm_ck mi ip (.lstore_n k) pc x v aux = true) (HO : mm_oW (mm_s1 (.lstore_n k) x v ip L st h) F G ip L h Qr) (K : mm_KN p l e R s m args below meth c Q z mi n0 m0 F) : W p l e R s m args below meth c H locs cells slots Q (F0 m pc ls (st.map (mm_tr z))) := by
  obtain ⟨hx, hb, hml, hown, hts, hFN, hini, hfr, hlc, h40⟩ := id hF
  simp only [mm_ck, Bool.and_eq_true] at ck
  obtain ⟨⟨c1, c2⟩, c3⟩ := ck
  obtain ⟨hd, hp⟩ := mm_d_dec c2
  have c1 := Nat.eq_of_beq_eq_true c1
  have c3 : mm_x0 x + 1 < mm_ml mi := by simpa using c3
  replace HO : mm_oW (mm_stL x ip L st h) F G ip L h Qr := HO
  unfold mm_stL at HO
  split at HO
  · rename_i w r
    have HF : F (ip + 1) (mm_st L (mm_x0 x) (.long w)) r h := HO
    skip
    exact lv_lstore_n hx hb hd c1.symm hl c3 rfl (fun ls' hl' => K _ _ _ _ _ _ _ _ _ _ HF hp hRl (mm_has_st2 rfl hl') hlo hce hsl)
  · exact HO.elim
theorem mm_p_lstore {k : Nat} (hF : mm_Fr p R s m args meth c z mi d) (hl : lv_has ls (mm_ml mi) (mm_pr z 0 L)) (hRl : mm_Rel z h H) (hlo : ∀ q ∈ locs, z.1.2.2.1 ≤ q.base) (hce : cells + n0 = hN h) (hsl : slots + m0 = hM h) (ck : mm_ck mi ip (.lstore k) pc x v aux = true) (HO : mm_oW (mm_s1 (.lstore k) x v ip L st h) F G ip L h Qr) (K : mm_KN p l e R s m args below meth c Q z mi n0 m0 F) : W p l e R s m args below meth c H locs cells slots Q (F0 m pc ls (st.map (mm_tr z))) := by
  obtain ⟨hx, hb, hml, hown, hts, hFN, hini, hfr, hlc, h40⟩ := id hF
  simp only [mm_ck, Bool.and_eq_true] at ck
  obtain ⟨⟨c1, c2⟩, c3⟩ := ck
  obtain ⟨hd, hp⟩ := mm_d_dec c2
  have c1 := Nat.eq_of_beq_eq_true c1
  have c3 : mm_x0 x + 1 < mm_ml mi := by simpa using c3
  replace HO : mm_oW (mm_stL x ip L st h) F G ip L h Qr := HO
  unfold mm_stL at HO
  split at HO
  · rename_i w r
    have HF : F (ip + 1) (mm_st L (mm_x0 x) (.long w)) r h := HO
    rw [← c1] at hd
    exact lv_lstore hx hb hd hl c3 rfl (fun ls' hl' => K _ _ _ _ _ _ _ _ _ _ HF hp hRl (mm_has_st2 rfl hl') hlo hce hsl)
  · exact HO.elim
theorem mm_p_astore_n {k : Fin 4} (hF : mm_Fr p R s m args meth c z mi d) (hl : lv_has ls (mm_ml mi) (mm_pr z 0 L)) (hRl : mm_Rel z h H) (hlo : ∀ q ∈ locs, z.1.2.2.1 ≤ q.base) (hce : cells + n0 = hN h) (hsl : slots + m0 = hM h) (ck : mm_ck mi ip (.astore_n k) pc x v aux = true) (HO : mm_oW (mm_s1 (.astore_n k) x v ip L st h) F G ip L h Qr) (K : mm_KN p l e R s m args below meth c Q z mi n0 m0 F) : W p l e R s m args below meth c H locs cells slots Q (F0 m pc ls (st.map (mm_tr z))) := by
  obtain ⟨hx, hb, hml, hown, hts, hFN, hini, hfr, hlc, h40⟩ := id hF
  simp only [mm_ck, Bool.and_eq_true] at ck
  obtain ⟨⟨c1, c2⟩, c3⟩ := ck
  obtain ⟨hd, hp⟩ := mm_d_dec c2
  have c1 := Nat.eq_of_beq_eq_true c1
  have c3 : mm_x0 x < mm_ml mi := by simpa using c3
  replace HO : mm_oW (mm_stA x ip L st h) F G ip L h Qr := HO
  unfold mm_stA at HO
  split at HO
  · rename_i w r
    have HF : F (ip + 1) (mm_st L (mm_x0 x) (.ref w)) r h := HO
    skip
    exact lv_astore_n hx hb hd c1.symm hl c3 rfl (fun ls' hl' => K _ _ _ _ _ _ _ _ _ _ HF hp hRl (mm_has_st1 rfl hl') hlo hce hsl)
  · exact HO.elim
theorem mm_p_fstore_n {k : Fin 4} (hF : mm_Fr p R s m args meth c z mi d) (hl : lv_has ls (mm_ml mi) (mm_pr z 0 L)) (hRl : mm_Rel z h H) (hlo : ∀ q ∈ locs, z.1.2.2.1 ≤ q.base) (hce : cells + n0 = hN h) (hsl : slots + m0 = hM h) (ck : mm_ck mi ip (.fstore_n k) pc x v aux = true) (HO : mm_oW (mm_s1 (.fstore_n k) x v ip L st h) F G ip L h Qr) (K : mm_KN p l e R s m args below meth c Q z mi n0 m0 F) : W p l e R s m args below meth c H locs cells slots Q (F0 m pc ls (st.map (mm_tr z))) := by
  obtain ⟨hx, hb, hml, hown, hts, hFN, hini, hfr, hlc, h40⟩ := id hF
  simp only [mm_ck, Bool.and_eq_true] at ck
  obtain ⟨⟨c1, c2⟩, c3⟩ := ck
  obtain ⟨hd, hp⟩ := mm_d_dec c2
  have c1 := Nat.eq_of_beq_eq_true c1
  have c3 : mm_x0 x < mm_ml mi := by simpa using c3
  replace HO : mm_oW (mm_stF x ip L st h) F G ip L h Qr := HO
  unfold mm_stF at HO
  split at HO
  · rename_i w r
    have HF : F (ip + 1) (mm_st L (mm_x0 x) (.float w)) r h := HO
    skip
    exact lv_fstore_n hx hb hd c1.symm hl c3 rfl (fun ls' hl' => K _ _ _ _ _ _ _ _ _ _ HF hp hRl (mm_has_st1 rfl hl') hlo hce hsl)
  · exact HO.elim
theorem mm_p_dstore_n {k : Fin 4} (hF : mm_Fr p R s m args meth c z mi d) (hl : lv_has ls (mm_ml mi) (mm_pr z 0 L)) (hRl : mm_Rel z h H) (hlo : ∀ q ∈ locs, z.1.2.2.1 ≤ q.base) (hce : cells + n0 = hN h) (hsl : slots + m0 = hM h) (ck : mm_ck mi ip (.dstore_n k) pc x v aux = true) (HO : mm_oW (mm_s1 (.dstore_n k) x v ip L st h) F G ip L h Qr) (K : mm_KN p l e R s m args below meth c Q z mi n0 m0 F) : W p l e R s m args below meth c H locs cells slots Q (F0 m pc ls (st.map (mm_tr z))) := by
  obtain ⟨hx, hb, hml, hown, hts, hFN, hini, hfr, hlc, h40⟩ := id hF
  simp only [mm_ck, Bool.and_eq_true] at ck
  obtain ⟨⟨c1, c2⟩, c3⟩ := ck
  obtain ⟨hd, hp⟩ := mm_d_dec c2
  have c1 := Nat.eq_of_beq_eq_true c1
  have c3 : mm_x0 x + 1 < mm_ml mi := by simpa using c3
  replace HO : mm_oW (mm_stD x ip L st h) F G ip L h Qr := HO
  unfold mm_stD at HO
  split at HO
  · rename_i w r
    have HF : F (ip + 1) (mm_st L (mm_x0 x) (.double w)) r h := HO
    skip
    exact lv_dstore_n hx hb hd c1.symm hl c3 rfl (fun ls' hl' => K _ _ _ _ _ _ _ _ _ _ HF hp hRl (mm_has_st2 rfl hl') hlo hce hsl)
  · exact HO.elim
theorem mm_p_iinc {k : Nat} {n : Int} (hF : mm_Fr p R s m args meth c z mi d) (hl : lv_has ls (mm_ml mi) (mm_pr z 0 L)) (hRl : mm_Rel z h H) (hlo : ∀ q ∈ locs, z.1.2.2.1 ≤ q.base) (hce : cells + n0 = hN h) (hsl : slots + m0 = hM h) (ck : mm_ck mi ip (.iinc k n) pc x v aux = true) (HO : mm_oW (mm_s1 (.iinc k n) x v ip L st h) F G ip L h Qr) (K : mm_KN p l e R s m args below meth c Q z mi n0 m0 F) : W p l e R s m args below meth c H locs cells slots Q (F0 m pc ls (st.map (mm_tr z))) := by
  obtain ⟨hx, hb, hml, hown, hts, hFN, hini, hfr, hlc, h40⟩ := id hF
  simp only [mm_ck, Bool.and_eq_true, decide_eq_true_eq] at ck
  obtain ⟨⟨⟨c1, c2⟩, c3⟩, c4⟩ := ck
  obtain ⟨hd, hp⟩ := mm_d_dec c3
  have c1 := Nat.eq_of_beq_eq_true c1
  have c4 : mm_x0 x < mm_ml mi := by simpa using c4
  subst c2
  replace HO : mm_oW (mm_inc x (.int (Int32.ofInt n)) ip L st h) F G ip L h Qr := HO
  unfold mm_inc at HO
  dsimp only at HO
  split at HO
  · rename_i w hv
    have HF : F (ip + 1) (mm_st L (mm_x0 x) (.int (w + Int32.ofInt n))) st h := HO
    rw [← c1] at hd
    obtain ⟨j, hj⟩ := mm_pr_get (z := z) hv
    exact lv_iinc hx hb hd hl hj rfl c4 rfl (fun ls' hl' => K _ _ _ _ _ _ _ _ _ _ HF hp hRl (mm_has_st1 rfl hl') hlo hce hsl)
  · exact HO.elim
theorem mm_p_iconst {n : Int} (hF : mm_Fr p R s m args meth c z mi d) (hl : lv_has ls (mm_ml mi) (mm_pr z 0 L)) (hRl : mm_Rel z h H) (hlo : ∀ q ∈ locs, z.1.2.2.1 ≤ q.base) (hce : cells + n0 = hN h) (hsl : slots + m0 = hM h) (ck : mm_ck mi ip (.iconst n) pc x v aux = true) (HO : mm_oW (mm_s1 (.iconst n) x v ip L st h) F G ip L h Qr) (K : mm_KN p l e R s m args below meth c Q z mi n0 m0 F) : W p l e R s m args below meth c H locs cells slots Q (F0 m pc ls (st.map (mm_tr z))) := by
  obtain ⟨hx, hb, hml, hown, hts, hFN, hini, hfr, hlc, h40⟩ := id hF
  simp only [mm_ck, Bool.and_eq_true, decide_eq_true_eq] at ck
  obtain ⟨c1, c2⟩ := ck
  obtain ⟨hd, hp⟩ := mm_d_dec c2
  subst c1
  have HF : F (ip + 1) L (_ :: st) h := HO
  exact lv_iconst hx hb hd rfl (K _ _ _ _ _ _ _ _ _ _ HF hp hRl hl hlo hce hsl)
theorem mm_p_bipush {n : Int} (hF : mm_Fr p R s m args meth c z mi d) (hl : lv_has ls (mm_ml mi) (mm_pr z 0 L)) (hRl : mm_Rel z h H) (hlo : ∀ q ∈ locs, z.1.2.2.1 ≤ q.base) (hce : cells + n0 = hN h) (hsl : slots + m0 = hM h) (ck : mm_ck mi ip (.bipush n) pc x v aux = true) (HO : mm_oW (mm_s1 (.bipush n) x v ip L st h) F G ip L h Qr) (K : mm_KN p l e R s m args below meth c Q z mi n0 m0 F) : W p l e R s m args below meth c H locs cells slots Q (F0 m pc ls (st.map (mm_tr z))) := by
  obtain ⟨hx, hb, hml, hown, hts, hFN, hini, hfr, hlc, h40⟩ := id hF
  simp only [mm_ck, Bool.and_eq_true, decide_eq_true_eq] at ck
  obtain ⟨c1, c2⟩ := ck
  obtain ⟨hd, hp⟩ := mm_d_dec c2
  subst c1
  have HF : F (ip + 1) L (_ :: st) h := HO
  exact lv_bipush hx hb hd rfl (K _ _ _ _ _ _ _ _ _ _ HF hp hRl hl hlo hce hsl)
theorem mm_p_sipush {n : Int} (hF : mm_Fr p R s m args meth c z mi d) (hl : lv_has ls (mm_ml mi) (mm_pr z 0 L)) (hRl : mm_Rel z h H) (hlo : ∀ q ∈ locs, z.1.2.2.1 ≤ q.base) (hce : cells + n0 = hN h) (hsl : slots + m0 = hM h) (ck : mm_ck mi ip (.sipush n) pc x v aux = true) (HO : mm_oW (mm_s1 (.sipush n) x v ip L st h) F G ip L h Qr) (K : mm_KN p l e R s m args below meth c Q z mi n0 m0 F) : W p l e R s m args below meth c H locs cells slots Q (F0 m pc ls (st.map (mm_tr z))) := by
  obtain ⟨hx, hb, hml, hown, hts, hFN, hini, hfr, hlc, h40⟩ := id hF
  simp only [mm_ck, Bool.and_eq_true, decide_eq_true_eq] at ck
  obtain ⟨c1, c2⟩ := ck
  obtain ⟨hd, hp⟩ := mm_d_dec c2
  subst c1
  have HF : F (ip + 1) L (_ :: st) h := HO
  exact lv_sipush hx hb hd rfl (K _ _ _ _ _ _ _ _ _ _ HF hp hRl hl hlo hce hsl)
theorem mm_p_lconst {n : Fin 2} (hF : mm_Fr p R s m args meth c z mi d) (hl : lv_has ls (mm_ml mi) (mm_pr z 0 L)) (hRl : mm_Rel z h H) (hlo : ∀ q ∈ locs, z.1.2.2.1 ≤ q.base) (hce : cells + n0 = hN h) (hsl : slots + m0 = hM h) (ck : mm_ck mi ip (.lconst n) pc x v aux = true) (HO : mm_oW (mm_s1 (.lconst n) x v ip L st h) F G ip L h Qr) (K : mm_KN p l e R s m args below meth c Q z mi n0 m0 F) : W p l e R s m args below meth c H locs cells slots Q (F0 m pc ls (st.map (mm_tr z))) := by
  obtain ⟨hx, hb, hml, hown, hts, hFN, hini, hfr, hlc, h40⟩ := id hF
  simp only [mm_ck, Bool.and_eq_true, decide_eq_true_eq] at ck
  obtain ⟨c1, c2⟩ := ck
  obtain ⟨hd, hp⟩ := mm_d_dec c2
  subst c1
  have HF : F (ip + 1) L (_ :: st) h := HO
  exact lv_lconst hx hb hd rfl (K _ _ _ _ _ _ _ _ _ _ HF hp hRl hl hlo hce hsl)
theorem mm_p_fconst {n : Fin 3} (hF : mm_Fr p R s m args meth c z mi d) (hl : lv_has ls (mm_ml mi) (mm_pr z 0 L)) (hRl : mm_Rel z h H) (hlo : ∀ q ∈ locs, z.1.2.2.1 ≤ q.base) (hce : cells + n0 = hN h) (hsl : slots + m0 = hM h) (ck : mm_ck mi ip (.fconst n) pc x v aux = true) (HO : mm_oW (mm_s1 (.fconst n) x v ip L st h) F G ip L h Qr) (K : mm_KN p l e R s m args below meth c Q z mi n0 m0 F) : W p l e R s m args below meth c H locs cells slots Q (F0 m pc ls (st.map (mm_tr z))) := by
  obtain ⟨hx, hb, hml, hown, hts, hFN, hini, hfr, hlc, h40⟩ := id hF
  simp only [mm_ck, Bool.and_eq_true, decide_eq_true_eq] at ck
  obtain ⟨⟨c1, c3⟩, c2⟩ := ck
  obtain ⟨hd, hp⟩ := mm_d_dec c2
  subst c1; subst c3
  have HF : F (ip + 1) L (_ :: st) h := HO
  exact lv_fconst0 hx hb hd (K _ _ _ _ _ _ _ _ _ _ HF hp hRl hl hlo hce hsl)
theorem mm_p_dconst {n : Fin 2} (hF : mm_Fr p R s m args meth c z mi d) (hl : lv_has ls (mm_ml mi) (mm_pr z 0 L)) (hRl : mm_Rel z h H) (hlo : ∀ q ∈ locs, z.1.2.2.1 ≤ q.base) (hce : cells + n0 = hN h) (hsl : slots + m0 = hM h) (ck : mm_ck mi ip (.dconst n) pc x v aux = true) (HO : mm_oW (mm_s1 (.dconst n) x v ip L st h) F G ip L h Qr) (K : mm_KN p l e R s m args below meth c Q z mi n0 m0 F) : W p l e R s m args below meth c H locs cells slots Q (F0 m pc ls (st.map (mm_tr z))) := by
  obtain ⟨hx, hb, hml, hown, hts, hFN, hini, hfr, hlc, h40⟩ := id hF
  simp only [mm_ck, Bool.and_eq_true, Bool.or_eq_true, decide_eq_true_eq] at ck
  obtain ⟨c1, c2⟩ := ck
  obtain ⟨hd, hp⟩ := mm_d_dec c2
  have HF : F (ip + 1) L (v :: st) h := HO
  rcases c1 with ⟨c1, c3⟩ | ⟨c1, c3⟩
  · subst c1; subst c3
    exact lv_dconst0 hx hb hd (K _ _ _ _ _ _ _ _ _ _ HF hp hRl hl hlo hce hsl)
  · subst c1; subst c3
    exact lv_dconst1 hx hb hd (K _ _ _ _ _ _ _ _ _ _ HF hp hRl hl hlo hce hsl)
theorem mm_p_ldc {i : Nat} (hF : mm_Fr p R s m args meth c z mi d) (hl : lv_has ls (mm_ml mi) (mm_pr z 0 L)) (hRl : mm_Rel z h H) (hlo : ∀ q ∈ locs, z.1.2.2.1 ≤ q.base) (hce : cells + n0 = hN h) (hsl : slots + m0 = hM h) (ck : mm_ck mi ip (.ldc i) pc x v aux = true) (HO : mm_oW (mm_s1 (.ldc i) x v ip L st h) F G ip L h Qr) (K : mm_KN p l e R s m args below meth c Q z mi n0 m0 F) : W p l e R s m args below meth c H locs cells slots Q (F0 m pc ls (st.map (mm_tr z))) := by
  obtain ⟨hx, hb, hml, hown, hts, hFN, hini, hfr, hlc, h40⟩ := id hF
  simp only [mm_ck, Bool.and_eq_true] at ck
  obtain ⟨c1, c2⟩ := ck
  obtain ⟨hd, hp⟩ := mm_d_dec c2
  have HF : F (ip + 1) L (v :: st) h := HO
  split at c1
  · exact lv_ldc hx hb hown (hts _ (mm_tA_in c1)) hd (K _ _ _ _ _ _ _ _ _ _ HF hp hRl hl hlo hce hsl)
  · rename_i k
    simp only [Bool.and_eq_true, decide_eq_true_eq] at c1
    obtain ⟨⟨c3, c4⟩, c5⟩ := c1
    have c3 := Nat.eq_of_beq_eq_true c3
    have c4 := Nat.eq_of_beq_eq_true c4
    subst c3; subst c4
    rw [c5] at hown
    exact va_ldcS hx hb hown hFN.2.2.2.1 hd (K _ _ _ _ _ _ _ _ _ _ HF hp hRl hl hlo hce hsl)
  · cases c1
theorem mm_p_ldcw {i : Nat} (hF : mm_Fr p R s m args meth c z mi d) (hl : lv_has ls (mm_ml mi) (mm_pr z 0 L)) (hRl : mm_Rel z h H) (hlo : ∀ q ∈ locs, z.1.2.2.1 ≤ q.base) (hce : cells + n0 = hN h) (hsl : slots + m0 = hM h) (ck : mm_ck mi ip (.ldc_w i) pc x v aux = true) (HO : mm_oW (mm_s1 (.ldc_w i) x v ip L st h) F G ip L h Qr) (K : mm_KN p l e R s m args below meth c Q z mi n0 m0 F) : W p l e R s m args below meth c H locs cells slots Q (F0 m pc ls (st.map (mm_tr z))) := by
  obtain ⟨hx, hb, hml, hown, hts, hFN, hini, hfr, hlc, h40⟩ := id hF
  simp only [mm_ck, Bool.and_eq_true] at ck
  obtain ⟨c1, c2⟩ := ck
  obtain ⟨hd, hp⟩ := mm_d_dec c2
  have HF : F (ip + 1) L (v :: st) h := HO
  split at c1
  · exact lv_ldcw hx hb hown (hts _ (mm_tA_in c1)) hd (K _ _ _ _ _ _ _ _ _ _ HF hp hRl hl hlo hce hsl)
  · cases c1
theorem mm_p_ldc2 {i : Nat} (hF : mm_Fr p R s m args meth c z mi d) (hl : lv_has ls (mm_ml mi) (mm_pr z 0 L)) (hRl : mm_Rel z h H) (hlo : ∀ q ∈ locs, z.1.2.2.1 ≤ q.base) (hce : cells + n0 = hN h) (hsl : slots + m0 = hM h) (ck : mm_ck mi ip (.ldc2_w i) pc x v aux = true) (HO : mm_oW (mm_s1 (.ldc2_w i) x v ip L st h) F G ip L h Qr) (K : mm_KN p l e R s m args below meth c Q z mi n0 m0 F) : W p l e R s m args below meth c H locs cells slots Q (F0 m pc ls (st.map (mm_tr z))) := by
  obtain ⟨hx, hb, hml, hown, hts, hFN, hini, hfr, hlc, h40⟩ := id hF
  simp only [mm_ck, Bool.and_eq_true] at ck
  obtain ⟨c1, c2⟩ := ck
  obtain ⟨hd, hp⟩ := mm_d_dec c2
  have HF : F (ip + 1) L (v :: st) h := HO
  split at c1
  · exact lv_ldc2 hx hb hown (hts _ (mm_tA_in c1)) hd (K _ _ _ _ _ _ _ _ _ _ HF hp hRl hl hlo hce hsl)
  · exact lv_ldc2d hx hb hown (hts _ (mm_tA_in c1)) hd (K _ _ _ _ _ _ _ _ _ _ HF hp hRl hl hlo hce hsl)
  · cases c1
theorem mm_p_null (hF : mm_Fr p R s m args meth c z mi d) (hl : lv_has ls (mm_ml mi) (mm_pr z 0 L)) (hRl : mm_Rel z h H) (hlo : ∀ q ∈ locs, z.1.2.2.1 ≤ q.base) (hce : cells + n0 = hN h) (hsl : slots + m0 = hM h) (ck : mm_ck mi ip (.aconst_null) pc x v aux = true) (HO : mm_oW (mm_s1 (.aconst_null) x v ip L st h) F G ip L h Qr) (K : mm_KN p l e R s m args below meth c Q z mi n0 m0 F) : W p l e R s m args below meth c H locs cells slots Q (F0 m pc ls (st.map (mm_tr z))) := by
  obtain ⟨hx, hb, hml, hown, hts, hFN, hini, hfr, hlc, h40⟩ := id hF
  obtain ⟨hd, hp⟩ := mm_d_dec (show mm_d mi ip (.aconst_null) pc 1 = true from ck)
  
  have HF : F (ip + 1) L (.null :: st) h := HO
  exact lv_null hx hb hd (K _ _ _ _ _ _ _ _ _ _ HF hp hRl hl hlo hce hsl)
theorem mm_p_iadd (hF : mm_Fr p R s m args meth c z mi d) (hl : lv_has ls (mm_ml mi) (mm_pr z 0 L)) (hRl : mm_Rel z h H) (hlo : ∀ q ∈ locs, z.1.2.2.1 ≤ q.base) (hce : cells + n0 = hN h) (hsl : slots + m0 = hM h) (ck : mm_ck mi ip (.iadd) pc x v aux = true) (HO : mm_oW (mm_s1 (.iadd) x v ip L st h) F G ip L h Qr) (K : mm_KN p l e R s m args below meth c Q z mi n0 m0 F) : W p l e R s m args below meth c H locs cells slots Q (F0 m pc ls (st.map (mm_tr z))) := by
  obtain ⟨hx, hb, hml, hown, hts, hFN, hini, hfr, hlc, h40⟩ := id hF
  obtain ⟨hd, hp⟩ := mm_d_dec (show mm_d mi ip (.iadd) pc 1 = true from ck)
  
  replace HO : mm_oW (mm_bI (fun a b => a + b) ip L st h) F G ip L h Qr := HO
  unfold mm_bI at HO
  split at HO
  · rename_i b a r
    have HF : F (ip + 1) L _ h := HO
    exact lv_iadd hx hb hd (K _ _ _ _ _ _ _ _ _ _ HF hp hRl hl hlo hce hsl)
  · exact HO.elim
theorem mm_p_isub (hF : mm_Fr p R s m args meth c z mi d) (hl : lv_has ls (mm_ml mi) (mm_pr z 0 L)) (hRl : mm_Rel z h H) (hlo : ∀ q ∈ locs, z.1.2.2.1 ≤ q.base) (hce : cells + n0 = hN h) (hsl : slots + m0 = hM h) (ck : mm_ck mi ip (.isub) pc x v aux = true) (HO : mm_oW (mm_s1 (.isub) x v ip L st h) F G ip L h Qr) (K : mm_KN p l e R s m args below meth c Q z mi n0 m0 F) : W p l e R s m args below meth c H locs cells slots Q (F0 m pc ls (st.map (mm_tr z))) := by
  obtain ⟨hx, hb, hml, hown, hts, hFN, hini, hfr, hlc, h40⟩ := id hF
  obtain ⟨hd, hp⟩ := mm_d_dec (show mm_d mi ip (.isub) pc 1 = true from ck)
  
  replace HO : mm_oW (mm_bI (fun a b => a - b) ip L st h) F G ip L h Qr := HO
  unfold mm_bI at HO
  split at HO
  · rename_i b a r
    have HF : F (ip + 1) L _ h := HO
    exact lv_isub hx hb hd (K _ _ _ _ _ _ _ _ _ _ HF hp hRl hl hlo hce hsl)
  · exact HO.elim
theorem mm_p_imul (hF : mm_Fr p R s m args meth c z mi d) (hl : lv_has ls (mm_ml mi) (mm_pr z 0 L)) (hRl : mm_Rel z h H) (hlo : ∀ q ∈ locs, z.1.2.2.1 ≤ q.base) (hce : cells + n0 = hN h) (hsl : slots + m0 = hM h) (ck : mm_ck mi ip (.imul) pc x v aux = true) (HO : mm_oW (mm_s1 (.imul) x v ip L st h) F G ip L h Qr) (K : mm_KN p l e R s m args below meth c Q z mi n0 m0 F) : W p l e R s m args below meth c H locs cells slots Q (F0 m pc ls (st.map (mm_tr z))) := by
  obtain ⟨hx, hb, hml, hown, hts, hFN, hini, hfr, hlc, h40⟩ := id hF
  obtain ⟨hd, hp⟩ := mm_d_dec (show mm_d mi ip (.imul) pc 1 = true from ck)
  
  replace HO : mm_oW (mm_bI (fun a b => a * b) ip L st h) F G ip L h Qr := HO
  unfold mm_bI at HO
  split at HO
  · rename_i b a r
    have HF : F (ip + 1) L _ h := HO
    exact lv_imul hx hb hd (K _ _ _ _ _ _ _ _ _ _ HF hp hRl hl hlo hce hsl)
  · exact HO.elim
theorem mm_p_iand (hF : mm_Fr p R s m args meth c z mi d) (hl : lv_has ls (mm_ml mi) (mm_pr z 0 L)) (hRl : mm_Rel z h H) (hlo : ∀ q ∈ locs, z.1.2.2.1 ≤ q.base) (hce : cells + n0 = hN h) (hsl : slots + m0 = hM h) (ck : mm_ck mi ip (.iand) pc x v aux = true) (HO : mm_oW (mm_s1 (.iand) x v ip L st h) F G ip L h Qr) (K : mm_KN p l e R s m args below meth c Q z mi n0 m0 F) : W p l e R s m args below meth c H locs cells slots Q (F0 m pc ls (st.map (mm_tr z))) := by
  obtain ⟨hx, hb, hml, hown, hts, hFN, hini, hfr, hlc, h40⟩ := id hF
  obtain ⟨hd, hp⟩ := mm_d_dec (show mm_d mi ip (.iand) pc 1 = true from ck)
  
  replace HO : mm_oW (mm_bI (fun a b => a &&& b) ip L st h) F G ip L h Qr := HO
  unfold mm_bI at HO
  split at HO
  · rename_i b a r
    have HF : F (ip + 1) L _ h := HO
    exact lv_iand hx hb hd (K _ _ _ _ _ _ _ _ _ _ HF hp hRl hl hlo hce hsl)
  · exact HO.elim
theorem mm_p_ior (hF : mm_Fr p R s m args meth c z mi d) (hl : lv_has ls (mm_ml mi) (mm_pr z 0 L)) (hRl : mm_Rel z h H) (hlo : ∀ q ∈ locs, z.1.2.2.1 ≤ q.base) (hce : cells + n0 = hN h) (hsl : slots + m0 = hM h) (ck : mm_ck mi ip (.ior) pc x v aux = true) (HO : mm_oW (mm_s1 (.ior) x v ip L st h) F G ip L h Qr) (K : mm_KN p l e R s m args below meth c Q z mi n0 m0 F) : W p l e R s m args below meth c H locs cells slots Q (F0 m pc ls (st.map (mm_tr z))) := by
  obtain ⟨hx, hb, hml, hown, hts, hFN, hini, hfr, hlc, h40⟩ := id hF
  obtain ⟨hd, hp⟩ := mm_d_dec (show mm_d mi ip (.ior) pc 1 = true from ck)
  
  replace HO : mm_oW (mm_bI (fun a b => a ||| b) ip L st h) F G ip L h Qr := HO
  unfold mm_bI at HO
  split at HO
  · rename_i b a r
    have HF : F (ip + 1) L _ h := HO
    exact lv_ior hx hb hd (K _ _ _ _ _ _ _ _ _ _ HF hp hRl hl hlo hce hsl)
  · exact HO.elim
theorem mm_p_irem (hF : mm_Fr p R s m args meth c z mi d) (hl : lv_has ls (mm_ml mi) (mm_pr z 0 L)) (hRl : mm_Rel z h H) (hlo : ∀ q ∈ locs, z.1.2.2.1 ≤ q.base) (hce : cells + n0 = hN h) (hsl : slots + m0 = hM h) (ck : mm_ck mi ip (.irem) pc x v aux = true) (HO : mm_oW (mm_s1 (.irem) x v ip L st h) F G ip L h Qr) (K : mm_KN p l e R s m args below meth c Q z mi n0 m0 F) : W p l e R s m args below meth c H locs cells slots Q (F0 m pc ls (st.map (mm_tr z))) := by
  obtain ⟨hx, hb, hml, hown, hts, hFN, hini, hfr, hlc, h40⟩ := id hF
  obtain ⟨hd, hp⟩ := mm_d_dec (show mm_d mi ip (.irem) pc 1 = true from ck)
  
  replace HO : mm_oW (mm_dI (fun a b => a - a / b * b) ip L st h) F G ip L h Qr := HO
  unfold mm_dI at HO
  split at HO
  · rename_i b a r
    obtain ⟨hg, HF⟩ := HO
    exact lv_irem hx hb hd hg (K _ _ _ _ _ _ _ _ _ _ HF hp hRl hl hlo hce hsl)
  · exact HO.elim
theorem mm_p_ishl (hF : mm_Fr p R s m args meth c z mi d) (hl : lv_has ls (mm_ml mi) (mm_pr z 0 L)) (hRl : mm_Rel z h H) (hlo : ∀ q ∈ locs, z.1.2.2.1 ≤ q.base) (hce : cells + n0 = hN h) (hsl : slots + m0 = hM h) (ck : mm_ck mi ip (.ishl) pc x v aux = true) (HO : mm_oW (mm_s1 (.ishl) x v ip L st h) F G ip L h Qr) (K : mm_KN p l e R s m args below meth c Q z mi n0 m0 F) : W p l e R s m args below meth c H locs cells slots Q (F0 m pc ls (st.map (mm_tr z))) := by
  obtain ⟨hx, hb, hml, hown, hts, hFN, hini, hfr, hlc, h40⟩ := id hF
  obtain ⟨hd, hp⟩ := mm_d_dec (show mm_d mi ip (.ishl) pc 1 = true from ck)
  
  replace HO : mm_oW (mm_bI (fun a b => a <<< (b &&& 31)) ip L st h) F G ip L h Qr := HO
  unfold mm_bI at HO
  split at HO
  · rename_i b a r
    have HF : F (ip + 1) L _ h := HO
    exact lv_ishl hx hb hd (K _ _ _ _ _ _ _ _ _ _ HF hp hRl hl hlo hce hsl)
  · exact HO.elim
theorem mm_p_ishr (hF : mm_Fr p R s m args meth c z mi d) (hl : lv_has ls (mm_ml mi) (mm_pr z 0 L)) (hRl : mm_Rel z h H) (hlo : ∀ q ∈ locs, z.1.2.2.1 ≤ q.base) (hce : cells + n0 = hN h) (hsl : slots + m0 = hM h) (ck : mm_ck mi ip (.ishr) pc x v aux = true) (HO : mm_oW (mm_s1 (.ishr) x v ip L st h) F G ip L h Qr) (K : mm_KN p l e R s m args below meth c Q z mi n0 m0 F) : W p l e R s m args below meth c H locs cells slots Q (F0 m pc ls (st.map (mm_tr z))) := by
  obtain ⟨hx, hb, hml, hown, hts, hFN, hini, hfr, hlc, h40⟩ := id hF
  obtain ⟨hd, hp⟩ := mm_d_dec (show mm_d mi ip (.ishr) pc 1 = true from ck)
  
  replace HO : mm_oW (mm_bI (fun a b => a >>> (b &&& 31)) ip L st h) F G ip L h Qr := HO
  unfold mm_bI at HO
  split at HO
  · rename_i b a r
    have HF : F (ip + 1) L _ h := HO
    exact lv_ishr hx hb hd (K _ _ _ _ _ _ _ _ _ _ HF hp hRl hl hlo hce hsl)
  · exact HO.elim
theorem mm_p_iushr (hF : mm_Fr p R s m args meth c z mi d) (hl : lv_has ls (mm_ml mi) (mm_pr z 0 L)) (hRl : mm_Rel z h H) (hlo : ∀ q ∈ locs, z.1.2.2.1 ≤ q.base) (hce : cells + n0 = hN h) (hsl : slots + m0 = hM h) (ck : mm_ck mi ip (.iushr) pc x v aux = true) (HO : mm_oW (mm_s1 (.iushr) x v ip L st h) F G ip L h Qr) (K : mm_KN p l e R s m args below meth c Q z mi n0 m0 F) : W p l e R s m args below meth c H locs cells slots Q (F0 m pc ls (st.map (mm_tr z))) := by
  obtain ⟨hx, hb, hml, hown, hts, hFN, hini, hfr, hlc, h40⟩ := id hF
  obtain ⟨hd, hp⟩ := mm_d_dec (show mm_d mi ip (.iushr) pc 1 = true from ck)
  
  replace HO : mm_oW (mm_bI (fun a b => (a.toUInt32 >>> (b.toUInt32 &&& Int32.toUInt32 31)).toInt32) ip L st h) F G ip L h Qr := HO
  unfold mm_bI at HO
  split at HO
  · rename_i b a r
    have HF : F (ip + 1) L _ h := HO
    exact lv_iushr hx hb hd rfl (K _ _ _ _ _ _ _ _ _ _ HF hp hRl hl hlo hce hsl)
  · exact HO.elim
theorem mm_p_ladd (hF : mm_Fr p R s m args meth c z mi d) (hl : lv_has ls (mm_ml mi) (mm_pr z 0 L)) (hRl : mm_Rel z h H) (hlo : ∀ q ∈ locs, z.1.2.2.1 ≤ q.base) (hce : cells + n0 = hN h) (hsl : slots + m0 = hM h) (ck : mm_ck mi ip (.ladd) pc x v aux = true) (HO : mm_oW (mm_s1 (.ladd) x v ip L st h) F G ip L h Qr) (K : mm_KN p l e R s m args below meth c Q z mi n0 m0 F) : W p l e R s m args below meth c H locs cells slots Q (F0 m pc ls (st.map (mm_tr z))) := by
  obtain ⟨hx, hb, hml, hown, hts, hFN, hini, hfr, hlc, h40⟩ := id hF
  obtain ⟨hd, hp⟩ := mm_d_dec (show mm_d mi ip (.ladd) pc 1 = true from ck)
  
  replace HO : mm_oW (mm_bL (fun a b => a + b) ip L st h) F G ip L h Qr := HO
  unfold mm_bL at HO
  split at HO
  · rename_i b a r
    have HF : F (ip + 1) L _ h := HO
    exact lv_ladd hx hb hd (K _ _ _ _ _ _ _ _ _ _ HF hp hRl hl hlo hce hsl)
  · exact HO.elim
theorem mm_p_lsub (hF : mm_Fr p R s m args meth c z mi d) (hl : lv_has ls (mm_ml mi) (mm_pr z 0 L)) (hRl : mm_Rel z h H) (hlo : ∀ q ∈ locs, z.1.2.2.1 ≤ q.base) (hce : cells + n0 = hN h) (hsl : slots + m0 = hM h) (ck : mm_ck mi ip (.lsub) pc x v aux = true) (HO : mm_oW (mm_s1 (.lsub) x v ip L st h) F G ip L h Qr) (K : mm_KN p l e R s m args below meth c Q z mi n0 m0 F) : W p l e R s m args below meth c H locs cells slots Q (F0 m pc ls (st.map (mm_tr z))) := by
  obtain ⟨hx, hb, hml, hown, hts, hFN, hini, hfr, hlc, h40⟩ := id hF
  obtain ⟨hd, hp⟩ := mm_d_dec (show mm_d mi ip (.lsub) pc 1 = true from ck)
  
  replace HO : mm_oW (mm_bL (fun a b => a - b) ip L st h) F G ip L h Qr := HO
  unfold mm_bL at HO
  split at HO
  · rename_i b a r
    have HF : F (ip + 1) L _ h := HO
    exact lv_lsub hx hb hd (K _ _ _ _ _ _ _ _ _ _ HF hp hRl hl hlo hce hsl)
  · exact HO.elim
theorem mm_p_lmul (hF : mm_Fr p R s m args meth c z mi d) (hl : lv_has ls (mm_ml mi) (mm_pr z 0 L)) (hRl : mm_Rel z h H) (hlo : ∀ q ∈ locs, z.1.2.2.1 ≤ q.base) (hce : cells + n0 = hN h) (hsl : slots + m0 = hM h) (ck : mm_ck mi ip (.lmul) pc x v aux = true) (HO : mm_oW (mm_s1 (.lmul) x v ip L st h) F G ip L h Qr) (K : mm_KN p l e R s m args below meth c Q z mi n0 m0 F) : W p l e R s m args below meth c H locs cells slots Q (F0 m pc ls (st.map (mm_tr z))) := by
  obtain ⟨hx, hb, hml, hown, hts, hFN, hini, hfr, hlc, h40⟩ := id hF
  obtain ⟨hd, hp⟩ := mm_d_dec (show mm_d mi ip (.lmul) pc 1 = true from ck)
  
  replace HO : mm_oW (mm_bL (fun a b => a * b) ip L st h) F G ip L h Qr := HO
  unfold mm_bL at HO
  split at HO
  · rename_i b a r
    have HF : F (ip + 1) L _ h := HO
    exact lv_lmul hx hb hd (K _ _ _ _ _ _ _ _ _ _ HF hp hRl hl hlo hce hsl)
  · exact HO.elim
theorem mm_p_land (hF : mm_Fr p R s m args meth c z mi d) (hl : lv_has ls (mm_ml mi) (mm_pr z 0 L)) (hRl : mm_Rel z h H) (hlo : ∀ q ∈ locs, z.1.2.2.1 ≤ q.base) (hce : cells + n0 = hN h) (hsl : slots + m0 = hM h) (ck : mm_ck mi ip (.land) pc x v aux = true) (HO : mm_oW (mm_s1 (.land) x v ip L st h) F G ip L h Qr) (K : mm_KN p l e R s m args below meth c Q z mi n0 m0 F) : W p l e R s m args below meth c H locs cells slots Q (F0 m pc ls (st.map (mm_tr z))) := by
  obtain ⟨hx, hb, hml, hown, hts, hFN, hini, hfr, hlc, h40⟩ := id hF
  obtain ⟨hd, hp⟩ := mm_d_dec (show mm_d mi ip (.land) pc 1 = true from ck)
  
  replace HO : mm_oW (mm_bL (fun a b => a &&& b) ip L st h) F G ip L h Qr := HO
  unfold mm_bL at HO
  split at HO
  · rename_i b a r
    have HF : F (ip + 1) L _ h := HO
    exact lv_land hx hb hd (K _ _ _ _ _ _ _ _ _ _ HF hp hRl hl hlo hce hsl)
  · exact HO.elim
theorem mm_p_lor (hF : mm_Fr p R s m args meth c z mi d) (hl : lv_has ls (mm_ml mi) (mm_pr z 0 L)) (hRl : mm_Rel z h H) (hlo : ∀ q ∈ locs, z.1.2.2.1 ≤ q.base) (hce : cells + n0 = hN h) (hsl : slots + m0 = hM h) (ck : mm_ck mi ip (.lor) pc x v aux = true) (HO : mm_oW (mm_s1 (.lor) x v ip L st h) F G ip L h Qr) (K : mm_KN p l e R s m args below meth c Q z mi n0 m0 F) : W p l e R s m args below meth c H locs cells slots Q (F0 m pc ls (st.map (mm_tr z))) := by
  obtain ⟨hx, hb, hml, hown, hts, hFN, hini, hfr, hlc, h40⟩ := id hF
  obtain ⟨hd, hp⟩ := mm_d_dec (show mm_d mi ip (.lor) pc 1 = true from ck)
  
  replace HO : mm_oW (mm_bL (fun a b => a ||| b) ip L st h) F G ip L h Qr := HO
  unfold mm_bL at HO
  split at HO
  · rename_i b a r
    have HF : F (ip + 1) L _ h := HO
    exact lv_lor hx hb hd (K _ _ _ _ _ _ _ _ _ _ HF hp hRl hl hlo hce hsl)
  · exact HO.elim
theorem mm_p_lxor (hF : mm_Fr p R s m args meth c z mi d) (hl : lv_has ls (mm_ml mi) (mm_pr z 0 L)) (hRl : mm_Rel z h H) (hlo : ∀ q ∈ locs, z.1.2.2.1 ≤ q.base) (hce : cells + n0 = hN h) (hsl : slots + m0 = hM h) (ck : mm_ck mi ip (.lxor) pc x v aux = true) (HO : mm_oW (mm_s1 (.lxor) x v ip L st h) F G ip L h Qr) (K : mm_KN p l e R s m args below meth c Q z mi n0 m0 F) : W p l e R s m args below meth c H locs cells slots Q (F0 m pc ls (st.map (mm_tr z))) := by
  obtain ⟨hx, hb, hml, hown, hts, hFN, hini, hfr, hlc, h40⟩ := id hF
  obtain ⟨hd, hp⟩ := mm_d_dec (show mm_d mi ip (.lxor) pc 1 = true from ck)
  
  replace HO : mm_oW (mm_bL (fun a b => a ^^^ b) ip L st h) F G ip L h Qr := HO
  unfold mm_bL at HO
  split at HO
  · rename_i b a r
    have HF : F (ip + 1) L _ h := HO
    exact lv_lxor hx hb hd (K _ _ _ _ _ _ _ _ _ _ HF hp hRl hl hlo hce hsl)
  · exact HO.elim
theorem mm_p_ldiv (hF : mm_Fr p R s m args meth c z mi d) (hl : lv_has ls (mm_ml mi) (mm_pr z 0 L)) (hRl : mm_Rel z h H) (hlo : ∀ q ∈ locs, z.1.2.2.1 ≤ q.base) (hce : cells + n0 = hN h) (hsl : slots + m0 = hM h) (ck : mm_ck mi ip (.ldiv) pc x v aux = true) (HO : mm_oW (mm_s1 (.ldiv) x v ip L st h) F G ip L h Qr) (K : mm_KN p l e R s m args below meth c Q z mi n0 m0 F) : W p l e R s m args below meth c H locs cells slots Q (F0 m pc ls (st.map (mm_tr z))) := by
  obtain ⟨hx, hb, hml, hown, hts, hFN, hini, hfr, hlc, h40⟩ := id hF
  obtain ⟨hd, hp⟩ := mm_d_dec (show mm_d mi ip (.ldiv) pc 1 = true from ck)
  
  replace HO : mm_oW (mm_dL (fun a b => a / b) ip L st h) F G ip L h Qr := HO
  unfold mm_dL at HO
  split at HO
  · rename_i b a r
    obtain ⟨hg, HF⟩ := HO
    exact lv_ldiv hx hb hd hg (K _ _ _ _ _ _ _ _ _ _ HF hp hRl hl hlo hce hsl)
  · exact HO.elim
theorem mm_p_lrem (hF : mm_Fr p R s m args meth c z mi d) (hl : lv_has ls (mm_ml mi) (mm_pr z 0 L)) (hRl : mm_Rel z h H) (hlo : ∀ q ∈ locs, z.1.2.2.1 ≤ q.base) (hce : cells + n0 = hN h) (hsl : slots + m0 = hM h) (ck : mm_ck mi ip (.lrem) pc x v aux = true) (HO : mm_oW (mm_s1 (.lrem) x v ip L st h) F G ip L h Qr) (K : mm_KN p l e R s m args below meth c Q z mi n0 m0 F) : W p l e R s m args below meth c H locs cells slots Q (F0 m pc ls (st.map (mm_tr z))) := by
  obtain ⟨hx, hb, hml, hown, hts, hFN, hini, hfr, hlc, h40⟩ := id hF
  obtain ⟨hd, hp⟩ := mm_d_dec (show mm_d mi ip (.lrem) pc 1 = true from ck)
  
  replace HO : mm_oW (mm_dL (fun a b => a - a / b * b) ip L st h) F G ip L h Qr := HO
  unfold mm_dL at HO
  split at HO
  · rename_i b a r
    obtain ⟨hg, HF⟩ := HO
    exact lv_lrem hx hb hd hg (K _ _ _ _ _ _ _ _ _ _ HF hp hRl hl hlo hce hsl)
  · exact HO.elim
theorem mm_p_lshl (hF : mm_Fr p R s m args meth c z mi d) (hl : lv_has ls (mm_ml mi) (mm_pr z 0 L)) (hRl : mm_Rel z h H) (hlo : ∀ q ∈ locs, z.1.2.2.1 ≤ q.base) (hce : cells + n0 = hN h) (hsl : slots + m0 = hM h) (ck : mm_ck mi ip (.lshl) pc x v aux = true) (HO : mm_oW (mm_s1 (.lshl) x v ip L st h) F G ip L h Qr) (K : mm_KN p l e R s m args below meth c Q z mi n0 m0 F) : W p l e R s m args below meth c H locs cells slots Q (F0 m pc ls (st.map (mm_tr z))) := by
  obtain ⟨hx, hb, hml, hown, hts, hFN, hini, hfr, hlc, h40⟩ := id hF
  obtain ⟨hd, hp⟩ := mm_d_dec (show mm_d mi ip (.lshl) pc 1 = true from ck)
  
  replace HO : mm_oW (mm_sL (fun a b => a <<< (b.toInt64 &&& 63)) ip L st h) F G ip L h Qr := HO
  unfold mm_sL at HO
  split at HO
  · rename_i b a r
    have HF : F (ip + 1) L _ h := HO
    exact lv_lshl hx hb hd rfl (K _ _ _ _ _ _ _ _ _ _ HF hp hRl hl hlo hce hsl)
  · exact HO.elim
theorem mm_p_lshr (hF : mm_Fr p R s m args meth c z mi d) (hl : lv_has ls (mm_ml mi) (mm_pr z 0 L)) (hRl : mm_Rel z h H) (hlo : ∀ q ∈ locs, z.1.2.2.1 ≤ q.base) (hce : cells + n0 = hN h) (hsl : slots + m0 = hM h) (ck : mm_ck mi ip (.lshr) pc x v aux = true) (HO : mm_oW (mm_s1 (.lshr) x v ip L st h) F G ip L h Qr) (K : mm_KN p l e R s m args below meth c Q z mi n0 m0 F) : W p l e R s m args below meth c H locs cells slots Q (F0 m pc ls (st.map (mm_tr z))) := by
  obtain ⟨hx, hb, hml, hown, hts, hFN, hini, hfr, hlc, h40⟩ := id hF
  obtain ⟨hd, hp⟩ := mm_d_dec (show mm_d mi ip (.lshr) pc 1 = true from ck)
  
  replace HO : mm_oW (mm_sL (fun a b => a >>> (b.toInt64 &&& 63)) ip L st h) F G ip L h Qr := HO
  unfold mm_sL at HO
  split at HO
  · rename_i b a r
    have HF : F (ip + 1) L _ h := HO
    exact lv_lshr hx hb hd rfl (K _ _ _ _ _ _ _ _ _ _ HF hp hRl hl hlo hce hsl)
  · exact HO.elim
theorem mm_p_lushr (hF : mm_Fr p R s m args meth c z mi d) (hl : lv_has ls (mm_ml mi) (mm_pr z 0 L)) (hRl : mm_Rel z h H) (hlo : ∀ q ∈ locs, z.1.2.2.1 ≤ q.base) (hce : cells + n0 = hN h) (hsl : slots + m0 = hM h) (ck : mm_ck mi ip (.lushr) pc x v aux = true) (HO : mm_oW (mm_s1 (.lushr) x v ip L st h) F G ip L h Qr) (K : mm_KN p l e R s m args below meth c Q z mi n0 m0 F) : W p l e R s m args below meth c H locs cells slots Q (F0 m pc ls (st.map (mm_tr z))) := by
  obtain ⟨hx, hb, hml, hown, hts, hFN, hini, hfr, hlc, h40⟩ := id hF
  obtain ⟨hd, hp⟩ := mm_d_dec (show mm_d mi ip (.lushr) pc 1 = true from ck)
  
  replace HO : mm_oW (mm_sL (fun a b => (a.toUInt64 >>> (b.toInt64.toUInt64 &&& Int64.toUInt64 63)).toInt64) ip L st h) F G ip L h Qr := HO
  unfold mm_sL at HO
  split at HO
  · rename_i b a r
    have HF : F (ip + 1) L _ h := HO
    exact lv_lushr hx hb hd rfl (K _ _ _ _ _ _ _ _ _ _ HF hp hRl hl hlo hce hsl)
  · exact HO.elim
theorem mm_p_lneg (hF : mm_Fr p R s m args meth c z mi d) (hl : lv_has ls (mm_ml mi) (mm_pr z 0 L)) (hRl : mm_Rel z h H) (hlo : ∀ q ∈ locs, z.1.2.2.1 ≤ q.base) (hce : cells + n0 = hN h) (hsl : slots + m0 = hM h) (ck : mm_ck mi ip (.lneg) pc x v aux = true) (HO : mm_oW (mm_s1 (.lneg) x v ip L st h) F G ip L h Qr) (K : mm_KN p l e R s m args below meth c Q z mi n0 m0 F) : W p l e R s m args below meth c H locs cells slots Q (F0 m pc ls (st.map (mm_tr z))) := by
  obtain ⟨hx, hb, hml, hown, hts, hFN, hini, hfr, hlc, h40⟩ := id hF
  obtain ⟨hd, hp⟩ := mm_d_dec (show mm_d mi ip (.lneg) pc 1 = true from ck)
  
  replace HO : mm_oW (mm_uL (fun a => .long (-a)) ip L st h) F G ip L h Qr := HO
  unfold mm_uL at HO
  split at HO
  · rename_i a r
    have HF : F (ip + 1) L _ h := HO
    exact lv_lneg hx hb hd (K _ _ _ _ _ _ _ _ _ _ HF hp hRl hl hlo hce hsl)
  · exact HO.elim
theorem mm_p_i2l (hF : mm_Fr p R s m args meth c z mi d) (hl : lv_has ls (mm_ml mi) (mm_pr z 0 L)) (hRl : mm_Rel z h H) (hlo : ∀ q ∈ locs, z.1.2.2.1 ≤ q.base) (hce : cells + n0 = hN h) (hsl : slots + m0 = hM h) (ck : mm_ck mi ip (.i2l) pc x v aux = true) (HO : mm_oW (mm_s1 (.i2l) x v ip L st h) F G ip L h Qr) (K : mm_KN p l e R s m args below meth c Q z mi n0 m0 F) : W p l e R s m args below meth c H locs cells slots Q (F0 m pc ls (st.map (mm_tr z))) := by
  obtain ⟨hx, hb, hml, hown, hts, hFN, hini, hfr, hlc, h40⟩ := id hF
  obtain ⟨hd, hp⟩ := mm_d_dec (show mm_d mi ip (.i2l) pc 1 = true from ck)
  
  replace HO : mm_oW (mm_uI (fun a => .long a.toInt64) ip L st h) F G ip L h Qr := HO
  unfold mm_uI at HO
  split at HO
  · rename_i a r
    have HF : F (ip + 1) L _ h := HO
    exact lv_i2l hx hb hd rfl (K _ _ _ _ _ _ _ _ _ _ HF hp hRl hl hlo hce hsl)
  · exact HO.elim
theorem mm_p_l2i (hF : mm_Fr p R s m args meth c z mi d) (hl : lv_has ls (mm_ml mi) (mm_pr z 0 L)) (hRl : mm_Rel z h H) (hlo : ∀ q ∈ locs, z.1.2.2.1 ≤ q.base) (hce : cells + n0 = hN h) (hsl : slots + m0 = hM h) (ck : mm_ck mi ip (.l2i) pc x v aux = true) (HO : mm_oW (mm_s1 (.l2i) x v ip L st h) F G ip L h Qr) (K : mm_KN p l e R s m args below meth c Q z mi n0 m0 F) : W p l e R s m args below meth c H locs cells slots Q (F0 m pc ls (st.map (mm_tr z))) := by
  obtain ⟨hx, hb, hml, hown, hts, hFN, hini, hfr, hlc, h40⟩ := id hF
  obtain ⟨hd, hp⟩ := mm_d_dec (show mm_d mi ip (.l2i) pc 1 = true from ck)
  
  replace HO : mm_oW (mm_uL (fun a => .int a.toInt32) ip L st h) F G ip L h Qr := HO
  unfold mm_uL at HO
  split at HO
  · rename_i a r
    have HF : F (ip + 1) L _ h := HO
    exact lv_l2i hx hb hd rfl (K _ _ _ _ _ _ _ _ _ _ HF hp hRl hl hlo hce hsl)
  · exact HO.elim
theorem mm_p_l2f (hF : mm_Fr p R s m args meth c z mi d) (hl : lv_has ls (mm_ml mi) (mm_pr z 0 L)) (hRl : mm_Rel z h H) (hlo : ∀ q ∈ locs, z.1.2.2.1 ≤ q.base) (hce : cells + n0 = hN h) (hsl : slots + m0 = hM h) (ck : mm_ck mi ip (.l2f) pc x v aux = true) (HO : mm_oW (mm_s1 (.l2f) x v ip L st h) F G ip L h Qr) (K : mm_KN p l e R s m args below meth c Q z mi n0 m0 F) : W p l e R s m args below meth c H locs cells slots Q (F0 m pc ls (st.map (mm_tr z))) := by
  obtain ⟨hx, hb, hml, hown, hts, hFN, hini, hfr, hlc, h40⟩ := id hF
  obtain ⟨hd, hp⟩ := mm_d_dec (show mm_d mi ip (.l2f) pc 1 = true from ck)
  
  replace HO : mm_oW (mm_uL (fun a => .float (FP.l2f a)) ip L st h) F G ip L h Qr := HO
  unfold mm_uL at HO
  split at HO
  · rename_i a r
    have HF : F (ip + 1) L _ h := HO
    exact lv_l2f hx hb hd (K _ _ _ _ _ _ _ _ _ _ HF hp hRl hl hlo hce hsl)
  · exact HO.elim
theorem mm_p_l2d (hF : mm_Fr p R s m args meth c z mi d) (hl : lv_has ls (mm_ml mi) (mm_pr z 0 L)) (hRl : mm_Rel z h H) (hlo : ∀ q ∈ locs, z.1.2.2.1 ≤ q.base) (hce : cells + n0 = hN h) (hsl : slots + m0 = hM h) (ck : mm_ck mi ip (.l2d) pc x v aux = true) (HO : mm_oW (mm_s1 (.l2d) x v ip L st h) F G ip L h Qr) (K : mm_KN p l e R s m args below meth c Q z mi n0 m0 F) : W p l e R s m args below meth c H locs cells slots Q (F0 m pc ls (st.map (mm_tr z))) := by
  obtain ⟨hx, hb, hml, hown, hts, hFN, hini, hfr, hlc, h40⟩ := id hF
  obtain ⟨hd, hp⟩ := mm_d_dec (show mm_d mi ip (.l2d) pc 1 = true from ck)
  
  replace HO : mm_oW (mm_uL (fun a => .double (FP.l2d a)) ip L st h) F G ip L h Qr := HO
  unfold mm_uL at HO
  split at HO
  · rename_i a r
    have HF : F (ip + 1) L _ h := HO
    exact lv_l2d hx hb hd (K _ _ _ _ _ _ _ _ _ _ HF hp hRl hl hlo hce hsl)
  · exact HO.elim
theorem mm_p_d2l (hF : mm_Fr p R s m args meth c z mi d) (hl : lv_has ls (mm_ml mi) (mm_pr z 0 L)) (hRl : mm_Rel z h H) (hlo : ∀ q ∈ locs, z.1.2.2.1 ≤ q.base) (hce : cells + n0 = hN h) (hsl : slots + m0 = hM h) (ck : mm_ck mi ip (.d2l) pc x v aux = true) (HO : mm_oW (mm_s1 (.d2l) x v ip L st h) F G ip L h Qr) (K : mm_KN p l e R s m args below meth c Q z mi n0 m0 F) : W p l e R s m args below meth c H locs cells slots Q (F0 m pc ls (st.map (mm_tr z))) := by
  obtain ⟨hx, hb, hml, hown, hts, hFN, hini, hfr, hlc, h40⟩ := id hF
  obtain ⟨hd, hp⟩ := mm_d_dec (show mm_d mi ip (.d2l) pc 1 = true from ck)
  
  replace HO : mm_oW (mm_uD (fun a => .long (FP.d2l a)) ip L st h) F G ip L h Qr := HO
  unfold mm_uD at HO
  split at HO
  · rename_i a r
    have HF : F (ip + 1) L _ h := HO
    exact lv_d2l hx hb hd (K _ _ _ _ _ _ _ _ _ _ HF hp hRl hl hlo hce hsl)
  · exact HO.elim
theorem mm_p_dneg (hF : mm_Fr p R s m args meth c z mi d) (hl : lv_has ls (mm_ml mi) (mm_pr z 0 L)) (hRl : mm_Rel z h H) (hlo : ∀ q ∈ locs, z.1.2.2.1 ≤ q.base) (hce : cells + n0 = hN h) (hsl : slots + m0 = hM h) (ck : mm_ck mi ip (.dneg) pc x v aux = true) (HO : mm_oW (mm_s1 (.dneg) x v ip L st h) F G ip L h Qr) (K : mm_KN p l e R s m args below meth c Q z mi n0 m0 F) : W p l e R s m args below meth c H locs cells slots Q (F0 m pc ls (st.map (mm_tr z))) := by
  obtain ⟨hx, hb, hml, hown, hts, hFN, hini, hfr, hlc, h40⟩ := id hF
  obtain ⟨hd, hp⟩ := mm_d_dec (show mm_d mi ip (.dneg) pc 1 = true from ck)
  
  replace HO : mm_oW (mm_uD (fun a => .double (FP.dneg a)) ip L st h) F G ip L h Qr := HO
  unfold mm_uD at HO
  split at HO
  · rename_i a r
    have HF : F (ip + 1) L _ h := HO
    exact lv_dneg hx hb hd (K _ _ _ _ _ _ _ _ _ _ HF hp hRl hl hlo hce hsl)
  · exact HO.elim
theorem mm_p_dmul (hF : mm_Fr p R s m args meth c z mi d) (hl : lv_has ls (mm_ml mi) (mm_pr z 0 L)) (hRl : mm_Rel z h H) (hlo : ∀ q ∈ locs, z.1.2.2.1 ≤ q.base) (hce : cells + n0 = hN h) (hsl : slots + m0 = hM h) (ck : mm_ck mi ip (.dmul) pc x v aux = true) (HO : mm_oW (mm_s1 (.dmul) x v ip L st h) F G ip L h Qr) (K : mm_KN p l e R s m args below meth c Q z mi n0 m0 F) : W p l e R s m args below meth c H locs cells slots Q (F0 m pc ls (st.map (mm_tr z))) := by
  obtain ⟨hx, hb, hml, hown, hts, hFN, hini, hfr, hlc, h40⟩ := id hF
  obtain ⟨hd, hp⟩ := mm_d_dec (show mm_d mi ip (.dmul) pc 1 = true from ck)
  
  replace HO : mm_oW (mm_bD FP.dmul ip L st h) F G ip L h Qr := HO
  unfold mm_bD at HO
  split at HO
  · rename_i b a r
    obtain ⟨hg, HF⟩ := HO
    exact lv_dmul hx hb hd hg (K _ _ _ _ _ _ _ _ _ _ HF hp hRl hl hlo hce hsl)
  · exact HO.elim
theorem mm_p_ddiv (hF : mm_Fr p R s m args meth c z mi d) (hl : lv_has ls (mm_ml mi) (mm_pr z 0 L)) (hRl : mm_Rel z h H) (hlo : ∀ q ∈ locs, z.1.2.2.1 ≤ q.base) (hce : cells + n0 = hN h) (hsl : slots + m0 = hM h) (ck : mm_ck mi ip (.ddiv) pc x v aux = true) (HO : mm_oW (mm_s1 (.ddiv) x v ip L st h) F G ip L h Qr) (K : mm_KN p l e R s m args below meth c Q z mi n0 m0 F) : W p l e R s m args below meth c H locs cells slots Q (F0 m pc ls (st.map (mm_tr z))) := by
  obtain ⟨hx, hb, hml, hown, hts, hFN, hini, hfr, hlc, h40⟩ := id hF
  obtain ⟨hd, hp⟩ := mm_d_dec (show mm_d mi ip (.ddiv) pc 1 = true from ck)
  
  replace HO : mm_oW (mm_bD FP.ddiv ip L st h) F G ip L h Qr := HO
  unfold mm_bD at HO
  split at HO
  · rename_i b a r
    obtain ⟨hg, HF⟩ := HO
    exact lv_ddiv hx hb hd hg (K _ _ _ _ _ _ _ _ _ _ HF hp hRl hl hlo hce hsl)
  · exact HO.elim
theorem mm_p_drem (hF : mm_Fr p R s m args meth c z mi d) (hl : lv_has ls (mm_ml mi) (mm_pr z 0 L)) (hRl : mm_Rel z h H) (hlo : ∀ q ∈ locs, z.1.2.2.1 ≤ q.base) (hce : cells + n0 = hN h) (hsl : slots + m0 = hM h) (ck : mm_ck mi ip (.drem) pc x v aux = true) (HO : mm_oW (mm_s1 (.drem) x v ip L st h) F G ip L h Qr) (K : mm_KN p l e R s m args below meth c Q z mi n0 m0 F) : W p l e R s m args below meth c H locs cells slots Q (F0 m pc ls (st.map (mm_tr z))) := by
  obtain ⟨hx, hb, hml, hown, hts, hFN, hini, hfr, hlc, h40⟩ := id hF
  obtain ⟨hd, hp⟩ := mm_d_dec (show mm_d mi ip (.drem) pc 1 = true from ck)
  
  replace HO : mm_oW (mm_bD FP.drem ip L st h) F G ip L h Qr := HO
  unfold mm_bD at HO
  split at HO
  · rename_i b a r
    obtain ⟨hg, HF⟩ := HO
    exact lv_drem hx hb hd hg (K _ _ _ _ _ _ _ _ _ _ HF hp hRl hl hlo hce hsl)
  · exact HO.elim
theorem mm_p_f2d (hF : mm_Fr p R s m args meth c z mi d) (hl : lv_has ls (mm_ml mi) (mm_pr z 0 L)) (hRl : mm_Rel z h H) (hlo : ∀ q ∈ locs, z.1.2.2.1 ≤ q.base) (hce : cells + n0 = hN h) (hsl : slots + m0 = hM h) (ck : mm_ck mi ip (.f2d) pc x v aux = true) (HO : mm_oW (mm_s1 (.f2d) x v ip L st h) F G ip L h Qr) (K : mm_KN p l e R s m args below meth c Q z mi n0 m0 F) : W p l e R s m args below meth c H locs cells slots Q (F0 m pc ls (st.map (mm_tr z))) := by
  obtain ⟨hx, hb, hml, hown, hts, hFN, hini, hfr, hlc, h40⟩ := id hF
  obtain ⟨hd, hp⟩ := mm_d_dec (show mm_d mi ip (.f2d) pc 1 = true from ck)
  
  unfold mm_s1 at HO
  dsimp only at HO
  split at HO
  · rename_i a r
    obtain ⟨hg, HF⟩ := HO
    exact lv_f2d hx hb hd hg (K _ _ _ _ _ _ _ _ _ _ HF hp hRl hl hlo hce hsl)
  · exact HO.elim
theorem mm_p_fdiv (hF : mm_Fr p R s m args meth c z mi d) (hl : lv_has ls (mm_ml mi) (mm_pr z 0 L)) (hRl : mm_Rel z h H) (hlo : ∀ q ∈ locs, z.1.2.2.1 ≤ q.base) (hce : cells + n0 = hN h) (hsl : slots + m0 = hM h) (ck : mm_ck mi ip (.fdiv) pc x v aux = true) (HO : mm_oW (mm_s1 (.fdiv) x v ip L st h) F G ip L h Qr) (K : mm_KN p l e R s m args below meth c Q z mi n0 m0 F) : W p l e R s m args below meth c H locs cells slots Q (F0 m pc ls (st.map (mm_tr z))) := by
  obtain ⟨hx, hb, hml, hown, hts, hFN, hini, hfr, hlc, h40⟩ := id hF
  obtain ⟨hd, hp⟩ := mm_d_dec (show mm_d mi ip (.fdiv) pc 1 = true from ck)
  
  unfold mm_s1 at HO
  dsimp only at HO
  split at HO
  · rename_i b a r
    obtain ⟨hg, HF⟩ := HO
    exact lv_fdiv hx hb hd hg (K _ _ _ _ _ _ _ _ _ _ HF hp hRl hl hlo hce hsl)
  · exact HO.elim
theorem mm_p_fcmp {op : CmpOp} (hF : mm_Fr p R s m args meth c z mi d) (hl : lv_has ls (mm_ml mi) (mm_pr z 0 L)) (hRl : mm_Rel z h H) (hlo : ∀ q ∈ locs, z.1.2.2.1 ≤ q.base) (hce : cells + n0 = hN h) (hsl : slots + m0 = hM h) (ck : mm_ck mi ip (.fcmp op) pc x v aux = true) (HO : mm_oW (mm_s1 (.fcmp op) x v ip L st h) F G ip L h Qr) (K : mm_KN p l e R s m args below meth c Q z mi n0 m0 F) : W p l e R s m args below meth c H locs cells slots Q (F0 m pc ls (st.map (mm_tr z))) := by
  obtain ⟨hx, hb, hml, hown, hts, hFN, hini, hfr, hlc, h40⟩ := id hF
  obtain ⟨hd, hp⟩ := mm_d_dec (show mm_d mi ip (.fcmp op) pc 1 = true from ck)
  
  unfold mm_s1 at HO
  dsimp only at HO
  split at HO
  · rename_i b a r
    have HF : F (ip + 1) L _ h := HO
    exact lv_fcmp hx hb hd (K _ _ _ _ _ _ _ _ _ _ HF hp hRl hl hlo hce hsl)
  · exact HO.elim
theorem mm_p_dcmp {op : CmpOp} (hF : mm_Fr p R s m args meth c z mi d) (hl : lv_has ls (mm_ml mi) (mm_pr z 0 L)) (hRl : mm_Rel z h H) (hlo : ∀ q ∈ locs, z.1.2.2.1 ≤ q.base) (hce : cells + n0 = hN h) (hsl : slots + m0 = hM h) (ck : mm_ck mi ip (.dcmp op) pc x v aux = true) (HO : mm_oW (mm_s1 (.dcmp op) x v ip L st h) F G ip L h Qr) (K : mm_KN p l e R s m args below meth c Q z mi n0 m0 F) : W p l e R s m args below meth c H locs cells slots Q (F0 m pc ls (st.map (mm_tr z))) := by
  obtain ⟨hx, hb, hml, hown, hts, hFN, hini, hfr, hlc, h40⟩ := id hF
  obtain ⟨hd, hp⟩ := mm_d_dec (show mm_d mi ip (.dcmp op) pc 1 = true from ck)
  
  unfold mm_s1 at HO
  dsimp only at HO
  split at HO
  · rename_i b a r
    have HF : F (ip + 1) L _ h := HO
    exact lv_dcmp hx hb hd (K _ _ _ _ _ _ _ _ _ _ HF hp hRl hl hlo hce hsl)
  · exact HO.elim
theorem mm_ca_tr {w : Value} : (mm_tr z w).category = mm_ca w := by cases w <;> rfl

theorem mm_p_dup (hF : mm_Fr p R s m args meth c z mi d) (hl : lv_has ls (mm_ml mi) (mm_pr z 0 L)) (hRl : mm_Rel z h H) (hlo : ∀ q ∈ locs, z.1.2.2.1 ≤ q.base) (hce : cells + n0 = hN h) (hsl : slots + m0 = hM h) (ck : mm_ck mi ip (.dup) pc x v aux = true) (HO : mm_oW (mm_s1 (.dup) x v ip L st h) F G ip L h Qr) (K : mm_KN p l e R s m args below meth c Q z mi n0 m0 F) : W p l e R s m args below meth c H locs cells slots Q (F0 m pc ls (st.map (mm_tr z))) := by
  obtain ⟨hx, hb, hml, hown, hts, hFN, hini, hfr, hlc, h40⟩ := id hF
  obtain ⟨hd, hp⟩ := mm_d_dec (show mm_d mi ip (.dup) pc 1 = true from ck)
  
  replace HO : mm_oW (mm_dup ip L st h) F G ip L h Qr := HO
  unfold mm_dup at HO
  split at HO
  · rename_i w r
    split at HO
    · rename_i hc
      have HF : F (ip + 1) L (w :: w :: r) h := HO
      exact lv_dup hx hb hd (mm_ca_tr.trans hc) (K _ _ _ _ _ _ _ _ _ _ HF hp hRl hl hlo hce hsl)
    · exact HO.elim
  · exact HO.elim
theorem mm_p_pop (hF : mm_Fr p R s m args meth c z mi d) (hl : lv_has ls (mm_ml mi) (mm_pr z 0 L)) (hRl : mm_Rel z h H) (hlo : ∀ q ∈ locs, z.1.2.2.1 ≤ q.base) (hce : cells + n0 = hN h) (hsl : slots + m0 = hM h) (ck : mm_ck mi ip (.pop) pc x v aux = true) (HO : mm_oW (mm_s1 (.pop) x v ip L st h) F G ip L h Qr) (K : mm_KN p l e R s m args below meth c Q z mi n0 m0 F) : W p l e R s m args below meth c H locs cells slots Q (F0 m pc ls (st.map (mm_tr z))) := by
  obtain ⟨hx, hb, hml, hown, hts, hFN, hini, hfr, hlc, h40⟩ := id hF
  obtain ⟨hd, hp⟩ := mm_d_dec (show mm_d mi ip (.pop) pc 1 = true from ck)
  
  replace HO : mm_oW (mm_pop ip L st h) F G ip L h Qr := HO
  unfold mm_pop at HO
  split at HO
  · rename_i w r
    split at HO
    · rename_i hc
      have HF : F (ip + 1) L r h := HO
      exact lv_pop hx hb hd (mm_ca_tr.trans hc) (K _ _ _ _ _ _ _ _ _ _ HF hp hRl hl hlo hce hsl)
    · exact HO.elim
  · exact HO.elim
theorem mm_p_dup2 (hF : mm_Fr p R s m args meth c z mi d) (hl : lv_has ls (mm_ml mi) (mm_pr z 0 L)) (hRl : mm_Rel z h H) (hlo : ∀ q ∈ locs, z.1.2.2.1 ≤ q.base) (hce : cells + n0 = hN h) (hsl : slots + m0 = hM h) (ck : mm_ck mi ip (.dup2) pc x v aux = true) (HO : mm_oW (mm_s1 (.dup2) x v ip L st h) F G ip L h Qr) (K : mm_KN p l e R s m args below meth c Q z mi n0 m0 F) : W p l e R s m args below meth c H locs cells slots Q (F0 m pc ls (st.map (mm_tr z))) := by
  obtain ⟨hx, hb, hml, hown, hts, hFN, hini, hfr, hlc, h40⟩ := id hF
  obtain ⟨hd, hp⟩ := mm_d_dec (show mm_d mi ip (.dup2) pc 1 = true from ck)
  
  replace HO : mm_oW (mm_dup2 ip L st h) F G ip L h Qr := HO
  unfold mm_dup2 at HO
  split at HO
  · rename_i w r
    split at HO
    · rename_i hc
      have HF : F (ip + 1) L (w :: w :: r) h := HO
      exact lv_dup2_2 hx hb hd (mm_ca_tr.trans hc) (K _ _ _ _ _ _ _ _ _ _ HF hp hRl hl hlo hce hsl)
    · rename_i hc
      have hc1 : mm_ca w = 1 := by cases w <;> first | rfl | exact absurd rfl hc
      split at HO
      · rename_i u r
        split at HO
        · rename_i hcu
          have HF : F (ip + 1) L (w :: u :: w :: u :: r) h := HO
          exact lv_dup2_11 hx hb hd (mm_ca_tr.trans hc1) (mm_ca_tr.trans hcu) (K _ _ _ _ _ _ _ _ _ _ HF hp hRl hl hlo hce hsl)
        · exact HO.elim
      · exact HO.elim
  · exact HO.elim
theorem mm_p_goto {off : Int} (hF : mm_Fr p R s m args meth c z mi d) (hl : lv_has ls (mm_ml mi) (mm_pr z 0 L)) (hRl : mm_Rel z h H) (hlo : ∀ q ∈ locs, z.1.2.2.1 ≤ q.base) (hce : cells + n0 = hN h) (hsl : slots + m0 = hM h) (ck : mm_ck mi ip (.goto off) pc x v aux = true) (HO : mm_oW (mm_s1 (.goto off) x v ip L st h) F G ip L h Qr) (K : mm_KN p l e R s m args below meth c Q z mi n0 m0 F) : W p l e R s m args below meth c H locs cells slots Q (F0 m pc ls (st.map (mm_tr z))) := by
  obtain ⟨hx, hb, hml, hown, hts, hFN, hini, hfr, hlc, h40⟩ := id hF
  simp only [mm_ck, Bool.and_eq_true] at ck
  obtain ⟨c1, c2⟩ := ck
  obtain ⟨hd, hp⟩ := mm_d_dec c1
  obtain ⟨tgt, ht, hpt⟩ := mm_tg_po c2
  
  have HF : F (mm_x0 x) L st h := HO
  exact lv_goto hx hb hd ht (K _ _ _ _ _ _ _ _ _ _ HF hpt hRl hl hlo hce hsl)
theorem mm_p_ifnonnull {off : Int} (hF : mm_Fr p R s m args meth c z mi d) (hl : lv_has ls (mm_ml mi) (mm_pr z 0 L)) (hRl : mm_Rel z h H) (hlo : ∀ q ∈ locs, z.1.2.2.1 ≤ q.base) (hce : cells + n0 = hN h) (hsl : slots + m0 = hM h) (ck : mm_ck mi ip (.ifnonnull off) pc x v aux = true) (HO : mm_oW (mm_s1 (.ifnonnull off) x v ip L st h) F G ip L h Qr) (K : mm_KN p l e R s m args below meth c Q z mi n0 m0 F) : W p l e R s m args below meth c H locs cells slots Q (F0 m pc ls (st.map (mm_tr z))) := by
  obtain ⟨hx, hb, hml, hown, hts, hFN, hini, hfr, hlc, h40⟩ := id hF
  simp only [mm_ck, Bool.and_eq_true] at ck
  obtain ⟨c1, c2⟩ := ck
  obtain ⟨hd, hp⟩ := mm_d_dec c1
  obtain ⟨tgt, ht, hpt⟩ := mm_tg_po c2
  
  replace HO : mm_oW (mm_nn x ip L st h) F G ip L h Qr := HO
  unfold mm_nn at HO
  split at HO
  · rename_i a r
    have HF : F (mm_x0 x) L r h := HO
    exact lv_ifnonnull hx hb hd ht (K _ _ _ _ _ _ _ _ _ _ HF hpt hRl hl hlo hce hsl)
  · rename_i r
    have HF : F (ip + 1) L r h := HO
    exact lv_ifnonnullN hx hb hd (K _ _ _ _ _ _ _ _ _ _ HF hp hRl hl hlo hce hsl)
  · exact HO.elim
theorem mm_p_if_eq {off : Int} (hF : mm_Fr p R s m args meth c z mi d) (hl : lv_has ls (mm_ml mi) (mm_pr z 0 L)) (hRl : mm_Rel z h H) (hlo : ∀ q ∈ locs, z.1.2.2.1 ≤ q.base) (hce : cells + n0 = hN h) (hsl : slots + m0 = hM h) (ck : mm_ck mi ip (.ifCond .eq off) pc x v aux = true) (HO : mm_oW (mm_s1 (.ifCond .eq off) x v ip L st h) F G ip L h Qr) (K : mm_KN p l e R s m args below meth c Q z mi n0 m0 F) : W p l e R s m args below meth c H locs cells slots Q (F0 m pc ls (st.map (mm_tr z))) := by
  obtain ⟨hx, hb, hml, hown, hts, hFN, hini, hfr, hlc, h40⟩ := id hF
  simp only [mm_ck, Bool.and_eq_true] at ck
  obtain ⟨c1, c2⟩ := ck
  obtain ⟨hd, hp⟩ := mm_d_dec c1
  obtain ⟨tgt, ht, hpt⟩ := mm_tg_po c2
  
  replace HO : mm_oW (mm_if (fun a => a = 0) x ip L st h) F G ip L h Qr := HO
  unfold mm_if at HO
  split at HO
  · rename_i a r
    exact lv_if_eq hx hb hd ht (fun q => K _ _ _ _ _ _ _ _ _ _ (HO.1 q) hpt hRl hl hlo hce hsl) (fun q => K _ _ _ _ _ _ _ _ _ _ (HO.2 q) hp hRl hl hlo hce hsl)
  · exact HO.elim
theorem mm_p_ic_eq {off : Int} (hF : mm_Fr p R s m args meth c z mi d) (hl : lv_has ls (mm_ml mi) (mm_pr z 0 L)) (hRl : mm_Rel z h H) (hlo : ∀ q ∈ locs, z.1.2.2.1 ≤ q.base) (hce : cells + n0 = hN h) (hsl : slots + m0 = hM h) (ck : mm_ck mi ip (.if_icmp .eq off) pc x v aux = true) (HO : mm_oW (mm_s1 (.if_icmp .eq off) x v ip L st h) F G ip L h Qr) (K : mm_KN p l e R s m args below meth c Q z mi n0 m0 F) : W p l e R s m args below meth c H locs cells slots Q (F0 m pc ls (st.map (mm_tr z))) := by
  obtain ⟨hx, hb, hml, hown, hts, hFN, hini, hfr, hlc, h40⟩ := id hF
  simp only [mm_ck, Bool.and_eq_true] at ck
  obtain ⟨c1, c2⟩ := ck
  obtain ⟨hd, hp⟩ := mm_d_dec c1
  obtain ⟨tgt, ht, hpt⟩ := mm_tg_po c2
  
  replace HO : mm_oW (mm_ic (fun a b => a = b) x ip L st h) F G ip L h Qr := HO
  unfold mm_ic at HO
  split at HO
  · rename_i b a r
    exact lv_icmp_eq hx hb hd ht (fun q => K _ _ _ _ _ _ _ _ _ _ (HO.1 q) hpt hRl hl hlo hce hsl) (fun q => K _ _ _ _ _ _ _ _ _ _ (HO.2 q) hp hRl hl hlo hce hsl)
  · exact HO.elim
theorem mm_p_if_ne {off : Int} (hF : mm_Fr p R s m args meth c z mi d) (hl : lv_has ls (mm_ml mi) (mm_pr z 0 L)) (hRl : mm_Rel z h H) (hlo : ∀ q ∈ locs, z.1.2.2.1 ≤ q.base) (hce : cells + n0 = hN h) (hsl : slots + m0 = hM h) (ck : mm_ck mi ip (.ifCond .ne off) pc x v aux = true) (HO : mm_oW (mm_s1 (.ifCond .ne off) x v ip L st h) F G ip L h Qr) (K : mm_KN p l e R s m args below meth c Q z mi n0 m0 F) : W p l e R s m args below meth c H locs cells slots Q (F0 m pc ls (st.map (mm_tr z))) := by
  obtain ⟨hx, hb, hml, hown, hts, hFN, hini, hfr, hlc, h40⟩ := id hF
  simp only [mm_ck, Bool.and_eq_true] at ck
  obtain ⟨c1, c2⟩ := ck
  obtain ⟨hd, hp⟩ := mm_d_dec c1
  obtain ⟨tgt, ht, hpt⟩ := mm_tg_po c2
  
  replace HO : mm_oW (mm_if (fun a => ¬ a = 0) x ip L st h) F G ip L h Qr := HO
  unfold mm_if at HO
  split at HO
  · rename_i a r
    exact lv_if_ne hx hb hd ht (fun q => K _ _ _ _ _ _ _ _ _ _ (HO.1 q) hpt hRl hl hlo hce hsl) (fun q => K _ _ _ _ _ _ _ _ _ _ (HO.2 (fun z => z q)) hp hRl hl hlo hce hsl)
  · exact HO.elim
theorem mm_p_ic_ne {off : Int} (hF : mm_Fr p R s m args meth c z mi d) (hl : lv_has ls (mm_ml mi) (mm_pr z 0 L)) (hRl : mm_Rel z h H) (hlo : ∀ q ∈ locs, z.1.2.2.1 ≤ q.base) (hce : cells + n0 = hN h) (hsl : slots + m0 = hM h) (ck : mm_ck mi ip (.if_icmp .ne off) pc x v aux = true) (HO : mm_oW (mm_s1 (.if_icmp .ne off) x v ip L st h) F G ip L h Qr) (K : mm_KN p l e R s m args below meth c Q z mi n0 m0 F) : W p l e R s m args below meth c H locs cells slots Q (F0 m pc ls (st.map (mm_tr z))) := by
  obtain ⟨hx, hb, hml, hown, hts, hFN, hini, hfr, hlc, h40⟩ := id hF
  simp only [mm_ck, Bool.and_eq_true] at ck
  obtain ⟨c1, c2⟩ := ck
  obtain ⟨hd, hp⟩ := mm_d_dec c1
  obtain ⟨tgt, ht, hpt⟩ := mm_tg_po c2
  
  replace HO : mm_oW (mm_ic (fun a b => ¬ a = b) x ip L st h) F G ip L h Qr := HO
  unfold mm_ic at HO
  split at HO
  · rename_i b a r
    exact lv_icmp_ne hx hb hd ht (fun q => K _ _ _ _ _ _ _ _ _ _ (HO.1 q) hpt hRl hl hlo hce hsl) (fun q => K _ _ _ _ _ _ _ _ _ _ (HO.2 (fun z => z q)) hp hRl hl hlo hce hsl)
  · exact HO.elim
theorem mm_p_if_lt {off : Int} (hF : mm_Fr p R s m args meth c z mi d) (hl : lv_has ls (mm_ml mi) (mm_pr z 0 L)) (hRl : mm_Rel z h H) (hlo : ∀ q ∈ locs, z.1.2.2.1 ≤ q.base) (hce : cells + n0 = hN h) (hsl : slots + m0 = hM h) (ck : mm_ck mi ip (.ifCond .lt off) pc x v aux = true) (HO : mm_oW (mm_s1 (.ifCond .lt off) x v ip L st h) F G ip L h Qr) (K : mm_KN p l e R s m args below meth c Q z mi n0 m0 F) : W p l e R s m args below meth c H locs cells slots Q (F0 m pc ls (st.map (mm_tr z))) := by
  obtain ⟨hx, hb, hml, hown, hts, hFN, hini, hfr, hlc, h40⟩ := id hF
  simp only [mm_ck, Bool.and_eq_true] at ck
  obtain ⟨c1, c2⟩ := ck
  obtain ⟨hd, hp⟩ := mm_d_dec c1
  obtain ⟨tgt, ht, hpt⟩ := mm_tg_po c2
  
  replace HO : mm_oW (mm_if (fun a => a < 0) x ip L st h) F G ip L h Qr := HO
  unfold mm_if at HO
  split at HO
  · rename_i a r
    exact lv_if_lt hx hb hd ht (fun q => K _ _ _ _ _ _ _ _ _ _ (HO.1 q) hpt hRl hl hlo hce hsl) (fun q => K _ _ _ _ _ _ _ _ _ _ (HO.2 q) hp hRl hl hlo hce hsl)
  · exact HO.elim
theorem mm_p_ic_lt {off : Int} (hF : mm_Fr p R s m args meth c z mi d) (hl : lv_has ls (mm_ml mi) (mm_pr z 0 L)) (hRl : mm_Rel z h H) (hlo : ∀ q ∈ locs, z.1.2.2.1 ≤ q.base) (hce : cells + n0 = hN h) (hsl : slots + m0 = hM h) (ck : mm_ck mi ip (.if_icmp .lt off) pc x v aux = true) (HO : mm_oW (mm_s1 (.if_icmp .lt off) x v ip L st h) F G ip L h Qr) (K : mm_KN p l e R s m args below meth c Q z mi n0 m0 F) : W p l e R s m args below meth c H locs cells slots Q (F0 m pc ls (st.map (mm_tr z))) := by
  obtain ⟨hx, hb, hml, hown, hts, hFN, hini, hfr, hlc, h40⟩ := id hF
  simp only [mm_ck, Bool.and_eq_true] at ck
  obtain ⟨c1, c2⟩ := ck
  obtain ⟨hd, hp⟩ := mm_d_dec c1
  obtain ⟨tgt, ht, hpt⟩ := mm_tg_po c2
  
  replace HO : mm_oW (mm_ic (fun a b => a < b) x ip L st h) F G ip L h Qr := HO
  unfold mm_ic at HO
  split at HO
  · rename_i b a r
    exact lv_icmp_lt hx hb hd ht (fun q => K _ _ _ _ _ _ _ _ _ _ (HO.1 q) hpt hRl hl hlo hce hsl) (fun q => K _ _ _ _ _ _ _ _ _ _ (HO.2 q) hp hRl hl hlo hce hsl)
  · exact HO.elim
theorem mm_p_if_ge {off : Int} (hF : mm_Fr p R s m args meth c z mi d) (hl : lv_has ls (mm_ml mi) (mm_pr z 0 L)) (hRl : mm_Rel z h H) (hlo : ∀ q ∈ locs, z.1.2.2.1 ≤ q.base) (hce : cells + n0 = hN h) (hsl : slots + m0 = hM h) (ck : mm_ck mi ip (.ifCond .ge off) pc x v aux = true) (HO : mm_oW (mm_s1 (.ifCond .ge off) x v ip L st h) F G ip L h Qr) (K : mm_KN p l e R s m args below meth c Q z mi n0 m0 F) : W p l e R s m args below meth c H locs cells slots Q (F0 m pc ls (st.map (mm_tr z))) := by
  obtain ⟨hx, hb, hml, hown, hts, hFN, hini, hfr, hlc, h40⟩ := id hF
  simp only [mm_ck, Bool.and_eq_true] at ck
  obtain ⟨c1, c2⟩ := ck
  obtain ⟨hd, hp⟩ := mm_d_dec c1
  obtain ⟨tgt, ht, hpt⟩ := mm_tg_po c2
  
  replace HO : mm_oW (mm_if (fun a => 0 ≤ a) x ip L st h) F G ip L h Qr := HO
  unfold mm_if at HO
  split at HO
  · rename_i a r
    exact lv_if_ge hx hb hd ht (fun q => K _ _ _ _ _ _ _ _ _ _ (HO.1 q) hpt hRl hl hlo hce hsl) (fun q => K _ _ _ _ _ _ _ _ _ _ (HO.2 q) hp hRl hl hlo hce hsl)
  · exact HO.elim
theorem mm_p_ic_ge {off : Int} (hF : mm_Fr p R s m args meth c z mi d) (hl : lv_has ls (mm_ml mi) (mm_pr z 0 L)) (hRl : mm_Rel z h H) (hlo : ∀ q ∈ locs, z.1.2.2.1 ≤ q.base) (hce : cells + n0 = hN h) (hsl : slots + m0 = hM h) (ck : mm_ck mi ip (.if_icmp .ge off) pc x v aux = true) (HO : mm_oW (mm_s1 (.if_icmp .ge off) x v ip L st h) F G ip L h Qr) (K : mm_KN p l e R s m args below meth c Q z mi n0 m0 F) : W p l e R s m args below meth c H locs cells slots Q (F0 m pc ls (st.map (mm_tr z))) := by
  obtain ⟨hx, hb, hml, hown, hts, hFN, hini, hfr, hlc, h40⟩ := id hF
  simp only [mm_ck, Bool.and_eq_true] at ck
  obtain ⟨c1, c2⟩ := ck
  obtain ⟨hd, hp⟩ := mm_d_dec c1
  obtain ⟨tgt, ht, hpt⟩ := mm_tg_po c2
  
  replace HO : mm_oW (mm_ic (fun a b => b ≤ a) x ip L st h) F G ip L h Qr := HO
  unfold mm_ic at HO
  split at HO
  · rename_i b a r
    exact lv_icmp_ge hx hb hd ht (fun q => K _ _ _ _ _ _ _ _ _ _ (HO.1 q) hpt hRl hl hlo hce hsl) (fun q => K _ _ _ _ _ _ _ _ _ _ (HO.2 q) hp hRl hl hlo hce hsl)
  · exact HO.elim
theorem mm_p_if_gt {off : Int} (hF : mm_Fr p R s m args meth c z mi d) (hl : lv_has ls (mm_ml mi) (mm_pr z 0 L)) (hRl : mm_Rel z h H) (hlo : ∀ q ∈ locs, z.1.2.2.1 ≤ q.base) (hce : cells + n0 = hN h) (hsl : slots + m0 = hM h) (ck : mm_ck mi ip (.ifCond .gt off) pc x v aux = true) (HO : mm_oW (mm_s1 (.ifCond .gt off) x v ip L st h) F G ip L h Qr) (K : mm_KN p l e R s m args below meth c Q z mi n0 m0 F) : W p l e R s m args below meth c H locs cells slots Q (F0 m pc ls (st.map (mm_tr z))) := by
  obtain ⟨hx, hb, hml, hown, hts, hFN, hini, hfr, hlc, h40⟩ := id hF
  simp only [mm_ck, Bool.and_eq_true] at ck
  obtain ⟨c1, c2⟩ := ck
  obtain ⟨hd, hp⟩ := mm_d_dec c1
  obtain ⟨tgt, ht, hpt⟩ := mm_tg_po c2
  
  replace HO : mm_oW (mm_if (fun a => 0 < a) x ip L st h) F G ip L h Qr := HO
  unfold mm_if at HO
  split at HO
  · rename_i a r
    exact lv_if_gt hx hb hd ht (fun q => K _ _ _ _ _ _ _ _ _ _ (HO.1 q) hpt hRl hl hlo hce hsl) (fun q => K _ _ _ _ _ _ _ _ _ _ (HO.2 q) hp hRl hl hlo hce hsl)
  · exact HO.elim
theorem mm_p_ic_gt {off : Int} (hF : mm_Fr p R s m args meth c z mi d) (hl : lv_has ls (mm_ml mi) (mm_pr z 0 L)) (hRl : mm_Rel z h H) (hlo : ∀ q ∈ locs, z.1.2.2.1 ≤ q.base) (hce : cells + n0 = hN h) (hsl : slots + m0 = hM h) (ck : mm_ck mi ip (.if_icmp .gt off) pc x v aux = true) (HO : mm_oW (mm_s1 (.if_icmp .gt off) x v ip L st h) F G ip L h Qr) (K : mm_KN p l e R s m args below meth c Q z mi n0 m0 F) : W p l e R s m args below meth c H locs cells slots Q (F0 m pc ls (st.map (mm_tr z))) := by
  obtain ⟨hx, hb, hml, hown, hts, hFN, hini, hfr, hlc, h40⟩ := id hF
  simp only [mm_ck, Bool.and_eq_true] at ck
  obtain ⟨c1, c2⟩ := ck
  obtain ⟨hd, hp⟩ := mm_d_dec c1
  obtain ⟨tgt, ht, hpt⟩ := mm_tg_po c2
  
  replace HO : mm_oW (mm_ic (fun a b => b < a) x ip L st h) F G ip L h Qr := HO
  unfold mm_ic at HO
  split at HO
  · rename_i b a r
    exact lv_icmp_gt hx hb hd ht (fun q => K _ _ _ _ _ _ _ _ _ _ (HO.1 q) hpt hRl hl hlo hce hsl) (fun q => K _ _ _ _ _ _ _ _ _ _ (HO.2 q) hp hRl hl hlo hce hsl)
  · exact HO.elim
theorem mm_p_if_le {off : Int} (hF : mm_Fr p R s m args meth c z mi d) (hl : lv_has ls (mm_ml mi) (mm_pr z 0 L)) (hRl : mm_Rel z h H) (hlo : ∀ q ∈ locs, z.1.2.2.1 ≤ q.base) (hce : cells + n0 = hN h) (hsl : slots + m0 = hM h) (ck : mm_ck mi ip (.ifCond .le off) pc x v aux = true) (HO : mm_oW (mm_s1 (.ifCond .le off) x v ip L st h) F G ip L h Qr) (K : mm_KN p l e R s m args below meth c Q z mi n0 m0 F) : W p l e R s m args below meth c H locs cells slots Q (F0 m pc ls (st.map (mm_tr z))) := by
  obtain ⟨hx, hb, hml, hown, hts, hFN, hini, hfr, hlc, h40⟩ := id hF
  simp only [mm_ck, Bool.and_eq_true] at ck
  obtain ⟨c1, c2⟩ := ck
  obtain ⟨hd, hp⟩ := mm_d_dec c1
  obtain ⟨tgt, ht, hpt⟩ := mm_tg_po c2
  
  replace HO : mm_oW (mm_if (fun a => a ≤ 0) x ip L st h) F G ip L h Qr := HO
  unfold mm_if at HO
  split at HO
  · rename_i a r
    exact lv_if_le hx hb hd ht (fun q => K _ _ _ _ _ _ _ _ _ _ (HO.1 q) hpt hRl hl hlo hce hsl) (fun q => K _ _ _ _ _ _ _ _ _ _ (HO.2 q) hp hRl hl hlo hce hsl)
  · exact HO.elim
theorem mm_p_ic_le {off : Int} (hF : mm_Fr p R s m args meth c z mi d) (hl : lv_has ls (mm_ml mi) (mm_pr z 0 L)) (hRl : mm_Rel z h H) (hlo : ∀ q ∈ locs, z.1.2.2.1 ≤ q.base) (hce : cells + n0 = hN h) (hsl : slots + m0 = hM h) (ck : mm_ck mi ip (.if_icmp .le off) pc x v aux = true) (HO : mm_oW (mm_s1 (.if_icmp .le off) x v ip L st h) F G ip L h Qr) (K : mm_KN p l e R s m args below meth c Q z mi n0 m0 F) : W p l e R s m args below meth c H locs cells slots Q (F0 m pc ls (st.map (mm_tr z))) := by
  obtain ⟨hx, hb, hml, hown, hts, hFN, hini, hfr, hlc, h40⟩ := id hF
  simp only [mm_ck, Bool.and_eq_true] at ck
  obtain ⟨c1, c2⟩ := ck
  obtain ⟨hd, hp⟩ := mm_d_dec c1
  obtain ⟨tgt, ht, hpt⟩ := mm_tg_po c2
  
  replace HO : mm_oW (mm_ic (fun a b => a ≤ b) x ip L st h) F G ip L h Qr := HO
  unfold mm_ic at HO
  split at HO
  · rename_i b a r
    exact lv_icmp_le hx hb hd ht (fun q => K _ _ _ _ _ _ _ _ _ _ (HO.1 q) hpt hRl hl hlo hce hsl) (fun q => K _ _ _ _ _ _ _ _ _ _ (HO.2 q) hp hRl hl hlo hce hsl)
  · exact HO.elim
end STEP
