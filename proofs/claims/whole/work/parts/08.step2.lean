/-! the rest of the instructions -/
section STEP2
variable {p : Program} {l : Launch} {e : Env} {R : Room} {s : State} {m : MethodId} {args : Array Value} {below : List Frame} {meth : Method} {c : Code} {Q : State → Prop}
variable {z : mm_Z} {mi d n0 m0 : Nat} {F : Nat → mm_Lv → List Value → mm_H → Prop} {G : Nat → List Value → mm_Q → Prop} {Qr : mm_Q}
variable {ip pc : Nat} {L : mm_Lv} {st : List Value} {h : mm_H} {H : Heap} {locs : List Loc} {ls : Array Slot} {cells slots : Nat} {x : List Nat} {v : Value} {aux : List Nat}
/-- a table's cases -/
theorem mm_swl_in {F' : Nat → Prop} {v : Int32} {df : Nat} : ∀ (ts : List Nat) (lo : Int), mm_swW F' v (mm_swl lo ts) df → -2147483648 ≤ lo → lo + ts.length ≤ 2147483648 → (∃ (j t : Nat), ts[j]? = some t ∧ v.toInt = lo + j ∧ F' t) ∨ ((v.toInt < lo ∨ lo + ts.length ≤ v.toInt) ∧ F' df) := by
  intro ts
  induction ts with
  | nil =>
    intro lo h h1 h2
    refine Or.inr ⟨?_, h⟩
    simp
    omega
  | cons t r ih =>
    intro lo h h1 h2
    have h : (v = Int32.ofInt lo → F' t) ∧ (¬ v = Int32.ofInt lo → mm_swW F' v (mm_swl (lo + 1) r) df) := h
    simp only [List.length_cons] at h2
    have e : (Int32.ofInt lo).toInt = lo := by rw [Int32.toInt_ofInt]; exact Int.bmod_eq_of_le (by simp; omega) (by simp; omega)
    by_cases q : v = Int32.ofInt lo
    · exact Or.inl ⟨0, t, rfl, by rw [q, e]; simp, h.1 q⟩
    · have q2 : v.toInt ≠ lo := fun z => q (Int32.toInt_inj.mp (z.trans e.symm))
      rcases ih (lo + 1) (h.2 q) (by omega) (by omega) with ⟨j, t', e1, e2, e3⟩ | ⟨e1, e2⟩
      · exact Or.inl ⟨j + 1, t', e1, by omega, e3⟩
      · refine Or.inr ⟨?_, e2⟩
        simp only [List.length_cons]
        omega
theorem mm_tgs_at {pc : Nat} : ∀ (ts : List Nat) (os : List Int), mm_tgs mi pc ts os = true → ts.length = os.length ∧ ∀ (j t : Nat), ts[j]? = some t → ∃ o : Int, os[j]? = some o ∧ mm_tg mi pc t o = true := by
  intro ts
  induction ts with
  | nil =>
    intro os h
    cases os with
    | nil => exact ⟨rfl, fun j t q => by simp at q⟩
    | cons o os => simp [mm_tgs] at h
  | cons t r ih =>
    intro os h
    cases os with
    | nil => simp [mm_tgs] at h
    | cons o os =>
      simp only [mm_tgs, Bool.and_eq_true] at h
      obtain ⟨i1, i2⟩ := ih os h.2
      refine ⟨by simp [i1], fun j t' q => ?_⟩
      cases j with
      | zero => simp at q; subst q; exact ⟨o, by simp, h.1⟩
      | succ j => simp at q; simpa using i2 j t' q
/-- a list's cases -/
theorem mm_lkl_in {F' : Nat → Prop} {v : Int32} {df : Nat} {d0 : Int} {pc : Nat} : ∀ (ps : List (Int × Int)) (ts : List Nat), mm_swW F' v (mm_lkl ps ts) df → mm_tgs mi pc ts (ps.map (fun q => q.2)) = true → ps.all (fun q => decide (-2147483648 ≤ q.1) && decide (q.1 < 2147483648)) = true → (∃ (t : Nat), F' t ∧ mm_tg mi pc t (Op.lookupswitch.offset ps d0 v.toInt) = true) ∨ (F' df ∧ Op.lookupswitch.offset ps d0 v.toInt = d0) := by
  intro ps
  induction ps with
  | nil =>
    intro ts h ht hp
    cases ts with
    | nil => exact Or.inr ⟨h, rfl⟩
    | cons t ts => simp [mm_tgs] at ht
  | cons a r ih =>
    intro ts h ht hp
    obtain ⟨k, o⟩ := a
    cases ts with
    | nil => simp [mm_tgs] at ht
    | cons t ts =>
      simp only [List.map_cons, mm_tgs, Bool.and_eq_true] at ht
      simp only [List.all_cons, Bool.and_eq_true, decide_eq_true_eq] at hp
      have h : (v = Int32.ofInt k → F' t) ∧ (¬ v = Int32.ofInt k → mm_swW F' v (mm_lkl r ts) df) := h
      have e : (Int32.ofInt k).toInt = k := by rw [Int32.toInt_ofInt]; exact Int.bmod_eq_of_le (by simp; omega) (by simp; omega)
      by_cases q : v = Int32.ofInt k
      · refine Or.inl ⟨t, h.1 q, ?_⟩
        rw [Op.lookupswitch.offset_cons, if_pos (by rw [q, e])]
        exact ht.1
      · have q2 : ¬ k = v.toInt := fun z => q (Int32.toInt_inj.mp (z.symm.trans e.symm))
        rw [Op.lookupswitch.offset_cons, if_neg q2]
        exact ih ts (h.2 q) ht.2 (by simpa [List.all_eq_true] using hp.2)
theorem mm_p_lcmp (hF : mm_Fr p R s m args meth c z mi d) (hl : lv_has ls (mm_ml mi) (mm_pr z 0 L)) (hRl : mm_Rel z h H) (hlo : ∀ q ∈ locs, z.1.2.2.1 ≤ q.base) (hce : cells + n0 = hN h) (hsl : slots + m0 = hM h) (ck : mm_ck mi ip (.lcmp) pc x v aux = true) (HO : mm_oW (mm_s1 (.lcmp) x v ip L st h) F G ip L h Qr) (K : mm_KN p l e R s m args below meth c Q z mi n0 m0 F) : W p l e R s m args below meth c H locs cells slots Q (F0 m pc ls (st.map (mm_tr z))) := by
  obtain ⟨hx, hb, hml, hown, hts, hFN, hini, hfr, hlc, h40⟩ := id hF
  simp only [mm_ck, Bool.and_eq_true, decide_eq_true_eq] at ck
  obtain ⟨hd, c2⟩ := ck
  split at c2
  · rename_i cc off k t hdc
    simp only [Bool.and_eq_true] at c2
    obtain ⟨⟨c3, ct⟩, hp⟩ := c2
    obtain ⟨tgt, ht, hpt⟩ := mm_tg_po ct
    have c3 := Nat.eq_of_beq_eq_true c3
    subst c3
    cases cc
    · replace HO : mm_oW (mm_lc (fun a b => a = b) t ip L st h) F G ip L h Qr := HO
      unfold mm_lc at HO
      split at HO
      · rename_i b a r
        exact W.lcmp hx hb hd (lv_if_eq hx hb hdc ht (fun q => K _ _ _ _ _ _ _ _ _ _ (HO.1 ((lg_cmp_eq _ _).mp q)) hpt hRl hl hlo hce hsl) (fun q => K _ _ _ _ _ _ _ _ _ _ (HO.2 (fun w => q ((lg_cmp_eq _ _).mpr w))) hp hRl hl hlo hce hsl))
      · exact HO.elim
    · replace HO : mm_oW (mm_lc (fun a b => ¬ a = b) t ip L st h) F G ip L h Qr := HO
      unfold mm_lc at HO
      split at HO
      · rename_i b a r
        exact W.lcmp hx hb hd (lv_if_ne hx hb hdc ht (fun q => K _ _ _ _ _ _ _ _ _ _ (HO.1 (fun w => q ((lg_cmp_eq _ _).mpr w))) hpt hRl hl hlo hce hsl) (fun q => K _ _ _ _ _ _ _ _ _ _ (HO.2 (fun w => w ((lg_cmp_eq _ _).mp q))) hp hRl hl hlo hce hsl))
      · exact HO.elim
    · replace HO : mm_oW (mm_lc (fun a b => a < b) t ip L st h) F G ip L h Qr := HO
      unfold mm_lc at HO
      split at HO
      · rename_i b a r
        exact W.lcmp hx hb hd (lv_if_lt hx hb hdc ht (fun q => K _ _ _ _ _ _ _ _ _ _ (HO.1 ((lg_cmp_lt _ _).mp q)) hpt hRl hl hlo hce hsl) (fun q => K _ _ _ _ _ _ _ _ _ _ (HO.2 (fun w => q ((lg_cmp_lt _ _).mpr w))) hp hRl hl hlo hce hsl))
      · exact HO.elim
    · replace HO : mm_oW (mm_lc (fun a b => b ≤ a) t ip L st h) F G ip L h Qr := HO
      unfold mm_lc at HO
      split at HO
      · rename_i b a r
        exact W.lcmp hx hb hd (lv_if_ge hx hb hdc ht (fun q => K _ _ _ _ _ _ _ _ _ _ (HO.1 ((lg_cmp_ge _ _).mp q)) hpt hRl hl hlo hce hsl) (fun q => K _ _ _ _ _ _ _ _ _ _ (HO.2 (fun w => q ((lg_cmp_ge _ _).mpr w))) hp hRl hl hlo hce hsl))
      · exact HO.elim
    · replace HO : mm_oW (mm_lc (fun a b => b < a) t ip L st h) F G ip L h Qr := HO
      unfold mm_lc at HO
      split at HO
      · rename_i b a r
        exact W.lcmp hx hb hd (lv_if_gt hx hb hdc ht (fun q => K _ _ _ _ _ _ _ _ _ _ (HO.1 ((lg_cmp_gt _ _).mp q)) hpt hRl hl hlo hce hsl) (fun q => K _ _ _ _ _ _ _ _ _ _ (HO.2 (fun w => q ((lg_cmp_gt _ _).mpr w))) hp hRl hl hlo hce hsl))
      · exact HO.elim
    · replace HO : mm_oW (mm_lc (fun a b => a ≤ b) t ip L st h) F G ip L h Qr := HO
      unfold mm_lc at HO
      split at HO
      · rename_i b a r
        exact W.lcmp hx hb hd (lv_if_le hx hb hdc ht (fun q => K _ _ _ _ _ _ _ _ _ _ (HO.1 ((lg_cmp_le _ _).mp q)) hpt hRl hl hlo hce hsl) (fun q => K _ _ _ _ _ _ _ _ _ _ (HO.2 (fun w => q ((lg_cmp_le _ _).mpr w))) hp hRl hl hlo hce hsl))
      · exact HO.elim
  · cases c2
theorem mm_p_table {dd lo hi : Int} {offs : Array Int} (hF : mm_Fr p R s m args meth c z mi d) (hl : lv_has ls (mm_ml mi) (mm_pr z 0 L)) (hRl : mm_Rel z h H) (hlo : ∀ q ∈ locs, z.1.2.2.1 ≤ q.base) (hce : cells + n0 = hN h) (hsl : slots + m0 = hM h) (ck : mm_ck mi ip (.tableswitch dd lo hi offs) pc x v aux = true) (HO : mm_oW (mm_s1 (.tableswitch dd lo hi offs) x v ip L st h) F G ip L h Qr) (K : mm_KN p l e R s m args below meth c Q z mi n0 m0 F) : W p l e R s m args below meth c H locs cells slots Q (F0 m pc ls (st.map (mm_tr z))) := by
  obtain ⟨hx, hb, hml, hown, hts, hFN, hini, hfr, hlc, h40⟩ := id hF
  simp only [mm_ck, Bool.and_eq_true, decide_eq_true_eq] at ck
  obtain ⟨⟨⟨⟨c1, c2⟩, c3⟩, c4⟩, c5⟩ := ck
  split at c1
  · rename_i ins2 len hdc
    have c1 := of_decide_eq_true c1
    subst c1
    replace HO : mm_oW (mm_swi (mm_swl lo (mm_tl x)) x L st h) F G ip L h Qr := HO
    unfold mm_swi at HO
    split at HO
    · rename_i w r
      replace HO : mm_swW (fun t => F t L r h) w (mm_swl lo (mm_tl x)) (mm_x0 x) := HO
      cases x with
      | nil => simp [mm_tgs] at c2
      | cons t0 ts =>
        obtain ⟨q1, q2⟩ := mm_tgs_at _ _ c2
        have q1 : ts.length = offs.size := by simpa using q1
        rcases mm_swl_in (F' := fun t => F t L r h) ts lo HO c4 (by omega) with ⟨j, t, e1, e2, e3⟩ | ⟨e1, e2⟩
        · obtain ⟨o, f1, f2⟩ := q2 (j + 1) t (by simpa using e1)
          obtain ⟨tgt, ht, hpt⟩ := mm_tg_po f2
          have hj : j < ts.length := (List.getElem?_eq_some_iff.mp e1).1
          refine lv_tableIn hx hb hdc (by omega) (by omega) (off := o) ?_ ht (K _ _ _ _ _ _ _ _ _ _ e3 hpt hRl hl hlo hce hsl)
          have : (w.toInt - lo).toNat = j := by omega
          rw [this]
          simpa using f1
        · obtain ⟨o, f1, f2⟩ := q2 0 t0 (by simp)
          obtain ⟨tgt, ht, hpt⟩ := mm_tg_po f2
          have f1 : dd = o := by simpa using f1
          subst f1
          exact lv_tableOut hx hb hdc (by omega) ht (K _ _ _ _ _ _ _ _ _ _ e2 hpt hRl hl hlo hce hsl)
    · exact HO.elim
  · cases c1
theorem mm_p_lookup {dd : Int} {ps : Array (Int × Int)} (hF : mm_Fr p R s m args meth c z mi d) (hl : lv_has ls (mm_ml mi) (mm_pr z 0 L)) (hRl : mm_Rel z h H) (hlo : ∀ q ∈ locs, z.1.2.2.1 ≤ q.base) (hce : cells + n0 = hN h) (hsl : slots + m0 = hM h) (ck : mm_ck mi ip (.lookupswitch dd ps) pc x v aux = true) (HO : mm_oW (mm_s1 (.lookupswitch dd ps) x v ip L st h) F G ip L h Qr) (K : mm_KN p l e R s m args below meth c Q z mi n0 m0 F) : W p l e R s m args below meth c H locs cells slots Q (F0 m pc ls (st.map (mm_tr z))) := by
  obtain ⟨hx, hb, hml, hown, hts, hFN, hini, hfr, hlc, h40⟩ := id hF
  simp only [mm_ck, Bool.and_eq_true] at ck
  obtain ⟨⟨⟨c1, c2⟩, c3⟩, c4⟩ := ck
  split at c1
  · rename_i ins2 len hdc
    have c1 := of_decide_eq_true c1
    subst c1
    replace HO : mm_oW (mm_swi (mm_lkl ps.toList (mm_tl x)) x L st h) F G ip L h Qr := HO
    unfold mm_swi at HO
    split at HO
    · rename_i w r
      replace HO : mm_swW (fun t => F t L r h) w (mm_lkl ps.toList (mm_tl x)) (mm_x0 x) := HO
      cases x with
      | nil => simp [mm_tgs] at c2
      | cons t0 ts =>
        simp only [mm_tgs, Bool.and_eq_true] at c2
        rcases mm_lkl_in (F' := fun t => F t L r h) (d0 := dd) ps.toList ts HO c2.2 c4 with ⟨t, e1, e2⟩ | ⟨e1, e2⟩
        · obtain ⟨tgt, ht, hpt⟩ := mm_tg_po e2
          exact lv_lookup hx hb hdc c3 rfl ht (K _ _ _ _ _ _ _ _ _ _ e1 hpt hRl hl hlo hce hsl)
        · obtain ⟨tgt, ht, hpt⟩ := mm_tg_po c2.1
          exact lv_lookup hx hb hdc c3 e2 ht (K _ _ _ _ _ _ _ _ _ _ e1 hpt hRl hl hlo hce hsl)
    · exact HO.elim
  · cases c1
theorem mm_p_getfield {i : Nat} (hF : mm_Fr p R s m args meth c z mi d) (hl : lv_has ls (mm_ml mi) (mm_pr z 0 L)) (hRl : mm_Rel z h H) (hlo : ∀ q ∈ locs, z.1.2.2.1 ≤ q.base) (hce : cells + n0 = hN h) (hsl : slots + m0 = hM h) (ck : mm_ck mi ip (.getfield i) pc x v aux = true) (HO : mm_oW (mm_s1 (.getfield i) x v ip L st h) F G ip L h Qr) (K : mm_KN p l e R s m args below meth c Q z mi n0 m0 F) : W p l e R s m args below meth c H locs cells slots Q (F0 m pc ls (st.map (mm_tr z))) := by
  obtain ⟨hx, hb, hml, hown, hts, hFN, hini, hfr, hlc, h40⟩ := id hF
  simp only [mm_ck, Bool.and_eq_true] at ck
  obtain ⟨c1, c2⟩ := ck
  obtain ⟨hd, hp⟩ := mm_d_dec c1
  replace HO : mm_oW (mm_get x ip L st h) F G ip L h Qr := HO
  split at c2
  · rename_i k ty ks
    rw [List.all_eq_true] at c2
    have key : ∀ (a : Nat) (r : List Value) (w : Value), mm_kd (hK h a).1 ks → mm_v z h a ty k = mm_tr z w → F (ip + 1) L (w :: r) h → W p l e R s m args below meth c H locs cells slots Q (F0 m pc ls (.ref (mm_ad z a) :: r.map (mm_tr z))) := by
      intro a r w hk hw HF
      obtain ⟨C, T, N, ref, o1, o2, o3, o4, o5, o6⟩ := mm_ckF_o (c2 _ (mm_kd_mem hk))
      exact mm_getf (own := "") hF hRl rfl o2 o1 (mm_cls _ _ o1).1 o3 o5 o6 (by rw [o4]; exact hw) hd (K _ _ _ _ _ _ _ _ _ _ HF hp hRl hl hlo hce hsl)
    unfold mm_get at HO
    split at HO
    · rename_i k2 ty2 ks2 a r heq
      cases heq
      split at HO
      · exact key a r _ HO.1 rfl HO.2
      · refine key a r _ HO.1.1 ?_ HO.2
        show (if hR h a k = 0 then Value.null else .ref (mm_ad z (hR h a k))) = _
        rw [if_neg HO.1.2]
        rfl
      · rename_i n1 n2
        refine key a r _ HO.1 ?_ HO.2
        unfold mm_v
        rw [if_neg n1, if_neg n2]
        rfl
    · exact HO.elim
  · cases c2
theorem mm_p_putfield {i : Nat} (hF : mm_Fr p R s m args meth c z mi d) (hl : lv_has ls (mm_ml mi) (mm_pr z 0 L)) (hRl : mm_Rel z h H) (hlo : ∀ q ∈ locs, z.1.2.2.1 ≤ q.base) (hce : cells + n0 = hN h) (hsl : slots + m0 = hM h) (ck : mm_ck mi ip (.putfield i) pc x v aux = true) (HO : mm_oW (mm_s1 (.putfield i) x v ip L st h) F G ip L h Qr) (K : mm_KN p l e R s m args below meth c Q z mi n0 m0 F) : W p l e R s m args below meth c H locs cells slots Q (F0 m pc ls (st.map (mm_tr z))) := by
  obtain ⟨hx, hb, hml, hown, hts, hFN, hini, hfr, hlc, h40⟩ := id hF
  simp only [mm_ck, Bool.and_eq_true] at ck
  obtain ⟨c1, c2⟩ := ck
  obtain ⟨hd, hp⟩ := mm_d_dec c1
  replace HO : mm_oW (mm_set x ip L st h) F G ip L h Qr := HO
  split at c2
  · rename_i k ty fin ks
    rw [List.all_eq_true] at c2
    have key : ∀ (a : Nat) (r : List Value) (w : Value) (h' : mm_H), mm_kd (hK h a).1 ks → (∀ t : FieldType, (ty = 0 ∧ t = .int) ∨ (ty = 3 ∧ t = .boolean) ∨ (ty = 1 ∧ t = .long) ∨ (ty = 2 ∧ ((∃ n, t = .object n) ∨ ∃ u, t = .array u)) → narrow t (mm_tr z w) = mm_tr z w ∧ fits t (mm_tr z w) = true) → hN h' = hN h → hM h' = hM h → (∀ i, hK h' i = hK h i) → (∀ i, i ≠ a → ∀ k, hI h' i k = hI h i k) → (∀ i, i ≠ a → ∀ k, hL h' i k = hL h i k) → (∀ i, i ≠ a → ∀ k, hR h' i k = hR h i k) → (∀ j ty', (j = k → ty' = ty) → mm_v z h' a ty' j = if j = k then mm_tr z w else mm_v z h a ty' j) → F (ip + 1) L r h' → W p l e R s m args below meth c H locs cells slots Q (F0 m pc ls (mm_tr z w :: .ref (mm_ad z a) :: r.map (mm_tr z))) := by
      intro a r w h' hk hw q1 q1m q2 q3 q4 q5 q6 HF
      have c3 := c2 _ (mm_kd_mem hk)
      rw [Bool.and_eq_true] at c3
      obtain ⟨c3, c4⟩ := c3
      obtain ⟨C, T, N, ref, o1, o2, o3, o4, o5, o6⟩ := mm_ckF_o c3
      obtain ⟨u1, u2, u3⟩ := mm_cls _ _ o1
      obtain ⟨t, t1, t2⟩ := u2 k o3
      have t2 : mm_tyo (T k).2.2.1 t := t2
      unfold mm_tyo at t2
      rw [o4] at t2
      obtain ⟨w1, w2⟩ := hw t t2
      refine mm_putf (own := "") hF hRl rfl o2 o1 u1 o3 (fun k hk => (u2 k hk).imp (fun _ z => z.1)) u3 o5 o6 ?_ t1 w1 w2 q1 q2 q3 q4 q5 (fun j hj => ?_) hd hlo (fun H1 locs1 hR1 hl1 => K _ _ _ _ _ _ _ _ _ _ HF hp hR1 hl hl1 (by rw [q1]; exact hce) (by rw [q1m]; exact hsl))
      · unfold mm_fin mm_dcl at c4
        rw [o1] at c4
        simp only [Bool.or_eq_true, Bool.and_eq_true, decide_eq_true_eq, Bool.not_eq_true'] at c4
        rcases c4 with ⟨_, c4⟩ | ⟨⟨⟨_, c4⟩, c5⟩, c6⟩
        · exact Or.inl c4
        · exact Or.inr ⟨c4, c5, c6⟩
      · exact q6 j _ (fun ej => by subst ej; exact o4)
    unfold mm_set at HO
    split at HO
    · rename_i k2 ty2 fin2 ks2 w a r heq
      cases heq
      split at HO
      · refine key a r (.long w) (sL h a k w) HO.1 (fun t ht => ?_) rfl rfl mm_sL_row.2.1 mm_sL_row.2.2.1 mm_sL_row.2.2.2.1 mm_sL_row.2.2.2.2 (fun j ty' hj => mm_v_sL hj) HO.2
        rcases ht with ⟨h1, _⟩ | ⟨h1, _⟩ | ⟨_, rfl⟩ | ⟨h1, _⟩
        · cases h1
        · cases h1
        · exact ⟨rfl, rfl⟩
        · cases h1
      · exact HO.elim
    · rename_i k2 ty2 fin2 ks2 w a r heq
      cases heq
      split at HO
      · refine key a r (.ref w) (sR h a k w) HO.1.1 (fun t ht => ?_) rfl rfl mm_sR_row.2.1 mm_sR_row.2.2.1 mm_sR_row.2.2.2.1 mm_sR_row.2.2.2.2 (fun j ty' hj => mm_v_sR HO.1.2 hj) HO.2
        rcases ht with ⟨h1, _⟩ | ⟨h1, _⟩ | ⟨h1, _⟩ | ⟨_, ⟨n, rfl⟩ | ⟨n, rfl⟩⟩
        · cases h1
        · cases h1
        · cases h1
        · exact ⟨rfl, rfl⟩
        · exact ⟨rfl, rfl⟩
      · exact HO.elim
    · rename_i k2 ty2 fin2 ks2 w a r heq
      cases heq
      split at HO
      · refine key a r (.int w) (sI h a k w) HO.1 (fun t ht => ?_) rfl rfl mm_sI_row.2.1 mm_sI_row.2.2.1 mm_sI_row.2.2.2.1 mm_sI_row.2.2.2.2 (fun j ty' hj => mm_v_sI hj ⟨by decide, by decide⟩) HO.2
        rcases ht with ⟨_, rfl⟩ | ⟨h1, _⟩ | ⟨h1, _⟩ | ⟨h1, _⟩
        · exact ⟨rfl, rfl⟩
        · cases h1
        · cases h1
        · cases h1
      · refine key a r (.int w) (sI h a k w) HO.1.1 (fun t ht => ?_) rfl rfl mm_sI_row.2.1 mm_sI_row.2.2.1 mm_sI_row.2.2.2.1 mm_sI_row.2.2.2.2 (fun j ty' hj => mm_v_sI hj ⟨by decide, by decide⟩) HO.2
        rcases ht with ⟨h1, _⟩ | ⟨_, rfl⟩ | ⟨h1, _⟩ | ⟨h1, _⟩
        · cases h1
        · rcases HO.1.2 with rfl | rfl <;> exact ⟨rfl, rfl⟩
        · cases h1
        · cases h1
      · exact HO.elim
    · exact HO.elim
  · cases c2
theorem mm_p_iaload (hF : mm_Fr p R s m args meth c z mi d) (hl : lv_has ls (mm_ml mi) (mm_pr z 0 L)) (hRl : mm_Rel z h H) (hlo : ∀ q ∈ locs, z.1.2.2.1 ≤ q.base) (hce : cells + n0 = hN h) (hsl : slots + m0 = hM h) (ck : mm_ck mi ip (.iaload) pc x v aux = true) (HO : mm_oW (mm_s1 (.iaload) x v ip L st h) F G ip L h Qr) (K : mm_KN p l e R s m args below meth c Q z mi n0 m0 F) : W p l e R s m args below meth c H locs cells slots Q (F0 m pc ls (st.map (mm_tr z))) := by
  obtain ⟨hx, hb, hml, hown, hts, hFN, hini, hfr, hlc, h40⟩ := id hF
  replace ck : mm_d mi ip .iaload pc 1 = true := ck
  obtain ⟨hd, hp⟩ := mm_d_dec ck
  unfold mm_s1 at HO
  dsimp only at HO
  split at HO
  · unfold mm_xa at HO
    split at HO
    · rename_i i a r
      obtain ⟨⟨ha, hi⟩, HF⟩ := HO
      subst ha
      obtain ⟨hX, hlt, -⟩ := hFN.2.2.2.2
      obtain ⟨scr, g1, g2, g3, g4, g5⟩ := hX
      have hL : (hK h 1).2 = z.2.2.2.1 := by rw [hRl.2.2.2.2.2.1]
      have hj : i.toNatClampNeg < z.2.2.2.1 := by rw [← hL]; exact Nat.not_le.mp fun q => hi (Or.inr q)
      have HF : F (ip + 1) L (.int (hI h 1 i.toNatClampNeg) :: r) h := HF
      rw [hRl.2.2.2.2.2.2] at HF
      exact W.iald (v := .int (z.2.2.2.2 i.toNatClampNeg)) hx hb (a := mm_ad z 1) (cell := scr) ((hRl.2.2.1 _ hlt).trans g1) g2 g3 (by rw [g4, ← hL]; exact hi) (g5 _ hj) rfl rfl hd (K _ _ _ _ _ _ _ _ _ _ HF hp hRl hl hlo hce hsl)
    · exact HO.elim
  · unfold mm_ia at HO
    split at HO
    · rename_i i a r
      obtain ⟨cell, e1, e2, e3, e4⟩ := mm_ar_in hRl HO.1 (by decide) (by decide)
      have HF : F (ip + 1) L (.int (hI h a i.toNatClampNeg) :: r) h := HO.2
      refine W.iald (v := .int (hI h a i.toNatClampNeg)) hx hb e1 (by rw [e2]; exact (hFN.2.1.2 0 _ rfl).1 _ _) (fun q => by rw [e2] at q; cases q) e3 e4 rfl rfl hd (K _ _ _ _ _ _ _ _ _ _ HF hp hRl hl hlo hce hsl)
    · exact HO.elim
theorem mm_p_baload (hF : mm_Fr p R s m args meth c z mi d) (hl : lv_has ls (mm_ml mi) (mm_pr z 0 L)) (hRl : mm_Rel z h H) (hlo : ∀ q ∈ locs, z.1.2.2.1 ≤ q.base) (hce : cells + n0 = hN h) (hsl : slots + m0 = hM h) (ck : mm_ck mi ip (.baload) pc x v aux = true) (HO : mm_oW (mm_s1 (.baload) x v ip L st h) F G ip L h Qr) (K : mm_KN p l e R s m args below meth c Q z mi n0 m0 F) : W p l e R s m args below meth c H locs cells slots Q (F0 m pc ls (st.map (mm_tr z))) := by
  obtain ⟨hx, hb, hml, hown, hts, hFN, hini, hfr, hlc, h40⟩ := id hF
  replace ck : mm_d mi ip .baload pc 1 = true := ck
  obtain ⟨hd, hp⟩ := mm_d_dec ck
  replace HO : mm_oW (mm_ia 14 ip L st h) F G ip L h Qr := HO
  unfold mm_ia at HO
  split at HO
  · rename_i i a r
    obtain ⟨cell, e1, e2, e3, e4⟩ := mm_ar_in hRl HO.1 (by decide) (by decide)
    have HF : F (ip + 1) L (.int (hI h a i.toNatClampNeg) :: r) h := HO.2
    refine W.zald (v := .int (hI h a i.toNatClampNeg)) hx hb e1 (by rw [e2]; exact (hFN.2.1.2 2 _ rfl).1 _ _) (fun q => by rw [e2] at q; cases q) e3 e4 rfl rfl hd (K _ _ _ _ _ _ _ _ _ _ HF hp hRl hl hlo hce hsl)
  · exact HO.elim
theorem mm_p_laload (hF : mm_Fr p R s m args meth c z mi d) (hl : lv_has ls (mm_ml mi) (mm_pr z 0 L)) (hRl : mm_Rel z h H) (hlo : ∀ q ∈ locs, z.1.2.2.1 ≤ q.base) (hce : cells + n0 = hN h) (hsl : slots + m0 = hM h) (ck : mm_ck mi ip (.laload) pc x v aux = true) (HO : mm_oW (mm_s1 (.laload) x v ip L st h) F G ip L h Qr) (K : mm_KN p l e R s m args below meth c Q z mi n0 m0 F) : W p l e R s m args below meth c H locs cells slots Q (F0 m pc ls (st.map (mm_tr z))) := by
  obtain ⟨hx, hb, hml, hown, hts, hFN, hini, hfr, hlc, h40⟩ := id hF
  replace ck : mm_d mi ip .laload pc 1 = true := ck
  obtain ⟨hd, hp⟩ := mm_d_dec ck
  replace HO : mm_oW (mm_la ip L st h) F G ip L h Qr := HO
  unfold mm_la at HO
  split at HO
  · rename_i i a r
    obtain ⟨cell, e1, e2, e3, e4⟩ := mm_ar_in hRl HO.1 (by decide) (by decide)
    have HF : F (ip + 1) L (.long (hL h a i.toNatClampNeg) :: r) h := HO.2
    refine W.lald (v := .long (hL h a i.toNatClampNeg)) hx hb e1 (by rw [e2]; exact (hFN.2.1.2 1 _ rfl).1 _ _) (fun q => by rw [e2] at q; cases q) e3 e4 rfl rfl hd (K _ _ _ _ _ _ _ _ _ _ HF hp hRl hl hlo hce hsl)
  · exact HO.elim
theorem mm_p_aaload (hF : mm_Fr p R s m args meth c z mi d) (hl : lv_has ls (mm_ml mi) (mm_pr z 0 L)) (hRl : mm_Rel z h H) (hlo : ∀ q ∈ locs, z.1.2.2.1 ≤ q.base) (hce : cells + n0 = hN h) (hsl : slots + m0 = hM h) (ck : mm_ck mi ip (.aaload) pc x v aux = true) (HO : mm_oW (mm_s1 (.aaload) x v ip L st h) F G ip L h Qr) (K : mm_KN p l e R s m args below meth c Q z mi n0 m0 F) : W p l e R s m args below meth c H locs cells slots Q (F0 m pc ls (st.map (mm_tr z))) := by
  obtain ⟨hx, hb, hml, hown, hts, hFN, hini, hfr, hlc, h40⟩ := id hF
  replace ck : mm_d mi ip .aaload pc 1 = true := ck
  obtain ⟨hd, hp⟩ := mm_d_dec ck
  replace HO : mm_oW (mm_aa ip L st h) F G ip L h Qr := HO
  unfold mm_aa at HO
  split at HO
  · rename_i i a r
    obtain ⟨⟨hi, hne⟩, HF⟩ := HO
    obtain ⟨cell, e1, e2, e3, e4⟩ := mm_ar_in hRl hi (by decide) (by decide)
    have HF : F (ip + 1) L (.ref (hR h a i.toNatClampNeg) :: r) h := HF
    have e5 : mm_v z h a (mm_aty 15) i.toNatClampNeg = .ref (mm_ad z (hR h a i.toNatClampNeg)) := by
      show (if hR h a i.toNatClampNeg = 0 then Value.null else .ref (mm_ad z (hR h a i.toNatClampNeg))) = _
      rw [if_neg hne]
    rw [e5] at e4
    exact W.aald (ty := .object "TermDraw$Told") hx hb e1 (by rw [e2]; exact (hFN.2.1.2 3 _ rfl).1 _ _) rfl (fun q => by rw [e2] at q; cases q) e3 e4 rfl rfl hd (K _ _ _ _ _ _ _ _ _ _ HF hp hRl hl hlo hce hsl)
  · exact HO.elim
theorem mm_p_iastore (hF : mm_Fr p R s m args meth c z mi d) (hl : lv_has ls (mm_ml mi) (mm_pr z 0 L)) (hRl : mm_Rel z h H) (hlo : ∀ q ∈ locs, z.1.2.2.1 ≤ q.base) (hce : cells + n0 = hN h) (hsl : slots + m0 = hM h) (ck : mm_ck mi ip (.iastore) pc x v aux = true) (HO : mm_oW (mm_s1 (.iastore) x v ip L st h) F G ip L h Qr) (K : mm_KN p l e R s m args below meth c Q z mi n0 m0 F) : W p l e R s m args below meth c H locs cells slots Q (F0 m pc ls (st.map (mm_tr z))) := by
  obtain ⟨hx, hb, hml, hown, hts, hFN, hini, hfr, hlc, h40⟩ := id hF
  replace ck : mm_d mi ip .iastore pc 1 = true := ck
  obtain ⟨hd, hp⟩ := mm_d_dec ck
  replace HO : mm_oW (mm_is ip L st h) F G ip L h Qr := HO
  unfold mm_is at HO
  split at HO
  · rename_i w i a r
    obtain ⟨hi, HF⟩ := HO
    obtain ⟨cell, e1, e2, e3, e4⟩ := mm_ar_in hRl hi (by decide) (by decide)
    refine W.iast hx hb e1 (by rw [e2]; exact (hFN.2.1.2 0 _ rfl).1 _ _) (fun q => by rw [e2] at q; cases q) e3 rfl rfl hd (fun H1 f1 f2 f3 => ?_)
    have f1 : H1[mm_ad z a]? = some (cell.setSlot i.toNatClampNeg (.int w)) := f1
    refine K (ip + 1) (pc + 1) L r _ H1 _ ls cells slots HF hp (mm_ar_put hRl hi (by decide) (by decide) e2 f1 f2 f3 rfl mm_sI_row.2.1 mm_sI_row.2.2.1 mm_sI_row.2.2.2.1 mm_sI_row.2.2.2.2 (fun j => mm_v_sI (fun _ => rfl) ⟨by decide, by decide⟩)) hl (fun q hq => ?_) hce hsl
    rcases List.mem_append.mp hq with hq | hq
    · exact hlo q hq
    · rw [List.mem_singleton.mp hq]
      exact mm_ad_ge (hRl.in (a := a) (by rw [hi.1]; decide)).1
  · exact HO.elim
theorem mm_p_bastore (hF : mm_Fr p R s m args meth c z mi d) (hl : lv_has ls (mm_ml mi) (mm_pr z 0 L)) (hRl : mm_Rel z h H) (hlo : ∀ q ∈ locs, z.1.2.2.1 ≤ q.base) (hce : cells + n0 = hN h) (hsl : slots + m0 = hM h) (ck : mm_ck mi ip (.bastore) pc x v aux = true) (HO : mm_oW (mm_s1 (.bastore) x v ip L st h) F G ip L h Qr) (K : mm_KN p l e R s m args below meth c Q z mi n0 m0 F) : W p l e R s m args below meth c H locs cells slots Q (F0 m pc ls (st.map (mm_tr z))) := by
  obtain ⟨hx, hb, hml, hown, hts, hFN, hini, hfr, hlc, h40⟩ := id hF
  replace ck : mm_d mi ip .bastore pc 1 = true := ck
  obtain ⟨hd, hp⟩ := mm_d_dec ck
  replace HO : mm_oW (mm_bs ip L st h) F G ip L h Qr := HO
  unfold mm_bs at HO
  split at HO
  · rename_i w i a r
    obtain ⟨hi, HF⟩ := HO
    obtain ⟨cell, e1, e2, e3, e4⟩ := mm_ar_in hRl hi.1 (by decide) (by decide)
    refine W.zast hx hb e1 (by rw [e2]; exact (hFN.2.1.2 2 _ rfl).1 _ _) (fun q => by rw [e2] at q; cases q) e3 rfl rfl hd (fun H1 f1 f2 f3 => ?_)
    have f1 : H1[mm_ad z a]? = some (cell.setSlot i.toNatClampNeg (.int w)) := by rcases hi.2 with rfl | rfl <;> exact f1
    refine K (ip + 1) (pc + 1) L r _ H1 _ ls cells slots HF hp (mm_ar_put hRl hi.1 (by decide) (by decide) e2 f1 f2 f3 rfl mm_sI_row.2.1 mm_sI_row.2.2.1 mm_sI_row.2.2.2.1 mm_sI_row.2.2.2.2 (fun j => mm_v_sI (fun _ => rfl) ⟨by decide, by decide⟩)) hl (fun q hq => ?_) hce hsl
    rcases List.mem_append.mp hq with hq | hq
    · exact hlo q hq
    · rw [List.mem_singleton.mp hq]
      exact mm_ad_ge (hRl.in (a := a) (by rw [hi.1.1]; decide)).1
  · exact HO.elim
theorem mm_p_lastore (hF : mm_Fr p R s m args meth c z mi d) (hl : lv_has ls (mm_ml mi) (mm_pr z 0 L)) (hRl : mm_Rel z h H) (hlo : ∀ q ∈ locs, z.1.2.2.1 ≤ q.base) (hce : cells + n0 = hN h) (hsl : slots + m0 = hM h) (ck : mm_ck mi ip (.lastore) pc x v aux = true) (HO : mm_oW (mm_s1 (.lastore) x v ip L st h) F G ip L h Qr) (K : mm_KN p l e R s m args below meth c Q z mi n0 m0 F) : W p l e R s m args below meth c H locs cells slots Q (F0 m pc ls (st.map (mm_tr z))) := by
  obtain ⟨hx, hb, hml, hown, hts, hFN, hini, hfr, hlc, h40⟩ := id hF
  replace ck : mm_d mi ip .lastore pc 1 = true := ck
  obtain ⟨hd, hp⟩ := mm_d_dec ck
  replace HO : mm_oW (mm_ls ip L st h) F G ip L h Qr := HO
  unfold mm_ls at HO
  split at HO
  · rename_i w i a r
    obtain ⟨hi, HF⟩ := HO
    obtain ⟨cell, e1, e2, e3, e4⟩ := mm_ar_in hRl hi (by decide) (by decide)
    refine W.last hx hb e1 (by rw [e2]; exact (hFN.2.1.2 1 _ rfl).1 _ _) (fun q => by rw [e2] at q; cases q) e3 rfl rfl hd (fun H1 f1 f2 f3 => ?_)
    have f1 : H1[mm_ad z a]? = some (cell.setSlot i.toNatClampNeg (.long w)) := f1
    refine K (ip + 1) (pc + 1) L r _ H1 _ ls cells slots HF hp (mm_ar_put hRl hi (by decide) (by decide) e2 f1 f2 f3 rfl mm_sL_row.2.1 mm_sL_row.2.2.1 mm_sL_row.2.2.2.1 mm_sL_row.2.2.2.2 (fun j => mm_v_sL (fun _ => rfl))) hl (fun q hq => ?_) hce hsl
    rcases List.mem_append.mp hq with hq | hq
    · exact hlo q hq
    · rw [List.mem_singleton.mp hq]
      exact mm_ad_ge (hRl.in (a := a) (by rw [hi.1]; decide)).1
  · exact HO.elim
theorem mm_p_aastore (hF : mm_Fr p R s m args meth c z mi d) (hl : lv_has ls (mm_ml mi) (mm_pr z 0 L)) (hRl : mm_Rel z h H) (hlo : ∀ q ∈ locs, z.1.2.2.1 ≤ q.base) (hce : cells + n0 = hN h) (hsl : slots + m0 = hM h) (ck : mm_ck mi ip (.aastore) pc x v aux = true) (HO : mm_oW (mm_s1 (.aastore) x v ip L st h) F G ip L h Qr) (K : mm_KN p l e R s m args below meth c Q z mi n0 m0 F) : W p l e R s m args below meth c H locs cells slots Q (F0 m pc ls (st.map (mm_tr z))) := by
  obtain ⟨hx, hb, hml, hown, hts, hFN, hini, hfr, hlc, h40⟩ := id hF
  replace ck : mm_d mi ip .aastore pc 1 = true := ck
  obtain ⟨hd, hp⟩ := mm_d_dec ck
  replace HO : mm_oW (mm_as ip L st h) F G ip L h Qr := HO
  unfold mm_as at HO
  split at HO
  · rename_i w i a r
    obtain ⟨⟨hi, hw9⟩, HF⟩ := HO
    obtain ⟨cell, e1, e2, e3, e4⟩ := mm_ar_in hRl hi (by decide) (by decide)
    obtain ⟨cv, g1, g2, g3, -⟩ := hRl.obj (r := (mm_R9, mm_T9, 13)) hw9 (by decide) rfl
    have hw3 := (hRl.in (a := w) (by omega)).1
    have hcls := (hFN.2.1.1 9 _ rfl).2
    obtain ⟨kA, comp, k1, k2, k3, -⟩ := (hFN.2.1.2 3 _ rfl).2
    have hcomp : comp = z.2.1.1 9 := Option.some.inj (k3.symm.trans hcls.1)
    subst hcomp
    obtain ⟨kC, hkC, -⟩ := hcls.2
    have hin : ¬ i < 0 ∧ i.toNatClampNeg < cell.slots.size := ⟨fun q => e3 (Or.inl q), Nat.not_le.mp fun q => e3 (Or.inr q)⟩
    refine W.aast hx hb e1 (fun q h => by rw [e2] at h; cases h) (fun h => by rw [e2] at h; cases h) (by rw [e2]; exact k1) k2 rfl hkC hin g1 (fun q h => by rw [g3] at h; cases h) (by rw [g2]; exact hkC) (by rw [g2]; exact va_assign hcls) rfl rfl hd (fun H1 f1 f2 f3 => ?_)
    refine K (ip + 1) (pc + 1) L r _ H1 _ ls cells slots HF hp (mm_ar_put hRl hi (by decide) (by decide) e2 f1 f2 f3 rfl mm_sR_row.2.1 mm_sR_row.2.2.1 mm_sR_row.2.2.2.1 mm_sR_row.2.2.2.2 (fun j => mm_v_sR (by omega) (fun _ => rfl))) hl (fun q hq => ?_) hce hsl
    rcases List.mem_append.mp hq with hq | hq
    · exact hlo q hq
    · rw [List.mem_singleton.mp hq]
      exact mm_ad_ge (hRl.in (a := a) (by rw [hi.1]; decide)).1
  · exact HO.elim
theorem mm_p_arraylength (hF : mm_Fr p R s m args meth c z mi d) (hl : lv_has ls (mm_ml mi) (mm_pr z 0 L)) (hRl : mm_Rel z h H) (hlo : ∀ q ∈ locs, z.1.2.2.1 ≤ q.base) (hce : cells + n0 = hN h) (hsl : slots + m0 = hM h) (ck : mm_ck mi ip (.arraylength) pc x v aux = true) (HO : mm_oW (mm_s1 (.arraylength) x v ip L st h) F G ip L h Qr) (K : mm_KN p l e R s m args below meth c Q z mi n0 m0 F) : W p l e R s m args below meth c H locs cells slots Q (F0 m pc ls (st.map (mm_tr z))) := by
  obtain ⟨hx, hb, hml, hown, hts, hFN, hini, hfr, hlc, h40⟩ := id hF
  replace ck : mm_d mi ip .arraylength pc 1 = true := ck
  obtain ⟨hd, hp⟩ := mm_d_dec ck
  unfold mm_s1 at HO
  dsimp only at HO
  split at HO
  · unfold mm_xl at HO
    split at HO
    · rename_i a r
      obtain ⟨ha, HF⟩ := HO
      subst ha
      obtain ⟨hX, hlt, -⟩ := hFN.2.2.2.2
      obtain ⟨scr, g1, g2, g3, g4, g5⟩ := hX
      have hL : (hK h 1).2 = z.2.2.2.1 := by rw [hRl.2.2.2.2.2.1]
      have HF : F (ip + 1) L (.int (Int32.ofNat (hK h 1).2) :: r) h := HF
      exact W.alen (n := Int32.ofNat (hK h 1).2) hx hb (a := mm_ad z 1) (cell := scr) ((hRl.2.2.1 _ hlt).trans g1) g2 (by rw [g4, hL] <;> rfl) rfl rfl hd (K _ _ _ _ _ _ _ _ _ _ HF hp hRl hl hlo hce hsl)
    · exact HO.elim
  · unfold mm_len at HO
    split at HO
    · rename_i a r
      obtain ⟨⟨k1, k2⟩, HF⟩ := HO
      have e1 := hRl.arr (a := a) rfl k1 k2
      have HF : F (ip + 1) L (.int (Int32.ofNat (hK h a).2) :: r) h := HF
      have hsz : (arrV (z.2.2.1 (hK h a).1) (hK h a).2 (fun j => mm_v z h a (mm_aty (hK h a).1) j)).slots.size.toInt32 = Int32.ofNat (hK h a).2 := by rw [arrV_size] <;> rfl
      have kk := K _ _ _ _ _ _ _ _ _ _ HF hp hRl hl hlo hce hsl
      have h4 : (hK h a).1 = 12 ∨ (hK h a).1 = 13 ∨ (hK h a).1 = 14 ∨ (hK h a).1 = 15 := by omega
      rcases h4 with q | q | q | q
      · exact W.alen (ty := .int) hx hb e1 (by rw [q]; exact (hFN.2.1.2 0 _ rfl).1 _ _) hsz rfl rfl hd kk
      · exact W.alen (ty := .long) hx hb e1 (by rw [q]; exact (hFN.2.1.2 1 _ rfl).1 _ _) hsz rfl rfl hd kk
      · exact W.alen (ty := .boolean) hx hb e1 (by rw [q]; exact (hFN.2.1.2 2 _ rfl).1 _ _) hsz rfl rfl hd kk
      · exact W.alen (ty := .object "TermDraw$Told") hx hb e1 (by rw [q]; exact (hFN.2.1.2 3 _ rfl).1 _ _) hsz rfl rfl hd kk
    · exact HO.elim
theorem mm_p_new {i : Nat} (hF : mm_Fr p R s m args meth c z mi d) (hl : lv_has ls (mm_ml mi) (mm_pr z 0 L)) (hRl : mm_Rel z h H) (hlo : ∀ q ∈ locs, z.1.2.2.1 ≤ q.base) (hce : cells + n0 = hN h) (hsl : slots + m0 = hM h) (ck : mm_ck mi ip (.new i) pc x v aux = true) (HO : mm_oW (mm_s1 (.new i) x v ip L st h) F G ip L h Qr) (K : mm_KN p l e R s m args below meth c Q z mi n0 m0 F) (HB : ∀ (i : Nat) (L : mm_Lv) (st : List Value) (h : mm_H), F i L st h → hN h ≤ R.cells + n0 ∧ hM h ≤ R.slots + m0) : W p l e R s m args below meth c H locs cells slots Q (F0 m pc ls (st.map (mm_tr z))) := by
  obtain ⟨hx, hb, hml, hown, hts, hFN, hini, hfr, hlc, h40⟩ := id hF
  simp only [mm_ck, Bool.and_eq_true] at ck
  obtain ⟨c1, c2⟩ := ck
  obtain ⟨hd, hp⟩ := mm_d_dec c1
  replace HO : mm_oW (mm_new x ip L st h) F G ip L h Qr := HO
  unfold mm_new at HO
  split at HO
  · rename_i ci n
    have HF : F (ip + 1) L (.ref (hN h) :: st) (hA h ci n) := HO
    obtain ⟨b1, b2⟩ := HB _ _ _ _ HF
    have b1 : hN h + 1 ≤ R.cells + n0 := b1
    have b2 : hM h + n ≤ R.slots + m0 := b2
    dsimp only at c2
    split at c2
    · rename_i C T N hc
      simp only [Bool.and_eq_true] at c2
      obtain ⟨⟨⟨⟨c2, c3⟩, c4⟩, c5⟩, c6⟩ := c2
      have c2 := Nat.eq_of_beq_eq_true c2
      subst c2
      have c6 : ci < 12 := by simpa using c6
      obtain ⟨u1, u2, u3⟩ := mm_cls _ _ hc
      have hKn := hFN.2.1.1 ci _ hc
      have hsz := hRl.2.1
      have h3 := hRl.1
      have had : mm_ad z (hN h) = H.size := by
        unfold mm_ad
        rw [if_neg (by omega), if_neg (by omega)]
        omega
      refine W.newcK hx hb hown (hts _ (mm_tA_in c3)) (hts _ (mm_tA_in c4)) (hts _ (mm_tA_in c5)) rfl hd (by omega) (by omega) hKn.2.1 rfl fun H1 kC hkC e1 z1 o1 => ?_
      have hcell : mm_cell z (hA h ci n) (hN h) H1 := by
        refine Or.inl ?_
        have hk : hK (hA h ci n) (hN h) = (ci, n) := if_pos rfl
        rw [hk]
        refine ⟨c6, _, hc, ?_⟩
        rw [had]
        have ty : ∃ ty : Nat → FieldType, ∀ k, k < n → parseFieldDescriptor (T k).2.2.1 = some (ty k) ∧ mm_tyo (T k).2.2.1 (ty k) := by
          refine ⟨fun k => if q : k < n then (u2 k q).choose else .int, fun k q => ?_⟩
          simp only [dif_pos q]
          exact (u2 k q).choose_spec
        obtain ⟨ty, hty⟩ := ty
        refine (u_born ty hts u1 hKn hkC e1 (fun k q => (hty k q).1)).to (fun k q => ?_)
        have hI0 : hI (hA h ci n) (hN h) k = 0 := if_pos rfl
        have hL0 : hL (hA h ci n) (hN h) k = 0 := if_pos rfl
        have hR0 : hR (hA h ci n) (hN h) k = 0 := if_pos rfl
        rcases (hty k q).2 with ⟨d1, d2⟩ | ⟨d1, d2⟩ | ⟨d1, d2⟩ | ⟨d1, ⟨n', d2⟩ | ⟨n', d2⟩⟩ <;> (show defaultValue (ty k) = mm_v z _ _ (mm_dc (T k).2.2.1) k; rw [d1, d2]; unfold mm_v; rw [hI0, hL0, hR0]; rfl)
      have hRl1 : mm_Rel z (hA h ci n) H1 := hRl.alloc (by omega) z1 o1 hcell
      have kk := K _ _ _ _ _ H1 locs ls (cells + 1) (slots + n) HF hp hRl1 hl hlo (show cells + 1 + n0 = hN h + 1 by omega) (show slots + n + m0 = hM h + n by omega)
      have e2 : (Value.ref (hN h) :: st).map (mm_tr z) = Value.ref H.size :: st.map (mm_tr z) := by rw [← had]; rfl
      rw [e2] at kk
      exact kk
    · cases c2
  · exact HO.elim
theorem mm_p_newarray {at2 : ArrayType} (hF : mm_Fr p R s m args meth c z mi d) (hl : lv_has ls (mm_ml mi) (mm_pr z 0 L)) (hRl : mm_Rel z h H) (hlo : ∀ q ∈ locs, z.1.2.2.1 ≤ q.base) (hce : cells + n0 = hN h) (hsl : slots + m0 = hM h) (ck : mm_ck mi ip (.newarray at2) pc x v aux = true) (HO : mm_oW (mm_s1 (.newarray at2) x v ip L st h) F G ip L h Qr) (K : mm_KN p l e R s m args below meth c Q z mi n0 m0 F) (HB : ∀ (i : Nat) (L : mm_Lv) (st : List Value) (h : mm_H), F i L st h → hN h ≤ R.cells + n0 ∧ hM h ≤ R.slots + m0) : W p l e R s m args below meth c H locs cells slots Q (F0 m pc ls (st.map (mm_tr z))) := by
  obtain ⟨hx, hb, hml, hown, hts, hFN, hini, hfr, hlc, h40⟩ := id hF
  simp only [mm_ck, Bool.and_eq_true] at ck
  obtain ⟨c1, c2⟩ := ck
  obtain ⟨hd, hp⟩ := mm_d_dec c1
  split at c2
  · replace HO : mm_oW (mm_na 12 ip L st h) F G ip L h Qr := HO
    unfold mm_na at HO
    split at HO
    · rename_i n r
      obtain ⟨hn, HF⟩ := HO
      have HF : F (ip + 1) L (.ref (hN h) :: r) (hA h 12 n.toNatClampNeg) := HF
      obtain ⟨b1, b2⟩ := HB _ _ _ _ HF
      have b1 : hN h + 1 ≤ R.cells + n0 := b1
      have b2 : hM h + n.toNatClampNeg ≤ R.slots + m0 := b2
      have hn0 : ¬ n < 0 := fun q => hn (Or.inl q)
      have hn1 : n.toNatClampNeg < 100000 := Nat.not_le.mp fun q => hn (Or.inr q)
      have hsz := hRl.2.1
      have h3 := hRl.1
      have had : mm_ad z (hN h) = H.size := by
        unfold mm_ad
        rw [if_neg (by omega), if_neg (by omega)]
        omega
      refine va_newaK (atype := .int) hx hb (hts _ mm_acI) rfl hd rfl hn0 rfl (by show n.toNatClampNeg * 4 ≤ 536870912; omega) (by omega) (by omega) rfl fun H1 cA e1 z1 o1 hAr hNm => ?_
      have hcA : cA = z.2.2.1 12 := Option.some.inj (hNm.symm.trans (hFN.2.1.2 0 _ rfl).2)
      subst hcA
      have hcell : mm_cell z (hA h 12 n.toNatClampNeg) (hN h) H1 := by
        refine Or.inr ?_
        have hk : hK (hA h 12 n.toNatClampNeg) (hN h) = (12, n.toNatClampNeg) := if_pos rfl
        rw [hk]
        refine ⟨(by decide : 12 ≤ 12), ?_⟩
        rw [had, e1]
        congr 2
        funext j
        have hI0 : hI (hA h 12 n.toNatClampNeg) (hN h) j = 0 := if_pos rfl
        have hL0 : hL (hA h 12 n.toNatClampNeg) (hN h) j = 0 := if_pos rfl
        have hR0 : hR (hA h 12 n.toNatClampNeg) (hN h) j = 0 := if_pos rfl
        unfold mm_v
        rw [hI0, hL0, hR0]
        rfl
      have hRl1 : mm_Rel z (hA h 12 n.toNatClampNeg) H1 := hRl.alloc (by decide) z1 o1 hcell
      have kk := K _ _ _ _ _ H1 locs ls (cells + 1) (slots + n.toNatClampNeg) HF hp hRl1 hl hlo (show cells + 1 + n0 = hN h + 1 by omega) (show slots + n.toNatClampNeg + m0 = hM h + n.toNatClampNeg by omega)
      have e2 : (Value.ref (hN h) :: r).map (mm_tr z) = Value.ref H.size :: r.map (mm_tr z) := by rw [← had]; rfl
      rw [e2] at kk
      exact kk
    · exact HO.elim
  · replace HO : mm_oW (mm_na 13 ip L st h) F G ip L h Qr := HO
    unfold mm_na at HO
    split at HO
    · rename_i n r
      obtain ⟨hn, HF⟩ := HO
      have HF : F (ip + 1) L (.ref (hN h) :: r) (hA h 13 n.toNatClampNeg) := HF
      obtain ⟨b1, b2⟩ := HB _ _ _ _ HF
      have b1 : hN h + 1 ≤ R.cells + n0 := b1
      have b2 : hM h + n.toNatClampNeg ≤ R.slots + m0 := b2
      have hn0 : ¬ n < 0 := fun q => hn (Or.inl q)
      have hn1 : n.toNatClampNeg < 100000 := Nat.not_le.mp fun q => hn (Or.inr q)
      have hsz := hRl.2.1
      have h3 := hRl.1
      have had : mm_ad z (hN h) = H.size := by
        unfold mm_ad
        rw [if_neg (by omega), if_neg (by omega)]
        omega
      refine va_newaK (atype := .long) hx hb (hts _ mm_acJ) rfl hd rfl hn0 rfl (by show n.toNatClampNeg * 8 ≤ 536870912; omega) (by omega) (by omega) rfl fun H1 cA e1 z1 o1 hAr hNm => ?_
      have hcA : cA = z.2.2.1 13 := Option.some.inj (hNm.symm.trans (hFN.2.1.2 1 _ rfl).2)
      subst hcA
      have hcell : mm_cell z (hA h 13 n.toNatClampNeg) (hN h) H1 := by
        refine Or.inr ?_
        have hk : hK (hA h 13 n.toNatClampNeg) (hN h) = (13, n.toNatClampNeg) := if_pos rfl
        rw [hk]
        refine ⟨(by decide : 12 ≤ 13), ?_⟩
        rw [had, e1]
        congr 2
        funext j
        have hI0 : hI (hA h 13 n.toNatClampNeg) (hN h) j = 0 := if_pos rfl
        have hL0 : hL (hA h 13 n.toNatClampNeg) (hN h) j = 0 := if_pos rfl
        have hR0 : hR (hA h 13 n.toNatClampNeg) (hN h) j = 0 := if_pos rfl
        unfold mm_v
        rw [hI0, hL0, hR0]
        rfl
      have hRl1 : mm_Rel z (hA h 13 n.toNatClampNeg) H1 := hRl.alloc (by decide) z1 o1 hcell
      have kk := K _ _ _ _ _ H1 locs ls (cells + 1) (slots + n.toNatClampNeg) HF hp hRl1 hl hlo (show cells + 1 + n0 = hN h + 1 by omega) (show slots + n.toNatClampNeg + m0 = hM h + n.toNatClampNeg by omega)
      have e2 : (Value.ref (hN h) :: r).map (mm_tr z) = Value.ref H.size :: r.map (mm_tr z) := by rw [← had]; rfl
      rw [e2] at kk
      exact kk
    · exact HO.elim
  · replace HO : mm_oW (mm_na 14 ip L st h) F G ip L h Qr := HO
    unfold mm_na at HO
    split at HO
    · rename_i n r
      obtain ⟨hn, HF⟩ := HO
      have HF : F (ip + 1) L (.ref (hN h) :: r) (hA h 14 n.toNatClampNeg) := HF
      obtain ⟨b1, b2⟩ := HB _ _ _ _ HF
      have b1 : hN h + 1 ≤ R.cells + n0 := b1
      have b2 : hM h + n.toNatClampNeg ≤ R.slots + m0 := b2
      have hn0 : ¬ n < 0 := fun q => hn (Or.inl q)
      have hn1 : n.toNatClampNeg < 100000 := Nat.not_le.mp fun q => hn (Or.inr q)
      have hsz := hRl.2.1
      have h3 := hRl.1
      have had : mm_ad z (hN h) = H.size := by
        unfold mm_ad
        rw [if_neg (by omega), if_neg (by omega)]
        omega
      refine va_newaK (atype := .boolean) hx hb (hts _ mm_acZ) rfl hd rfl hn0 rfl (by show n.toNatClampNeg * 1 ≤ 536870912; omega) (by omega) (by omega) rfl fun H1 cA e1 z1 o1 hAr hNm => ?_
      have hcA : cA = z.2.2.1 14 := Option.some.inj (hNm.symm.trans (hFN.2.1.2 2 _ rfl).2)
      subst hcA
      have hcell : mm_cell z (hA h 14 n.toNatClampNeg) (hN h) H1 := by
        refine Or.inr ?_
        have hk : hK (hA h 14 n.toNatClampNeg) (hN h) = (14, n.toNatClampNeg) := if_pos rfl
        rw [hk]
        refine ⟨(by decide : 12 ≤ 14), ?_⟩
        rw [had, e1]
        congr 2
        funext j
        have hI0 : hI (hA h 14 n.toNatClampNeg) (hN h) j = 0 := if_pos rfl
        have hL0 : hL (hA h 14 n.toNatClampNeg) (hN h) j = 0 := if_pos rfl
        have hR0 : hR (hA h 14 n.toNatClampNeg) (hN h) j = 0 := if_pos rfl
        unfold mm_v
        rw [hI0, hL0, hR0]
        rfl
      have hRl1 : mm_Rel z (hA h 14 n.toNatClampNeg) H1 := hRl.alloc (by decide) z1 o1 hcell
      have kk := K _ _ _ _ _ H1 locs ls (cells + 1) (slots + n.toNatClampNeg) HF hp hRl1 hl hlo (show cells + 1 + n0 = hN h + 1 by omega) (show slots + n.toNatClampNeg + m0 = hM h + n.toNatClampNeg by omega)
      have e2 : (Value.ref (hN h) :: r).map (mm_tr z) = Value.ref H.size :: r.map (mm_tr z) := by rw [← had]; rfl
      rw [e2] at kk
      exact kk
    · exact HO.elim
  · cases c2
theorem mm_p_anewarray {i : Nat} (hF : mm_Fr p R s m args meth c z mi d) (hl : lv_has ls (mm_ml mi) (mm_pr z 0 L)) (hRl : mm_Rel z h H) (hlo : ∀ q ∈ locs, z.1.2.2.1 ≤ q.base) (hce : cells + n0 = hN h) (hsl : slots + m0 = hM h) (ck : mm_ck mi ip (.anewarray i) pc x v aux = true) (HO : mm_oW (mm_s1 (.anewarray i) x v ip L st h) F G ip L h Qr) (K : mm_KN p l e R s m args below meth c Q z mi n0 m0 F) (HB : ∀ (i : Nat) (L : mm_Lv) (st : List Value) (h : mm_H), F i L st h → hN h ≤ R.cells + n0 ∧ hM h ≤ R.slots + m0) : W p l e R s m args below meth c H locs cells slots Q (F0 m pc ls (st.map (mm_tr z))) := by
  obtain ⟨hx, hb, hml, hown, hts, hFN, hini, hfr, hlc, h40⟩ := id hF
  simp only [mm_ck, Bool.and_eq_true] at ck
  obtain ⟨c1, c2⟩ := ck
  obtain ⟨hd, hp⟩ := mm_d_dec c1
  replace HO : mm_oW (mm_na 15 ip L st h) F G ip L h Qr := HO
  unfold mm_na at HO
  split at HO
  · rename_i n r
    obtain ⟨hn, HF⟩ := HO
    have HF : F (ip + 1) L (.ref (hN h) :: r) (hA h 15 n.toNatClampNeg) := HF
    obtain ⟨b1, b2⟩ := HB _ _ _ _ HF
    have b1 : hN h + 1 ≤ R.cells + n0 := b1
    have b2 : hM h + n.toNatClampNeg ≤ R.slots + m0 := b2
    have hn0 : ¬ n < 0 := fun q => hn (Or.inl q)
    have hn1 : n.toNatClampNeg < 100000 := Nat.not_le.mp fun q => hn (Or.inr q)
    have hsz := hRl.2.1
    have h3 := hRl.1
    have had : mm_ad z (hN h) = H.size := by
      unfold mm_ad
      rw [if_neg (by omega), if_neg (by omega)]
      omega
    refine W.anew hx hb hown (hts _ (mm_tA_in c2)) (va_AO.use hFN.2.2.1) rfl hd rfl hn0 (by omega) (by omega) (by omega) fun cA kA comp f1 f2 f3 f4 => ?_
    generalize hH1 : H.push ({ cls := cA, slots := Array.replicate n.toNatClampNeg .null, vm := .none } : Cell) = H1
    have z1 : H1.size = H.size + 1 := by rw [← hH1, Array.size_push]
    have e1 : H1[H.size]? = some (arrV cA n.toNatClampNeg (fun _ => .null)) := by rw [← hH1, Array.getElem?_push_size, ← arrV_new]
    have o1 : ∀ q : Nat, q < H.size → H1[q]? = H[q]? := fun q hq => by rw [← hH1, Array.getElem?_push, if_neg (Nat.ne_of_lt hq)]
    obtain ⟨_, _, _, _, _, f5⟩ := (hFN.2.1.2 3 _ rfl).2
    have hcA : cA = z.2.2.1 15 := Option.some.inj (f1.symm.trans f5)
    subst hcA
    have hcell : mm_cell z (hA h 15 n.toNatClampNeg) (hN h) H1 := by
      refine Or.inr ?_
      have hk : hK (hA h 15 n.toNatClampNeg) (hN h) = (15, n.toNatClampNeg) := if_pos rfl
      rw [hk]
      refine ⟨(by decide : 12 ≤ 15), ?_⟩
      rw [had, e1]
      congr 2
      funext j
      have hI0 : hI (hA h 15 n.toNatClampNeg) (hN h) j = 0 := if_pos rfl
      have hL0 : hL (hA h 15 n.toNatClampNeg) (hN h) j = 0 := if_pos rfl
      have hR0 : hR (hA h 15 n.toNatClampNeg) (hN h) j = 0 := if_pos rfl
      unfold mm_v
      rw [hI0, hL0, hR0]
      rfl
    have hRl1 : mm_Rel z (hA h 15 n.toNatClampNeg) H1 := hRl.alloc (by decide) z1 o1 hcell
    have kk := K _ _ _ _ _ H1 locs ls (cells + 1) (slots + n.toNatClampNeg) HF hp hRl1 hl hlo (show cells + 1 + n0 = hN h + 1 by omega) (show slots + n.toNatClampNeg + m0 = hM h + n.toNatClampNeg by omega)
    have e2 : (Value.ref (hN h) :: r).map (mm_tr z) = Value.ref H.size :: r.map (mm_tr z) := by rw [← had]; rfl
    rw [e2] at kk
    exact kk
  · exact HO.elim
end STEP2
