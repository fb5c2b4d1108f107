/-! what the small machine comes to, the machine comes to -/
/-- cells grow only -/
def mm_oG (o : mm_Out) (h : mm_H) : Prop := match o with
  | none => True
  | some (.inl (_, _, _, _, h')) => hN h ≤ hN h' ∧ hM h ≤ hM h'
  | some (.inr (.inl (_, _, _, _, _, h'))) => hN h ≤ hN h' ∧ hM h ≤ hM h'
  | some (.inr (.inr (.inl (_, _, _, _, _, h')))) => hN h ≤ hN h' ∧ hM h ≤ hM h'
  | some (.inr (.inr (.inr _))) => True
theorem mm_oG_r (h : mm_H) : hN h ≤ hN h ∧ hM h ≤ hM h := ⟨Nat.le_refl _, Nat.le_refl _⟩
theorem mm_oG_a (h : mm_H) (k n : Nat) : hN h ≤ hN (hA h k n) ∧ hM h ≤ hM (hA h k n) := ⟨Nat.le_add_right _ _, Nat.le_add_right _ _⟩
set_option maxHeartbeats 4000000 in
theorem mm_s1_grow (ins : Instr) (x : List Nat) (v : Value) (ip : Nat) (L : mm_Lv) (st : List Value) (h : mm_H) : mm_oG (mm_s1 ins x v ip L st h) h := by
  unfold mm_s1
  split <;> (try unfold mm_ldI) <;> (try unfold mm_ldL) <;> (try unfold mm_ldA) <;> (try unfold mm_ldF) <;> (try unfold mm_ldD) <;> (try unfold mm_stI) <;> (try unfold mm_stL) <;> (try unfold mm_stA) <;> (try unfold mm_stF) <;> (try unfold mm_stD) <;> (try unfold mm_inc) <;> (try unfold mm_bI) <;> (try unfold mm_bL) <;> (try unfold mm_dL) <;> (try unfold mm_dI) <;> (try unfold mm_sL) <;> (try unfold mm_uI) <;> (try unfold mm_uL) <;> (try unfold mm_uD) <;> (try unfold mm_bD) <;> (try unfold mm_dup) <;> (try unfold mm_dup2) <;> (try unfold mm_pop) <;> (try unfold mm_nn) <;> (try unfold mm_swi) <;> (try unfold mm_get) <;> (try unfold mm_set) <;> (try unfold mm_la) <;> (try unfold mm_aa) <;> (try unfold mm_is) <;> (try unfold mm_bs) <;> (try unfold mm_ls) <;> (try unfold mm_as) <;> (try unfold mm_new) <;> (try unfold mm_na) <;> (try unfold mm_ret) <;> (try unfold mm_cal) <;> (try unfold mm_cn) <;>
  (repeat' first
    | exact mm_oG_r h
    | exact mm_oG_a h _ _
    | exact trivial
    | split
    | unfold mm_if | unfold mm_ic | unfold mm_lc | unfold mm_xa | unfold mm_ia | unfold mm_xl | unfold mm_len | unfold mm_j4 | unfold mm_j5 | unfold mm_j6 | unfold mm_j7)
theorem mm_swW_any {F : Nat → Prop} {x : Int32} {C : Prop} (f : ∀ t, F t → C) : ∀ (cs : List (Int32 × Nat)) (d : Nat), mm_swW F x cs d → C
  | [], _, h => f _ h
  | (a, _) :: r, d, h => by
    by_cases q : x = a
    · exact f _ (h.1 q)
    · exact mm_swW_any f r d (h.2 q)
theorem mm_grow : ∀ (n d mi ip : Nat) (L : mm_Lv) (st : List Value) (h : mm_H) (r : Option Value) (h1 : mm_H), mm_wp n d mi ip L st h (fun r' h' => r' = r ∧ h' = h1) → hN h ≤ hN h1 ∧ hM h ≤ hM h1 := by
  intro n
  induction n with
  | zero => intro d mi ip L st h r h1 H; exact H.elim
  | succ n ih =>
    intro d mi ip L st h r h1 H
    rw [mm_wp_s] at H
    unfold mm_sW at H
    cases hc : mm_at mi ip with
    | none => rw [hc] at H; exact H.elim
    | some q =>
      rw [hc] at H
      obtain ⟨ins, pc, x, v⟩ := q
      have hg := mm_s1_grow ins x v ip L st h
      change mm_oW (mm_s1 ins x v ip L st h) _ _ ip L h _ at H
      generalize mm_s1 ins x v ip L st h = o at H hg
      have tr : ∀ {h' : mm_H}, (hN h ≤ hN h' ∧ hM h ≤ hM h') → (hN h' ≤ hN h1 ∧ hM h' ≤ hM h1) → hN h ≤ hN h1 ∧ hM h ≤ hM h1 := fun a b => ⟨Nat.le_trans a.1 b.1, Nat.le_trans a.2 b.2⟩
      match o, H, hg with
      | some (.inl (none, i, L', s', h')), H, hg => exact tr hg (ih _ _ _ _ _ _ _ _ H)
      | some (.inl (some g, i, L', s', h')), H, hg => exact tr hg (ih _ _ _ _ _ _ _ _ H.2)
      | some (.inr (.inl (c, t, f, L', s', h'))), H, hg =>
        by_cases hcc : c
        · exact tr hg (ih _ _ _ _ _ _ _ _ (H.1 hcc))
        · exact tr hg (ih _ _ _ _ _ _ _ _ (H.2 hcc))
      | some (.inr (.inr (.inl (cs, dd, x, L', s', h')))), H, hg => exact tr hg (mm_swW_any (fun t z => ih _ _ _ _ _ _ _ _ z) cs dd H)
      | some (.inr (.inr (.inr (.inl (g, m, as, rest))))), H, hg =>
        have key : mm_cG (mm_wp n) d m as h (fun r0 h0 => mm_wp n d mi (ip + 1) L (match r0 with | none => rest | some v => v :: rest) h0 (fun r' h' => r' = r ∧ h' = h1)) → hN h ≤ hN h1 ∧ hM h ≤ hM h1 := by
          intro HP
          match d, HP with
          | d + 1, HP =>
            obtain ⟨r0, h0, p1, p2⟩ := mm_wp_det _ _ _ _ _ _ _ _ HP
            exact tr (ih _ _ _ _ _ _ _ _ p2) (ih _ _ _ _ _ _ _ _ p1)
        cases g with
        | none => exact key H
        | some g => exact key H.2
      | some (.inr (.inr (.inr (.inr (none, v))))), H, hg => exact ⟨by rw [← H.2]; exact Nat.le_refl _, by rw [← H.2]; exact Nat.le_refl _⟩
      | some (.inr (.inr (.inr (.inr (some g, v))))), H, hg => exact ⟨by rw [← H.2.2]; exact Nat.le_refl _, by rw [← H.2.2]; exact Nat.le_refl _⟩
/-- what is checked of all methods -/
def mm_OK (l : Launch) (z : mm_Z) : Prop := (∀ mi, mi < 293 → Jvm.Cond.code (mm_yn mi) (mm_yb mi) (mm_ml mi) (mm_yr mi) ∈ mm_gT) ∧ (∀ mi, mi < 293 → ∀ ip q, mm_at mi ip = some q → ∃ a, mm_ck mi ip q.1 q.2.1 q.2.2.1 q.2.2.2 a = true) ∧ (∀ mi, mi < 293 → mm_po mi 0 0 = true ∧ mm_ml mi ≤ 40 ∧ plainName (mm_yn mi).cls = true) ∧ mm_CH l z
def mm_rm (d : Nat) (h h1 : mm_H) : Room := { frames := d + 10, cells := hN h1 - hN h, slots := hM h1 - hM h, locals := 64 * (d + 10) }
def mm_PM (l : Launch) (z : mm_Z) (n : Nat) : Prop := ∀ (d mi : Nat) (as : List Value) (h : mm_H) (r : Option Value) (h1 : mm_H), mi < 293 → mm_cs as ≤ mm_ml mi → mm_wp n d mi 0 (mm_pad (mm_en as) (mm_ml mi)) [] h (fun r' h' => r' = r ∧ h' = h1) →
  Met l (mm_yn mi) (.code (mm_yn mi) (mm_yb mi) (mm_ml mi) (mm_yr mi) :: mm_gT) (mm_rm d h h1) (mm_Pc z as h) (mm_Qc z r h1) (hN h1 - hN h) (hM h1 - hM h) (fun q => z.1.2.2.1 ≤ q)
/-- a callee's contract, of what is known of shorter runs -/
theorem mm_callee {l : Launch} {z : mm_Z} (hOK : mm_OK l z) {n d n0 m0 : Nat} {R : Room} (hPM : mm_PM l z n) {h : mm_H} {k : Nat} {as : List Value} {P : mm_Q} (hcs : mm_cs as ≤ mm_ml k) (H : mm_cG (mm_wp n) d k as h P) (hk : k < 293) (HB : ∀ r h1, P r h1 → hN h1 ≤ R.cells + n0 ∧ hM h1 ≤ R.slots + m0) : mm_CO l R z d n0 m0 h k as P := by
  unfold mm_cG at H
  match d, H with
  | d + 1, H =>
    obtain ⟨r, h1, p1, p2⟩ := mm_wp_det _ _ _ _ _ _ _ _ H
    obtain ⟨g1, g2⟩ := mm_grow _ _ _ _ _ _ _ _ _ p2
    obtain ⟨b1, b2⟩ := HB r h1 p1
    exact ⟨r, h1, p1, g1, g2, b1, b2, (hOK.2.2.1 k hk).2.1, fun _ => hOK.1 k hk, hPM d k as h r h1 hk hcs p2⟩
/-- a frame's walk, n steps at most -/
def mm_PW (l : Launch) (z : mm_Z) (n : Nat) : Prop := ∀ (p : Program) (e : Env) (R : Room) (s : State) (m : MethodId) (args : Array Value) (below : List Frame) (meth : Method) (c : Code) (Q : State → Prop) (mi d n0 m0 ip pc : Nat) (L : mm_Lv) (st : List Value) (h : mm_H) (H : Heap) (locs : List Loc) (ls : Array Slot) (cells slots : Nat) (r : Option Value) (h1 : mm_H),
  (∀ ip q, mm_at mi ip = some q → ∃ a, mm_ck mi ip q.1 q.2.1 q.2.2.1 q.2.2.2 a = true) → mm_wp n d mi ip L st h (fun r' h' => r' = r ∧ h' = h1) → mm_po mi ip pc = true → mm_Fr p R s m args meth c z mi d → lv_has ls (mm_ml mi) (mm_pr z 0 L) → mm_Rel z h H → (∀ q ∈ locs, z.1.2.2.1 ≤ q.base) → cells + n0 = hN h → slots + m0 = hM h → hN h1 ≤ R.cells + n0 → hM h1 ≤ R.slots + m0 →
  (∀ (pc : Nat) (ls : Array Slot) (H : Heap) (locs : List Loc) (cells slots : Nat), mm_ro mi pc r → mm_Rel z h1 H → (∀ q ∈ locs, z.1.2.2.1 ≤ q.base) → cells + n0 = hN h1 → slots + m0 = hM h1 → W p l e R s m args below meth c H locs cells slots Q (F0 m pc ls (mm_rs (r.map (mm_tr z)) []))) →
  W p l e R s m args below meth c H locs cells slots Q (F0 m pc ls (st.map (mm_tr z)))
theorem mm_walk_s {l : Launch} {z : mm_Z} (hOK : mm_OK l z) {n : Nat} (hPM : mm_PM l z n) (hPW : mm_PW l z n) : mm_PW l z (n + 1) := by
  intro p e R s m args below meth c Q mi d n0 m0 ip pc L st h H locs ls cells slots r h1 hmi HW hp hF hl hRl hlo hce hsl hB1 hB2 HR
  rw [mm_wp_s] at HW
  unfold mm_sW at HW
  cases hc : mm_at mi ip with
  | none => rw [hc] at HW; exact HW.elim
  | some q =>
    rw [hc] at HW
    obtain ⟨aux, ck⟩ := hmi ip q hc
    obtain ⟨ins, pc', x, v⟩ := q
    have hpc : pc' = pc := by
      unfold mm_po at hp
      rw [hc] at hp
      exact Nat.eq_of_beq_eq_true hp
    subst hpc
    have HO : mm_oW (mm_s1 ins x v ip L st h) (fun i L' s' h' => mm_wp n d mi i L' s' h' (fun r' h' => r' = r ∧ h' = h1)) (fun m as P => mm_cG (mm_wp n) d m as h P) ip L h (fun r' h' => r' = r ∧ h' = h1) := HW
    have HBn : ∀ (i : Nat) (L : mm_Lv) (st : List Value) (h : mm_H), mm_wp n d mi i L st h (fun r' h' => r' = r ∧ h' = h1) → hN h ≤ R.cells + n0 ∧ hM h ≤ R.slots + m0 := fun i L st h Hw => by
      obtain ⟨g1, g2⟩ := mm_grow _ _ _ _ _ _ _ _ _ Hw
      exact ⟨Nat.le_trans g1 hB1, Nat.le_trans g2 hB2⟩
    have K : mm_KN p l e R s m args below meth c Q z mi n0 m0 (fun i L' s' h' => mm_wp n d mi i L' s' h' (fun r' h' => r' = r ∧ h' = h1)) := by
      intro ip pc L st h H locs ls cells slots HF hp hRl hl hlo hce hsl
      exact hPW p e R s m args below meth c Q mi d n0 m0 ip pc L st h H locs ls cells slots r h1 hmi HF hp hF hl hRl hlo hce hsl hB1 hB2 HR
    refine mm_any (Qr := fun r' h' => r' = r ∧ h' = h1) hF hl hRl hlo hce hsl ck HO K (fun k as P hk hcs HG hB => mm_callee hOK hPM hcs HG hk hB) hOK.2.2.2 HBn (fun r' hr hro => ?_)
    obtain ⟨rfl, rfl⟩ := hr
    exact HR _ _ _ _ _ _ hro hRl hlo hce hsl
theorem mm_met_s {l : Launch} {z : mm_Z} (hOK : mm_OK l z) {n : Nat} (hPW : mm_PW l z n) : mm_PM l z n := by
  intro d mi as h r h1 hmi hcs HW
  refine Met.ofW (cc := mm_yb mi) (maxL := mm_ml mi) (ret := mm_yr mi) (hOK.2.2.1 mi hmi).2.2 rfl ?_
  intro p e s m args below meth c s₁ B hml hv
  obtain ⟨rfl, hRl, hFN⟩ := hv
  have hts0 := atoms_spec (ws := .code (mm_yn mi) (mm_yb mi) (mm_ml mi) (mm_yr mi) :: mm_gT) B.pre
  have hF : mm_Fr p (mm_rm d h h1) s m (as.map (mm_tr z)).toArray meth c z mi d := ⟨B.exec, B.bytes, hml, findClass_of_methodNamed B.named, fun w hw => hts0 w (List.mem_cons_of_mem _ hw), hFN, fun q => ((name_of_methodNamed B.named B.method).1).trans q, Nat.le_refl _, Nat.le_refl _, (hOK.2.2.1 mi hmi).2.1⟩
  obtain ⟨g1, g2⟩ := mm_grow _ _ _ _ _ _ _ _ _ HW
  have hl := lv_entry (as.map (mm_tr z)) (n := mm_ml mi) (by rw [mm_slL]; exact hcs)
  rw [lg_entry_eq]
  generalize (lg_sl (as.map (mm_tr z)) ++ List.replicate (mm_ml mi - (lg_sl (as.map (mm_tr z))).length) Slot.unset).toArray = ls at hl ⊢
  refine hPW p e (mm_rm d h h1) s m _ below meth c _ mi d (hN h) (hM h) 0 0 _ [] h s.heap [] ls 0 0 r h1 (hOK.2.1 mi hmi) HW (hOK.2.2.1 mi hmi).1 hF (mm_has_entry hl) hRl (fun q hq => by cases hq) (Nat.zero_add _) (Nat.zero_add _) (by show hN h1 ≤ hN h1 - hN h + hN h; omega) (by show hM h1 ≤ hM h1 - hM h + hM h; omega) ?_
  intro pc ls H locs cells slots hro hR1 hlo hce hsl
  have e1 : cells = hN h1 - hN h := by omega
  have e2 : slots = hM h1 - hM h := by omega
  subst e1
  subst e2
  unfold mm_ro at hro
  split at hro
  · obtain ⟨hd, hy⟩ := hro
    exact W.vret B.exec B.bytes (B.returns.trans hy) (fun t hH hW => ⟨rfl, by rw [hH]; exact hR1⟩) hlo hd B.notSynchronized
  · rename_i w
    obtain ⟨hd, hy | ⟨hy, hw⟩⟩ := hro
    · exact W.iret B.exec B.bytes (B.returns.trans hy) (fun t hH hW => ⟨rfl, by rw [hH]; exact hR1⟩) hlo hd B.notSynchronized
    · exact W.zret (ty := .boolean) B.exec B.bytes (B.returns.trans hy) (by rcases hw with rfl | rfl <;> rfl) (fun t hH hW => ⟨rfl, by rw [hH]; exact hR1⟩) hlo hd B.notSynchronized
  · obtain ⟨hd, hy⟩ := hro
    exact W.lret B.exec B.bytes (B.returns.trans hy) (fun t hH hW => ⟨rfl, by rw [hH]; exact hR1⟩) hlo hd B.notSynchronized
  · rename_i w
    obtain ⟨hd, hy⟩ := hro
    rcases hy with ⟨n, hy⟩ | ⟨n, hy⟩
    · exact W.aret (rt := .object n) B.exec B.bytes (B.returns.trans hy) (Or.inl ⟨n, rfl⟩) (Or.inr ⟨_, rfl⟩) (fun t hH hW => ⟨rfl, by rw [hH]; exact hR1⟩) hlo hd B.notSynchronized
    · exact W.aret (rt := .array n) B.exec B.bytes (B.returns.trans hy) (Or.inr ⟨n, rfl⟩) (Or.inr ⟨_, rfl⟩) (fun t hH hW => ⟨rfl, by rw [hH]; exact hR1⟩) hlo hd B.notSynchronized
  · exact hro.elim
theorem mm_all {l : Launch} {z : mm_Z} (hOK : mm_OK l z) : ∀ n, mm_PM l z n ∧ mm_PW l z n := by
  intro n
  induction n with
  | zero =>
    have h : mm_PW l z 0 := by
      intro p e R s m args below meth c Q mi d n0 m0 ip pc L st h H locs ls cells slots r h1 hmi HW
      exact HW.elim
    exact ⟨mm_met_s hOK h, h⟩
  | succ n ih =>
    have h := mm_walk_s hOK ih.1 ih.2
    exact ⟨mm_met_s hOK h, h⟩
