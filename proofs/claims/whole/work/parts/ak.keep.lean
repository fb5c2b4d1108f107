/-! the script is never written
-/
def kz (h h' : mm_H) : Prop := (hK h 1).1 = 20 → 1 < hN h → (∀ j, hI h' 1 j = hI h 1 j) ∧ hK h' 1 = hK h 1 ∧ 1 < hN h'
theorem kz.rf (h : mm_H) : kz h h := fun a b => ⟨fun _ => rfl, rfl, b⟩
theorem kz.tr {h h' h'' : mm_H} (a : kz h h') (b : kz h' h'') : kz h h'' := fun k n => by
  obtain ⟨a1, a2, a3⟩ := a k n
  obtain ⟨b1, b2, b3⟩ := b (by rw [a2]; exact k) a3
  exact ⟨fun j => (b1 j).trans (a1 j), b2.trans a2, b3⟩
theorem kz_A (h : mm_H) (k n : Nat) : kz h (hA h k n) := fun _ b => by
  refine ⟨fun j => ?_, ?_, ?_⟩
  · show (if 1 = h.1 then (0 : Int32) else h.2.2.2.1 1 j) = h.2.2.2.1 1 j
    rw [if_neg (by unfold hN at b; omega)]
  · show (if 1 = h.1 then (k, n) else h.2.2.1 1) = h.2.2.1 1
    rw [if_neg (by unfold hN at b; omega)]
  · show 1 < h.1 + 1
    unfold hN at b; omega
theorem kz_I {h : mm_H} {a k : Nat} {v : Int32} (ha : (hK h a).1 ≠ 20) : kz h (sI h a k v) := fun c b => by
  refine ⟨fun j => ?_, rfl, b⟩
  show (if 1 = a ∧ j = k then v else h.2.2.2.1 1 j) = h.2.2.2.1 1 j
  rw [if_neg (fun q => ha (by rw [← q.1]; exact c))]
theorem kz_L (h : mm_H) (a k : Nat) (v : Int64) : kz h (sL h a k v) := fun _ b => ⟨fun _ => rfl, rfl, b⟩
theorem kz_R (h : mm_H) (a k v : Nat) : kz h (sR h a k v) := fun _ b => ⟨fun _ => rfl, rfl, b⟩
def mm_oKp (o : mm_Out) (h : mm_H) : Prop := match o with
  | none => True
  | some (.inl (none, _, _, _, h')) => kz h h'
  | some (.inl (some g, _, _, _, h')) => g → kz h h'
  | some (.inr (.inl (_, _, _, _, _, h'))) => kz h h'
  | some (.inr (.inr (.inl (_, _, _, _, _, h')))) => kz h h'
  | some (.inr (.inr (.inr _))) => True
def mm_no20 : List Nat → Bool
  | [] => true
  | k :: r => !Nat.beq k 20 && mm_no20 r
def mm_x20 (ins : Instr) (x : List Nat) : Bool := match ins with
  | .putfield _ => match x with
    | _ :: _ :: _ :: ks => mm_no20 ks
    | _ => true
  | _ => true
theorem kd_no20 {k : Nat} : ∀ ks : List Nat, mm_no20 ks = true → mm_kd k ks → k ≠ 20
  | [], _, h => h.elim
  | [c], hn, h => by
    simp only [mm_no20, Bool.and_true, Bool.not_eq_true'] at hn
    intro e
    have : k = c := h
    rw [← this, e] at hn
    exact absurd hn (by decide)
  | c :: c' :: r, hn, h => by
    have hn' : (!Nat.beq c 20 && mm_no20 (c' :: r)) = true := hn
    rw [Bool.and_eq_true] at hn'
    have h' : k = c ∨ mm_kd k (c' :: r) := h
    rcases h' with h' | h'
    · intro e
      rw [← h', e] at hn'
      exact absurd hn'.1 (by decide)
    · exact kd_no20 (c' :: r) hn'.2 h'
theorem mm_set_keep (x : List Nat) (ip : Nat) (L : mm_Lv) (st : List Value) (h : mm_H) (hx : ∀ a b c ks, x = a :: b :: c :: ks → mm_no20 ks = true) : mm_oKp (mm_set x ip L st h) h := by
  unfold mm_set
  split
  · rename_i k ty c ks v a r
    have := hx _ _ _ _ rfl
    split
    · exact fun g => kz_L h _ _ _
    · exact trivial
  · rename_i k ty c ks v a r
    split
    · exact fun g => kz_R h _ _ _
    · exact trivial
  · rename_i k ty c ks v a r
    have := hx _ _ _ _ rfl
    split
    · exact fun g => kz_I (kd_no20 _ this g)
    · exact fun g => kz_I (kd_no20 _ this g.1)
    · exact trivial
  · exact trivial
set_option maxHeartbeats 4000000 in
theorem mm_s1_keep (ins : Instr) (x : List Nat) (v : Value) (ip : Nat) (L : mm_Lv) (st : List Value) (h : mm_H) (hx : mm_x20 ins x = true) : mm_oKp (mm_s1 ins x v ip L st h) h := by
  unfold mm_s1
  split <;> (try unfold mm_ldI) <;> (try unfold mm_ldL) <;> (try unfold mm_ldA) <;> (try unfold mm_ldF) <;> (try unfold mm_ldD) <;> (try unfold mm_stI) <;> (try unfold mm_stL) <;> (try unfold mm_stA) <;> (try unfold mm_stF) <;> (try unfold mm_stD) <;> (try unfold mm_inc) <;> (try unfold mm_bI) <;> (try unfold mm_bL) <;> (try unfold mm_dL) <;> (try unfold mm_dI) <;> (try unfold mm_sL) <;> (try unfold mm_uI) <;> (try unfold mm_uL) <;> (try unfold mm_uD) <;> (try unfold mm_bD) <;> (try unfold mm_dup) <;> (try unfold mm_dup2) <;> (try unfold mm_pop) <;> (try unfold mm_nn) <;> (try unfold mm_swi) <;> (try unfold mm_get) <;> (try unfold mm_la) <;> (try unfold mm_aa) <;> (try unfold mm_is) <;> (try unfold mm_bs) <;> (try unfold mm_ls) <;> (try unfold mm_as) <;> (try unfold mm_new) <;> (try unfold mm_na) <;> (try unfold mm_ret) <;> (try unfold mm_cal) <;> (try unfold mm_cn) <;>
  (repeat' first
    | exact kz.rf h
    | exact kz_A h _ _
    | exact fun _ => kz.rf h
    | exact fun _ => kz_A h _ _
    | exact fun _ => kz_L h _ _ _
    | exact fun _ => kz_R h _ _ _
    | exact fun g => kz_I (by rw [g.1]; decide)
    | exact fun g => kz_I (by rw [g.1.1]; decide)
    | exact trivial
    | exact mm_set_keep x ip L st h (fun a b c ks e => by rw [e] at hx; exact hx)
    | split
    | unfold mm_if | unfold mm_ic | unfold mm_lc | unfold mm_xa | unfold mm_ia | unfold mm_xl | unfold mm_len | unfold mm_j4 | unfold mm_j5 | unfold mm_j6 | unfold mm_j7)
def mm_allx : Bool := mm_K.all (fun q => q.2.all (fun i => mm_x20 i.1 i.2.2.1))
theorem mm_allx_ok : mm_allx = true := by decide +kernel
theorem mm_lg_mem {α : Type} : ∀ (l : List α) (j : Nat) (q : α), mm_lg l j = some q → q ∈ l
  | [], _, _, h => by cases h
  | v :: r, 0, q, h => by
    have : v = q := Option.some.inj h
    rw [this]; exact List.mem_cons_self
  | v :: r, j + 1, q, h => List.mem_cons_of_mem _ (mm_lg_mem r j q h)
theorem mm_at_x {mi ip : Nat} {q : mm_Ins} (h : mm_at mi ip = some q) : mm_x20 q.1 q.2.2.1 = true := by
  unfold mm_at at h
  cases hk : mm_lg mm_K mi with
  | none => rw [hk] at h; cases h
  | some p =>
    rw [hk] at h
    have h1 := mm_lg_mem _ _ _ hk
    have h2 : q ∈ p.2 := mm_lg_mem _ _ _ h
    have h3 := List.all_eq_true.mp mm_allx_ok p h1
    exact List.all_eq_true.mp h3 q h2
theorem mm_keep : ∀ (n d mi ip : Nat) (L : mm_Lv) (st : List Value) (h : mm_H) (r : Option Value) (h1 : mm_H), mm_wp n d mi ip L st h (fun r' h' => r' = r ∧ h' = h1) → kz h h1 := by
  intro n
  induction n with
  | zero => intro d mi ip L st h r h1 H; exact H.elim
  | succ n ih =>
    intro d mi ip L st h r h1 H
    rw [mm_wp_s] at H
    unfold mm_sW at H
    cases hc : mm_at mi ip with
    | none => rw [hc] at H; exact H.elim
    | some q =>
      rw [hc] at H
      have hxx := mm_at_x hc
      obtain ⟨ins, pc, x, v⟩ := q
      have hg := mm_s1_keep ins x v ip L st h hxx
      change mm_oW (mm_s1 ins x v ip L st h) _ _ ip L h _ at H
      generalize mm_s1 ins x v ip L st h = o at H hg
      match o, H, hg with
      | some (.inl (none, i, L', s', h')), H, hg => exact kz.tr hg (ih _ _ _ _ _ _ _ _ H)
      | some (.inl (some g, i, L', s', h')), H, hg => exact kz.tr (hg H.1) (ih _ _ _ _ _ _ _ _ H.2)
      | some (.inr (.inl (c, t, f, L', s', h'))), H, hg =>
        by_cases hcc : c
        · exact kz.tr hg (ih _ _ _ _ _ _ _ _ (H.1 hcc))
        · exact kz.tr hg (ih _ _ _ _ _ _ _ _ (H.2 hcc))
      | some (.inr (.inr (.inl (cs, dd, x, L', s', h')))), H, hg => exact kz.tr hg (mm_swW_any (fun t z => ih _ _ _ _ _ _ _ _ z) cs dd H)
      | some (.inr (.inr (.inr (.inl (g, m, as, rest))))), H, hg =>
        have key : mm_cG (mm_wp n) d m as h (fun r0 h0 => mm_wp n d mi (ip + 1) L (match r0 with | none => rest | some v => v :: rest) h0 (fun r' h' => r' = r ∧ h' = h1)) → kz h h1 := by
          intro HP
          match d, HP with
          | d + 1, HP =>
            obtain ⟨r0, h0, p1, p2⟩ := mm_wp_det _ _ _ _ _ _ _ _ HP
            exact kz.tr (ih _ _ _ _ _ _ _ _ p2) (ih _ _ _ _ _ _ _ _ p1)
        cases g with
        | none => exact key H
        | some g => exact key H.2
      | some (.inr (.inr (.inr (.inr (none, v))))), H, hg => rw [← H.2]; exact kz.rf h
      | some (.inr (.inr (.inr (.inr (some g, v))))), H, hg => rw [← H.2.2]; exact kz.rf h
theorem mm_C_keep {d mi : Nat} {as : List Value} {h : mm_H} {Q : mm_Q} (H : mm_C d mi as h Q) : mm_C d mi as h (fun r h1 => Q r h1 ∧ kz h h1) := by
  obtain ⟨n, hn⟩ := H
  obtain ⟨r, h1, q1, q2⟩ := mm_wp_det _ _ _ _ _ _ _ _ hn
  have hk := mm_keep _ _ _ _ _ _ _ _ _ q2
  exact ⟨n, mm_wp_mono _ _ _ _ _ _ _ _ _ (fun a b hab => by rw [hab.1, hab.2]; exact ⟨q1, hk⟩) q2 _ _ (Nat.le_refl _) (Nat.le_refl _)⟩
section KPS
variable {d k : Nat} {as : List Value} {w : Nat × Nat × Nat} {m : zM}
theorem zE_kp {w' : Nat × Nat × Nat} {m' : zM} (h : kz (zE w m) (zE w' m')) : (∀ j, m'.1 1 j = m.1 1 j) ∧ w'.1 = w.1 := by
  obtain ⟨h1, h2, _⟩ := h rfl (by show 1 < 303; omega)
  refine ⟨h1, ?_⟩
  have h2' : ((20 : Nat), w'.1) = (20, w.1) := h2
  exact (Prod.mk.inj h2').2
theorem cI_keep {P : Int32 → zM → Prop} (H : cI d k as w m P) : cI d k as w m (fun v m1 => P v m1 ∧ ∀ j, m1.1 1 j = m.1 1 j) := by
  refine mm_C_mono (mm_C_keep H) (Nat.le_refl _) (fun r h1 ⟨⟨v, m1, e1, e2, q⟩, hk⟩ => ⟨v, m1, e1, e2, q, ?_⟩)
  rw [e2] at hk
  exact (zE_kp hk).1
theorem cL_keep {P : Int64 → zM → Prop} (H : cL d k as w m P) : cL d k as w m (fun v m1 => P v m1 ∧ ∀ j, m1.1 1 j = m.1 1 j) := by
  refine mm_C_mono (mm_C_keep H) (Nat.le_refl _) (fun r h1 ⟨⟨v, m1, e1, e2, q⟩, hk⟩ => ⟨v, m1, e1, e2, q, ?_⟩)
  rw [e2] at hk
  exact (zE_kp hk).1
theorem cIw_keep {P : Int32 → Nat × Nat × Nat → zM → Prop} (H : cIw d k as w m P) : cIw d k as w m (fun v w1 m1 => P v w1 m1 ∧ (∀ j, m1.1 1 j = m.1 1 j) ∧ w1.1 = w.1) := by
  refine mm_C_mono (mm_C_keep H) (Nat.le_refl _) (fun r h1 ⟨⟨v, w1, m1, e1, e2, q⟩, hk⟩ => ⟨v, w1, m1, e1, e2, q, ?_⟩)
  rw [e2] at hk
  exact zE_kp hk
end KPS
