/-! the law's loop
-/
theorem law_1 {d ip pc : Nat} {ins : Instr} {x : List Nat} {v : Value} {L : mm_Lv} {st : List Value} {h : mm_H} {Q : mm_Q} (hc : mm_at 293 ip = some (ins, pc, x, v)) (H : mm_oW (mm_s1 ins x v ip L st h) (fun i L' s' h' => mm_W d 293 i L' s' h' Q) (fun k as P => mm_cG mm_W d k as h P) ip L h Q) : mm_W d 293 ip L st h Q := mm_W_step (by unfold mm_sW; rw [hc]; exact H)
def lL (i : Int32) : mm_Lv := [some (.ref 1), some (.ref 3), some (.ref 261), some (.int i)]
def isCell (ip c : Nat) : Bool := match mm_at 293 ip with
  | some (.aload_n _, _, [0], _) => (match mm_at 293 (ip + 1) with
    | some (.iload_n _, _, [3], _) => (match mm_at 293 (ip + 2) with
      | some (.iconst _, _, _, .int n) => decide (n = Int32.ofNat c) && (match mm_at 293 (ip + 3) with
        | some (.iadd, _, _, _) => (match mm_at 293 (ip + 4) with
          | some (.iaload, _, [20], _) => true
          | _ => false)
        | _ => false)
      | _ => false)
    | _ => false)
  | _ => false
def isBool (ip : Nat) : Bool := match mm_at 293 ip with
  | some (.ifCond .eq _, _, [t], _) => Nat.beq t (ip + 3) && (match mm_at 293 (ip + 1) with
    | some (.iconst _, _, _, .int n) => decide (n = 1) && (match mm_at 293 (ip + 2) with
      | some (.goto _, _, [t2], _) => Nat.beq t2 (ip + 4) && (match mm_at 293 (ip + 3) with
        | some (.iconst _, _, _, .int n) => decide (n = 0)
        | _ => false)
      | _ => false)
    | _ => false)
  | _ => false
def isAl (ip k : Nat) : Bool := match mm_at 293 ip with
  | some (.aload_n _, _, [j], _) => Nat.beq j k
  | _ => false
def isCall (ip k n kd : Nat) : Bool := match mm_at 293 ip with
  | some (.invokevirtual _, _, [1, k', n', kd'], _) => Nat.beq k' k && (Nat.beq n' n && (Nat.beq kd' kd && Nat.ble n (mm_ml k)))
  | _ => false
def isCmp (ip : Nat) (lg : Bool) : Bool := match mm_at 293 ip with
  | some (.if_icmp .eq _, _, [t], _) => Nat.beq t 747 && !lg
  | some (.lcmp, _, [0, t], _) => Nat.beq t 747 && lg
  | _ => false
def lval (m : zM) (i : Int32) (q : Nat × Bool) : Int32 := bif q.2 then (if m.1 1 (i + Int32.ofNat q.1).toNatClampNeg = 0 then 0 else 1) else m.1 1 (i + Int32.ofNat q.1).toNatClampNeg
def lvals (m : zM) (i : Int32) (l : List (Nat × Bool)) : List Value := l.map fun q => .int (lval m i q)
def largs : List (Nat × Bool) → Nat → Option Nat
  | [], ip => some ip
  | q :: r, ip => bif isCell ip q.1 then (bif q.2 then (bif isBool (ip + 5) then largs r (ip + 9) else none) else largs r (ip + 5)) else none
section LOOP
variable {d ip : Nat} {i : Int32} {st : List Value} {w : Nat × Nat × Nat} {m : zM} {Q : mm_Q}
theorem law_cell {c : Nat} (h : isCell ip c = true) (hi : vp_in (i + Int32.ofNat c) w.1) (H : mm_W d 293 (ip + 5) (lL i) (.int (m.1 1 (i + Int32.ofNat c).toNatClampNeg) :: st) (zE w m) Q) : mm_W d 293 ip (lL i) st (zE w m) Q := by
  unfold isCell at h
  split at h
  · rename_i h0
    split at h
    · rename_i h1
      split at h
      · rename_i n h2
        rw [Bool.and_eq_true, decide_eq_true_eq] at h
        obtain ⟨rfl, h⟩ := h
        split at h
        · rename_i h3
          split at h
          · rename_i h4
            exact law_1 h0 (law_1 h1 (law_1 h2 (law_1 h3 (law_1 h4 ⟨⟨rfl, hi⟩, H⟩))))
          · cases h
        · cases h
      · cases h
    · cases h
  · cases h
theorem law_bool {v : Int32} (h : isBool ip = true) (H : mm_W d 293 (ip + 4) (lL i) (.int (if v = 0 then 0 else 1) :: st) (zE w m) Q) : mm_W d 293 ip (lL i) (.int v :: st) (zE w m) Q := by
  unfold isBool at h
  split at h
  · rename_i h0
    rw [Bool.and_eq_true] at h
    obtain ⟨e0, h⟩ := h
    have e0 := Nat.eq_of_beq_eq_true e0
    subst e0
    split at h
    · rename_i n h1
      rw [Bool.and_eq_true, decide_eq_true_eq] at h
      obtain ⟨rfl, h⟩ := h
      split at h
      · rename_i t2 _ h2
        rw [Bool.and_eq_true] at h
        obtain ⟨e2, h⟩ := h
        have e2 := Nat.eq_of_beq_eq_true e2
        subst e2
        split at h
        · rename_i n h3
          rw [decide_eq_true_eq] at h
          subst h
          refine law_1 h0 ⟨fun q => ?_, fun q => ?_⟩
          · rw [if_pos q] at H
            exact law_1 h3 H
          · rw [if_neg q] at H
            exact law_1 h1 (law_1 h2 H)
        · cases h
      · cases h
    · cases h
  · cases h
theorem law_args : ∀ (l : List (Nat × Bool)) (ip ip' : Nat) (st : List Value), largs l ip = some ip' → (∀ q ∈ l, vp_in (i + Int32.ofNat q.1) w.1) → mm_W d 293 ip' (lL i) ((lvals m i l).reverse ++ st) (zE w m) Q → mm_W d 293 ip (lL i) st (zE w m) Q
  | [], ip, ip', st, h, _, H => by
    have h : some ip = some ip' := h
    cases h
    exact H
  | q :: r, ip, ip', st, h, hi, H => by
    obtain ⟨c, b⟩ := q
    have e : (lvals m i ((c, b) :: r)).reverse ++ st = (lvals m i r).reverse ++ (.int (lval m i (c, b)) :: st) := by
      show (Value.int (lval m i (c, b)) :: lvals m i r).reverse ++ st = _
      rw [List.reverse_cons, List.append_assoc]; rfl
    rw [e] at H
    have hr : ∀ q ∈ r, vp_in (i + Int32.ofNat q.1) w.1 := fun q hq => hi q (List.mem_cons_of_mem _ hq)
    have h : (bif isCell ip c then (bif b then (bif isBool (ip + 5) then largs r (ip + 9) else none) else largs r (ip + 5)) else none) = some ip' := h
    cases hc : isCell ip c with
    | false => rw [hc] at h; cases h
    | true =>
      rw [hc, cond_true] at h
      have hq : vp_in (i + Int32.ofNat c) w.1 := hi (c, b) List.mem_cons_self
      refine law_cell hc hq ?_
      cases b with
      | false => exact law_args r _ _ _ h hr H
      | true =>
        rw [cond_true] at h
        cases hb : isBool (ip + 5) with
        | false => rw [hb] at h; cases h
        | true =>
          rw [hb, cond_true] at h
          exact law_bool hb (law_args r _ _ _ h hr H)
theorem tk_app : ∀ xs rest : List Value, mm_tk xs.length (xs ++ rest) = xs
  | [], rest => by cases rest <;> rfl
  | v :: r, rest => congrArg (v :: ·) (tk_app r rest)
theorem dr_app : ∀ xs rest : List Value, mm_dr xs.length (xs ++ rest) = rest
  | [], rest => by cases rest <;> rfl
  | v :: r, rest => dr_app r rest
theorem rv_eq : ∀ xs acc : List Value, mm_rv xs acc = xs.reverse ++ acc
  | [], acc => rfl
  | v :: r, acc => by
    show mm_rv r (v :: acc) = _
    rw [rv_eq r, List.reverse_cons, List.append_assoc]; rfl
theorem cs_one : ∀ xs : List Value, (∀ v ∈ xs, mm_ca v = 1) → mm_cs xs = xs.length
  | [], _ => rfl
  | v :: r, h => by
    show mm_ca v + mm_cs r = r.length + 1
    rw [h v List.mem_cons_self, cs_one r (fun q hq => h q (List.mem_cons_of_mem _ hq)), Nat.add_comm]
theorem law_call {L : mm_Lv} {k n kd a : Nat} {l as rest : List Value} (h : isCall ip k n kd = true) (hl : l.length = n) (he : mm_rv l [] = .ref a :: as) (h1 : ∀ v ∈ l, mm_ca v = 1) (hr : mm_cs rest ≤ 8) (hk : (hK (zE w m) a).1 = kd) (H : mm_C d k (.ref a :: as) (zE w m) (fun r h1 => mm_W (d + 1) 293 (ip + 1) L (match r with | none => rest | some v => v :: rest) h1 Q)) : mm_W (d + 1) 293 ip L (l ++ rest) (zE w m) Q := by
  unfold isCall at h
  split at h
  · rename_i k' n' kd' _ h0
    rw [Bool.and_eq_true, Bool.and_eq_true, Bool.and_eq_true] at h
    obtain ⟨e1, e2, e3, e4⟩ := h
    have e1 := Nat.eq_of_beq_eq_true e1
    have e2 := Nat.eq_of_beq_eq_true e2
    have e3 := Nat.eq_of_beq_eq_true e3
    have e4 := Nat.le_of_ble_eq_true e4
    subst e1; subst e2; subst e3; subst hl
    have ht := tk_app l rest
    have hd := dr_app l rest
    refine law_1 h0 ?_
    show mm_oW (if (mm_n l.length (l ++ rest) && mm_n2 k' l.length (l ++ rest)) = true then mm_cl2 (mm_rec (zE w m) [kd'] (mm_rv (mm_tk l.length (l ++ rest)) [])) k' (mm_rv (mm_tk l.length (l ++ rest)) []) (mm_dr l.length (l ++ rest)) else none) _ _ ip L _ Q
    rw [if_pos, ht, hd, he]
    · exact ⟨hk, H⟩
    · rw [Bool.and_eq_true]
      unfold mm_n mm_n2
      rw [ht, hd, Bool.and_eq_true]
      refine ⟨⟨Nat.ble_eq_true_of_le (by rw [List.length_append]; omega), Nat.ble_eq_true_of_le hr⟩, Nat.ble_eq_true_of_le ?_⟩
      rw [rv_eq, List.append_nil, cs_one _ (fun v hv => h1 v (List.mem_reverse.mp hv)), List.length_reverse]
      exact e4
  · cases h
theorem law_al {a k : Nat} (h : isAl ip k = true) (hk : mm_lg (lL i) k = some (some (.ref a))) (H : mm_W d 293 (ip + 1) (lL i) (.ref a :: st) (zE w m) Q) : mm_W d 293 ip (lL i) st (zE w m) Q := by
  unfold isAl at h
  split at h
  · rename_i j _ h0
    have e := Nat.eq_of_beq_eq_true h
    subst e
    refine law_1 h0 ?_
    show mm_oW (match mm_lg (lL i) j with
      | some (some (.ref v)) => mm_go (ip + 1) (lL i) (.ref v :: st) (zE w m)
      | _ => none) _ _ ip (lL i) _ Q
    rw [hk]
    exact H
  · cases h
theorem law_cmpI {v : Int32} (h : isCmp ip false = true) (H : mm_W d 293 747 (lL i) [] (zE w m) Q) : mm_W d 293 ip (lL i) [.int v, .int v] (zE w m) Q := by
  unfold isCmp at h
  split at h
  · rename_i t _ h0
    rw [Bool.and_eq_true] at h
    have e := Nat.eq_of_beq_eq_true h.1
    subst e
    exact law_1 h0 ⟨fun _ => H, fun n => absurd rfl n⟩
  · rw [Bool.and_eq_true] at h
    cases h.2
  · cases h
theorem law_cmpL {v : Int64} (h : isCmp ip true = true) (H : mm_W d 293 747 (lL i) [] (zE w m) Q) : mm_W d 293 ip (lL i) [.long v, .long v] (zE w m) Q := by
  unfold isCmp at h
  split at h
  · rw [Bool.and_eq_true] at h
    cases h.2
  · rename_i t _ h0
    rw [Bool.and_eq_true] at h
    have e := Nat.eq_of_beq_eq_true h.1
    subst e
    exact law_1 h0 ⟨fun _ => H, fun n => absurd rfl n⟩
  · cases h
def larm (ip : Nat) (l : List (Nat × Bool)) (k1 k2 : Nat) (lg : Bool) : Bool := isAl ip 1 && (match largs l (ip + 1) with
  | none => false
  | some j => isCall j k1 (l.length + 1) 10 && (isAl (j + 1) 2 && (match largs l (j + 1 + 1) with
    | none => false
    | some j2 => isCall j2 k2 (l.length + 1) 11 && isCmp (j2 + 1) lg)))
theorem lv_keep {m' : zM} (h : ∀ j, m'.1 1 j = m.1 1 j) (l : List (Nat × Bool)) : lvals m' i l = lvals m i l := by
  unfold lvals
  refine congrArg (fun f => l.map f) ?_
  funext q
  unfold lval
  rw [h]
theorem lv_call {L : mm_Lv} {m' : zM} {k kd a : Nat} {l : List (Nat × Bool)} {rest : List Value} (h : isCall ip k (l.length + 1) kd = true) (hr : mm_cs rest ≤ 8) (hk : (hK (zE w m') a).1 = kd) (H : mm_C d k (.ref a :: lvals m i l) (zE w m') (fun r h1 => mm_W (d + 1) 293 (ip + 1) L (match r with | none => rest | some v => v :: rest) h1 Q)) : mm_W (d + 1) 293 ip L ((lvals m i l).reverse ++ .ref a :: rest) (zE w m') Q := by
  have e : (lvals m i l).reverse ++ .ref a :: rest = ((lvals m i l).reverse ++ [.ref a]) ++ rest := by rw [List.append_assoc]; rfl
  rw [e]
  refine law_call h (by rw [List.length_append, List.length_reverse]; unfold lvals; rw [List.length_map]; rfl) ?_ ?_ hr hk H
  · rw [rv_eq, List.reverse_append, List.reverse_reverse, List.append_nil]; rfl
  · intro v hv
    rcases List.mem_append.mp hv with hv | hv
    · obtain ⟨q, -, rfl⟩ := List.mem_map.mp (List.mem_reverse.mp hv)
      rfl
    · rw [List.mem_singleton.mp hv]; rfl
/-- an arm of ints -/
theorem law_armI {l : List (Nat × Bool)} {k1 k2 : Nat} (h : larm ip l k1 k2 false = true) (hi : ∀ q ∈ l, vp_in (i + Int32.ofNat q.1) w.1) {K : Nat × Nat × Nat → zM → Prop} (H : cIw d k1 (.ref 3 :: lvals m i l) w m (fun x w1 m1 => cI d k2 (.ref 261 :: lvals m i l) w1 m1 (fun y m2 => x = y ∧ K w1 m2))) (HK : ∀ w1 m2, w1.1 = w.1 → (∀ j, m2.1 1 j = m.1 1 j) → K w1 m2 → mm_W (d + 1) 293 747 (lL i) [] (zE w1 m2) Q) : mm_W (d + 1) 293 ip (lL i) [] (zE w m) Q := by
  unfold larm at h
  rw [Bool.and_eq_true] at h
  obtain ⟨h0, h⟩ := h
  split at h
  · cases h
  · rename_i j hj
    rw [Bool.and_eq_true, Bool.and_eq_true] at h
    obtain ⟨h1, h2, h⟩ := h
    split at h
    · cases h
    · rename_i j2 hj2
      rw [Bool.and_eq_true] at h
      obtain ⟨h3, h4⟩ := h
      refine law_al h0 rfl (law_args l _ _ _ hj hi (lv_call h1 (Nat.zero_le _) rfl ?_))
      refine mm_C_mono (cIw_keep H) (Nat.le_refl _) (fun r hh hq => ?_)
      obtain ⟨x, w1, m1, rfl, rfl, hq, hs, hw⟩ := hq
      refine law_al h2 rfl (law_args l _ _ _ hj2 (fun q hq => by rw [hw]; exact hi q hq) ?_)
      rw [lv_keep hs]
      refine lv_call h3 (show (1 : Nat) ≤ 8 by decide) rfl (mm_C_mono (cI_keep hq) (Nat.le_refl _) (fun r hh hq => ?_))
      obtain ⟨y, m2, rfl, rfl, ⟨rfl, hq⟩, hs2⟩ := hq
      exact law_cmpI h4 (HK w1 m2 hw (fun j => (hs2 j).trans (hs j)) hq)
theorem law_armL {l : List (Nat × Bool)} {k1 k2 : Nat} (h : larm ip l k1 k2 true = true) (hi : ∀ q ∈ l, vp_in (i + Int32.ofNat q.1) w.1) {K : zM → Prop} (H : cL d k1 (.ref 3 :: lvals m i l) w m (fun x m1 => cL d k2 (.ref 261 :: lvals m i l) w m1 (fun y m2 => x = y ∧ K m2))) (HK : ∀ m2, (∀ j, m2.1 1 j = m.1 1 j) → K m2 → mm_W (d + 1) 293 747 (lL i) [] (zE w m2) Q) : mm_W (d + 1) 293 ip (lL i) [] (zE w m) Q := by
  unfold larm at h
  rw [Bool.and_eq_true] at h
  obtain ⟨h0, h⟩ := h
  split at h
  · cases h
  · rename_i j hj
    rw [Bool.and_eq_true, Bool.and_eq_true] at h
    obtain ⟨h1, h2, h⟩ := h
    split at h
    · cases h
    · rename_i j2 hj2
      rw [Bool.and_eq_true] at h
      obtain ⟨h3, h4⟩ := h
      refine law_al h0 rfl (law_args l _ _ _ hj hi (lv_call h1 (Nat.zero_le _) rfl ?_))
      refine mm_C_mono (cL_keep H) (Nat.le_refl _) (fun r hh hq => ?_)
      obtain ⟨x, m1, rfl, rfl, hq, hs⟩ := hq
      refine law_al h2 rfl (law_args l _ _ _ hj2 hi ?_)
      rw [lv_keep hs]
      refine lv_call h3 (show (2 : Nat) ≤ 8 by decide) rfl (mm_C_mono (cL_keep hq) (Nat.le_refl _) (fun r hh hq => ?_))
      obtain ⟨y, m2, rfl, rfl, ⟨rfl, hq⟩, hs2⟩ := hq
      exact law_cmpL h4 (HK m2 (fun j => (hs2 j).trans (hs j)) hq)
theorem cI_w {k : Nat} {as : List Value} {P : Int32 → zM → Prop} {P' : Int32 → Nat × Nat × Nat → zM → Prop} (H : cI d k as w m P) (hP : ∀ v m1, P v m1 → P' v w m1) : cIw d k as w m P' := mm_C_mono H (Nat.le_refl _) (fun r h1 ⟨v, m1, e1, e2, q⟩ => ⟨v, w, m1, e1, e2, hP _ _ q⟩)
theorem swW_all {F : Nat → Prop} {x : Int32} : ∀ (cs : List (Int32 × Nat)) (dd : Nat), F dd → (∀ q ∈ cs, F q.2) → mm_swW F x cs dd
  | [], _, h, _ => h
  | (k, t) :: r, dd, h, hs => ⟨fun _ => hs _ List.mem_cons_self, fun _ => swW_all r dd h (fun q hq => hs q (List.mem_cons_of_mem _ hq))⟩
end LOOP
