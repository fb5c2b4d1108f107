/-! the small machine, run: over a heap of lists
-/
abbrev xH : Type := Nat × Nat × List (Nat × Nat × Nat) × List (Nat × Nat × Int32) × List (Nat × Nat × Int64) × List (Nat × Nat × Nat)
def xlk {α : Type} (d : α) : List (Nat × Nat × α) → Nat → Nat → α
  | [], _, _ => d
  | q :: r, a, k => bif Nat.beq q.1 a && Nat.beq q.2.1 k then q.2.2 else xlk d r a k
def xkd : List (Nat × Nat × Nat) → Nat → Nat × Nat
  | [], _ => (16, 0)
  | q :: r, a => bif Nat.beq q.1 a then q.2 else xkd r a
def xr (len : Nat) (xs : Nat → Int32) (x : xH) : mm_H := (x.1, x.2.1, (fun a => bif Nat.beq a 1 then (20, len) else xkd x.2.2.1 a), (fun a k => bif Nat.beq a 1 then xs k else xlk 0 x.2.2.2.1 a k), (fun a k => xlk 0 x.2.2.2.2.1 a k), fun a k => xlk 0 x.2.2.2.2.2 a k)
def xB {α : Type} (n : Nat) (l : List (Nat × α)) : Prop := ∀ q ∈ l, q.1 < n
def xV (x : xH) : Prop := 3 ≤ x.1 ∧ xB x.1 x.2.2.1 ∧ xB x.1 x.2.2.2.1 ∧ xB x.1 x.2.2.2.2.1 ∧ xB x.1 x.2.2.2.2.2
theorem xB.cons {α : Type} {n : Nat} {l : List (Nat × α)} {q : Nat × α} (h : xB n l) (hq : q.1 < n) : xB n (q :: l) := fun p hp => by
  rcases List.mem_cons.mp hp with rfl | hp
  · exact hq
  · exact h p hp
theorem xB.up {α : Type} {n : Nat} {l : List (Nat × α)} (h : xB n l) : xB (n + 1) l := fun p hp => Nat.lt_succ_of_lt (h p hp)
theorem xne {a b : Nat} (h : a ≠ b) : Nat.beq a b = false := by
  cases e : Nat.beq a b with
  | false => rfl
  | true => exact absurd (Nat.eq_of_beq_eq_true e) h
theorem xbr (a : Nat) : Nat.beq a a = true := Nat.beq_refl a
theorem xlk_n {α : Type} {d : α} {n : Nat} : ∀ (l : List (Nat × Nat × α)), xB n l → ∀ a k, n ≤ a → xlk d l a k = d
  | [], _, _, _, _ => rfl
  | q :: r, h, a, k, ha => by
    have h1 : q.1 < n := h q List.mem_cons_self
    unfold xlk
    rw [xne (by omega), Bool.false_and, cond_false]
    exact xlk_n r (fun p hp => h p (List.mem_cons_of_mem _ hp)) a k ha
theorem xkd_n {n : Nat} : ∀ (l : List (Nat × Nat × Nat)), xB n l → ∀ a, n ≤ a → xkd l a = (16, 0)
  | [], _, _, _ => rfl
  | q :: r, h, a, ha => by
    have h1 : q.1 < n := h q List.mem_cons_self
    unfold xkd
    rw [xne (by omega), cond_false]
    exact xkd_n r (fun p hp => h p (List.mem_cons_of_mem _ hp)) a ha
theorem xlk_c {α : Type} (d : α) (l : List (Nat × Nat × α)) (a k : Nat) (v : α) (b j : Nat) : xlk d ((a, k, v) :: l) b j = if b = a ∧ j = k then v else xlk d l b j := by
  show (bif Nat.beq a b && Nat.beq k j then v else xlk d l b j) = _
  by_cases h : b = a ∧ j = k
  · obtain ⟨rfl, rfl⟩ := h
    rw [xbr, xbr, if_pos ⟨rfl, rfl⟩]; rfl
  · rw [if_neg h]
    by_cases h1 : b = a
    · rw [xne (a := k) (b := j) (fun q => h ⟨h1, q.symm⟩), Bool.and_false]; rfl
    · rw [xne (a := a) (b := b) (fun q => h1 q.symm)]; rfl
def xsI (x : xH) (a k : Nat) (v : Int32) : xH := (x.1, x.2.1, x.2.2.1, (a, k, v) :: x.2.2.2.1, x.2.2.2.2.1, x.2.2.2.2.2)
def xsL (x : xH) (a k : Nat) (v : Int64) : xH := (x.1, x.2.1, x.2.2.1, x.2.2.2.1, (a, k, v) :: x.2.2.2.2.1, x.2.2.2.2.2)
def xsR (x : xH) (a k v : Nat) : xH := (x.1, x.2.1, x.2.2.1, x.2.2.2.1, x.2.2.2.2.1, (a, k, v) :: x.2.2.2.2.2)
def xA (x : xH) (kd n : Nat) : xH := (x.1 + 1, x.2.1 + n, (x.1, kd, n) :: x.2.2.1, x.2.2.2.1, x.2.2.2.2.1, x.2.2.2.2.2)
def xok (x : xH) (a : Nat) : Bool := Nat.ble 2 a && Nat.ble (a + 1) x.1
section XR
variable {len : Nat} {xs : Nat → Int32} {x : xH} {a k n : Nat}
theorem xok_o (h : xok x a = true) : 2 ≤ a ∧ a < x.1 := by
  unfold xok at h
  rw [Bool.and_eq_true] at h
  exact ⟨Nat.le_of_ble_eq_true h.1, Nat.le_of_ble_eq_true h.2⟩
theorem xr_I {v : Int32} (h : xok x a = true) : xr len xs (xsI x a k v) = sI (xr len xs x) a k v := by
  obtain ⟨h1, h2⟩ := xok_o h
  refine Prod.ext rfl (Prod.ext rfl (Prod.ext rfl (Prod.ext ?_ rfl)))
  funext b j
  show (bif Nat.beq b 1 then xs j else xlk 0 ((a, k, v) :: x.2.2.2.1) b j) = if b = a ∧ j = k then v else (bif Nat.beq b 1 then xs j else xlk 0 x.2.2.2.1 b j)
  rw [xlk_c]
  by_cases e : b = 1
  · rw [e, xbr, cond_true, if_neg (by omega)]; rfl
  · rw [xne e, cond_false, cond_false]
theorem xr_L {v : Int64} : xr len xs (xsL x a k v) = sL (xr len xs x) a k v := by
  refine Prod.ext rfl (Prod.ext rfl (Prod.ext rfl (Prod.ext rfl (Prod.ext ?_ rfl))))
  funext b j
  exact xlk_c _ _ _ _ _ _ _
theorem xr_R {v : Nat} : xr len xs (xsR x a k v) = sR (xr len xs x) a k v := by
  refine Prod.ext rfl (Prod.ext rfl (Prod.ext rfl (Prod.ext rfl (Prod.ext rfl ?_))))
  funext b j
  exact xlk_c _ _ _ _ _ _ _
theorem xr_A (hv : xV x) : xr len xs (xA x k n) = hA (xr len xs x) k n := by
  obtain ⟨h0, h1, h2, h3, h4⟩ := hv
  refine Prod.ext rfl (Prod.ext rfl (Prod.ext ?_ (Prod.ext ?_ (Prod.ext ?_ ?_))))
  · funext b
    show (bif Nat.beq b 1 then (20, len) else xkd ((x.1, k, n) :: x.2.2.1) b) = if b = x.1 then (k, n) else (bif Nat.beq b 1 then (20, len) else xkd x.2.2.1 b)
    by_cases e : b = x.1
    · rw [if_pos e, xne (a := b) (b := 1) (by omega), e]
      unfold xkd
      rw [xbr]; rfl
    · rw [if_neg e]
      unfold xkd
      rw [xne (a := x.1) (b := b) (fun q => e q.symm)]
      cases x.2.2.1 <;> rfl
  · funext b j
    show (bif Nat.beq b 1 then xs j else xlk 0 x.2.2.2.1 b j) = if b = x.1 then 0 else (bif Nat.beq b 1 then xs j else xlk 0 x.2.2.2.1 b j)
    by_cases e : b = x.1
    · rw [if_pos e, xne (by omega), cond_false]
      exact xlk_n _ h2 _ _ (by omega)
    · rw [if_neg e]
  · funext b j
    show xlk 0 x.2.2.2.2.1 b j = if b = x.1 then 0 else xlk 0 x.2.2.2.2.1 b j
    by_cases e : b = x.1
    · rw [if_pos e]
      exact xlk_n _ h3 _ _ (by omega)
    · rw [if_neg e]
  · funext b j
    show xlk 0 x.2.2.2.2.2 b j = if b = x.1 then 0 else xlk 0 x.2.2.2.2.2 b j
    by_cases e : b = x.1
    · rw [if_pos e]
      exact xlk_n _ h4 _ _ (by omega)
    · rw [if_neg e]
theorem xV_I {v : Int32} (hv : xV x) (h : xok x a = true) : xV (xsI x a k v) := ⟨hv.1, hv.2.1, hv.2.2.1.cons (xok_o h).2, hv.2.2.2.1, hv.2.2.2.2⟩
theorem xV_L {v : Int64} (hv : xV x) (h : xok x a = true) : xV (xsL x a k v) := ⟨hv.1, hv.2.1, hv.2.2.1, hv.2.2.2.1.cons (xok_o h).2, hv.2.2.2.2⟩
theorem xV_R {v : Nat} (hv : xV x) (h : xok x a = true) : xV (xsR x a k v) := ⟨hv.1, hv.2.1, hv.2.2.1, hv.2.2.2.1, hv.2.2.2.2.cons (xok_o h).2⟩
theorem xV_A (hv : xV x) : xV (xA x k n) := ⟨Nat.le_succ_of_le hv.1, hv.2.1.up.cons (Nat.lt_succ_self _), hv.2.2.1.up, hv.2.2.2.1.up, hv.2.2.2.2.up⟩
theorem xK_e (h : xok x a = true) : hK (xr len xs x) a = xkd x.2.2.1 a := by
  obtain ⟨h1, h2⟩ := xok_o h
  show (bif Nat.beq a 1 then (20, len) else xkd x.2.2.1 a) = _
  rw [xne (by omega)]; rfl
theorem xI_e (h : xok x a = true) : hI (xr len xs x) a k = xlk 0 x.2.2.2.1 a k := by
  obtain ⟨h1, h2⟩ := xok_o h
  show (bif Nat.beq a 1 then xs k else xlk 0 x.2.2.2.1 a k) = _
  rw [xne (by omega)]; rfl
end XR
def xkb (k : Nat) : List Nat → Bool
  | [] => false
  | c :: r => Nat.beq k c || xkb k r
theorem xkb_o {k : Nat} : ∀ ks : List Nat, xkb k ks = true → mm_kd k ks
  | [], h => by cases h
  | [c], h => by
    unfold xkb at h
    have h : (Nat.beq k c || false) = true := h
    rw [Bool.or_false] at h
    exact Nat.eq_of_beq_eq_true h
  | c :: c' :: r, h => by
    have h : (Nat.beq k c || xkb k (c' :: r)) = true := h
    rw [Bool.or_eq_true] at h
    rcases h with h | h
    · exact Or.inl (Nat.eq_of_beq_eq_true h)
    · exact Or.inr (xkb_o _ h)
def xswt (x : Int32) : List (Int32 × Nat) → Nat → Nat
  | [], d => d
  | q :: r, d => if x = q.1 then q.2 else xswt x r d
theorem xswt_o {F : Nat → Prop} {x : Int32} : ∀ (cs : List (Int32 × Nat)) (d : Nat), F (xswt x cs d) → mm_swW F x cs d
  | [], _, h => h
  | (k, t) :: r, d, h => by
    unfold xswt at h
    by_cases e : x = k
    · rw [if_pos e] at h
      exact ⟨fun _ => h, fun n => absurd e n⟩
    · rw [if_neg e] at h
      exact ⟨fun n => absurd n e, fun _ => xswt_o r d h⟩
/-- goes on, calls, returns -/
abbrev xO : Type := Option ((Nat × mm_Lv × List Value × xH) ⊕ (Nat × List Value × List Value) ⊕ Option Value)
def xgo (ip : Nat) (L : mm_Lv) (st : List Value) (h : xH) : xO := some (.inl (ip, L, st, h))
def xin (x : xH) (a kd : Nat) (i : Int32) : Bool := xok x a && (Nat.beq (xkd x.2.2.1 a).1 kd && (decide (¬ i < 0) && Nat.ble (i.toNatClampNeg + 1) (xkd x.2.2.1 a).2))
theorem xin_o {len : Nat} {xs : Nat → Int32} {x : xH} {a kd : Nat} {i : Int32} (h : xin x a kd i = true) : xok x a = true ∧ mm_ix (xr len xs x) a kd i := by
  unfold xin at h
  simp only [Bool.and_eq_true, decide_eq_true_eq] at h
  obtain ⟨h1, h2, h3, h4⟩ := h
  refine ⟨h1, ?_, ?_⟩
  · rw [xK_e h1]; exact Nat.eq_of_beq_eq_true h2
  · rw [xK_e h1]
    have := Nat.le_of_ble_eq_true h4
    rintro (q | q)
    · exact h3 q
    · omega
def xcall (x : List Nat) (ip : Nat) (L : mm_Lv) (st : List Value) (h : xH) : xO := match x with
  | [0, m, n] => bif mm_n n st && mm_n2 m n st then some (.inr (.inl (m, mm_rv (mm_tk n st) [], mm_dr n st))) else none
  | 1 :: m :: n :: ks => bif mm_n n st && mm_n2 m n st then (match mm_rv (mm_tk n st) [] with
      | .ref a :: as => bif xok h a && xkb (xkd h.2.2.1 a).1 ks then some (.inr (.inl (m, .ref a :: as, mm_dr n st))) else none
      | _ => none) else none
  | 8 :: m :: n :: ks => bif mm_n n st && mm_n2 m n st then (match mm_rv (mm_tk n st) [] with
      | .ref a :: as => bif xok h a && xkb (xkd h.2.2.1 a).1 ks then some (.inr (.inl (m, .ref a :: as, mm_dr n st))) else none
      | _ => none) else none
  | [4] => match st with
    | .int i :: .ref 2 :: r => bif Nat.ble (mm_cs r) 8 && (decide (¬ i < 0) && Nat.ble (i.toNatClampNeg + 1) 7) then xgo (ip + 1) L (.int (mm_chr i.toNatClampNeg) :: r) h else none
    | _ => none
  | [7] => match st with
    | .ref _ :: r => bif Nat.ble (mm_cs r) 8 then xgo (ip + 1) L r h else none
    | _ => none
  | _ => none
def xs1 (ins : Instr) (x : List Nat) (v : Value) (ip : Nat) (L : mm_Lv) (st : List Value) (h : xH) : xO := match ins with
  | .iload_n _ => match mm_lg L (mm_x0 x) with
    | some (some (.int w)) => xgo (ip + 1) L (.int w :: st) h
    | _ => none
  | .lload_n _ => match mm_lg L (mm_x0 x) with
    | some (some (.long w)) => xgo (ip + 1) L (.long w :: st) h
    | _ => none
  | .aload_n _ => match mm_lg L (mm_x0 x) with
    | some (some (.ref w)) => xgo (ip + 1) L (.ref w :: st) h
    | _ => none
  | .istore_n _ => match st with
    | .int w :: r => xgo (ip + 1) (mm_st L (mm_x0 x) (.int w)) r h
    | _ => none
  | .astore_n _ => match st with
    | .ref w :: r => xgo (ip + 1) (mm_st L (mm_x0 x) (.ref w)) r h
    | _ => none
  | .iinc _ _ => match v with
    | .int n => match mm_lg L (mm_x0 x) with
      | some (some (.int w)) => xgo (ip + 1) (mm_st L (mm_x0 x) (.int (w + n))) st h
      | _ => none
    | _ => none
  | .iconst _ => xgo (ip + 1) L (v :: st) h
  | .bipush _ => xgo (ip + 1) L (v :: st) h
  | .sipush _ => xgo (ip + 1) L (v :: st) h
  | .lconst _ => xgo (ip + 1) L (v :: st) h
  | .ldc _ => xgo (ip + 1) L (v :: st) h
  | .ldc2_w _ => xgo (ip + 1) L (v :: st) h
  | .iadd => match st with
    | .int y :: .int w :: r => xgo (ip + 1) L (.int (w + y) :: r) h
    | _ => none
  | .isub => match st with
    | .int y :: .int w :: r => xgo (ip + 1) L (.int (w - y) :: r) h
    | _ => none
  | .ior => match st with
    | .int y :: .int w :: r => xgo (ip + 1) L (.int (w ||| y) :: r) h
    | _ => none
  | .ishl => match st with
    | .int y :: .int w :: r => xgo (ip + 1) L (.int (w <<< (y &&& 31)) :: r) h
    | _ => none
  | .land => match st with
    | .long y :: .long w :: r => xgo (ip + 1) L (.long (w &&& y) :: r) h
    | _ => none
  | .lshr => match st with
    | .int y :: .long w :: r => xgo (ip + 1) L (.long (w >>> (y.toInt64 &&& 63)) :: r) h
    | _ => none
  | .i2l => match st with
    | .int w :: r => xgo (ip + 1) L (.long w.toInt64 :: r) h
    | _ => none
  | .dup => match st with
    | w :: r => bif Nat.beq (mm_ca w) 1 then xgo (ip + 1) L (w :: w :: r) h else none
    | _ => none
  | .pop => match st with
    | w :: r => bif Nat.beq (mm_ca w) 1 then xgo (ip + 1) L r h else none
    | _ => none
  | .dup2 => match st with
    | .ref a :: .ref b :: r => xgo (ip + 1) L (.ref a :: .ref b :: .ref a :: .ref b :: r) h
    | .int a :: .ref b :: r => xgo (ip + 1) L (.int a :: .ref b :: .int a :: .ref b :: r) h
    | _ => none
  | .goto _ => xgo (mm_x0 x) L st h
  | .ifCond c _ => match st with
    | .int w :: r => match c with
      | .eq => xgo (if w = 0 then mm_x0 x else ip + 1) L r h
      | .ne => xgo (if w = 0 then ip + 1 else mm_x0 x) L r h
      | .lt => xgo (if w < 0 then mm_x0 x else ip + 1) L r h
      | .le => xgo (if w ≤ 0 then mm_x0 x else ip + 1) L r h
      | _ => none
    | _ => none
  | .if_icmp c _ => match st with
    | .int y :: .int w :: r => match c with
      | .eq => xgo (if w = y then mm_x0 x else ip + 1) L r h
      | .ne => xgo (if w = y then ip + 1 else mm_x0 x) L r h
      | .ge => xgo (if y ≤ w then mm_x0 x else ip + 1) L r h
      | .gt => xgo (if y < w then mm_x0 x else ip + 1) L r h
      | _ => none
    | _ => none
  | .lcmp => match x, st with
    | [1, t], .long y :: .long w :: r => xgo (if w = y then ip + 1 else t) L r h
    | _, _ => none
  | .lookupswitch _ ps => match st with
    | .int w :: r => xgo (xswt w (mm_lkl ps.toList (mm_tl x)) (mm_x0 x)) L r h
    | _ => none
  | .getfield _ => match x, st with
    | k :: 2 :: ks, .ref a :: r => bif xok h a && xkb (xkd h.2.2.1 a).1 ks then (match xlk 0 h.2.2.2.2.2 a k with
      | 0 => none
      | q + 1 => xgo (ip + 1) L (.ref (q + 1) :: r) h) else none
    | k :: 0 :: ks, .ref a :: r => bif xok h a && xkb (xkd h.2.2.1 a).1 ks then xgo (ip + 1) L (.int (xlk 0 h.2.2.2.1 a k) :: r) h else none
    | k :: 3 :: ks, .ref a :: r => bif xok h a && xkb (xkd h.2.2.1 a).1 ks then xgo (ip + 1) L (.int (xlk 0 h.2.2.2.1 a k) :: r) h else none
    | _, _ => none
  | .putfield _ => match x, st with
    | k :: 1 :: _ :: ks, .long w :: .ref a :: r => bif xok h a && xkb (xkd h.2.2.1 a).1 ks then xgo (ip + 1) L r (xsL h a k w) else none
    | k :: 2 :: _ :: ks, .ref w :: .ref a :: r => bif xok h a && (xkb (xkd h.2.2.1 a).1 ks && Nat.ble 1 w) then xgo (ip + 1) L r (xsR h a k w) else none
    | k :: 0 :: _ :: ks, .int w :: .ref a :: r => bif xok h a && xkb (xkd h.2.2.1 a).1 ks then xgo (ip + 1) L r (xsI h a k w) else none
    | k :: 3 :: _ :: ks, .int w :: .ref a :: r => bif xok h a && (xkb (xkd h.2.2.1 a).1 ks && (decide (w = 0) || decide (w = 1))) then xgo (ip + 1) L r (xsI h a k w) else none
    | _, _ => none
  | .iaload => match x, st with
    | [], .int i :: .ref a :: r => bif xin h a 12 i then xgo (ip + 1) L (.int (xlk 0 h.2.2.2.1 a i.toNatClampNeg) :: r) h else none
    | _, _ => none
  | .iastore => match st with
    | .int w :: .int i :: .ref a :: r => bif xin h a 12 i then xgo (ip + 1) L r (xsI h a i.toNatClampNeg w) else none
    | _ => none
  | .lastore => match st with
    | .long w :: .int i :: .ref a :: r => bif xin h a 13 i then xgo (ip + 1) L r (xsL h a i.toNatClampNeg w) else none
    | _ => none
  | .aastore => match st with
    | .ref w :: .int i :: .ref a :: r => bif xin h a 15 i && (xok h w && Nat.beq (xkd h.2.2.1 w).1 9) then xgo (ip + 1) L r (xsR h a i.toNatClampNeg w) else none
    | _ => none
  | .arraylength => match x, st with
    | [], .ref a :: r => bif xok h a && (Nat.ble 12 (xkd h.2.2.1 a).1 && Nat.ble (xkd h.2.2.1 a).1 15) then xgo (ip + 1) L (.int (Int32.ofNat (xkd h.2.2.1 a).2) :: r) h else none
    | _, _ => none
  | .new _ => match x with
    | [ci, n] => xgo (ip + 1) L (.ref h.1 :: st) (xA h ci n)
    | _ => none
  | .newarray _ => match st with
    | .int n :: r => bif decide (¬ n < 0) && Nat.ble (n.toNatClampNeg + 1) 100000 then xgo (ip + 1) L (.ref h.1 :: r) (xA h (mm_x0 x) n.toNatClampNeg) else none
    | _ => none
  | .anewarray _ => match st with
    | .int n :: r => bif decide (¬ n < 0) && Nat.ble (n.toNatClampNeg + 1) 100000 then xgo (ip + 1) L (.ref h.1 :: r) (xA h 15 n.toNatClampNeg) else none
    | _ => none
  | .invokestatic _ => xcall x ip L st h
  | .invokevirtual _ => xcall x ip L st h
  | .invokespecial _ => xcall x ip L st h
  | .ireturn => match x, st with
    | [1], [.int w] => some (.inr (.inr (some (.int w))))
    | [3], [.int w] => bif decide (w = 0) || decide (w = 1) then some (.inr (.inr (some (.int w)))) else none
    | _, _ => none
  | .areturn => match x, st with
    | [4], [.ref w] => some (.inr (.inr (some (.ref w))))
    | _, _ => none
  | .return_ => match x, st with
    | [0], [] => some (.inr (.inr none))
    | _, _ => none
  | _ => none
/-- what a step of the lists' machine says of the small machine's -/
def xP (len : Nat) (xs : Nat → Int32) (o : xO) (m : mm_Out) (h : xH) : Prop := match o with
  | none => True
  | some (.inl (i, L', s', h')) => xV h' ∧ ∀ F G ip L Q, F i L' s' (xr len xs h') → mm_oW m F G ip L (xr len xs h) Q
  | some (.inr (.inl (k, as, rest))) => ∀ F G ip L Q, G k as (fun r h1 => F (ip + 1) L (match r with | none => rest | some v => v :: rest) h1) → mm_oW m F G ip L (xr len xs h) Q
  | some (.inr (.inr w)) => ∀ F G ip L Q, Q w (xr len xs h) → mm_oW m F G ip L (xr len xs h) Q
