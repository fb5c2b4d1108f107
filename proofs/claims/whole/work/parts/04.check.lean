/-! what is checked of each instruction, by program, and what that says -/
theorem mm_tA_in {i : Nat} {w : Jvm.Cond} (h : mm_tA i w = true) : w ∈ mm_gT := by
  unfold mm_tA at h
  simp only [Bool.and_eq_true, decide_eq_true_eq] at h
  exact List.mem_filter.mpr ⟨List.mem_of_getElem? h.1, h.2⟩
theorem mm_tN_in {i : Nat} {w : Jvm.Cond} (h : mm_tN i w = true) : w ∈ mm_tbl := by
  unfold mm_tN at h
  simp only [decide_eq_true_eq] at h
  exact List.mem_of_getElem? h
theorem mm_inG {i : Nat} {w : Jvm.Cond} (h : mm_tbl[i]? = some w) (g : goodWord w = true) : w ∈ mm_gT := List.mem_filter.mpr ⟨List.mem_of_getElem? h, g⟩
def mm_yn (m : Nat) : MethodName := match mm_lg mm_Y m with
  | some q => q.1
  | none => ⟨"", "", ""⟩
def mm_yb (m : Nat) : ByteArray := match mm_lg mm_Y m with
  | some q => q.2.1
  | none => ⟨#[]⟩
def mm_yr (m : Nat) : Option FieldType := match mm_lg mm_Y m with
  | some q => q.2.2
  | none => none
def mm_po (mi ip pc : Nat) : Bool := match mm_at mi ip with
  | some q => Nat.beq q.2.1 pc
  | none => true
/-- decodes, and the next instruction stands behind it -/
def mm_d (mi ip : Nat) (ins : Instr) (pc l : Nat) : Bool := decide (decode (mm_yb mi) pc = .ok (ins, l)) && mm_po mi (ip + 1) (pc + l)
def mm_tg (mi pc t : Nat) (off : Int) : Bool := match mm_at mi t with
  | some q => decide ((pc : Int) + off = (q.2.1 : Int))
  | none => false
def mm_tgs (mi pc : Nat) : List Nat → List Int → Bool
  | [], [] => true
  | t :: ts, o :: os => mm_tg mi pc t o && mm_tgs mi pc ts os
  | _, _ => false
def mm_cc : Jvm.ClassFile.Cond → Nat
  | .eq => 0
  | .ne => 1
  | .lt => 2
  | .ge => 3
  | .gt => 4
  | .le => 5
def mm_a0 (i : Nat) : List Nat → Nat
  | [] => 0
  | a :: r => match i with
    | 0 => a
    | i + 1 => mm_a0 i r
/-- field k of kind ci, by its link -/
def mm_ckF (own : String) (idx k ty p q : Nat) (ci : Nat) : Bool := match mm_tbl[p]?, mm_cl[ci]? with
  | some (.fieldLink o i r n d), some (C, T, N) => decide (o = own) && Nat.beq i idx && Nat.blt k N && decide ((T k).2.1 = n) && decide ((T k).2.2.1 = d) && Nat.beq (mm_dc d) ty && (decide ((T k).1 = r) || mm_tA q (.sameField r (T k).1 n d)) && goodWord (.fieldLink o i r n d) && Nat.blt ci 12
  | _, _ => false
def mm_fin (ci k : Nat) : Bool := match mm_cl[ci]? with
  | some (C, T, N) => (T k).2.2.2
  | none => false
def mm_dcl (ci k : Nat) : String := match mm_cl[ci]? with
  | some (C, T, N) => (T k).1
  | none => ""
def mm_ckC (own : String) (idx m n : Nat) (aux : List Nat) (k : Nat) : Bool := (if Nat.beq (mm_a0 k aux) 1 then mm_tN (mm_a0 0 aux) (.methodLinkNest own idx (mm_yn m) "TermDraw") else mm_tA (mm_a0 0 aux) (.methodLink own idx (mm_yn m))) && decide ((parseMethodDescriptor (mm_yn m).desc).map (fun d => d.parameters.length) = some n) && decide ((mm_yn m).cls ≠ "java/lang/invoke/MethodHandle") && decide ((mm_yn m).cls ≠ "java/lang/invoke/VarHandle") && Nat.blt m 293
/-- a call up or across the classes: x the name that the link has, y the method that runs -/
def mm_ckU (own C : String) (idx m n : Nat) (x : MethodName) (pl ps pd pc pi pz : Nat) : Bool := mm_tA pl (.methodLink own idx x) && mm_tA ps (.sameMethod x.cls "TermDraw$Order" x.name x.desc) && (mm_tN pd (.declares ⟨"TermDraw$Order", x.name, x.desc⟩) || decide ((⟨"TermDraw$Order", x.name, x.desc⟩ : MethodName) = mm_yn m)) && mm_tA pc (.selects C x (mm_yn m)) && mm_tA pi (.instanceMethod (mm_yn m)) && mm_tA pz (.initialized (mm_yn m).cls) && decide ((parseMethodDescriptor x.desc).map (fun d => d.parameters.length) = some n) && Nat.blt m 293
def mm_kn (k : Nat) : String := match mm_cl[k]? with
  | some r => r.1
  | none => ""
def mm_ckV (mi ip : Nat) (ins : Instr) (idx pc : Nat) (x aux : List Nat) : Bool := mm_d mi ip ins pc 3 && match x with
  | [0, m, n] => (match ins with | .invokestatic _ => true | _ => false) && mm_ckC (mm_yn mi).cls idx m n aux 3 && mm_tA (mm_a0 1 aux) (.static (mm_yn m)) && mm_tA (mm_a0 2 aux) (.initialized (mm_yn m).cls)
  | [1, m, n, k] => (match ins with | .invokevirtual _ => true | _ => false) && Nat.blt 0 n && mm_ckC (mm_yn mi).cls idx m (n - 1) aux 9 && mm_tA (mm_a0 1 aux) (.instanceMethod (mm_yn m)) && mm_tA (mm_a0 2 aux) (.selects (mm_kn k) (mm_yn m) (mm_yn m)) && mm_tA (mm_a0 3 aux) (.initialized (mm_yn m).cls) && Nat.blt k 12
  | [3, m, n, k] => (match ins with | .invokevirtual _ => true | _ => false) && Nat.blt 0 n && Nat.blt k 12 && (match mm_tbl[mm_a0 0 aux]? with | some (.methodLink o i y) => mm_ckU (mm_yn mi).cls (mm_kn k) idx m (n - 1) y (mm_a0 0 aux) (mm_a0 1 aux) (mm_a0 2 aux) (mm_a0 3 aux) (mm_a0 4 aux) (mm_a0 5 aux) | _ => false)
  | [3, m, n, k, k2] => (match ins with | .invokevirtual _ => true | _ => false) && Nat.blt 0 n && Nat.blt k 12 && Nat.blt k2 12 && mm_ckU (mm_yn mi).cls (mm_kn k) idx m (n - 1) (mm_yn m) (mm_a0 0 aux) (mm_a0 1 aux) (mm_a0 2 aux) (mm_a0 3 aux) (mm_a0 5 aux) (mm_a0 6 aux) && mm_ckU (mm_yn mi).cls (mm_kn k2) idx m (n - 1) (mm_yn m) (mm_a0 0 aux) (mm_a0 1 aux) (mm_a0 2 aux) (mm_a0 4 aux) (mm_a0 5 aux) (mm_a0 6 aux)
  | [2, n, k1, m1, k2, m2] => (match ins with | .invokevirtual _ => true | _ => false) && Nat.blt 0 n && Nat.blt k1 12 && Nat.blt k2 12 && (match mm_tbl[mm_a0 0 aux]? with | some (.methodLink o i y) => mm_ckU (mm_yn mi).cls (mm_kn k1) idx m1 (n - 1) y (mm_a0 0 aux) (mm_a0 1 aux) (mm_a0 2 aux) (mm_a0 3 aux) (mm_a0 4 aux) (mm_a0 5 aux) && mm_ckU (mm_yn mi).cls (mm_kn k2) idx m2 (n - 1) y (mm_a0 0 aux) (mm_a0 1 aux) (mm_a0 2 aux) (mm_a0 6 aux) (mm_a0 7 aux) (mm_a0 8 aux) | _ => false)
  | [8, m, n, k] => (match ins with | .invokespecial _ => true | _ => false) && Nat.blt 0 n && mm_ckC (mm_yn mi).cls idx m (n - 1) aux 3 && mm_tA (mm_a0 1 aux) (.instanceMethod (mm_yn m)) && mm_tA (mm_a0 2 aux) (.initialized (mm_yn m).cls) && decide ((mm_yn m).name = "<init>") && decide (mm_yr m = none)
  | [4] => (match ins with | .invokevirtual _ => true | _ => false) && mm_tA (mm_a0 0 aux) (.methodLink (mm_yn mi).cls idx ⟨"java/lang/String", "charAt", "(I)C"⟩)
  | [5] => (match ins with | .invokestatic _ => true | _ => false) && mm_tA (mm_a0 0 aux) (.methodLink (mm_yn mi).cls idx ⟨"java/lang/Float", "floatToRawIntBits", "(F)I"⟩) && decide ((mm_yn mi).cls = "java/lang/Float")
  | [6] => (match ins with | .invokestatic _ => true | _ => false) && mm_tA (mm_a0 0 aux) (.methodLink (mm_yn mi).cls idx ⟨"java/lang/Double", "doubleToRawLongBits", "(D)J"⟩) && decide ((mm_yn mi).cls = "java/lang/Double")
  | [7] => (match ins with | .invokespecial _ => true | _ => false) && mm_tA (mm_a0 0 aux) (.methodLink (mm_yn mi).cls idx Lib.objectInit)
  | _ => false
def mm_inc1 : List (Int × Int) → Bool
  | (a, _) :: (b, o) :: r => decide (a < b) && mm_inc1 ((b, o) :: r)
  | _ => true
def mm_ck (mi ip : Nat) (ins : Instr) (pc : Nat) (x : List Nat) (v : Value) (aux : List Nat) : Bool := match ins with
  | .iload_n k => Nat.beq (mm_x0 x) k.val && mm_d mi ip ins pc 1
  | .lload_n k => Nat.beq (mm_x0 x) k.val && mm_d mi ip ins pc 1
  | .aload_n k => Nat.beq (mm_x0 x) k.val && mm_d mi ip ins pc 1
  | .fload_n k => Nat.beq (mm_x0 x) k.val && mm_d mi ip ins pc 1
  | .dload_n k => Nat.beq (mm_x0 x) k.val && mm_d mi ip ins pc 1
  | .iload k => Nat.beq (mm_x0 x) k && mm_d mi ip ins pc 2
  | .lload k => Nat.beq (mm_x0 x) k && mm_d mi ip ins pc 2
  | .aload k => Nat.beq (mm_x0 x) k && mm_d mi ip ins pc 2
  | .istore_n k => Nat.beq (mm_x0 x) k.val && mm_d mi ip ins pc 1 && Nat.blt (mm_x0 x) (mm_ml mi)
  | .astore_n k => Nat.beq (mm_x0 x) k.val && mm_d mi ip ins pc 1 && Nat.blt (mm_x0 x) (mm_ml mi)
  | .fstore_n k => Nat.beq (mm_x0 x) k.val && mm_d mi ip ins pc 1 && Nat.blt (mm_x0 x) (mm_ml mi)
  | .lstore_n k => Nat.beq (mm_x0 x) k.val && mm_d mi ip ins pc 1 && Nat.blt (mm_x0 x + 1) (mm_ml mi)
  | .dstore_n k => Nat.beq (mm_x0 x) k.val && mm_d mi ip ins pc 1 && Nat.blt (mm_x0 x + 1) (mm_ml mi)
  | .istore k => Nat.beq (mm_x0 x) k && mm_d mi ip ins pc 2 && Nat.blt (mm_x0 x) (mm_ml mi)
  | .lstore k => Nat.beq (mm_x0 x) k && mm_d mi ip ins pc 2 && Nat.blt (mm_x0 x + 1) (mm_ml mi)
  | .iinc k n => Nat.beq (mm_x0 x) k && decide (v = .int (Int32.ofInt n)) && mm_d mi ip ins pc 3 && Nat.blt (mm_x0 x) (mm_ml mi)
  | .iconst n => decide (v = .int (Int32.ofInt n)) && mm_d mi ip ins pc 1
  | .bipush n => decide (v = .int (Int8.ofInt n).toInt32) && mm_d mi ip ins pc 2
  | .sipush n => decide (v = .int (Int16.ofInt n).toInt32) && mm_d mi ip ins pc 3
  | .lconst n => decide (v = .long (Int64.ofNat (n : Nat))) && mm_d mi ip ins pc 1
  | .fconst n => (decide (n = 0) && decide (v = .float FP.fconst0)) && mm_d mi ip ins pc 1
  | .dconst n => ((decide (n = 0) && decide (v = .double FP.dconst0)) || (decide (n = 1) && decide (v = .double FP.dconst1))) && mm_d mi ip ins pc 1
  | .ldc i => (match v with
    | .int k => mm_tA (mm_a0 0 aux) (.constant (mm_yn mi).cls i k)
    | .ref k => Nat.beq k 2 && Nat.beq i 143 && decide ((mm_yn mi).cls = "TermDrawModel")
    | _ => false) && mm_d mi ip ins pc 2
  | .ldc_w i => (match v with
    | .int k => mm_tA (mm_a0 0 aux) (.constant (mm_yn mi).cls i k)
    | _ => false) && mm_d mi ip ins pc 3
  | .ldc2_w i => (match v with
    | .long k => mm_tA (mm_a0 0 aux) (.constantLong (mm_yn mi).cls i k)
    | .double k => mm_tA (mm_a0 0 aux) (.constantDouble (mm_yn mi).cls i k)
    | _ => false) && mm_d mi ip ins pc 3
  | .goto off => mm_d mi ip ins pc 3 && mm_tg mi pc (mm_x0 x) off
  | .ifnonnull off => mm_d mi ip ins pc 3 && mm_tg mi pc (mm_x0 x) off
  | .ifCond _ off => mm_d mi ip ins pc 3 && mm_tg mi pc (mm_x0 x) off
  | .if_icmp _ off => mm_d mi ip ins pc 3 && mm_tg mi pc (mm_x0 x) off
  | .lcmp => decide (decode (mm_yb mi) pc = .ok (.lcmp, 1)) && (match decode (mm_yb mi) (pc + 1), x with
    | .ok (.ifCond c off, 3), [k, t] => Nat.beq (mm_cc c) k && mm_tg mi (pc + 1) t off && mm_po mi (ip + 1) (pc + 4)
    | _, _ => false)
  | .tableswitch d lo hi offs => (match decode (mm_yb mi) pc with
    | .ok (ins2, l) => decide (ins2 = ins)
    | _ => false) && mm_tgs mi pc x (d :: offs.toList) && decide (hi = lo + offs.size - 1) && decide (-2147483648 ≤ lo) && decide (hi < 2147483648)
  | .lookupswitch d ps => (match decode (mm_yb mi) pc with
    | .ok (ins2, l) => decide (ins2 = ins)
    | _ => false) && mm_tgs mi pc x (d :: ps.toList.map (fun q => q.2)) && (ps.toList.zip (ps.toList.drop 1)).all (fun (a, next) => a.1 < next.1) && ps.toList.all (fun q => decide (-2147483648 ≤ q.1) && decide (q.1 < 2147483648))
  | .getfield i => mm_d mi ip ins pc 3 && (match x with
    | k :: ty :: ks => ks.all (fun ci => mm_ckF (mm_yn mi).cls i k ty (mm_a0 0 aux) (mm_a0 1 aux) ci)
    | _ => false)
  | .putfield i => mm_d mi ip ins pc 3 && (match x with
    | k :: ty :: fin :: ks => ks.all (fun ci => mm_ckF (mm_yn mi).cls i k ty (mm_a0 0 aux) 0 ci && ((Nat.beq fin 0 && !(mm_fin ci k)) || (Nat.beq fin 1 && mm_fin ci k && decide ((mm_yn mi).name = "<init>") && decide (mm_dcl ci k = (mm_yn mi).cls))))
    | _ => false)
  | .new i => mm_d mi ip ins pc 3 && (match x with
    | [ci, n] => (match mm_cl[ci]? with
      | some (C, T, N) => Nat.beq n N && mm_tA (mm_a0 0 aux) (.classLink (mm_yn mi).cls i C) && mm_tA (mm_a0 1 aux) (.instantiable C N) && mm_tA (mm_a0 2 aux) (.initialized C) && Nat.blt ci 12
      | none => false)
    | _ => false)
  | .newarray at' => mm_d mi ip ins pc 2 && (match at', x with
    | .int, [12] => true
    | .long, [13] => true
    | .boolean, [14] => true
    | _, _ => false)
  | .anewarray i => mm_d mi ip ins pc 3 && mm_tA (mm_a0 0 aux) (.classLink (mm_yn mi).cls i "TermDraw$Told")
  | .invokestatic i => mm_ckV mi ip ins i pc x aux
  | .invokevirtual i => mm_ckV mi ip ins i pc x aux
  | .invokespecial i => mm_ckV mi ip ins i pc x aux
  | .ireturn => decide (decode (mm_yb mi) pc = .ok (ins, 1)) && (match x with
    | [1] => decide (mm_yr mi = some .int)
    | [3] => decide (mm_yr mi = some .boolean)
    | _ => false)
  | .lreturn => decide (decode (mm_yb mi) pc = .ok (ins, 1)) && (match x with
    | [2] => decide (mm_yr mi = some .long)
    | _ => false)
  | .areturn => decide (decode (mm_yb mi) pc = .ok (ins, 1)) && (match x with
    | [4] => (match mm_yr mi with
      | some (.object _) => true
      | some (.array _) => true
      | _ => false)
    | _ => false)
  | .return_ => decide (decode (mm_yb mi) pc = .ok (ins, 1)) && (match x with
    | [0] => decide (mm_yr mi = none)
    | _ => false)
  | _ => mm_d mi ip ins pc 1
def mm_ckL (mi : Nat) : Nat → List mm_Ins → List (List Nat) → Bool
  | _, [], [] => true
  | ip, (ins, pc, x, v) :: r, a :: as => mm_ck mi ip ins pc x v a && mm_ckL mi (ip + 1) r as
  | _, _, _ => false
/-- a method's check: its instructions, and that the first stands at 0 -/
def mm_ckM (mi : Nat) (aux : List (List Nat)) : Bool := match mm_lg mm_K mi with
  | some q => mm_ckL mi 0 q.2 aux && mm_po mi 0 0 && Nat.ble q.1 40
  | none => true
def mm_lt : Nat → List (List Nat) → List (List Nat)
  | 0, _ => []
  | _, [] => []
  | n + 1, a :: r => a :: mm_lt n r
def mm_ld : Nat → List (List Nat) → List (List Nat)
  | 0, l => l
  | _, [] => []
  | n + 1, _ :: r => mm_ld n r
def mm_kt : Nat → List mm_Ins → List mm_Ins
  | 0, _ => []
  | _, [] => []
  | n + 1, a :: r => a :: mm_kt n r
def mm_kdr : Nat → List mm_Ins → List mm_Ins
  | 0, l => l
  | _, [] => []
  | n + 1, _ :: r => mm_kdr n r
/-- the check of 40 instructions from i on -/
def mm_ckD (mi i : Nat) (aux : List (List Nat)) : Bool := match mm_lg mm_K mi with
  | some q => mm_ckL mi i (mm_kt 40 (mm_kdr i q.2)) (mm_lt 40 (mm_ld i aux)) && Nat.beq q.2.length aux.length
  | none => true
theorem mm_ckL_at {mi : Nat} : ∀ (l : List mm_Ins) (as : List (List Nat)) (ip : Nat), mm_ckL mi ip l as = true → ∀ j q, mm_lg l j = some q → ∃ a, mm_ck mi (ip + j) q.1 q.2.1 q.2.2.1 q.2.2.2 a = true := by
  intro l
  induction l with
  | nil => intro as ip h j q hj; simp [mm_lg] at hj
  | cons a r ih =>
    intro as ip h j q hj
    cases as with
    | nil => obtain ⟨_, _, _, _⟩ := a; simp [mm_ckL] at h
    | cons b bs =>
      obtain ⟨ins, pc, x, v⟩ := a
      simp only [mm_ckL, Bool.and_eq_true] at h
      cases j with
      | zero => simp [mm_lg] at hj; subst hj; exact ⟨b, h.1⟩
      | succ j =>
        obtain ⟨a, ha⟩ := ih bs (ip + 1) h.2 j q hj
        exact ⟨a, by rw [show ip + (j + 1) = ip + 1 + j by omega]; exact ha⟩
theorem mm_kt_lg : ∀ (n j : Nat) (l : List mm_Ins) (q : mm_Ins), j < n → mm_lg l j = some q → mm_lg (mm_kt n l) j = some q := by
  intro n
  induction n with
  | zero => intro j l q h; omega
  | succ n ih =>
    intro j l q h hq
    cases l with
    | nil => simp [mm_lg] at hq
    | cons a r =>
      cases j with
      | zero => exact hq
      | succ j => exact ih j r q (by omega) hq
theorem mm_kdr_lg : ∀ (n j : Nat) (l : List mm_Ins), mm_lg (mm_kdr n l) j = mm_lg l (n + j) := by
  intro n
  induction n with
  | zero => intro j l; simp [mm_kdr]
  | succ n ih =>
    intro j l
    cases l with
    | nil => simp [mm_kdr, mm_lg]
    | cons a r => rw [show n + 1 + j = (n + j) + 1 by omega]; exact ih j r
theorem mm_ckD_at {mi i : Nat} {aux : List (List Nat)} (h : mm_ckD mi i aux = true) {ip : Nat} {q : mm_Ins} (hq : mm_at mi ip = some q) (h1 : i ≤ ip) (h2 : ip < i + 40) : ∃ a, mm_ck mi ip q.1 q.2.1 q.2.2.1 q.2.2.2 a = true := by
  unfold mm_ckD at h
  unfold mm_at at hq
  cases hk : mm_lg mm_K mi with
  | none => rw [hk] at hq; cases hq
  | some k =>
    rw [hk] at hq h
    simp only [Bool.and_eq_true] at h
    have e : mm_lg (mm_kt 40 (mm_kdr i k.2)) (ip - i) = some q := mm_kt_lg _ _ _ _ (by omega) (by rw [mm_kdr_lg, show i + (ip - i) = ip by omega]; exact hq)
    have := mm_ckL_at _ _ _ h.1 _ _ e
    rwa [show i + (ip - i) = ip by omega] at this
theorem mm_ckM_at {mi : Nat} {aux : List (List Nat)} (h : mm_ckM mi aux = true) {ip : Nat} {q : mm_Ins} (hq : mm_at mi ip = some q) : ∃ a, mm_ck mi ip q.1 q.2.1 q.2.2.1 q.2.2.2 a = true := by
  unfold mm_ckM at h
  unfold mm_at at hq
  cases hk : mm_lg mm_K mi with
  | none => rw [hk] at hq; cases hq
  | some k =>
    rw [hk] at hq h
    simp only [Bool.and_eq_true] at h
    have := mm_ckL_at _ _ _ h.1.1 _ _ hq
    rwa [Nat.zero_add] at this
theorem mm_lg_len {α : Type} : ∀ (l : List α) (j : Nat) (q : α), mm_lg l j = some q → j < l.length := by
  intro l
  induction l with
  | nil => intro j q h; simp [mm_lg] at h
  | cons a r ih =>
    intro j q h
    cases j with
    | zero => simp
    | succ j => have := ih j q h; simp; omega
