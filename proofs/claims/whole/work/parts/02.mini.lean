/-! a small machine: the part of the bytecode that this program uses, over a heap of typed rows; what it does is proved of the machine in part 04 -/
abbrev mm_Lv : Type := List (Option Value)
/-- how many cells (from 3 on; 1 the script, 2 the text), how many slots; each cell's kind and length; its ints, longs, references (0: null) -/
abbrev mm_H : Type := Nat × Nat × (Nat → Nat × Nat) × (Nat → Nat → Int32) × (Nat → Nat → Int64) × (Nat → Nat → Nat)
def hN (h : mm_H) : Nat := h.1
def hM (h : mm_H) : Nat := h.2.1
def hK (h : mm_H) (a : Nat) : Nat × Nat := h.2.2.1 a
def hI (h : mm_H) (a k : Nat) : Int32 := h.2.2.2.1 a k
def hL (h : mm_H) (a k : Nat) : Int64 := h.2.2.2.2.1 a k
def hR (h : mm_H) (a k : Nat) : Nat := h.2.2.2.2.2 a k
def sI (h : mm_H) (a k : Nat) (v : Int32) : mm_H := (h.1, h.2.1, h.2.2.1, (fun b j => if b = a ∧ j = k then v else h.2.2.2.1 b j), h.2.2.2.2.1, h.2.2.2.2.2)
def sL (h : mm_H) (a k : Nat) (v : Int64) : mm_H := (h.1, h.2.1, h.2.2.1, h.2.2.2.1, (fun b j => if b = a ∧ j = k then v else h.2.2.2.2.1 b j), h.2.2.2.2.2)
def sR (h : mm_H) (a k : Nat) (v : Nat) : mm_H := (h.1, h.2.1, h.2.2.1, h.2.2.2.1, h.2.2.2.2.1, (fun b j => if b = a ∧ j = k then v else h.2.2.2.2.2 b j))
def hA (h : mm_H) (kd n : Nat) : mm_H := (h.1 + 1, h.2.1 + n, (fun b => if b = h.1 then (kd, n) else h.2.2.1 b), (fun b j => if b = h.1 then 0 else h.2.2.2.1 b j), (fun b j => if b = h.1 then 0 else h.2.2.2.2.1 b j), (fun b j => if b = h.1 then 0 else h.2.2.2.2.2 b j))
def mm_lg {α : Type} : List α → Nat → Option α
  | [], _ => none
  | v :: _, 0 => some v
  | _ :: r, k + 1 => mm_lg r k
def mm_put (v : Option Value) : mm_Lv → Nat → mm_Lv
  | [], _ => []
  | _ :: r, 0 => v :: r
  | w :: r, k + 1 => w :: mm_put v r k
def mm_is2 : Option Value → Bool
  | some (.long _) => true
  | some (.double _) => true
  | _ => false
/-- what a store at k leaves of the locals: the long ahead of it is gone, and what stands in its second half -/
def mm_cut (two : Bool) : mm_Lv → Nat → mm_Lv
  | L, 0 => L
  | w :: r, 1 => (if mm_is2 w then none else w) :: r
  | w :: r, k + 1 => w :: mm_cut two r k
  | [], _ => []
def mm_st (L : mm_Lv) (k : Nat) (v : Value) : mm_Lv :=
  let M := mm_put (some v) (mm_cut true L k) k
  if mm_is2 (some v) then mm_put none M (k + 1) else M
def mm_ca : Value → Nat
  | .long _ => 2
  | .double _ => 2
  | _ => 1
def mm_cs : List Value → Nat
  | [] => 0
  | v :: r => mm_ca v + mm_cs r
def mm_pad : List (Option Value) → Nat → mm_Lv
  | _, 0 => []
  | [], n + 1 => none :: mm_pad [] n
  | w :: r, n + 1 => w :: mm_pad r n
def mm_en : List Value → mm_Lv
  | [] => []
  | v :: r => if mm_is2 (some v) then some v :: none :: mm_en r else some v :: mm_en r
def mm_tk : Nat → List Value → List Value
  | 0, _ => []
  | _, [] => []
  | n + 1, v :: r => v :: mm_tk n r
def mm_dr : Nat → List Value → List Value
  | 0, l => l
  | _, [] => []
  | n + 1, _ :: r => mm_dr n r
def mm_rv : List Value → List Value → List Value
  | [], a => a
  | v :: r, a => mm_rv r (v :: a)
abbrev mm_Nx : Type := Nat × mm_Lv × List Value × mm_H
/-- what an instruction does: goes on (under a guard), branches, switches, calls, returns -/
abbrev mm_Out : Type := Option ((Option Prop × mm_Nx) ⊕ (Prop × Nat × Nat × mm_Lv × List Value × mm_H) ⊕ (List (Int32 × Nat) × Nat × Int32 × mm_Lv × List Value × mm_H) ⊕ (Option Prop × Nat × List Value × List Value) ⊕ (Option Prop × Option Value))
def mm_go (ip : Nat) (L : mm_Lv) (st : List Value) (h : mm_H) : mm_Out := some (.inl (none, ip, L, st, h))
def mm_gg (g : Prop) (ip : Nat) (L : mm_Lv) (st : List Value) (h : mm_H) : mm_Out := some (.inl (some g, ip, L, st, h))
def mm_br (c : Prop) (t f : Nat) (L : mm_Lv) (st : List Value) (h : mm_H) : mm_Out := some (.inr (.inl (c, t, f, L, st, h)))
def mm_sw (cs : List (Int32 × Nat)) (d : Nat) (x : Int32) (L : mm_Lv) (st : List Value) (h : mm_H) : mm_Out := some (.inr (.inr (.inl (cs, d, x, L, st, h))))
def mm_cl2 (g : Option Prop) (m : Nat) (as rest : List Value) : mm_Out := some (.inr (.inr (.inr (.inl (g, m, as, rest)))))
def mm_rt (g : Option Prop) (v : Option Value) : mm_Out := some (.inr (.inr (.inr (.inr (g, v)))))
/-- the kinds that a receiver may have -/
def mm_kd (k : Nat) : List Nat → Prop
  | [] => False
  | [c] => k = c
  | c :: r => k = c ∨ mm_kd k r
def mm_x0 : List Nat → Nat
  | [] => 0
  | k :: _ => k
def mm_ldI (x : List Nat) (ip : Nat) (L : mm_Lv) (st : List Value) (h : mm_H) : mm_Out := match mm_lg L (mm_x0 x) with
  | some (some (.int v)) => mm_go (ip + 1) L (.int v :: st) h
  | _ => none
def mm_ldL (x : List Nat) (ip : Nat) (L : mm_Lv) (st : List Value) (h : mm_H) : mm_Out := match mm_lg L (mm_x0 x) with
  | some (some (.long v)) => mm_go (ip + 1) L (.long v :: st) h
  | _ => none
def mm_ldA (x : List Nat) (ip : Nat) (L : mm_Lv) (st : List Value) (h : mm_H) : mm_Out := match mm_lg L (mm_x0 x) with
  | some (some (.ref v)) => mm_go (ip + 1) L (.ref v :: st) h
  | _ => none
def mm_ldF (x : List Nat) (ip : Nat) (L : mm_Lv) (st : List Value) (h : mm_H) : mm_Out := match mm_lg L (mm_x0 x) with
  | some (some (.float v)) => mm_go (ip + 1) L (.float v :: st) h
  | _ => none
def mm_ldD (x : List Nat) (ip : Nat) (L : mm_Lv) (st : List Value) (h : mm_H) : mm_Out := match mm_lg L (mm_x0 x) with
  | some (some (.double v)) => mm_go (ip + 1) L (.double v :: st) h
  | _ => none
def mm_stI (x : List Nat) (ip : Nat) (L : mm_Lv) (st : List Value) (h : mm_H) : mm_Out := match st with
  | .int v :: r => mm_go (ip + 1) (mm_st L (mm_x0 x) (.int v)) r h
  | _ => none
def mm_stL (x : List Nat) (ip : Nat) (L : mm_Lv) (st : List Value) (h : mm_H) : mm_Out := match st with
  | .long v :: r => mm_go (ip + 1) (mm_st L (mm_x0 x) (.long v)) r h
  | _ => none
def mm_stA (x : List Nat) (ip : Nat) (L : mm_Lv) (st : List Value) (h : mm_H) : mm_Out := match st with
  | .ref v :: r => mm_go (ip + 1) (mm_st L (mm_x0 x) (.ref v)) r h
  | _ => none
def mm_stF (x : List Nat) (ip : Nat) (L : mm_Lv) (st : List Value) (h : mm_H) : mm_Out := match st with
  | .float v :: r => mm_go (ip + 1) (mm_st L (mm_x0 x) (.float v)) r h
  | _ => none
def mm_stD (x : List Nat) (ip : Nat) (L : mm_Lv) (st : List Value) (h : mm_H) : mm_Out := match st with
  | .double v :: r => mm_go (ip + 1) (mm_st L (mm_x0 x) (.double v)) r h
  | _ => none
def mm_inc (x : List Nat) (v : Value) (ip : Nat) (L : mm_Lv) (st : List Value) (h : mm_H) : mm_Out := match v with
  | .int n => match mm_lg L (mm_x0 x) with
    | some (some (.int w)) => mm_go (ip + 1) (mm_st L (mm_x0 x) (.int (w + n))) st h
    | _ => none
  | _ => none
def mm_bI (f : Int32 → Int32 → Int32) (ip : Nat) (L : mm_Lv) (st : List Value) (h : mm_H) : mm_Out := match st with
  | .int y :: .int x :: r => mm_go (ip + 1) L (.int (f x y) :: r) h
  | _ => none
def mm_bL (f : Int64 → Int64 → Int64) (ip : Nat) (L : mm_Lv) (st : List Value) (h : mm_H) : mm_Out := match st with
  | .long y :: .long x :: r => mm_go (ip + 1) L (.long (f x y) :: r) h
  | _ => none
def mm_dL (f : Int64 → Int64 → Int64) (ip : Nat) (L : mm_Lv) (st : List Value) (h : mm_H) : mm_Out := match st with
  | .long y :: .long x :: r => mm_gg (¬ y = 0) (ip + 1) L (.long (f x y) :: r) h
  | _ => none
def mm_dI (f : Int32 → Int32 → Int32) (ip : Nat) (L : mm_Lv) (st : List Value) (h : mm_H) : mm_Out := match st with
  | .int y :: .int x :: r => mm_gg (¬ y = 0) (ip + 1) L (.int (f x y) :: r) h
  | _ => none
def mm_sL (f : Int64 → Int32 → Int64) (ip : Nat) (L : mm_Lv) (st : List Value) (h : mm_H) : mm_Out := match st with
  | .int y :: .long x :: r => mm_go (ip + 1) L (.long (f x y) :: r) h
  | _ => none
def mm_uI (f : Int32 → Value) (ip : Nat) (L : mm_Lv) (st : List Value) (h : mm_H) : mm_Out := match st with
  | .int x :: r => mm_go (ip + 1) L (f x :: r) h
  | _ => none
def mm_uL (f : Int64 → Value) (ip : Nat) (L : mm_Lv) (st : List Value) (h : mm_H) : mm_Out := match st with
  | .long x :: r => mm_go (ip + 1) L (f x :: r) h
  | _ => none
def mm_uD (f : UInt64 → Value) (ip : Nat) (L : mm_Lv) (st : List Value) (h : mm_H) : mm_Out := match st with
  | .double x :: r => mm_go (ip + 1) L (f x :: r) h
  | _ => none
def mm_bD (f : UInt64 → UInt64 → UInt64) (ip : Nat) (L : mm_Lv) (st : List Value) (h : mm_H) : mm_Out := match st with
  | .double y :: .double x :: r => mm_gg (vf_n64 (f x y)) (ip + 1) L (.double (f x y) :: r) h
  | _ => none
def mm_if (c : Int32 → Prop) (x : List Nat) (ip : Nat) (L : mm_Lv) (st : List Value) (h : mm_H) : mm_Out := match st with
  | .int v :: r => mm_br (c v) (mm_x0 x) (ip + 1) L r h
  | _ => none
def mm_ic (c : Int32 → Int32 → Prop) (x : List Nat) (ip : Nat) (L : mm_Lv) (st : List Value) (h : mm_H) : mm_Out := match st with
  | .int y :: .int v :: r => mm_br (c v y) (mm_x0 x) (ip + 1) L r h
  | _ => none
def mm_lc (c : Int64 → Int64 → Prop) (t : Nat) (ip : Nat) (L : mm_Lv) (st : List Value) (h : mm_H) : mm_Out := match st with
  | .long y :: .long v :: r => mm_br (c v y) t (ip + 1) L r h
  | _ => none
def mm_swl (lo : Int) : List Nat → List (Int32 × Nat)
  | [] => []
  | t :: r => (Int32.ofInt lo, t) :: mm_swl (lo + 1) r
def mm_lkl : List (Int × Int) → List Nat → List (Int32 × Nat)
  | p :: q, t :: r => (Int32.ofInt p.1, t) :: mm_lkl q r
  | _, _ => []
def mm_tl : List Nat → List Nat
  | [] => []
  | _ :: r => r
def mm_swi (cs : List (Int32 × Nat)) (x : List Nat) (L : mm_Lv) (st : List Value) (h : mm_H) : mm_Out := match st with
  | .int v :: r => mm_sw cs (mm_x0 x) v L r h
  | _ => none
def mm_get (x : List Nat) (ip : Nat) (L : mm_Lv) (st : List Value) (h : mm_H) : mm_Out := match x, st with
  | k :: ty :: ks, .ref a :: r => match ty with
    | 1 => mm_gg (mm_kd (hK h a).1 ks) (ip + 1) L (.long (hL h a k) :: r) h
    | 2 => mm_gg (mm_kd (hK h a).1 ks ∧ ¬ hR h a k = 0) (ip + 1) L (.ref (hR h a k) :: r) h
    | _ => mm_gg (mm_kd (hK h a).1 ks) (ip + 1) L (.int (hI h a k) :: r) h
  | _, _ => none
def mm_set (x : List Nat) (ip : Nat) (L : mm_Lv) (st : List Value) (h : mm_H) : mm_Out := match x, st with
  | k :: ty :: _ :: ks, .long v :: .ref a :: r => match ty with
    | 1 => mm_gg (mm_kd (hK h a).1 ks) (ip + 1) L r (sL h a k v)
    | _ => none
  | k :: ty :: _ :: ks, .ref v :: .ref a :: r => match ty with
    | 2 => mm_gg (mm_kd (hK h a).1 ks ∧ ¬ v = 0) (ip + 1) L r (sR h a k v)
    | _ => none
  | k :: ty :: _ :: ks, .int v :: .ref a :: r => match ty with
    | 0 => mm_gg (mm_kd (hK h a).1 ks) (ip + 1) L r (sI h a k v)
    | 3 => mm_gg (mm_kd (hK h a).1 ks ∧ (v = 0 ∨ v = 1)) (ip + 1) L r (sI h a k v)
    | _ => none
  | _, _ => none
def mm_ix (h : mm_H) (a kd : Nat) (i : Int32) : Prop := (hK h a).1 = kd ∧ vp_in i (hK h a).2
def mm_ia (kd : Nat) (ip : Nat) (L : mm_Lv) (st : List Value) (h : mm_H) : mm_Out := match st with
  | .int i :: .ref a :: r => mm_gg (mm_ix h a kd i) (ip + 1) L (.int (hI h a i.toNatClampNeg) :: r) h
  | _ => none
def mm_la (ip : Nat) (L : mm_Lv) (st : List Value) (h : mm_H) : mm_Out := match st with
  | .int i :: .ref a :: r => mm_gg (mm_ix h a 13 i) (ip + 1) L (.long (hL h a i.toNatClampNeg) :: r) h
  | _ => none
def mm_aa (ip : Nat) (L : mm_Lv) (st : List Value) (h : mm_H) : mm_Out := match st with
  | .int i :: .ref a :: r => mm_gg (mm_ix h a 15 i ∧ ¬ hR h a i.toNatClampNeg = 0) (ip + 1) L (.ref (hR h a i.toNatClampNeg) :: r) h
  | _ => none
def mm_is (ip : Nat) (L : mm_Lv) (st : List Value) (h : mm_H) : mm_Out := match st with
  | .int v :: .int i :: .ref a :: r => mm_gg (mm_ix h a 12 i) (ip + 1) L r (sI h a i.toNatClampNeg v)
  | _ => none
def mm_bs (ip : Nat) (L : mm_Lv) (st : List Value) (h : mm_H) : mm_Out := match st with
  | .int v :: .int i :: .ref a :: r => mm_gg (mm_ix h a 14 i ∧ (v = 0 ∨ v = 1)) (ip + 1) L r (sI h a i.toNatClampNeg v)
  | _ => none
def mm_ls (ip : Nat) (L : mm_Lv) (st : List Value) (h : mm_H) : mm_Out := match st with
  | .long v :: .int i :: .ref a :: r => mm_gg (mm_ix h a 13 i) (ip + 1) L r (sL h a i.toNatClampNeg v)
  | _ => none
def mm_as (ip : Nat) (L : mm_Lv) (st : List Value) (h : mm_H) : mm_Out := match st with
  | .ref v :: .int i :: .ref a :: r => mm_gg (mm_ix h a 15 i ∧ (hK h v).1 = 9) (ip + 1) L r (sR h a i.toNatClampNeg v)
  | _ => none
def mm_len (ip : Nat) (L : mm_Lv) (st : List Value) (h : mm_H) : mm_Out := match st with
  | .ref a :: r => mm_gg (12 ≤ (hK h a).1 ∧ (hK h a).1 < 16) (ip + 1) L (.int (Int32.ofNat (hK h a).2) :: r) h
  | _ => none
/-- the script: its length, an int of it -/
def mm_xl (ip : Nat) (L : mm_Lv) (st : List Value) (h : mm_H) : mm_Out := match st with
  | .ref a :: r => mm_gg (a = 1) (ip + 1) L (.int (Int32.ofNat (hK h 1).2) :: r) h
  | _ => none
def mm_xa (ip : Nat) (L : mm_Lv) (st : List Value) (h : mm_H) : mm_Out := match st with
  | .int i :: .ref a :: r => mm_gg (a = 1 ∧ vp_in i (hK h 1).2) (ip + 1) L (.int (hI h 1 i.toNatClampNeg) :: r) h
  | _ => none
def mm_new (x : List Nat) (ip : Nat) (L : mm_Lv) (st : List Value) (h : mm_H) : mm_Out := match x with
  | [ci, n] => mm_go (ip + 1) L (.ref (hN h) :: st) (hA h ci n)
  | _ => none
def mm_na (kd : Nat) (ip : Nat) (L : mm_Lv) (st : List Value) (h : mm_H) : mm_Out := match st with
  | .int n :: r => mm_gg (vp_in n 100000) (ip + 1) L (.ref (hN h) :: r) (hA h kd n.toNatClampNeg)
  | _ => none
def mm_nn (x : List Nat) (ip : Nat) (L : mm_Lv) (st : List Value) (h : mm_H) : mm_Out := match st with
  | .ref _ :: r => mm_go (mm_x0 x) L r h
  | .null :: r => mm_go (ip + 1) L r h
  | _ => none
def mm_dup (ip : Nat) (L : mm_Lv) (st : List Value) (h : mm_H) : mm_Out := match st with
  | v :: r => if mm_ca v = 1 then mm_go (ip + 1) L (v :: v :: r) h else none
  | _ => none
def mm_pop (ip : Nat) (L : mm_Lv) (st : List Value) (h : mm_H) : mm_Out := match st with
  | v :: r => if mm_ca v = 1 then mm_go (ip + 1) L r h else none
  | _ => none
def mm_dup2 (ip : Nat) (L : mm_Lv) (st : List Value) (h : mm_H) : mm_Out := match st with
  | v :: r => if mm_ca v = 2 then mm_go (ip + 1) L (v :: v :: r) h else match r with
    | w :: r => if mm_ca w = 1 then mm_go (ip + 1) L (v :: w :: v :: w :: r) h else none
    | _ => none
  | _ => none
def mm_rec (h : mm_H) (ks : List Nat) : List Value → Option Prop
  | .ref a :: _ => some (mm_kd (hK h a).1 ks)
  | _ => some False
/-- "(a|n)*n" by its places -/
def mm_chr : Nat → Int32
  | 0 => 40
  | 1 => 97
  | 2 => 124
  | 3 => 110
  | 4 => 41
  | 5 => 42
  | _ => 110
def mm_ml (mi : Nat) : Nat := match mm_lg mm_K mi with
  | none => 0
  | some q => q.1
def mm_n (n : Nat) (st : List Value) : Bool := Nat.ble n st.length && Nat.ble (mm_cs (mm_dr n st)) 8
def mm_n2 (m n : Nat) (st : List Value) : Bool := Nat.ble (mm_cs (mm_rv (mm_tk n st) [])) (mm_ml m)
def mm_j4 (ip : Nat) (L : mm_Lv) (st : List Value) (h : mm_H) : mm_Out := match st with
  | .int i :: .ref 2 :: r => if Nat.ble (mm_cs r) 8 then mm_gg (vp_in i 7) (ip + 1) L (.int (mm_chr i.toNatClampNeg) :: r) h else none
  | _ => none
def mm_j5 (ip : Nat) (L : mm_Lv) (st : List Value) (h : mm_H) : mm_Out := match st with
  | .float v :: r => if Nat.ble (mm_cs r) 8 then mm_go (ip + 1) L (.int v.toInt32 :: r) h else none
  | _ => none
def mm_j6 (ip : Nat) (L : mm_Lv) (st : List Value) (h : mm_H) : mm_Out := match st with
  | .double v :: r => if Nat.ble (mm_cs r) 8 then mm_go (ip + 1) L (.long v.toInt64 :: r) h else none
  | _ => none
def mm_j7 (ip : Nat) (L : mm_Lv) (st : List Value) (h : mm_H) : mm_Out := match st with
  | .ref _ :: r => if Nat.ble (mm_cs r) 8 then mm_go (ip + 1) L r h else none
  | _ => none
def mm_cal (x : List Nat) (ip : Nat) (L : mm_Lv) (st : List Value) (h : mm_H) : mm_Out := match x with
  | [0, m, n] => if mm_n n st && mm_n2 m n st then mm_cl2 none m (mm_rv (mm_tk n st) []) (mm_dr n st) else none
  | 1 :: m :: n :: ks => if mm_n n st && mm_n2 m n st then mm_cl2 (mm_rec h ks (mm_rv (mm_tk n st) [])) m (mm_rv (mm_tk n st) []) (mm_dr n st) else none
  | 3 :: m :: n :: ks => if mm_n n st && mm_n2 m n st then mm_cl2 (mm_rec h ks (mm_rv (mm_tk n st) [])) m (mm_rv (mm_tk n st) []) (mm_dr n st) else none
  | 8 :: m :: n :: ks => if mm_n n st && mm_n2 m n st then mm_cl2 (mm_rec h ks (mm_rv (mm_tk n st) [])) m (mm_rv (mm_tk n st) []) (mm_dr n st) else none
  | [2, n, k1, m1, k2, m2] => if mm_n n st && (mm_n2 m1 n st && mm_n2 m2 n st) then match mm_rv (mm_tk n st) [] with
      | .ref a :: as => mm_cl2 (some (mm_kd (hK h a).1 [k1, k2])) (if (hK h a).1 = k1 then m1 else m2) (.ref a :: as) (mm_dr n st)
      | _ => none
    else none
  | [4] => mm_j4 ip L st h
  | [5] => mm_j5 ip L st h
  | [6] => mm_j6 ip L st h
  | [7] => mm_j7 ip L st h
  | _ => none
def mm_ret (x : List Nat) (st : List Value) : mm_Out := match x, st with
  | [0], [] => mm_rt none none
  | [1], [.int v] => mm_rt none (some (.int v))
  | [3], [.int v] => mm_rt (some (v = 0 ∨ v = 1)) (some (.int v))
  | [2], [.long v] => mm_rt none (some (.long v))
  | [4], [.ref v] => mm_rt none (some (.ref v))
  | _, _ => none
def mm_cn (v : Value) (ip : Nat) (L : mm_Lv) (st : List Value) (h : mm_H) : mm_Out := mm_go (ip + 1) L (v :: st) h
def mm_s1 (ins : Instr) (x : List Nat) (v : Value) (ip : Nat) (L : mm_Lv) (st : List Value) (h : mm_H) : mm_Out := match ins with
  | .iload_n _ => mm_ldI x ip L st h
  | .iload _ => mm_ldI x ip L st h
  | .lload_n _ => mm_ldL x ip L st h
  | .lload _ => mm_ldL x ip L st h
  | .aload_n _ => mm_ldA x ip L st h
  | .aload _ => mm_ldA x ip L st h
  | .fload_n _ => mm_ldF x ip L st h
  | .dload_n _ => mm_ldD x ip L st h
  | .istore_n _ => mm_stI x ip L st h
  | .istore _ => mm_stI x ip L st h
  | .lstore_n _ => mm_stL x ip L st h
  | .lstore _ => mm_stL x ip L st h
  | .astore_n _ => mm_stA x ip L st h
  | .fstore_n _ => mm_stF x ip L st h
  | .dstore_n _ => mm_stD x ip L st h
  | .iinc _ _ => mm_inc x v ip L st h
  | .iconst _ => mm_cn v ip L st h
  | .bipush _ => mm_cn v ip L st h
  | .sipush _ => mm_cn v ip L st h
  | .lconst _ => mm_cn v ip L st h
  | .fconst _ => mm_cn v ip L st h
  | .dconst _ => mm_cn v ip L st h
  | .ldc _ => mm_cn v ip L st h
  | .ldc_w _ => mm_cn v ip L st h
  | .ldc2_w _ => mm_cn v ip L st h
  | .aconst_null => mm_go (ip + 1) L (.null :: st) h
  | .iadd => mm_bI (fun a b => a + b) ip L st h
  | .isub => mm_bI (fun a b => a - b) ip L st h
  | .imul => mm_bI (fun a b => a * b) ip L st h
  | .iand => mm_bI (fun a b => a &&& b) ip L st h
  | .ior => mm_bI (fun a b => a ||| b) ip L st h
  | .irem => mm_dI (fun a b => a - a / b * b) ip L st h
  | .ishl => mm_bI (fun a b => a <<< (b &&& 31)) ip L st h
  | .ishr => mm_bI (fun a b => a >>> (b &&& 31)) ip L st h
  | .iushr => mm_bI (fun a b => (a.toUInt32 >>> (b.toUInt32 &&& Int32.toUInt32 31)).toInt32) ip L st h
  | .ladd => mm_bL (fun a b => a + b) ip L st h
  | .lsub => mm_bL (fun a b => a - b) ip L st h
  | .lmul => mm_bL (fun a b => a * b) ip L st h
  | .land => mm_bL (fun a b => a &&& b) ip L st h
  | .lor => mm_bL (fun a b => a ||| b) ip L st h
  | .lxor => mm_bL (fun a b => a ^^^ b) ip L st h
  | .ldiv => mm_dL (fun a b => a / b) ip L st h
  | .lrem => mm_dL (fun a b => a - a / b * b) ip L st h
  | .lshl => mm_sL (fun a b => a <<< (b.toInt64 &&& 63)) ip L st h
  | .lshr => mm_sL (fun a b => a >>> (b.toInt64 &&& 63)) ip L st h
  | .lushr => mm_sL (fun a b => (a.toUInt64 >>> (b.toInt64.toUInt64 &&& Int64.toUInt64 63)).toInt64) ip L st h
  | .lneg => mm_uL (fun a => .long (-a)) ip L st h
  | .i2l => mm_uI (fun a => .long a.toInt64) ip L st h
  | .l2i => mm_uL (fun a => .int a.toInt32) ip L st h
  | .l2f => mm_uL (fun a => .float (FP.l2f a)) ip L st h
  | .l2d => mm_uL (fun a => .double (FP.l2d a)) ip L st h
  | .d2l => mm_uD (fun a => .long (FP.d2l a)) ip L st h
  | .dneg => mm_uD (fun a => .double (FP.dneg a)) ip L st h
  | .dmul => mm_bD FP.dmul ip L st h
  | .ddiv => mm_bD FP.ddiv ip L st h
  | .drem => mm_bD FP.drem ip L st h
  | .f2d => match st with
    | .float a :: r => mm_gg (vf_n64 (FP.f2d a)) (ip + 1) L (.double (FP.f2d a) :: r) h
    | _ => none
  | .fdiv => match st with
    | .float b :: .float a :: r => mm_gg (vf_n32 (FP.fdiv a b)) (ip + 1) L (.float (FP.fdiv a b) :: r) h
    | _ => none
  | .fcmp op => match st with
    | .float b :: .float a :: r => mm_go (ip + 1) L (.int (Op.cmpValue (FP.fcmp a b) op) :: r) h
    | _ => none
  | .dcmp op => match st with
    | .double b :: .double a :: r => mm_go (ip + 1) L (.int (Op.cmpValue (FP.dcmp a b) op) :: r) h
    | _ => none
  | .dup => mm_dup ip L st h
  | .dup2 => mm_dup2 ip L st h
  | .pop => mm_pop ip L st h
  | .goto _ => mm_go (mm_x0 x) L st h
  | .ifnonnull _ => mm_nn x ip L st h
  | .ifCond c _ => match c with
    | .eq => mm_if (fun a => a = 0) x ip L st h
    | .ne => mm_if (fun a => ¬ a = 0) x ip L st h
    | .lt => mm_if (fun a => a < 0) x ip L st h
    | .ge => mm_if (fun a => 0 ≤ a) x ip L st h
    | .gt => mm_if (fun a => 0 < a) x ip L st h
    | .le => mm_if (fun a => a ≤ 0) x ip L st h
  | .if_icmp c _ => match c with
    | .eq => mm_ic (fun a b => a = b) x ip L st h
    | .ne => mm_ic (fun a b => ¬ a = b) x ip L st h
    | .lt => mm_ic (fun a b => a < b) x ip L st h
    | .ge => mm_ic (fun a b => b ≤ a) x ip L st h
    | .gt => mm_ic (fun a b => b < a) x ip L st h
    | .le => mm_ic (fun a b => a ≤ b) x ip L st h
  | .lcmp => match x with
    | [0, t] => mm_lc (fun a b => a = b) t ip L st h
    | [1, t] => mm_lc (fun a b => ¬ a = b) t ip L st h
    | [2, t] => mm_lc (fun a b => a < b) t ip L st h
    | [3, t] => mm_lc (fun a b => b ≤ a) t ip L st h
    | [4, t] => mm_lc (fun a b => b < a) t ip L st h
    | [5, t] => mm_lc (fun a b => a ≤ b) t ip L st h
    | _ => none
  | .tableswitch _ lo _ _ => mm_swi (mm_swl lo (mm_tl x)) x L st h
  | .lookupswitch _ ps => mm_swi (mm_lkl ps.toList (mm_tl x)) x L st h
  | .getfield _ => mm_get x ip L st h
  | .putfield _ => mm_set x ip L st h
  | .iaload => match x with
    | [20] => mm_xa ip L st h
    | _ => mm_ia 12 ip L st h
  | .baload => mm_ia 14 ip L st h
  | .laload => mm_la ip L st h
  | .aaload => mm_aa ip L st h
  | .iastore => mm_is ip L st h
  | .bastore => mm_bs ip L st h
  | .lastore => mm_ls ip L st h
  | .aastore => mm_as ip L st h
  | .arraylength => match x with
    | [20] => mm_xl ip L st h
    | _ => mm_len ip L st h
  | .new _ => mm_new x ip L st h
  | .newarray _ => mm_na (mm_x0 x) ip L st h
  | .anewarray _ => mm_na 15 ip L st h
  | .invokestatic _ => mm_cal x ip L st h
  | .invokevirtual _ => mm_cal x ip L st h
  | .invokespecial _ => mm_cal x ip L st h
  | .ireturn => mm_ret x st
  | .lreturn => mm_ret x st
  | .areturn => mm_ret x st
  | .return_ => mm_ret x st
  | _ => none
def mm_gd (g : Option Prop) (P : Prop) : Prop := match g with
  | none => P
  | some q => q ∧ P
def mm_swW (F : Nat → Prop) (x : Int32) : List (Int32 × Nat) → Nat → Prop
  | [], d => F d
  | (k, t) :: r, d => (x = k → F t) ∧ (¬ x = k → mm_swW F x r d)
abbrev mm_Q : Type := Option Value → mm_H → Prop
def mm_oW (o : mm_Out) (F : Nat → mm_Lv → List Value → mm_H → Prop) (G : Nat → List Value → mm_Q → Prop) (ip : Nat) (L : mm_Lv) (h : mm_H) (Q : mm_Q) : Prop := match o with
  | none => False
  | some (.inl (g, i, L', s', h')) => mm_gd g (F i L' s' h')
  | some (.inr (.inl (c, t, f, L', s', h'))) => (c → F t L' s' h') ∧ (¬ c → F f L' s' h')
  | some (.inr (.inr (.inl (cs, d, x, L', s', h')))) => mm_swW (fun t => F t L' s' h') x cs d
  | some (.inr (.inr (.inr (.inl (g, m, as, rest))))) => mm_gd g (G m as (fun r h1 => F (ip + 1) L (match r with | none => rest | some v => v :: rest) h1))
  | some (.inr (.inr (.inr (.inr (g, v))))) => mm_gd g (Q v h)
def mm_at (mi ip : Nat) : Option mm_Ins := match mm_lg mm_K mi with
  | none => none
  | some q => mm_lg q.2 ip
def mm_sW (F : Nat → mm_Lv → List Value → mm_H → Prop) (G : Nat → List Value → mm_H → mm_Q → Prop) (mi ip : Nat) (L : mm_Lv) (st : List Value) (h : mm_H) (Q : mm_Q) : Prop := match mm_at mi ip with
  | none => False
  | some (ins, _, x, v) => mm_oW (mm_s1 ins x v ip L st h) F (fun m as P => G m as h P) ip L h Q
def mm_cG (W : Nat → Nat → Nat → mm_Lv → List Value → mm_H → mm_Q → Prop) (d : Nat) (m : Nat) (as : List Value) (h : mm_H) (P : mm_Q) : Prop := match d with
  | 0 => False
  | d + 1 => W d m 0 (mm_pad (mm_en as) (mm_ml m)) [] h P
/-- from instruction ip of method mi, calls at most d deep, within n steps: it returns, and Q of what it answers -/
def mm_wp (n : Nat) : Nat → Nat → Nat → mm_Lv → List Value → mm_H → mm_Q → Prop :=
  Nat.rec (fun _ _ _ _ _ _ _ => False) (fun _ W d mi ip L st h Q => mm_sW (fun i L' s' h' => W d mi i L' s' h' Q) (mm_cG W d) mi ip L st h Q) n
/-- the same, within some number of steps -/
def mm_W (d mi ip : Nat) (L : mm_Lv) (st : List Value) (h : mm_H) (Q : mm_Q) : Prop := ∃ n, mm_wp n d mi ip L st h Q
/-- a method, called -/
def mm_C (d mi : Nat) (as : List Value) (h : mm_H) (Q : mm_Q) : Prop := mm_W d mi 0 (mm_pad (mm_en as) (mm_ml mi)) [] h Q
theorem mm_wp_s (n d mi ip : Nat) (L : mm_Lv) (st : List Value) (h : mm_H) (Q : mm_Q) : mm_wp (n + 1) d mi ip L st h Q = mm_sW (fun i L' s' h' => mm_wp n d mi i L' s' h' Q) (mm_cG (mm_wp n) d) mi ip L st h Q := rfl
theorem mm_gd_mono {g : Option Prop} {P P' : Prop} (f : P → P') (h : mm_gd g P) : mm_gd g P' := by
  cases g with
  | none => exact f h
  | some q => exact ⟨h.1, f h.2⟩
theorem mm_swW_mono {F F' : Nat → Prop} {x : Int32} (f : ∀ t, F t → F' t) : ∀ (cs : List (Int32 × Nat)) (d : Nat), mm_swW F x cs d → mm_swW F' x cs d
  | [], _, h => f _ h
  | (_, _) :: r, d, h => ⟨fun q => f _ (h.1 q), fun q => mm_swW_mono f r d (h.2 q)⟩
theorem mm_oW_mono {o : mm_Out} {F F' : Nat → mm_Lv → List Value → mm_H → Prop} {G G' : Nat → List Value → mm_Q → Prop} {ip : Nat} {L : mm_Lv} {h : mm_H} {Q Q' : mm_Q}
    (hF : ∀ i L s h, F i L s h → F' i L s h) (hG : ∀ m as P P', (∀ r h1, P r h1 → P' r h1) → G m as P → G' m as P') (hQ : ∀ r, Q r h → Q' r h) (H : mm_oW o F G ip L h Q) : mm_oW o F' G' ip L h Q' := by
  match o, H with
  | some (.inl (g, i, L', s', h')), H => exact mm_gd_mono (hF _ _ _ _) H
  | some (.inr (.inl (c, t, f, L', s', h'))), H => exact ⟨fun q => hF _ _ _ _ (H.1 q), fun q => hF _ _ _ _ (H.2 q)⟩
  | some (.inr (.inr (.inl (cs, d, x, L', s', h')))), H => exact mm_swW_mono (fun t => hF _ _ _ _) cs d H
  | some (.inr (.inr (.inr (.inl (g, m, as, rest))))), H => exact mm_gd_mono (hG _ _ _ _ (fun r h1 => hF _ _ _ _)) H
  | some (.inr (.inr (.inr (.inr (g, v))))), H => exact mm_gd_mono (hQ v) H
theorem mm_wp_mono : ∀ (n d mi ip : Nat) (L : mm_Lv) (st : List Value) (h : mm_H) (Q Q' : mm_Q), (∀ r h1, Q r h1 → Q' r h1) → mm_wp n d mi ip L st h Q → ∀ k e, n ≤ k → d ≤ e → mm_wp k e mi ip L st h Q' := by
  intro n
  induction n with
  | zero => intro d mi ip L st h Q Q' _ H; exact False.elim H
  | succ n ih =>
    intro d mi ip L st h Q Q' hQ H k e hk he
    obtain ⟨k, rfl⟩ : ∃ j, k = j + 1 := ⟨k - 1, by omega⟩
    rw [mm_wp_s] at H ⊢
    unfold mm_sW at H ⊢
    cases hc : mm_at mi ip with
    | none => rw [hc] at H; exact False.elim H
    | some q =>
      rw [hc] at H
      obtain ⟨ins, pc, x, v⟩ := q
      refine mm_oW_mono (fun i L s h H => ih _ _ _ _ _ _ _ _ hQ H _ _ (by omega) he) (fun m as P P' hP H => ?_) (fun r => hQ r h) H
      unfold mm_cG at H ⊢
      match d, e, he, H with
      | d + 1, e + 1, he, H => exact ih _ _ _ _ _ _ _ _ hP H _ _ (by omega) (by omega)
theorem mm_swW_det {F : Nat → Prop} {F' : Nat → Prop} {x : Int32} {C : Prop} (f : ∀ t, F t → (F' t → C) → C) : ∀ (cs : List (Int32 × Nat)) (d : Nat), mm_swW F x cs d → (mm_swW F' x cs d → C) → C
  | [], _, h, k => f _ h k
  | (a, _) :: r, d, h, k => by
    by_cases q : x = a
    · exact f _ (h.1 q) (fun z => k ⟨fun _ => z, fun n => absurd q n⟩)
    · exact mm_swW_det f r d (h.2 q) (fun z => k ⟨fun n => absurd n q, fun _ => z⟩)
/-- it answers one thing -/
theorem mm_wp_det : ∀ (n d mi ip : Nat) (L : mm_Lv) (st : List Value) (h : mm_H) (Q : mm_Q), mm_wp n d mi ip L st h Q → ∃ r h1, Q r h1 ∧ mm_wp n d mi ip L st h (fun r2 h2 => r2 = r ∧ h2 = h1) := by
  intro n
  induction n with
  | zero => intro d mi ip L st h Q H; exact False.elim H
  | succ n ih =>
    intro d mi ip L st h Q H
    simp only [mm_wp_s] at H ⊢
    unfold mm_sW at H ⊢
    cases hc : mm_at mi ip with
    | none => rw [hc] at H; exact False.elim H
    | some q =>
      rw [hc] at H
      obtain ⟨ins, pc, x, v⟩ := q
      show ∃ r h1, Q r h1 ∧ mm_oW (mm_s1 ins x v ip L st h) _ _ ip L h _
      change mm_oW (mm_s1 ins x v ip L st h) _ _ ip L h Q at H
      generalize mm_s1 ins x v ip L st h = o at H ⊢
      match o, H with
      | some (.inl (none, i, L', s', h')), H =>
        exact ih _ _ _ _ _ _ _ H
      | some (.inl (some g, i, L', s', h')), H =>
        obtain ⟨r, h1, q1, q2⟩ := ih _ _ _ _ _ _ _ H.2
        exact ⟨r, h1, q1, H.1, q2⟩
      | some (.inr (.inl (c, t, f, L', s', h'))), H =>
        by_cases hcc : c
        · obtain ⟨r, h1, q1, q2⟩ := ih _ _ _ _ _ _ _ (H.1 hcc)
          exact ⟨r, h1, q1, fun _ => q2, fun z => absurd hcc z⟩
        · obtain ⟨r, h1, q1, q2⟩ := ih _ _ _ _ _ _ _ (H.2 hcc)
          exact ⟨r, h1, q1, fun z => absurd z hcc, fun _ => q2⟩
      | some (.inr (.inr (.inl (cs, dd, x, L', s', h')))), H =>
        revert H
        show mm_swW _ x cs dd → ∃ r h1, Q r h1 ∧ mm_swW _ x cs dd
        intro H
        induction cs with
        | nil => exact ih _ _ _ _ _ _ _ H
        | cons a cs ihc =>
          obtain ⟨ka, ta⟩ := a
          by_cases q : x = ka
          · obtain ⟨r, h1, q1, q2⟩ := ih _ _ _ _ _ _ _ (H.1 q)
            exact ⟨r, h1, q1, fun _ => q2, fun z => absurd q z⟩
          · obtain ⟨r, h1, q1, q2⟩ := ihc (H.2 q)
            exact ⟨r, h1, q1, fun z => absurd z q, fun _ => q2⟩
      | some (.inr (.inr (.inr (.inl (g, m, as, rest))))), H =>
        have key : ∀ P : mm_Q, mm_cG (mm_wp n) d m as h P → ∃ r h1, P r h1 ∧ mm_cG (mm_wp n) d m as h (fun r2 h2 => r2 = r ∧ h2 = h1) := by
          intro P HP
          match d, HP with
          | d + 1, HP => exact ih _ _ _ _ _ _ _ HP
        have kmono : ∀ P P' : mm_Q, (∀ r h1, P r h1 → P' r h1) → mm_cG (mm_wp n) d m as h P → mm_cG (mm_wp n) d m as h P' := by
          intro P P' hP HP
          match d, HP with
          | d + 1, HP => exact mm_wp_mono _ _ _ _ _ _ _ _ _ hP HP _ _ (Nat.le_refl _) (Nat.le_refl _)
        have two : ∀ H2 : mm_cG (mm_wp n) d m as h (fun r h1 => mm_wp n d mi (ip + 1) L (match r with | none => rest | some v => v :: rest) h1 Q), ∃ r h1, Q r h1 ∧ mm_cG (mm_wp n) d m as h (fun r0 h0 => mm_wp n d mi (ip + 1) L (match r0 with | none => rest | some v => v :: rest) h0 (fun r2 h2 => r2 = r ∧ h2 = h1)) := by
          intro H2
          obtain ⟨r0, h0, p1, p2⟩ := key _ H2
          obtain ⟨r, h1, q1, q2⟩ := ih _ _ _ _ _ _ _ p1
          exact ⟨r, h1, q1, kmono _ _ (fun a b hab => by rw [hab.1, hab.2]; exact q2) p2⟩
        cases g with
        | none => exact two H
        | some g =>
          obtain ⟨r, h1, q1, q2⟩ := two H.2
          exact ⟨r, h1, q1, H.1, q2⟩
      | some (.inr (.inr (.inr (.inr (none, v))))), H => exact ⟨v, h, H, rfl, rfl⟩
      | some (.inr (.inr (.inr (.inr (some g, v))))), H => exact ⟨v, h, H.2, H.1, rfl, rfl⟩
/-- one step -/
theorem mm_W_step {d mi ip : Nat} {L : mm_Lv} {st : List Value} {h : mm_H} {Q : mm_Q} (H : mm_sW (fun i L' s' h' => mm_W d mi i L' s' h' Q) (mm_cG mm_W d) mi ip L st h Q) : mm_W d mi ip L st h Q := by
  have mono : ∀ {n k i : Nat} {L : mm_Lv} {st : List Value} {h : mm_H}, n ≤ k → mm_wp n d mi i L st h Q → mm_wp k d mi i L st h Q := fun hk hw => mm_wp_mono _ _ _ _ _ _ _ _ _ (fun _ _ z => z) hw _ _ hk (Nat.le_refl _)
  suffices ∃ n, mm_sW (fun i L' s' h' => mm_wp n d mi i L' s' h' Q) (mm_cG (mm_wp n) d) mi ip L st h Q by
    obtain ⟨n, hn⟩ := this
    exact ⟨n + 1, hn⟩
  unfold mm_sW at H ⊢
  cases hc : mm_at mi ip with
  | none => rw [hc] at H; exact False.elim H
  | some q =>
    rw [hc] at H
    obtain ⟨ins, pc, x, v⟩ := q
    show ∃ n, mm_oW (mm_s1 ins x v ip L st h) _ _ ip L h Q
    change mm_oW (mm_s1 ins x v ip L st h) _ _ ip L h Q at H
    generalize mm_s1 ins x v ip L st h = o at H ⊢
    match o, H with
    | some (.inl (none, i, L', s', h')), H => exact H
    | some (.inl (some g, i, L', s', h')), H =>
      obtain ⟨g, n, hn⟩ := H
      exact ⟨n, g, hn⟩
    | some (.inr (.inl (c, t, f, L', s', h'))), H =>
      by_cases hcc : c
      · obtain ⟨n, hn⟩ := H.1 hcc
        exact ⟨n, fun _ => hn, fun z => absurd hcc z⟩
      · obtain ⟨n, hn⟩ := H.2 hcc
        exact ⟨n, fun z => absurd z hcc, fun _ => hn⟩
    | some (.inr (.inr (.inl (cs, dd, x, L', s', h')))), H =>
      revert H
      show mm_swW _ x cs dd → ∃ n, mm_swW _ x cs dd
      intro H
      induction cs with
      | nil => exact H
      | cons a cs ihc =>
        obtain ⟨ka, ta⟩ := a
        by_cases q : x = ka
        · obtain ⟨n, hn⟩ := H.1 q
          exact ⟨n, fun _ => hn, fun z => absurd q z⟩
        · obtain ⟨n, hn⟩ := ihc (H.2 q)
          exact ⟨n, fun z => absurd z q, fun _ => hn⟩
    | some (.inr (.inr (.inr (.inl (g, m, as, rest))))), H =>
      have two : ∀ H2 : mm_cG mm_W d m as h (fun r h1 => mm_W d mi (ip + 1) L (match r with | none => rest | some v => v :: rest) h1 Q), ∃ n, mm_cG (mm_wp n) d m as h (fun r h1 => mm_wp n d mi (ip + 1) L (match r with | none => rest | some v => v :: rest) h1 Q) := by
        intro H2
        match d, H2 with
        | d + 1, H2 =>
          obtain ⟨n, hn⟩ := H2
          obtain ⟨r0, h0, ⟨k, hk⟩, p2⟩ := mm_wp_det _ _ _ _ _ _ _ _ hn
          exact ⟨max n k, mm_wp_mono _ _ _ _ _ _ _ _ _ (fun a b hab => by rw [hab.1, hab.2]; exact mm_wp_mono _ _ _ _ _ _ _ _ _ (fun _ _ z => z) hk _ _ (Nat.le_max_right _ _) (Nat.le_refl _)) p2 _ _ (Nat.le_max_left _ _) (Nat.le_refl _)⟩
      cases g with
      | none => exact two H
      | some g =>
        obtain ⟨n, hn⟩ := two H.2
        exact ⟨n, H.1, hn⟩
    | some (.inr (.inr (.inr (.inr (none, v))))), H => exact ⟨0, H⟩
    | some (.inr (.inr (.inr (.inr (some g, v))))), H => exact ⟨0, H⟩
theorem mm_W_mono {d e mi ip : Nat} {L : mm_Lv} {st : List Value} {h : mm_H} {Q Q' : mm_Q} (H : mm_W d mi ip L st h Q) (hd : d ≤ e) (hQ : ∀ r h1, Q r h1 → Q' r h1) : mm_W e mi ip L st h Q' := by
  obtain ⟨n, hn⟩ := H
  exact ⟨n, mm_wp_mono _ _ _ _ _ _ _ _ _ hQ hn _ _ (Nat.le_refl _) hd⟩
theorem mm_C_mono {d e mi : Nat} {as : List Value} {h : mm_H} {Q Q' : mm_Q} (H : mm_C d mi as h Q) (hd : d ≤ e) (hQ : ∀ r h1, Q r h1 → Q' r h1) : mm_C e mi as h Q' := mm_W_mono H hd hQ
/-- many steps at once: k at most, none through a place of 'cuts', calls by mm_C -/
def mm_x (cuts : List Nat) (d mi : Nat) (Q : mm_Q) (k : Nat) : Nat → mm_Lv → List Value → mm_H → Prop :=
  Nat.rec (fun i L s h => mm_W d mi i L s h Q) (fun _ F i L s h => bif List.elem i cuts then mm_W d mi i L s h Q else mm_sW F (mm_cG mm_W d) mi i L s h Q) k
theorem mm_cG_mono {W W' : Nat → Nat → Nat → mm_Lv → List Value → mm_H → mm_Q → Prop} {d m : Nat} {as : List Value} {h : mm_H} {P P' : mm_Q} (hW : ∀ d i L s h, W d m i L s h P → W' d m i L s h P') (H : mm_cG W d m as h P) : mm_cG W' d m as h P' := by
  unfold mm_cG at H ⊢
  match d, H with
  | d + 1, H => exact hW _ _ _ _ _ H
theorem mm_x_sound (cuts : List Nat) (d mi : Nat) (Q : mm_Q) : ∀ (k i : Nat) (L : mm_Lv) (s : List Value) (h : mm_H), mm_x cuts d mi Q k i L s h → mm_W d mi i L s h Q := by
  intro k
  induction k with
  | zero => intro i L s h H; exact H
  | succ k ih =>
    intro i L s h H
    have H : (bif List.elem i cuts then mm_W d mi i L s h Q else mm_sW (mm_x cuts d mi Q k) (mm_cG mm_W d) mi i L s h Q) := H
    cases hb : List.elem i cuts with
    | true => rw [hb] at H; exact H
    | false =>
      rw [hb] at H
      have H : mm_sW (mm_x cuts d mi Q k) (mm_cG mm_W d) mi i L s h Q := H
      refine mm_W_step ?_
      unfold mm_sW at H ⊢
      cases hc : mm_at mi i with
      | none => rw [hc] at H; exact False.elim H
      | some q =>
        rw [hc] at H
        obtain ⟨ins, pc, x, v⟩ := q
        exact mm_oW_mono (fun i L s h H => ih _ _ _ _ H) (fun m as P P' hP H => mm_cG_mono (fun d i L s h z => mm_W_mono z (Nat.le_refl _) hP) H) (fun r z => z) H
/-- from a place of the cuts: one step, then many -/
theorem mm_run (cuts : List Nat) (k : Nat) {d mi i : Nat} {L : mm_Lv} {s : List Value} {h : mm_H} {Q : mm_Q} (H : mm_sW (mm_x cuts d mi Q k) (mm_cG mm_W d) mi i L s h Q) : mm_W d mi i L s h Q := by
  refine mm_W_step ?_
  unfold mm_sW at H ⊢
  cases hc : mm_at mi i with
  | none => rw [hc] at H; exact False.elim H
  | some q =>
    rw [hc] at H
    obtain ⟨ins, pc, x, v⟩ := q
    exact mm_oW_mono (fun i L s h H => mm_x_sound _ _ _ _ _ _ _ _ _ H) (fun m as P P' hP H => mm_cG_mono (fun d i L s h z => mm_W_mono z (Nat.le_refl _) hP) H) (fun r z => z) H
