/-! the tape, read by blanks, words, other bytes -/
def isb (c : Int) : Prop := c = 32 ∨ c = 10
def isl (c : Int) : Prop := 97 ≤ c ∧ c ≤ 122
def skN (T : Int → Int) : Nat → Int → Int
  | 0, p => p
  | k + 1, p => if T p = 32 ∨ T p = 10 then skN T k (p + 1) else p
def ltN (T : Int → Int) : Nat → Int → Int
  | 0, p => p
  | k + 1, p => if 97 ≤ T p ∧ T p ≤ 122 then ltN T k (p + 1) else p
/-- to the next byte that is no blank; to the end of a word -/
def sk (T : Int → Int) (n p : Int) : Int := skN T (n - p).toNat p
def le_ (T : Int → Int) (n p : Int) : Int := ltN T (n - p).toNat p
def lets (T : Int → Int) (q : Int) (k : Nat) : List Int := (List.range k).map (fun i : Nat => T (q + (i : Int)) - 96)
theorem sk_out {T : Int → Int} {n p : Int} (h : n ≤ p) : sk T n p = p := by
  unfold sk
  rw [show (n - p).toNat = 0 by omega]
  rfl
theorem sk_in {T : Int → Int} {n p : Int} (h : p < n) : sk T n p = if T p = 32 ∨ T p = 10 then sk T n (p + 1) else p := by
  unfold sk
  rw [show (n - p).toNat = (n - (p + 1)).toNat + 1 by omega]
  rfl
theorem le_out {T : Int → Int} {n p : Int} (h : n ≤ p) : le_ T n p = p := by
  unfold le_
  rw [show (n - p).toNat = 0 by omega]
  rfl
theorem le_in {T : Int → Int} {n p : Int} (h : p < n) : le_ T n p = if 97 ≤ T p ∧ T p ≤ 122 then le_ T n (p + 1) else p := by
  unfold le_
  rw [show (n - p).toNat = (n - (p + 1)).toNat + 1 by omega]
  rfl
theorem sk_o {T : Int → Int} {n : Int} : ∀ (k : Nat) (p : Int), p ≤ n → (n - p).toNat = k → p ≤ sk T n p ∧ sk T n p ≤ n ∧ (sk T n p < n → ¬ (T (sk T n p) = 32 ∨ T (sk T n p) = 10)) ∧ sk T n (sk T n p) = sk T n p := by
  intro k
  induction k with
  | zero =>
    intro p h1 h2
    rw [sk_out (by omega), sk_out (by omega)]
    exact ⟨by omega, by omega, fun q => by omega, rfl⟩
  | succ k ih =>
    intro p h1 h2
    rw [sk_in (by omega)]
    split
    · rename_i q
      obtain ⟨a, b, c, e⟩ := ih (p + 1) (by omega) (by omega)
      exact ⟨by omega, b, c, e⟩
    · rename_i q
      refine ⟨by omega, by omega, fun _ => q, ?_⟩
      rw [sk_in (by omega), if_neg q]
theorem sk_bd {T : Int → Int} {n p : Int} (h : p ≤ n) : p ≤ sk T n p ∧ sk T n p ≤ n := ⟨(sk_o _ p h rfl).1, (sk_o _ p h rfl).2.1⟩
theorem sk_nb {T : Int → Int} {n p : Int} (h : p ≤ n) (h2 : sk T n p < n) : ¬ (T (sk T n p) = 32 ∨ T (sk T n p) = 10) := (sk_o _ p h rfl).2.2.1 h2
theorem sk_id {T : Int → Int} {n p : Int} (h : p ≤ n) : sk T n (sk T n p) = sk T n p := (sk_o _ p h rfl).2.2.2
theorem le_o {T : Int → Int} {n : Int} : ∀ (k : Nat) (p : Int), p ≤ n → (n - p).toNat = k → p ≤ le_ T n p ∧ le_ T n p ≤ n ∧ (∀ i, p ≤ i → i < le_ T n p → 97 ≤ T i ∧ T i ≤ 122) ∧ (le_ T n p < n → ¬ (97 ≤ T (le_ T n p) ∧ T (le_ T n p) ≤ 122)) := by
  intro k
  induction k with
  | zero =>
    intro p h1 h2
    rw [le_out (by omega)]
    exact ⟨by omega, by omega, fun i q1 q2 => by omega, fun q => by omega⟩
  | succ k ih =>
    intro p h1 h2
    rw [le_in (by omega)]
    split
    · rename_i q
      obtain ⟨a, b, c, e⟩ := ih (p + 1) (by omega) (by omega)
      refine ⟨by omega, b, fun i q1 q2 => ?_, e⟩
      by_cases hi : i = p
      · rw [hi]; exact q
      · exact c i (by omega) q2
    · rename_i q
      exact ⟨by omega, by omega, fun i q1 q2 => by omega, fun _ => q⟩
/-- what stands at p: the sign (-1 the end, -2 a word, -3 a long one, else the byte), where, where behind it, the word's letters -/
def tS (T : Int → Int) (n p : Int) : Int := if n ≤ sk T n p then -1 else if 97 ≤ T (sk T n p) ∧ T (sk T n p) ≤ 122 then (if le_ T n (sk T n p) - sk T n p ≤ 10 then -2 else -3) else T (sk T n p)
def tP (T : Int → Int) (n p : Int) : Int := sk T n p
def tB (T : Int → Int) (n p : Int) : Int := if n ≤ sk T n p then sk T n p else if 97 ≤ T (sk T n p) ∧ T (sk T n p) ≤ 122 then le_ T n (sk T n p) else sk T n p + 1
def tL (T : Int → Int) (n p : Int) : List Int := lets T (sk T n p) (le_ T n (sk T n p) - sk T n p).toNat
theorem lets_len (T : Int → Int) (q : Int) (k : Nat) : (lets T q k).length = k := by unfold lets; rw [List.length_map, List.length_range]
theorem lets_s (T : Int → Int) (q : Int) (k : Nat) : lets T q (k + 1) = lets T q k ++ [T (q + k) - 96] := by
  unfold lets
  rw [List.range_succ, List.map_append]
  rfl
theorem lets_wd {T : Int → Int} {q : Int} {k : Nat} (hk : k ≤ 10) (h : ∀ i, q ≤ i → i < q + k → 97 ≤ T i ∧ T i ≤ 122) : wd (lets T q k) := by
  refine ⟨by rw [lets_len]; exact hk, fun x hx => ?_⟩
  unfold lets at hx
  obtain ⟨i, hi, rfl⟩ := List.mem_map.mp hx
  have hi := List.mem_range.mp hi
  have := h (q + i) (by omega) (by omega)
  omega
/-- a word's letters, where the sign says that it is one -/
theorem tL_wd {T : Int → Int} {n p : Int} (hp : p ≤ n) (h : tS T n p = -2) (hT : ∀ i, 0 ≤ T i ∧ T i < 256) : wd (tL T n p) ∧ tL T n p ≠ [] := by
  have hb := sk_bd (T := T) hp
  unfold tS at h
  split at h
  · omega
  · split at h
    · rename_i h1 h2
      split at h
      · rename_i h3
        have ho := le_o (T := T) (n := n) _ (sk T n p) hb.2 rfl
        have e := le_in (T := T) (n := n) (p := sk T n p) (by omega)
        rw [if_pos h2] at e
        have ho2 := le_o (T := T) (n := n) _ (sk T n p + 1) (by omega) rfl
        refine ⟨lets_wd (by omega) (fun i q1 q2 => ho.2.2.1 i q1 (by omega)), fun q => ?_⟩
        have := congrArg List.length q
        unfold tL at this
        rw [lets_len] at this
        simp at this
        omega
      · omega
    · have := hT (sk T n p)
      omega
theorem tok_bd {T : Int → Int} {n p : Int} (hp : p ≤ n) : p ≤ tP T n p ∧ tP T n p ≤ n ∧ tP T n p ≤ tB T n p ∧ tB T n p ≤ n ∧ (tS T n p ≠ -1 → tP T n p < tB T n p) := by
  have hb := sk_bd (T := T) hp
  unfold tP tB tS
  split
  · exact ⟨by omega, by omega, by omega, by omega, fun q => absurd rfl q⟩
  · split
    · rename_i h1 h2
      have e := le_in (T := T) (n := n) (p := sk T n p) (by omega)
      rw [if_pos h2] at e
      have ho := le_o (T := T) (n := n) _ (sk T n p + 1) (by omega) rfl
      exact ⟨by omega, by omega, by omega, by omega, fun _ => by omega⟩
    · exact ⟨by omega, by omega, by omega, by omega, fun _ => by omega⟩
/-- from the place of what stands there it is the same -/
theorem tok_id {T : Int → Int} {n p : Int} (hp : p ≤ n) : tS T n (tP T n p) = tS T n p ∧ tP T n (tP T n p) = tP T n p ∧ tB T n (tP T n p) = tB T n p ∧ tL T n (tP T n p) = tL T n p := by
  have e := sk_id (T := T) hp
  unfold tS tP tB tL
  rw [e]
  exact ⟨rfl, rfl, rfl, rfl⟩
/-- the tape, as the class has it -/
def tpC (m : zM) (T : Int → Int) (n : Int) : Prop := 0 ≤ n ∧ n ≤ 600 ∧ iq m 4 1 = n ∧ (∀ k, 0 ≤ k → k < n → iq m 5 k = T k) ∧ ∀ k, 0 ≤ T k ∧ T k < 256
/-- but row 8 all stays, and the fault there -/
def f8 (m m' : zM) : Prop := (∀ b, b ≠ 8 → m'.1 b = m.1 b ∧ m'.2 b = m.2 b) ∧ iq m' 8 5 = iq m 8 5 ∧ iq m' 8 6 = iq m 8 6
theorem f8.rf (m : zM) : f8 m m := ⟨fun _ _ => ⟨rfl, rfl⟩, rfl, rfl⟩
theorem f8.tr {m m1 m2 : zM} (h : f8 m m1) (g : f8 m1 m2) : f8 m m2 := ⟨fun b hb => ⟨(g.1 b hb).1.trans (h.1 b hb).1, (g.1 b hb).2.trans (h.1 b hb).2⟩, g.2.1.trans h.2.1, g.2.2.trans h.2.2⟩
theorem f8.si {m m1 : zM} (h : f8 m m1) {z v : Int} (h0 : 0 ≤ z) (h5 : z ≠ 5) (h6 : z ≠ 6) (hv : r32 v) : f8 m (sq m1 8 z v) := by
  refine h.tr ⟨fun b hb => fo_sq m1 8 z v b (by omega), ?_, ?_⟩
  · rw [iq_sq h0 (by omega) hv, if_neg (by omega)]
  · rw [iq_sq h0 (by omega) hv, if_neg (by omega)]
theorem f8.sl {m m1 : zM} (h : f8 m m1) (z v : Int) : f8 m (sl m1 8 z v) := by
  refine h.tr ⟨fun b hb => ⟨rfl, ?_⟩, rfl, rfl⟩
  funext j
  show (if b = 8 ∧ j = z.toNat then JL v else m1.2 b j) = m1.2 b j
  exact if_neg (fun q => hb q.1)
theorem f8.i {m m1 : zM} (h : f8 m m1) {b : Nat} (hb : b ≠ 8) (z : Int) : iq m1 b z = iq m b z := by unfold iq; rw [(h.1 b hb).1]
theorem f8.l {m m1 : zM} (h : f8 m m1) {b : Nat} (hb : b ≠ 8) (z : Int) : lq m1 b z = lq m b z := by unfold lq; rw [(h.1 b hb).2]
theorem tpC.f8 {m m' : zM} {T : Int → Int} {n : Int} (h : tpC m T n) (f : f8 m m') : tpC m' T n := by
  obtain ⟨h1, h2, h3, h4, h5⟩ := h
  exact ⟨h1, h2, by rw [f.i (by omega)]; exact h3, fun k k0 k1 => by rw [f.i (by omega)]; exact h4 k k0 k1, h5⟩
section TK
variable {d : Nat} {w : Nat × Nat × Nat} {T : Int → Int} {n : Int}
theorem c_tapeAt {Q : Int32 → zM → Prop} {m : zM} {z : Int} (ht : tpC m T n) (h0 : 0 ≤ z) (h1 : r32 z) (H : Q (J (if z < n then T z else -1)) m) : cI d 7 [.ref 4, .int (J z)] w m Q := by
  obtain ⟨t1, t2, t3, t4, t5⟩ := ht
  refine c_byteAt zBy_tape (by decide) h1 (by omega) ?_
  rw [t3]
  by_cases q : z < n
  · rw [if_pos ⟨h0, q⟩, t4 z h0 q]
    rw [if_pos q] at H
    exact H
  · rw [if_neg (by omega)]
    rw [if_neg q] at H
    exact H
theorem c_nextByte_l {Q : zM → Prop} : ∀ (k : Nat) (m : zM) (p i : Int), tpC m T n → iq m 8 1 = p → 0 ≤ p → p ≤ n → (n - p).toNat = k → 0 ≤ i → i ≤ p → (∀ m', f8 m m' → m'.2 = m.2 → iq m' 8 2 = sk T n p → iq m' 8 3 = (if sk T n p < n then T (sk T n p) else -1) → iq m' 8 1 = (if sk T n p < n then sk T n p + 1 else sk T n p) → Q m') → W_Reader_nextByte_8 (d + 1) (J (if p < n then T p else -1)) (J i) w m Q := by
  intro k
  induction k with
  | zero =>
    intro m p i ht hm hp0 hp hk hi0 hi H
    have hn := ht.2.1
    have e : ¬ p < n := by omega
    rw [if_neg e]
    have es : sk T n p = p := sk_out (by omega)
    rw [es, if_neg e, if_neg e] at H
    have fin : Q (sq (sq m 8 2 p) 8 3 (-1)) := by
      refine H _ (((f8.rf m).si (by omega) (by omega) (by omega) (by unfold r32; omega)).si (by omega) (by omega) (by omega) (by unfold r32; omega)) rfl ?_ ?_ ?_
      · rw [iq_sq (by omega) (by omega) (by unfold r32; omega), if_neg (by omega), iq_sq (by omega) (by omega) (by unfold r32; omega), if_pos ⟨rfl, rfl⟩]
      · rw [iq_sq (by omega) (by omega) (by unfold r32; omega), if_pos ⟨rfl, rfl⟩]
      · rw [iq_sq (by omega) (by omega) (by unfold r32; omega), if_neg (by omega), iq_sq (by omega) (by omega) (by unfold r32; omega), if_neg (by omega), hm]
    refine S_Reader_nextByte_8 ?_
    simp (disch := first | (unfold r32; omega) | omega) only [j_lit, J_le, J_eq, j_rd, j_nc, j_wr, hm, j_ops]
    exact ⟨fun q => ⟨fun _ => fin, fun z => absurd trivial z⟩, fun q => ⟨fun z => by omega, fun _ => ⟨fun _ => ⟨fun _ => fin, fun z => absurd trivial z⟩, fun z => by omega⟩⟩⟩
  | succ k ih =>
    intro m p i ht hm hp0 hp hk hi0 hi H
    have hn := ht.2.1
    have e : p < n := by omega
    have hTp := ht.2.2.2.2 p
    rw [if_pos e]
    refine S_Reader_nextByte_8 ?_
    simp (disch := first | (unfold r32; omega) | omega) only [j_lit, J_le, J_eq, j_rd, j_nc, j_wr, hm, j_ops]
    have es := sk_in (T := T) (n := n) (p := p) e
    have go : (T p = 32 ∨ T p = 10) → cI (d + 1) 7 [.ref 4, .int (J (p + 1))] w (sq m 8 1 (p + 1)) (fun v1 m1 => W_Reader_nextByte_8 (d + 1) v1 (J (i + 1)) w m1 Q) := by
      intro hb
      rw [if_pos hb] at es
      have f1 : f8 m (sq m 8 1 (p + 1)) := (f8.rf m).si (by omega) (by omega) (by omega) (by unfold r32; omega)
      refine c_tapeAt (ht.f8 f1) (by omega) (by unfold r32; omega) ?_
      refine ih _ (p + 1) (i + 1) (ht.f8 f1) (by rw [iq_sq (by omega) (by omega) (by unfold r32; omega), if_pos ⟨rfl, rfl⟩]) (by omega) (by omega) (by omega) (by omega) (by omega) (fun m' g1 g2 g3 g4 g5 => H m' (f1.tr g1) g2 ?_ ?_ ?_)
      · rw [es]; exact g3
      · rw [es]; exact g4
      · rw [es]; exact g5
    refine ⟨fun q => by omega, fun _ => ⟨fun q => go (Or.inl q), fun q => ⟨fun q2 => ?_, fun q2 => go (Or.inr q2)⟩⟩⟩
    rw [if_neg (by omega)] at es
    rw [es, if_pos e, if_pos e] at H
    refine ⟨fun z => by omega, fun _ => H _ ((((f8.rf m).si (by omega) (by omega) (by omega) (by unfold r32; omega)).si (by omega) (by omega) (by omega) (by unfold r32; omega)).si (by omega) (by omega) (by omega) (by unfold r32; omega)) rfl ?_ ?_ ?_⟩
    · rw [iq_sq (by omega) (by omega) (by unfold r32; omega), if_neg (by omega), iq_sq (by omega) (by omega) (by unfold r32; omega), if_neg (by omega), iq_sq (by omega) (by omega) (by unfold r32; omega), if_pos ⟨rfl, rfl⟩]
    · rw [iq_sq (by omega) (by omega) (by unfold r32; omega), if_neg (by omega), iq_sq (by omega) (by omega) (by unfold r32; omega), if_pos ⟨rfl, rfl⟩]
    · rw [iq_sq (by omega) (by omega) (by unfold r32; omega), if_pos ⟨rfl, rfl⟩]
theorem c_nextByte {Q : zM → Prop} {m : zM} {p : Int} (ht : tpC m T n) (hm : iq m 8 1 = p) (hp : 0 ≤ p ∧ p ≤ n) (H : ∀ m', f8 m m' → m'.2 = m.2 → iq m' 8 2 = sk T n p → iq m' 8 3 = (if sk T n p < n then T (sk T n p) else -1) → iq m' 8 1 = (if sk T n p < n then sk T n p + 1 else sk T n p) → Q m') : cV (d + 2) 64 [.ref 8] w m Q := by
  have hn := ht.2.1
  refine S_Reader_nextByte ?_
  simp only [j_rd, j_nc, hm]
  refine c_tapeAt ht (by omega) (by unfold r32; omega) ?_
  have := c_nextByte_l (d := d) (w := w) (Q := Q) (n - p).toNat m p 0 ht hm hp.1 hp.2 rfl (by omega) (by omega) H
  exact this
end TK
