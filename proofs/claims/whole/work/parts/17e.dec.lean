def W_T_lowest_6 (d : Nat) (p0 : Nat) (l2 : Int64) (l4 : Int32) (l5 : Int32) (l6 : Int32) (w : Nat × Nat × Nat) (m : zM) (Q : Int32 → zM → Prop) : Prop := ∀ o1 o7 : Option Value, mm_W (d + 1) 163 6 [some (.ref p0), o1, some (.long l2), none, some (.int l4), some (.int l5), some (.int l6), o7] [] (zE w m) (rI w Q)
theorem S_T_lowest {p0 : Nat} {p1 : Int32} {p2 : Int64} {d : Nat} {w : Nat × Nat × Nat} {m : zM} {Q : Int32 → zM → Prop} (H : W_T_lowest_6 d p0 p2 (0 : Int32) p1 (0 : Int32) w m Q) : cI (d + 1) 163 [.ref p0, .int p1, .long p2] w m Q := by
  refine cI_in rfl ?_
  refine mm_yrun (is := mm_k163) [6] 400 rfl ?_
  exact H _ _
theorem S_T_lowest_6 {p0 : Nat} {l2 : Int64} {l4 : Int32} {l5 : Int32} {l6 : Int32} {d : Nat} {w : Nat × Nat × Nat} {m : zM} {Q : Int32 → zM → Prop} (H : (((32 : Int32) ≤ l6 → Q l4 m) ∧ (¬ (32 : Int32) ≤ l6 → ((l5 ≤ l4 → Q l4 m) ∧ (¬ l5 ≤ l4 → cL d 157 [.ref p0, .int (((l4 + l5)).toUInt32 >>> (((1 : Int32)).toUInt32 &&& Int32.toUInt32 31)).toInt32] w m (fun v1 m1 => ((l2 ≤ v1 → W_T_lowest_6 d p0 l2 l4 (((l4 + l5)).toUInt32 >>> (((1 : Int32)).toUInt32 &&& Int32.toUInt32 31)).toInt32 (l6 + (1 : Int32)) w m1 Q) ∧ (¬ l2 ≤ v1 → W_T_lowest_6 d p0 l2 ((((l4 + l5)).toUInt32 >>> (((1 : Int32)).toUInt32 &&& Int32.toUInt32 31)).toInt32 + (1 : Int32)) l5 (l6 + (1 : Int32)) w m1 Q)))))))) : W_T_lowest_6 d p0 l2 l4 l5 l6 w m Q := by
  intro o1 o7
  refine mm_yrun (is := mm_k163) [6] 400 rfl ?_
  refine And.intro (fun q => ?_) (fun q => ?_)
  · replace H := H.1 q
    exact rI_mk (w := w) (m := m) H
  · replace H := H.2 q
    refine And.intro (fun q => ?_) (fun q => ?_)
    · replace H := H.1 q
      exact rI_mk (w := w) (m := m) H
    · replace H := H.2 q
      refine And.intro (trivial) ?_
      refine cL_use (w := w) (m := m) rfl H ?_
      intro v1 m1 H
      refine And.intro (fun q => ?_) (fun q => ?_)
      · replace H := H.1 q
        exact H _ _
      · replace H := H.2 q
        exact H _ _

def W_T_insert_21 (d : Nat) (p0 : Nat) (l1 : Int32) (l2 : Int64) (l4 : Int32) (l5 : Int32) (w : Nat × Nat × Nat) (m : zM) (Q : Int32 → zM → Prop) : Prop := mm_W (d + 1) 164 21 [some (.ref p0), some (.int l1), some (.long l2), none, some (.int l4), some (.int l5)] [] (zE w m) (rI w Q)
theorem R_T_insert {p0 : Nat} {p1 : Int32} {p2 : Int64} {nl_p0 : Nat} {d : Nat} {w : Nat × Nat × Nat} {m : zM} {Q : Int32 → zM → Prop} (hk_p0 : (zK w.1 p0).1 = 13) (hl_p0 : (zK w.1 p0).2 = nl_p0) (H : cI d 163 [.ref p0, .int p1, .long p2] w m (fun v1 m1 => (((Int32.ofNat nl_p0) ≤ p1 → Q p1 m1) ∧ (¬ (Int32.ofNat nl_p0) ≤ p1 → ((p1 ≤ v1 → W_T_insert_21 d p0 p1 p2 v1 p1 w m1 Q) ∧ (¬ p1 ≤ v1 → cL d 157 [.ref p0, .int v1] w m1 (fun v2 m2 => ((¬ v2 = p2 → W_T_insert_21 d p0 p1 p2 v1 p1 w m2 Q) ∧ (v2 = p2 → Q p1 m2))))))))) : cI (d + 1) 164 [.ref p0, .int p1, .long p2] w m Q := by
  subst hl_p0
  refine cI_in rfl ?_
  refine mm_yrun (is := mm_k164) [21] 400 rfl ?_
  refine And.intro (trivial) ?_
  refine cI_use (w := w) (m := m) rfl H ?_
  intro v1 m1 H
  refine And.intro (zArK3 hk_p0) ?_
  refine And.intro (fun q => ?_) (fun q => ?_)
  · replace H := H.1 q
    exact rI_mk (w := w) (m := m1) H
  · replace H := H.2 q
    refine And.intro (fun q => ?_) (fun q => ?_)
    · replace H := H.1 q
      exact H
    · replace H := H.2 q
      refine And.intro (trivial) ?_
      refine cL_use (w := w) (m := m1) rfl H ?_
      intro v2 m2 H
      refine And.intro (fun q => ?_) (fun q => ?_)
      · replace H := H.1 q
        exact H
      · replace H := H.2 (Classical.not_not.mp q)
        exact rI_mk (w := w) (m := m2) H
theorem S_T_insert {p0 : Nat} {p1 : Int32} {p2 : Int64} {n_p0 : Nat} {d : Nat} {w : Nat × Nat × Nat} {m : zM} {Q : Int32 → zM → Prop} (hp_p0 : zAr w p0 13 n_p0) (H : cI d 163 [.ref p0, .int p1, .long p2] w m (fun v1 m1 => (((Int32.ofNat n_p0) ≤ p1 → Q p1 m1) ∧ (¬ (Int32.ofNat n_p0) ≤ p1 → ((p1 ≤ v1 → W_T_insert_21 d p0 p1 p2 v1 p1 w m1 Q) ∧ (¬ p1 ≤ v1 → cL d 157 [.ref p0, .int v1] w m1 (fun v2 m2 => ((¬ v2 = p2 → W_T_insert_21 d p0 p1 p2 v1 p1 w m2 Q) ∧ (v2 = p2 → Q p1 m2))))))))) : cI (d + 1) 164 [.ref p0, .int p1, .long p2] w m Q := R_T_insert (zAr_k hp_p0) (zAr_l hp_p0) H
theorem S_T_insert_21 {p0 : Nat} {l1 : Int32} {l2 : Int64} {l4 : Int32} {l5 : Int32} {d : Nat} {w : Nat × Nat × Nat} {m : zM} {Q : Int32 → zM → Prop} (H : ((l5 ≤ l4 → cV d 159 [.ref p0, .int l4, .long l2] w m (fun m1 => Q (l1 + (1 : Int32)) m1)) ∧ (¬ l5 ≤ l4 → cL d 157 [.ref p0, .int (l5 - (1 : Int32))] w m (fun v2 m2 => cV d 159 [.ref p0, .int l5, .long v2] w m2 (fun m3 => W_T_insert_21 d p0 l1 l2 l4 (l5 + ((-1) : Int32)) w m3 Q))))) : W_T_insert_21 d p0 l1 l2 l4 l5 w m Q := by
  refine mm_yrun (is := mm_k164) [21] 400 rfl ?_
  refine And.intro (fun q => ?_) (fun q => ?_)
  · replace H := H.1 q
    refine And.intro (trivial) ?_
    refine cV_use (w := w) (m := m) rfl H ?_
    intro m1 H
    exact rI_mk (w := w) (m := m1) H
  · replace H := H.2 q
    refine And.intro (trivial) ?_
    refine cL_use (w := w) (m := m) rfl H ?_
    intro v2 m2 H
    refine And.intro (trivial) ?_
    refine cV_use (w := w) (m := m2) rfl H ?_
    intro m3 H
    exact H

theorem S_T_exact {p0 : Nat} {p1 : Int32} {p2 : Int64} {d : Nat} {w : Nat × Nat × Nat} {m : zM} {Q : Int32 → zM → Prop} (H : cI d 163 [.ref p0, .int p1, .long p2] w m (fun v1 m1 => ((p1 ≤ v1 → Q ((-1) : Int32) m1) ∧ (¬ p1 ≤ v1 → cL d 157 [.ref p0, .int v1] w m1 (fun v2 m2 => ((¬ v2 = p2 → Q ((-1) : Int32) m2) ∧ (v2 = p2 → Q v1 m2))))))) : cI (d + 1) 165 [.ref p0, .int p1, .long p2] w m Q := by
  refine cI_in rfl ?_
  refine mm_yrun (is := mm_k165) [] 400 rfl ?_
  refine And.intro (trivial) ?_
  refine cI_use (w := w) (m := m) rfl H ?_
  intro v1 m1 H
  refine And.intro (fun q => ?_) (fun q => ?_)
  · replace H := H.1 q
    exact rI_mk (w := w) (m := m1) H
  · replace H := H.2 q
    refine And.intro (trivial) ?_
    refine cL_use (w := w) (m := m1) rfl H ?_
    intro v2 m2 H
    refine And.intro (fun q => ?_) (fun q => ?_)
    · replace H := H.1 q
      exact rI_mk (w := w) (m := m2) H
    · replace H := H.2 (Classical.not_not.mp q)
      exact rI_mk (w := w) (m := m2) H

theorem S_T_letterShift {p0 : Int32} {d : Nat} {w : Nat × Nat × Nat} {m : zM} {Q : Int32 → zM → Prop} (H : Q ((5 : Int32) * ((9 : Int32) - p0)) m) : cI d 166 [.int p0] w m Q := by
  refine cI_in rfl ?_
  refine mm_yrun (is := mm_k166) [] 400 rfl ?_
  exact rI_mk (w := w) (m := m) H

theorem S_T_letterAt {p0 : Int64} {p1 : Int32} {d : Nat} {w : Nat × Nat × Nat} {m : zM} {Q : Int32 → zM → Prop} (H : ((p1 < 0 → Q (0 : Int32) m) ∧ (¬ p1 < 0 → ((p1 < (10 : Int32) → cI d 166 [.int p1] w m (fun v1 m1 => Q ((((p0).toUInt64 >>> ((v1).toInt64.toUInt64 &&& Int64.toUInt64 63)).toInt64).toInt32 &&& (31 : Int32)) m1)) ∧ (¬ p1 < (10 : Int32) → Q (0 : Int32) m))))) : cI (d + 1) 167 [.long p0, .int p1] w m Q := by
  refine cI_in rfl ?_
  refine mm_yrun (is := mm_k167) [] 400 rfl ?_
  refine And.intro (fun q => ?_) (fun q => ?_)
  · replace H := H.1 q
    exact rI_mk (w := w) (m := m) H
  · replace H := H.2 q
    refine And.intro (fun q => ?_) (fun q => ?_)
    · replace H := H.1 q
      refine And.intro (trivial) ?_
      refine cI_use (w := w) (m := m) rfl H ?_
      intro v1 m1 H
      exact rI_mk (w := w) (m := m1) H
    · replace H := H.2 q
      exact rI_mk (w := w) (m := m) H

def W_T_lettersOf_2 (d : Nat) (l0 : Int64) (l2 : Int32) (w : Nat × Nat × Nat) (m : zM) (Q : Int32 → zM → Prop) : Prop := mm_W (d + 1) 168 2 [some (.long l0), none, some (.int l2)] [] (zE w m) (rI w Q)
theorem S_T_lettersOf {p0 : Int64} {d : Nat} {w : Nat × Nat × Nat} {m : zM} {Q : Int32 → zM → Prop} (H : W_T_lettersOf_2 d p0 (0 : Int32) w m Q) : cI (d + 1) 168 [.long p0] w m Q := by
  refine cI_in rfl ?_
  refine mm_yrun (is := mm_k168) [2] 400 rfl ?_
  exact H
theorem S_T_lettersOf_2 {l0 : Int64} {l2 : Int32} {d : Nat} {w : Nat × Nat × Nat} {m : zM} {Q : Int32 → zM → Prop} (H : (((10 : Int32) ≤ l2 → Q l2 m) ∧ (¬ (10 : Int32) ≤ l2 → cI d 167 [.long l0, .int l2] w m (fun v1 m1 => ((v1 = 0 → Q l2 m1) ∧ (¬ v1 = 0 → W_T_lettersOf_2 d l0 (l2 + (1 : Int32)) w m1 Q)))))) : W_T_lettersOf_2 d l0 l2 w m Q := by
  refine mm_yrun (is := mm_k168) [2] 400 rfl ?_
  refine And.intro (fun q => ?_) (fun q => ?_)
  · replace H := H.1 q
    exact rI_mk (w := w) (m := m) H
  · replace H := H.2 q
    refine And.intro (trivial) ?_
    refine cI_use (w := w) (m := m) rfl H ?_
    intro v1 m1 H
    refine And.intro (fun q => ?_) (fun q => ?_)
    · replace H := H.1 q
      exact rI_mk (w := w) (m := m1) H
    · replace H := H.2 q
      exact H

theorem S_T_isLetter {p0 : Int32} {d : Nat} {w : Nat × Nat × Nat} {m : zM} {Q : Int32 → zM → Prop} (H : ((p0 < (97 : Int32) → Q (0 : Int32) m) ∧ (¬ p0 < (97 : Int32) → (((122 : Int32) < p0 → Q (0 : Int32) m) ∧ (¬ (122 : Int32) < p0 → Q (1 : Int32) m))))) : cI d 169 [.int p0] w m Q := by
  refine cI_in rfl ?_
  refine mm_yrun (is := mm_k169) [] 400 rfl ?_
  refine And.intro (fun q => ?_) (fun q => ?_)
  · replace H := H.1 q
    refine And.intro (Or.inl rfl) ?_
    exact rI_mk (w := w) (m := m) H
  · replace H := H.2 q
    refine And.intro (fun q => ?_) (fun q => ?_)
    · replace H := H.1 q
      refine And.intro (Or.inl rfl) ?_
      exact rI_mk (w := w) (m := m) H
    · replace H := H.2 q
      refine And.intro (Or.inr rfl) ?_
      exact rI_mk (w := w) (m := m) H

theorem S_T_replaced {p0 : Int64} {p1 : Int64} {p2 : Int64} {d : Nat} {w : Nat × Nat × Nat} {m : zM} {Q : Int64 → zM → Prop} (H : cI d 168 [.long p0] w m (fun v1 m1 => cI d 168 [.long p1] w m1 (fun v2 m2 => (((v1 - v2) < (2 : Int32) → Q (0 : Int64) m2) ∧ (¬ (v1 - v2) < (2 : Int32) → cI d 168 [.long p2] w m2 (fun v3 m3 => ((((v1 - v2) + v3) ≤ (10 : Int32) → (((p0 &&& (((1 : Int64) <<< ((((5 : Int32) * ((10 : Int32) - (v1 - v2)))).toInt64 &&& 63)) - (1 : Int64))) = ((p1).toUInt64 >>> ((((5 : Int32) * (v1 - v2))).toInt64.toUInt64 &&& Int64.toUInt64 63)).toInt64 → Q ((p0 - (p0 &&& (((1 : Int64) <<< ((((5 : Int32) * ((10 : Int32) - (v1 - v2)))).toInt64 &&& 63)) - (1 : Int64)))) ||| ((p2).toUInt64 >>> ((((5 : Int32) * (v1 - v2))).toInt64.toUInt64 &&& Int64.toUInt64 63)).toInt64) m3) ∧ (¬ (p0 &&& (((1 : Int64) <<< ((((5 : Int32) * ((10 : Int32) - (v1 - v2)))).toInt64 &&& 63)) - (1 : Int64))) = ((p1).toUInt64 >>> ((((5 : Int32) * (v1 - v2))).toInt64.toUInt64 &&& Int64.toUInt64 63)).toInt64 → Q (0 : Int64) m3))) ∧ (¬ ((v1 - v2) + v3) ≤ (10 : Int32) → Q (0 : Int64) m3)))))))) : cL (d + 1) 170 [.long p0, .long p1, .long p2] w m Q := by
  refine cL_in rfl ?_
  refine mm_yrun (is := mm_k170) [] 400 rfl ?_
  refine And.intro (trivial) ?_
  refine cI_use (w := w) (m := m) rfl H ?_
  intro v1 m1 H
  refine And.intro (trivial) ?_
  refine cI_use (w := w) (m := m1) rfl H ?_
  intro v2 m2 H
  refine And.intro (fun q => ?_) (fun q => ?_)
  · replace H := H.1 q
    exact rL_mk (w := w) (m := m2) H
  · replace H := H.2 q
    refine And.intro (trivial) ?_
    refine cI_use (w := w) (m := m2) rfl H ?_
    intro v3 m3 H
    refine And.intro (fun q => ?_) (fun q => ?_)
    · replace H := H.1 q
      refine And.intro (fun q => ?_) (fun q => ?_)
      · replace H := H.1 q
        exact rL_mk (w := w) (m := m3) H
      · replace H := H.2 q
        exact rL_mk (w := w) (m := m3) H
    · replace H := H.2 q
      exact rL_mk (w := w) (m := m3) H

theorem S_T_cell {p0 : Int32} {p1 : Int32} {d : Nat} {w : Nat × Nat × Nat} {m : zM} {Q : Int64 → zM → Prop} (H : Q (((p0 + (1 : Int32))).toInt64 <<< ((((8 : Int32) * ((4 : Int32) - p1))).toInt64 &&& 63)) m) : cL d 171 [.int p0, .int p1] w m Q := by
  refine cL_in rfl ?_
  refine mm_yrun (is := mm_k171) [] 400 rfl ?_
  exact rL_mk (w := w) (m := m) H

theorem S_T_idIn {p0 : Int64} {p1 : Int32} {d : Nat} {w : Nat × Nat × Nat} {m : zM} {Q : Int32 → zM → Prop} (H : Q (((((p0).toUInt64 >>> ((((8 : Int32) * ((4 : Int32) - p1))).toInt64.toUInt64 &&& Int64.toUInt64 63)).toInt64 &&& (255 : Int64))).toInt32 - (1 : Int32)) m) : cI d 172 [.long p0, .int p1] w m Q := by
  refine cI_in rfl ?_
  refine mm_yrun (is := mm_k172) [] 400 rfl ?_
  exact rI_mk (w := w) (m := m) H

def W_T_cellsOf_2 (d : Nat) (l0 : Int64) (l2 : Int32) (w : Nat × Nat × Nat) (m : zM) (Q : Int32 → zM → Prop) : Prop := mm_W (d + 1) 173 2 [some (.long l0), none, some (.int l2)] [] (zE w m) (rI w Q)
theorem S_T_cellsOf {p0 : Int64} {d : Nat} {w : Nat × Nat × Nat} {m : zM} {Q : Int32 → zM → Prop} (H : W_T_cellsOf_2 d p0 (0 : Int32) w m Q) : cI (d + 1) 173 [.long p0] w m Q := by
  refine cI_in rfl ?_
  refine mm_yrun (is := mm_k173) [2] 400 rfl ?_
  exact H
theorem S_T_cellsOf_2 {l0 : Int64} {l2 : Int32} {d : Nat} {w : Nat × Nat × Nat} {m : zM} {Q : Int32 → zM → Prop} (H : (((5 : Int32) ≤ l2 → Q l2 m) ∧ (¬ (5 : Int32) ≤ l2 → cI d 172 [.long l0, .int l2] w m (fun v1 m1 => ((v1 < 0 → Q l2 m1) ∧ (¬ v1 < 0 → W_T_cellsOf_2 d l0 (l2 + (1 : Int32)) w m1 Q)))))) : W_T_cellsOf_2 d l0 l2 w m Q := by
  refine mm_yrun (is := mm_k173) [2] 400 rfl ?_
  refine And.intro (fun q => ?_) (fun q => ?_)
  · replace H := H.1 q
    exact rI_mk (w := w) (m := m) H
  · replace H := H.2 q
    refine And.intro (trivial) ?_
    refine cI_use (w := w) (m := m) rfl H ?_
    intro v1 m1 H
    refine And.intro (fun q => ?_) (fun q => ?_)
    · replace H := H.1 q
      exact rI_mk (w := w) (m := m1) H
    · replace H := H.2 q
      exact H

theorem S_T_part {p0 : Int64} {p1 : Int32} {p2 : Int32} {d : Nat} {w : Nat × Nat × Nat} {m : zM} {Q : Int64 → zM → Prop} (H : Q (((((p0 <<< ((((8 : Int32) * p1)).toInt64 &&& 63)) &&& (1099511627775 : Int64))).toUInt64 >>> ((((8 : Int32) * ((5 : Int32) - p2))).toInt64.toUInt64 &&& Int64.toUInt64 63)).toInt64 <<< ((((8 : Int32) * ((5 : Int32) - p2))).toInt64 &&& 63)) m) : cL d 174 [.long p0, .int p1, .int p2] w m Q := by
  refine cL_in rfl ?_
  refine mm_yrun (is := mm_k174) [] 400 rfl ?_
  exact rL_mk (w := w) (m := m) H

def W_T_holds_10 (d : Nat) (l0 : Int64) (l2 : Int64) (l4 : Int32) (l5 : Int32) (l6 : Int32) (w : Nat × Nat × Nat) (m : zM) (Q : Int32 → zM → Prop) : Prop := mm_W (d + 1) 175 10 [some (.long l0), none, some (.long l2), none, some (.int l4), some (.int l5), some (.int l6)] [] (zE w m) (rI w Q)
theorem S_T_holds {p0 : Int64} {p1 : Int64} {d : Nat} {w : Nat × Nat × Nat} {m : zM} {Q : Int32 → zM → Prop} (H : cI d 173 [.long p1] w m (fun v1 m1 => cI d 173 [.long p0] w m1 (fun v2 m2 => W_T_holds_10 d p0 p1 v1 (v2 - v1) (0 : Int32) w m2 Q))) : cI (d + 1) 175 [.long p0, .long p1] w m Q := by
  refine cI_in rfl ?_
  refine mm_yrun (is := mm_k175) [10] 400 rfl ?_
  refine And.intro (trivial) ?_
  refine cI_use (w := w) (m := m) rfl H ?_
  intro v1 m1 H
  refine And.intro (trivial) ?_
  refine cI_use (w := w) (m := m1) rfl H ?_
  intro v2 m2 H
  exact H
theorem S_T_holds_10 {l0 : Int64} {l2 : Int64} {l4 : Int32} {l5 : Int32} {l6 : Int32} {d : Nat} {w : Nat × Nat × Nat} {m : zM} {Q : Int32 → zM → Prop} (H : ((l5 < l6 → Q (0 : Int32) m) ∧ (¬ l5 < l6 → (((5 : Int32) ≤ l6 → Q (0 : Int32) m) ∧ (¬ (5 : Int32) ≤ l6 → cL d 174 [.long l0, .int l6, .int l4] w m (fun v1 m1 => ((¬ v1 = l2 → W_T_holds_10 d l0 l2 l4 l5 (l6 + (1 : Int32)) w m1 Q) ∧ (v1 = l2 → Q (1 : Int32) m1)))))))) : W_T_holds_10 d l0 l2 l4 l5 l6 w m Q := by
  refine mm_yrun (is := mm_k175) [10] 400 rfl ?_
  refine And.intro (fun q => ?_) (fun q => ?_)
  · replace H := H.1 q
    refine And.intro (Or.inl rfl) ?_
    exact rI_mk (w := w) (m := m) H
  · replace H := H.2 q
    refine And.intro (fun q => ?_) (fun q => ?_)
    · replace H := H.1 q
      refine And.intro (Or.inl rfl) ?_
      exact rI_mk (w := w) (m := m) H
    · replace H := H.2 q
      refine And.intro (trivial) ?_
      refine cL_use (w := w) (m := m) rfl H ?_
      intro v1 m1 H
      refine And.intro (fun q => ?_) (fun q => ?_)
      · replace H := H.1 q
        exact H
      · replace H := H.2 (Classical.not_not.mp q)
        refine And.intro (Or.inr rfl) ?_
        exact rI_mk (w := w) (m := m1) H

def W_T_exponentOf_4 (d : Nat) (l0 : UInt64) (l2 : Int32) (l3 : Int32) (w : Nat × Nat × Nat) (m : zM) (Q : Int32 → zM → Prop) : Prop := mm_W d 176 4 [some (.double l0), none, some (.int l2), some (.int l3)] [] (zE w m) (rI w Q)
def W_T_exponentOf_20 (d : Nat) (l0 : UInt64) (l2 : Int32) (l3 : Int32) (w : Nat × Nat × Nat) (m : zM) (Q : Int32 → zM → Prop) : Prop := mm_W d 176 20 [some (.double l0), none, some (.int l2), some (.int l3)] [] (zE w m) (rI w Q)
theorem S_T_exponentOf {p0 : UInt64} {d : Nat} {w : Nat × Nat × Nat} {m : zM} {Q : Int32 → zM → Prop} (H : W_T_exponentOf_4 d p0 (0 : Int32) (0 : Int32) w m Q) : cI d 176 [.double p0] w m Q := by
  refine cI_in rfl ?_
  refine mm_yrun (is := mm_k176) [4, 20] 400 rfl ?_
  exact H
theorem S_T_exponentOf_4 {l0 : UInt64} {l2 : Int32} {l3 : Int32} {d : Nat} {w : Nat × Nat × Nat} {m : zM} {Q : Int32 → zM → Prop} (H : (((1023 : Int32) ≤ l3 → W_T_exponentOf_20 d l0 l2 (0 : Int32) w m Q) ∧ (¬ (1023 : Int32) ≤ l3 → (((Op.cmpValue (FP.dcmp l0 (4611686018427387904 : UInt64)) .l) < 0 → W_T_exponentOf_20 d l0 l2 (0 : Int32) w m Q) ∧ (¬ (Op.cmpValue (FP.dcmp l0 (4611686018427387904 : UInt64)) .l) < 0 → vf_n64 (FP.ddiv l0 (4611686018427387904 : UInt64)) ∧ (W_T_exponentOf_4 d (FP.ddiv l0 (4611686018427387904 : UInt64)) (l2 + (1 : Int32)) (l3 + (1 : Int32)) w m Q)))))) : W_T_exponentOf_4 d l0 l2 l3 w m Q := by
  refine mm_yrun (is := mm_k176) [4, 20] 400 rfl ?_
  refine And.intro (fun q => ?_) (fun q => ?_)
  · replace H := H.1 q
    exact H
  · replace H := H.2 q
    refine And.intro (fun q => ?_) (fun q => ?_)
    · replace H := H.1 q
      exact H
    · replace H := H.2 q
      refine And.intro H.1 ?_
      replace H := H.2
      exact H
theorem S_T_exponentOf_20 {l0 : UInt64} {l2 : Int32} {l3 : Int32} {d : Nat} {w : Nat × Nat × Nat} {m : zM} {Q : Int32 → zM → Prop} (H : (((1023 : Int32) ≤ l3 → Q l2 m) ∧ (¬ (1023 : Int32) ≤ l3 → (((Op.cmpValue (FP.dcmp l0 (FP.dconst0 : UInt64)) .l) ≤ 0 → Q l2 m) ∧ (¬ (Op.cmpValue (FP.dcmp l0 (FP.dconst0 : UInt64)) .l) ≤ 0 → ((0 ≤ (Op.cmpValue (FP.dcmp l0 (FP.dconst1 : UInt64)) .g) → Q l2 m) ∧ (¬ 0 ≤ (Op.cmpValue (FP.dcmp l0 (FP.dconst1 : UInt64)) .g) → vf_n64 (FP.dmul l0 (4611686018427387904 : UInt64)) ∧ (W_T_exponentOf_20 d (FP.dmul l0 (4611686018427387904 : UInt64)) (l2 + ((-1) : Int32)) (l3 + (1 : Int32)) w m Q)))))))) : W_T_exponentOf_20 d l0 l2 l3 w m Q := by
  refine mm_yrun (is := mm_k176) [4, 20] 400 rfl ?_
  refine And.intro (fun q => ?_) (fun q => ?_)
  · replace H := H.1 q
    exact rI_mk (w := w) (m := m) H
  · replace H := H.2 q
    refine And.intro (fun q => ?_) (fun q => ?_)
    · replace H := H.1 q
      exact rI_mk (w := w) (m := m) H
    · replace H := H.2 q
      refine And.intro (fun q => ?_) (fun q => ?_)
      · replace H := H.1 q
        exact rI_mk (w := w) (m := m) H
      · replace H := H.2 q
        refine And.intro H.1 ?_
        replace H := H.2
        exact H

def W_T_fractionOf_4 (d : Nat) (l2 : Int32) (l3 : UInt64) (l5 : Int32) (w : Nat × Nat × Nat) (m : zM) (Q : Int64 → zM → Prop) : Prop := ∀ o0 o1 : Option Value, mm_W d 177 4 [o0, o1, some (.int l2), some (.double l3), none, some (.int l5)] [] (zE w m) (rL w Q)
def W_T_fractionOf_14 (d : Nat) (l3 : UInt64) (l5 : Int32) (w : Nat × Nat × Nat) (m : zM) (Q : Int64 → zM → Prop) : Prop := ∀ o0 o1 o2 : Option Value, mm_W d 177 14 [o0, o1, o2, some (.double l3), none, some (.int l5)] [] (zE w m) (rL w Q)
theorem S_T_fractionOf {p0 : UInt64} {p1 : Int32} {d : Nat} {w : Nat × Nat × Nat} {m : zM} {Q : Int64 → zM → Prop} (H : W_T_fractionOf_4 d p1 p0 p1 w m Q) : cL d 177 [.double p0, .int p1] w m Q := by
  refine cL_in rfl ?_
  refine mm_yrun (is := mm_k177) [4, 14] 400 rfl ?_
  exact H _ _
theorem S_T_fractionOf_4 {l2 : Int32} {l3 : UInt64} {l5 : Int32} {d : Nat} {w : Nat × Nat × Nat} {m : zM} {Q : Int64 → zM → Prop} (H : ((0 ≤ l5 → W_T_fractionOf_14 d l3 l2 w m Q) ∧ (¬ 0 ≤ l5 → vf_n64 (FP.dmul l3 (4611686018427387904 : UInt64)) ∧ (W_T_fractionOf_4 d l2 (FP.dmul l3 (4611686018427387904 : UInt64)) (l5 + (1 : Int32)) w m Q)))) : W_T_fractionOf_4 d l2 l3 l5 w m Q := by
  intro o0 o1
  refine mm_yrun (is := mm_k177) [4, 14] 400 rfl ?_
  refine And.intro (fun q => ?_) (fun q => ?_)
  · replace H := H.1 q
    exact H _ _ _
  · replace H := H.2 q
    refine And.intro H.1 ?_
    replace H := H.2
    exact H _ _
theorem S_T_fractionOf_14 {l3 : UInt64} {l5 : Int32} {d : Nat} {w : Nat × Nat × Nat} {m : zM} {Q : Int64 → zM → Prop} (H : ((l5 ≤ 0 → vf_n64 (FP.dmul l3 (4841369599423283200 : UInt64)) ∧ (Q (FP.d2l (FP.dmul l3 (4841369599423283200 : UInt64))) m)) ∧ (¬ l5 ≤ 0 → vf_n64 (FP.ddiv l3 (4611686018427387904 : UInt64)) ∧ (W_T_fractionOf_14 d (FP.ddiv l3 (4611686018427387904 : UInt64)) (l5 + ((-1) : Int32)) w m Q)))) : W_T_fractionOf_14 d l3 l5 w m Q := by
  intro o0 o1 o2
  refine mm_yrun (is := mm_k177) [4, 14] 400 rfl ?_
  refine And.intro (fun q => ?_) (fun q => ?_)
  · replace H := H.1 q
    refine And.intro H.1 ?_
    replace H := H.2
    exact rL_mk (w := w) (m := m) H
  · replace H := H.2 q
    refine And.intro H.1 ?_
    replace H := H.2
    exact H _ _ _

theorem S_T_floatBits {p0 : UInt32} {d : Nat} {w : Nat × Nat × Nat} {m : zM} {Q : Int32 → zM → Prop} (H : ((¬ (Op.cmpValue (FP.fcmp p0 (FP.fconst0 : UInt32)) .l) = 0 → ((0 ≤ (Op.cmpValue (FP.fcmp p0 (FP.fconst0 : UInt32)) .g) → vf_n64 (FP.f2d p0) ∧ (cI d 176 [.double (FP.f2d p0)] w m (fun v1 m1 => cL d 177 [.double (FP.f2d p0), .int v1] w m1 (fun v2 m2 => ((0 ≤ (Op.cmpValue (FP.fcmp p0 (FP.fconst0 : UInt32)) .g) → Q (((v1 + (127 : Int32)) <<< ((23 : Int32) &&& 31)) ||| ((((v2).toUInt64 >>> (((29 : Int32)).toInt64.toUInt64 &&& Int64.toUInt64 63)).toInt64).toInt32 &&& (8388607 : Int32))) m2) ∧ (¬ 0 ≤ (Op.cmpValue (FP.fcmp p0 (FP.fconst0 : UInt32)) .g) → Q ((((v1 + (127 : Int32)) <<< ((23 : Int32) &&& 31)) ||| ((((v2).toUInt64 >>> (((29 : Int32)).toInt64.toUInt64 &&& Int64.toUInt64 63)).toInt64).toInt32 &&& (8388607 : Int32))) ||| ((-2147483648) : Int32)) m2)))))) ∧ (¬ 0 ≤ (Op.cmpValue (FP.fcmp p0 (FP.fconst0 : UInt32)) .g) → vf_n64 (FP.f2d p0) ∧ (cI d 176 [.double (FP.dneg (FP.f2d p0))] w m (fun v3 m3 => cL d 177 [.double (FP.dneg (FP.f2d p0)), .int v3] w m3 (fun v4 m4 => ((0 ≤ (Op.cmpValue (FP.fcmp p0 (FP.fconst0 : UInt32)) .g) → Q (((v3 + (127 : Int32)) <<< ((23 : Int32) &&& 31)) ||| ((((v4).toUInt64 >>> (((29 : Int32)).toInt64.toUInt64 &&& Int64.toUInt64 63)).toInt64).toInt32 &&& (8388607 : Int32))) m4) ∧ (¬ 0 ≤ (Op.cmpValue (FP.fcmp p0 (FP.fconst0 : UInt32)) .g) → Q ((((v3 + (127 : Int32)) <<< ((23 : Int32) &&& 31)) ||| ((((v4).toUInt64 >>> (((29 : Int32)).toInt64.toUInt64 &&& Int64.toUInt64 63)).toInt64).toInt32 &&& (8388607 : Int32))) ||| ((-2147483648) : Int32)) m4)))))))) ∧ ((Op.cmpValue (FP.fcmp p0 (FP.fconst0 : UInt32)) .l) = 0 → Q (0 : Int32) m))) : cI (d + 1) 178 [.float p0] w m Q := by
  refine cI_in rfl ?_
  refine mm_yrun (is := mm_k178) [] 400 rfl ?_
  refine And.intro (fun q => ?_) (fun q => ?_)
  · replace H := H.1 q
    refine And.intro (fun q => ?_) (fun q => ?_)
    · replace H := H.1 q
      refine And.intro H.1 ?_
      replace H := H.2
      refine And.intro (trivial) ?_
      refine cI_use (w := w) (m := m) rfl H ?_
      intro v1 m1 H
      refine And.intro (trivial) ?_
      refine cL_use (w := w) (m := m1) rfl H ?_
      intro v2 m2 H
      refine And.intro (fun q => ?_) (fun q => ?_)
      · replace H := H.1 q
        exact rI_mk (w := w) (m := m2) H
      · replace H := H.2 q
        exact rI_mk (w := w) (m := m2) H
    · replace H := H.2 q
      refine And.intro H.1 ?_
      replace H := H.2
      refine And.intro (trivial) ?_
      refine cI_use (w := w) (m := m) rfl H ?_
      intro v3 m3 H
      refine And.intro (trivial) ?_
      refine cL_use (w := w) (m := m3) rfl H ?_
      intro v4 m4 H
      refine And.intro (fun q => ?_) (fun q => ?_)
      · replace H := H.1 q
        exact rI_mk (w := w) (m := m4) H
      · replace H := H.2 q
        exact rI_mk (w := w) (m := m4) H
  · replace H := H.2 (Classical.not_not.mp q)
    exact rI_mk (w := w) (m := m) H

def W_T_restBits_58 (d : Nat) (l4 : Int64) (l6 : Int32) (l7 : Int64) (l9 : Int32) (w : Nat × Nat × Nat) (m : zM) (Q : Int64 → zM → Prop) : Prop := ∀ o0 o1 o2 o3 o10 : Option Value, mm_W (d + 1) 179 58 [o0, o1, o2, o3, some (.long l4), none, some (.int l6), some (.long l7), none, some (.int l9), o10] [] (zE w m) (rL w Q)
def W_T_restBits_14 (d : Nat) (l0 : UInt64) (t0 : UInt64) (w : Nat × Nat × Nat) (m : zM) (Q : Int64 → zM → Prop) : Prop := ∀ o2 o3 o4 o5 o6 o7 o8 o9 o10 : Option Value, mm_W (d + 1) 179 14 [some (.double l0), none, o2, o3, o4, o5, o6, o7, o8, o9, o10] [.double t0] (zE w m) (rL w Q)
def W_T_restBits_22 (d : Nat) (l2 : UInt64) (t0 : Int64) (w : Nat × Nat × Nat) (m : zM) (Q : Int64 → zM → Prop) : Prop := ∀ o0 o1 o4 o5 o6 o7 o8 o9 o10 : Option Value, mm_W (d + 1) 179 22 [o0, o1, some (.double l2), none, o4, o5, o6, o7, o8, o9, o10] [.long t0] (zE w m) (rL w Q)
def W_T_restBits_51 (d : Nat) (l4 : Int64) (l6 : Int32) (l7 : Int64) (w : Nat × Nat × Nat) (m : zM) (Q : Int64 → zM → Prop) : Prop := ∀ o0 o1 o2 o3 o9 o10 : Option Value, mm_W (d + 1) 179 51 [o0, o1, o2, o3, some (.long l4), none, some (.int l6), some (.long l7), none, o9, o10] [] (zE w m) (rL w Q)
def W_T_restBits_71 (d : Nat) (l4 : Int64) (l6 : Int32) (l7 : Int64) (w : Nat × Nat × Nat) (m : zM) (Q : Int64 → zM → Prop) : Prop := ∀ o0 o1 o2 o3 o9 o10 : Option Value, mm_W (d + 1) 179 71 [o0, o1, o2, o3, some (.long l4), none, some (.int l6), some (.long l7), none, o9, o10] [] (zE w m) (rL w Q)
theorem S_T_restBits {p0 : UInt64} {d : Nat} {w : Nat × Nat × Nat} {m : zM} {Q : Int64 → zM → Prop} (H : ((¬ (Op.cmpValue (FP.dcmp p0 (FP.dconst0 : UInt64)) .l) = 0 → ((0 ≤ (Op.cmpValue (FP.dcmp p0 (FP.dconst0 : UInt64)) .g) → W_T_restBits_14 d p0 p0 w m Q) ∧ (¬ 0 ≤ (Op.cmpValue (FP.dcmp p0 (FP.dconst0 : UInt64)) .g) → W_T_restBits_14 d p0 (FP.dneg p0) w m Q))) ∧ ((Op.cmpValue (FP.dcmp p0 (FP.dconst0 : UInt64)) .l) = 0 → Q (0 : Int64) m))) : cL (d + 1) 179 [.double p0] w m Q := by
  refine cL_in rfl ?_
  refine mm_yrun (is := mm_k179) [14, 22, 51, 58, 71] 400 rfl ?_
  refine And.intro (fun q => ?_) (fun q => ?_)
  · replace H := H.1 q
    refine And.intro (fun q => ?_) (fun q => ?_)
    · replace H := H.1 q
      exact H _ _ _ _ _ _ _ _ _
    · replace H := H.2 q
      exact H _ _ _ _ _ _ _ _ _
  · replace H := H.2 (Classical.not_not.mp q)
    exact rL_mk (w := w) (m := m) H
theorem S_T_restBits_58 {l4 : Int64} {l6 : Int32} {l7 : Int64} {l9 : Int32} {d : Nat} {w : Nat × Nat × Nat} {m : zM} {Q : Int64 → zM → Prop} (H : (((52 : Int32) ≤ l9 → W_T_restBits_71 d l4 l6 l7 w m Q) ∧ (¬ (52 : Int32) ≤ l9 → (((4503599627370496 : Int64) ≤ l7 → W_T_restBits_71 d l4 l6 l7 w m Q) ∧ (¬ (4503599627370496 : Int64) ≤ l7 → W_T_restBits_58 d l4 (l6 + ((-1) : Int32)) (l7 <<< (((1 : Int32)).toInt64 &&& 63)) (l9 + (1 : Int32)) w m Q))))) : W_T_restBits_58 d l4 l6 l7 l9 w m Q := by
  intro o0 o1 o2 o3 o10
  refine mm_yrun (is := mm_k179) [14, 22, 51, 58, 71] 400 rfl ?_
  refine And.intro (fun q => ?_) (fun q => ?_)
  · replace H := H.1 q
    exact H _ _ _ _ _ _
  · replace H := H.2 q
    refine And.intro (fun q => ?_) (fun q => ?_)
    · replace H := H.1 q
      exact H _ _ _ _ _ _
    · replace H := H.2 q
      exact H _ _ _ _ _
theorem S_T_restBits_14 {l0 : UInt64} {t0 : UInt64} {d : Nat} {w : Nat × Nat × Nat} {m : zM} {Q : Int64 → zM → Prop} (H : ((0 ≤ (Op.cmpValue (FP.dcmp l0 (FP.dconst0 : UInt64)) .g) → W_T_restBits_22 d t0 (0 : Int64) w m Q) ∧ (¬ 0 ≤ (Op.cmpValue (FP.dcmp l0 (FP.dconst0 : UInt64)) .g) → W_T_restBits_22 d t0 ((-9223372036854775808) : Int64) w m Q))) : W_T_restBits_14 d l0 t0 w m Q := by
  intro o2 o3 o4 o5 o6 o7 o8 o9 o10
  refine mm_yrun (is := mm_k179) [14, 22, 51, 58, 71] 400 rfl ?_
  refine And.intro (fun q => ?_) (fun q => ?_)
  · replace H := H.1 q
    exact H _ _ _ _ _ _ _ _ _
  · replace H := H.2 q
    exact H _ _ _ _ _ _ _ _ _
theorem S_T_restBits_22 {l2 : UInt64} {t0 : Int64} {d : Nat} {w : Nat × Nat × Nat} {m : zM} {Q : Int64 → zM → Prop} (H : cI d 176 [.double l2] w m (fun v1 m1 => cL d 177 [.double l2, .int v1] w m1 (fun v2 m2 => (((Op.cmpValue (FP.dcmp l2 (4609434218613702656 : UInt64)) .l) < 0 → W_T_restBits_51 d t0 v1 v2 w m2 Q) ∧ (¬ (Op.cmpValue (FP.dcmp l2 (4609434218613702656 : UInt64)) .l) < 0 → cI d 291 [.int (0 : Int32), .int ((51 : Int32) - v1)] w m2 (fun v3 m3 => ((((3 : Int64) <<< ((v3).toInt64 &&& 63)) ≤ (0 : Int64) → W_T_restBits_51 d t0 v1 (0 : Int64) w m3 Q) ∧ (¬ ((3 : Int64) <<< ((v3).toInt64 &&& 63)) ≤ (0 : Int64) → (¬ ((3 : Int64) <<< ((v3).toInt64 &&& 63)) = 0) ∧ (W_T_restBits_51 d t0 v1 (v2 - v2 / ((3 : Int64) <<< ((v3).toInt64 &&& 63)) * ((3 : Int64) <<< ((v3).toInt64 &&& 63))) w m3 Q))))))))) : W_T_restBits_22 d l2 t0 w m Q := by
  intro o0 o1 o4 o5 o6 o7 o8 o9 o10
  refine mm_yrun (is := mm_k179) [14, 22, 51, 58, 71] 400 rfl ?_
  refine And.intro (trivial) ?_
  refine cI_use (w := w) (m := m) rfl H ?_
  intro v1 m1 H
  refine And.intro (trivial) ?_
  refine cL_use (w := w) (m := m1) rfl H ?_
  intro v2 m2 H
  refine And.intro (fun q => ?_) (fun q => ?_)
  · replace H := H.1 q
    exact H _ _ _ _ _ _
  · replace H := H.2 q
    refine And.intro (trivial) ?_
    refine cI_use (w := w) (m := m2) rfl H ?_
    intro v3 m3 H
    refine And.intro (fun q => ?_) (fun q => ?_)
    · replace H := H.1 q
      exact H _ _ _ _ _ _
    · replace H := H.2 q
      refine And.intro H.1 ?_
      replace H := H.2
      exact H _ _ _ _ _ _
theorem S_T_restBits_51 {l4 : Int64} {l6 : Int32} {l7 : Int64} {d : Nat} {w : Nat × Nat × Nat} {m : zM} {Q : Int64 → zM → Prop} (H : ((¬ l7 = (0 : Int64) → W_T_restBits_58 d l4 l6 l7 (0 : Int32) w m Q) ∧ (l7 = (0 : Int64) → Q l4 m))) : W_T_restBits_51 d l4 l6 l7 w m Q := by
  intro o0 o1 o2 o3 o9 o10
  refine mm_yrun (is := mm_k179) [14, 22, 51, 58, 71] 400 rfl ?_
  refine And.intro (fun q => ?_) (fun q => ?_)
  · replace H := H.1 q
    exact H _ _ _ _ _
  · replace H := H.2 (Classical.not_not.mp q)
    exact rL_mk (w := w) (m := m) H
theorem S_T_restBits_71 {l4 : Int64} {l6 : Int32} {l7 : Int64} {d : Nat} {w : Nat × Nat × Nat} {m : zM} {Q : Int64 → zM → Prop} (H : Q ((l4 ||| (((l6 + (1023 : Int32))).toInt64 <<< (((52 : Int32)).toInt64 &&& 63))) ||| (l7 &&& (4503599627370495 : Int64))) m) : W_T_restBits_71 d l4 l6 l7 w m Q := by
  intro o0 o1 o2 o3 o9 o10
  refine mm_yrun (is := mm_k179) [14, 22, 51, 58, 71] 400 rfl ?_
  exact rL_mk (w := w) (m := m) H

def W_T_greatestDivisor_8 (d : Nat) (l4 : Int64) (l6 : Int64) (l8 : Int32) (w : Nat × Nat × Nat) (m : zM) (Q : Int64 → zM → Prop) : Prop := ∀ o0 o1 o2 o3 o9 o10 : Option Value, mm_W (d + 1) 180 8 [o0, o1, o2, o3, some (.long l4), none, some (.long l6), none, some (.int l8), o9, o10] [] (zE w m) (rL w Q)
theorem S_T_greatestDivisor {p0 : Int64} {p1 : Int64} {d : Nat} {w : Nat × Nat × Nat} {m : zM} {Q : Int64 → zM → Prop} (H : cL d 290 [.long p0] w m (fun v1 m1 => cL d 290 [.long p1] w m1 (fun v2 m2 => W_T_greatestDivisor_8 d v1 v2 (0 : Int32) w m2 Q))) : cL (d + 1) 180 [.long p0, .long p1] w m Q := by
  refine cL_in rfl ?_
  refine mm_yrun (is := mm_k180) [8] 400 rfl ?_
  refine And.intro (trivial) ?_
  refine cL_use (w := w) (m := m) rfl H ?_
  intro v1 m1 H
  refine And.intro (trivial) ?_
  refine cL_use (w := w) (m := m1) rfl H ?_
  intro v2 m2 H
  exact H _ _ _ _ _ _
theorem S_T_greatestDivisor_8 {l4 : Int64} {l6 : Int64} {l8 : Int32} {d : Nat} {w : Nat × Nat × Nat} {m : zM} {Q : Int64 → zM → Prop} (H : (((200 : Int32) ≤ l8 → Q l4 m) ∧ (¬ (200 : Int32) ≤ l8 → ((l6 = (0 : Int64) → Q l4 m) ∧ (¬ l6 = (0 : Int64) → (¬ l6 = 0) ∧ (W_T_greatestDivisor_8 d l6 (l4 - l4 / l6 * l6) (l8 + (1 : Int32)) w m Q)))))) : W_T_greatestDivisor_8 d l4 l6 l8 w m Q := by
  intro o0 o1 o2 o3 o9 o10
  refine mm_yrun (is := mm_k180) [8] 400 rfl ?_
  refine And.intro (fun q => ?_) (fun q => ?_)
  · replace H := H.1 q
    exact rL_mk (w := w) (m := m) H
  · replace H := H.2 q
    refine And.intro (fun q => ?_) (fun q => ?_)
    · replace H := H.1 q
      exact rL_mk (w := w) (m := m) H
    · replace H := H.2 q
      refine And.intro H.1 ?_
      replace H := H.2
      exact H _ _ _ _ _ _

theorem S_M_isIn {p0 : Int64} {p1 : Int64} {p2 : Int64} {d : Nat} {w : Nat × Nat × Nat} {m : zM} {Q : Int32 → zM → Prop} (H : ((p0 < p1 → Q (0 : Int32) m) ∧ (¬ p0 < p1 → ((p2 < p0 → Q (0 : Int32) m) ∧ (¬ p2 < p0 → Q (1 : Int32) m))))) : cI d 181 [.long p0, .long p1, .long p2] w m Q := by
  refine cI_in rfl ?_
  refine mm_yrun (is := mm_k181) [] 400 rfl ?_
  refine And.intro (fun q => ?_) (fun q => ?_)
  · replace H := H.1 q
    refine And.intro (Or.inl rfl) ?_
    exact rI_mk (w := w) (m := m) H
  · replace H := H.2 q
    refine And.intro (fun q => ?_) (fun q => ?_)
    · replace H := H.1 q
      refine And.intro (Or.inl rfl) ?_
      exact rI_mk (w := w) (m := m) H
    · replace H := H.2 q
      refine And.intro (Or.inr rfl) ?_
      exact rI_mk (w := w) (m := m) H

theorem S_M_one {p0 : Int32} {d : Nat} {w : Nat × Nat × Nat} {m : zM} {Q : Int32 → zM → Prop} (H : ((p0 = 0 → Q (0 : Int32) m) ∧ (¬ p0 = 0 → Q (1 : Int32) m))) : cI d 182 [.int p0] w m Q := by
  refine cI_in rfl ?_
  refine mm_yrun (is := mm_k182) [] 400 rfl ?_
  refine And.intro (fun q => ?_) (fun q => ?_)
  · replace H := H.1 q
    exact rI_mk (w := w) (m := m) H
  · replace H := H.2 q
    exact rI_mk (w := w) (m := m) H

theorem S_M_has {p0 : Int64} {p1 : Int32} {d : Nat} {w : Nat × Nat × Nat} {m : zM} {Q : Int32 → zM → Prop} (H : ((¬ ((p0 >>> ((p1).toInt64 &&& 63)) &&& (1 : Int64)) = (1 : Int64) → Q (0 : Int32) m) ∧ (((p0 >>> ((p1).toInt64 &&& 63)) &&& (1 : Int64)) = (1 : Int64) → Q (1 : Int32) m))) : cI d 183 [.long p0, .int p1] w m Q := by
  refine cI_in rfl ?_
  refine mm_yrun (is := mm_k183) [] 400 rfl ?_
  refine And.intro (fun q => ?_) (fun q => ?_)
  · replace H := H.1 q
    refine And.intro (Or.inl rfl) ?_
    exact rI_mk (w := w) (m := m) H
  · replace H := H.2 (Classical.not_not.mp q)
    refine And.intro (Or.inr rfl) ?_
    exact rI_mk (w := w) (m := m) H

def W_M_keeps_6 (d : Nat) (l1 : Int32) (w : Nat × Nat × Nat) (m : zM) (Q : zM → Prop) : Prop := mm_W d 185 6 [some (.ref 261), some (.int l1)] [] (zE w m) (rV w Q)
def W_M_keeps_29 (d : Nat) (l1 : Int32) (w : Nat × Nat × Nat) (m : zM) (Q : zM → Prop) : Prop := mm_W d 185 29 [some (.ref 261), some (.int l1)] [] (zE w m) (rV w Q)
theorem S_M_keeps  {d : Nat} {w : Nat × Nat × Nat} {m : zM} {Q : zM → Prop} (H : ((¬ (m.1 261 2) = (8 : Int32) → W_M_keeps_29 d (0 : Int32) w m Q) ∧ ((m.1 261 2) = (8 : Int32) → W_M_keeps_6 d (0 : Int32) w m Q))) : cV d 185 [.ref 261] w m Q := by
  refine cV_in rfl ?_
  refine mm_yrun (is := mm_k185) [6, 29] 400 rfl ?_
  refine And.intro (rfl) ?_
  refine And.intro (fun q => ?_) (fun q => ?_)
  · replace H := H.1 q
    exact H
  · replace H := H.2 (Classical.not_not.mp q)
    exact H
theorem S_M_keeps_6 {l1 : Int32} {d : Nat} {w : Nat × Nat × Nat} {m : zM} {Q : zM → Prop} (H : (((13342 : Int32) ≤ l1 → W_M_keeps_29 d (0 : Int32) w (zI m 261 2 ((m.1 261 2) - (1 : Int32))) Q) ∧ (¬ (13342 : Int32) ≤ l1 → vp_in (l1 + (1906 : Int32)) 15248 ∧ (vp_in l1 15248 ∧ (W_M_keeps_6 d (l1 + (1 : Int32)) w (zL m 263 (l1).toNatClampNeg (m.2 263 ((l1 + (1906 : Int32))).toNatClampNeg)) Q))))) : W_M_keeps_6 d l1 w m Q := by
  refine mm_yrun (is := mm_k185) [6, 29] 400 rfl ?_
  refine And.intro (fun q => ?_) (fun q => ?_)
  · replace H := H.1 q
    refine And.intro (rfl) ?_
    refine And.intro (rfl) ?_
    exact H
  · replace H := H.2 q
    refine And.intro (And.intro (rfl) (by decide : ¬ 263 = 0)) ?_
    refine And.intro (And.intro (rfl) (by decide : ¬ 263 = 0)) ?_
    refine And.intro (And.intro (rfl) H.1) ?_
    replace H := H.2
    refine And.intro (And.intro (rfl) H.1) ?_
    replace H := H.2
    exact H
theorem S_M_keeps_29 {l1 : Int32} {d : Nat} {w : Nat × Nat × Nat} {m : zM} {Q : zM → Prop} (H : (((1906 : Int32) ≤ l1 → Q (zI (zI m 261 2 ((m.1 261 2) + (1 : Int32))) 261 20 (0 : Int32))) ∧ (¬ (1906 : Int32) ≤ l1 → vp_in l1 1906 ∧ (vp_in (((1906 : Int32) * (m.1 261 2)) + l1) 15248 ∧ (W_M_keeps_29 d (l1 + (1 : Int32)) w (zL m 263 ((((1906 : Int32) * (m.1 261 2)) + l1)).toNatClampNeg (m.2 262 (l1).toNatClampNeg)) Q))))) : W_M_keeps_29 d l1 w m Q := by
  refine mm_yrun (is := mm_k185) [6, 29] 400 rfl ?_
  refine And.intro (fun q => ?_) (fun q => ?_)
  · replace H := H.1 q
    refine And.intro (rfl) ?_
    refine And.intro (rfl) ?_
    refine And.intro (And.intro (rfl) (Or.inl rfl)) ?_
    exact rV_mk (w := w) (m := (zI (zI m 261 2 ((m.1 261 2) + (1 : Int32))) 261 20 (0 : Int32))) H
  · replace H := H.2 q
    refine And.intro (And.intro (rfl) (by decide : ¬ 263 = 0)) ?_
    refine And.intro (rfl) ?_
    refine And.intro (And.intro (rfl) (by decide : ¬ 262 = 0)) ?_
    refine And.intro (And.intro (rfl) H.1) ?_
    replace H := H.2
    refine And.intro (And.intro (rfl) H.1) ?_
    replace H := H.2
    exact H

def W_M_undo_13 (d : Nat) (l1 : Int32) (w : Nat × Nat × Nat) (m : zM) (Q : Int32 → zM → Prop) : Prop := mm_W d 186 13 [some (.ref 261), some (.int l1)] [] (zE w m) (rI w Q)
theorem S_M_undo  {d : Nat} {w : Nat × Nat × Nat} {m : zM} {Q : Int32 → zM → Prop} (H : ((¬ (m.1 261 2) = 0 → W_M_undo_13 d (0 : Int32) w (zI m 261 2 ((m.1 261 2) - (1 : Int32))) Q) ∧ ((m.1 261 2) = 0 → Q (0 : Int32) m))) : cI d 186 [.ref 261] w m Q := by
  refine cI_in rfl ?_
  refine mm_yrun (is := mm_k186) [13] 400 rfl ?_
  refine And.intro (rfl) ?_
  refine And.intro (fun q => ?_) (fun q => ?_)
  · replace H := H.1 q
    refine And.intro (rfl) ?_
    refine And.intro (rfl) ?_
    exact H
  · replace H := H.2 (Classical.not_not.mp q)
    refine And.intro (Or.inl rfl) ?_
    exact rI_mk (w := w) (m := m) H
theorem S_M_undo_13 {l1 : Int32} {d : Nat} {w : Nat × Nat × Nat} {m : zM} {Q : Int32 → zM → Prop} (H : (((1906 : Int32) ≤ l1 → Q (1 : Int32) (zI m 261 20 (0 : Int32))) ∧ (¬ (1906 : Int32) ≤ l1 → vp_in (((1906 : Int32) * (m.1 261 2)) + l1) 15248 ∧ (vp_in l1 1906 ∧ (W_M_undo_13 d (l1 + (1 : Int32)) w (zL m 262 (l1).toNatClampNeg (m.2 263 ((((1906 : Int32) * (m.1 261 2)) + l1)).toNatClampNeg)) Q))))) : W_M_undo_13 d l1 w m Q := by
  refine mm_yrun (is := mm_k186) [13] 400 rfl ?_
  refine And.intro (fun q => ?_) (fun q => ?_)
  · replace H := H.1 q
    refine And.intro (And.intro (rfl) (Or.inl rfl)) ?_
    refine And.intro (Or.inr rfl) ?_
    exact rI_mk (w := w) (m := (zI m 261 20 (0 : Int32))) H
  · replace H := H.2 q
    refine And.intro (And.intro (rfl) (by decide : ¬ 262 = 0)) ?_
    refine And.intro (And.intro (rfl) (by decide : ¬ 263 = 0)) ?_
    refine And.intro (rfl) ?_
    refine And.intro (And.intro (rfl) H.1) ?_
    replace H := H.2
    refine And.intro (And.intro (rfl) H.1) ?_
    replace H := H.2
    exact H

def W_M_power_4 (d : Nat) (l0 : Int32) (l1 : Int64) (l3 : Int32) (w : Nat × Nat × Nat) (m : zM) (Q : Int64 → zM → Prop) : Prop := mm_W d 187 4 [some (.int l0), some (.long l1), none, some (.int l3)] [] (zE w m) (rL w Q)
theorem S_M_power {p0 : Int32} {d : Nat} {w : Nat × Nat × Nat} {m : zM} {Q : Int64 → zM → Prop} (H : W_M_power_4 d p0 (1 : Int64) (0 : Int32) w m Q) : cL d 187 [.int p0] w m Q := by
  refine cL_in rfl ?_
  refine mm_yrun (is := mm_k187) [4] 400 rfl ?_
  exact H
theorem S_M_power_4 {l0 : Int32} {l1 : Int64} {l3 : Int32} {d : Nat} {w : Nat × Nat × Nat} {m : zM} {Q : Int64 → zM → Prop} (H : ((l0 ≤ l3 → Q l1 m) ∧ (¬ l0 ≤ l3 → W_M_power_4 d l0 (l1 * (27 : Int64)) (l3 + (1 : Int32)) w m Q))) : W_M_power_4 d l0 l1 l3 w m Q := by
  refine mm_yrun (is := mm_k187) [4] 400 rfl ?_
  refine And.intro (fun q => ?_) (fun q => ?_)
  · replace H := H.1 q
    exact rL_mk (w := w) (m := m) H
  · replace H := H.2 q
    exact H

def W_M_lettersOf_4 (d : Nat) (l2 : Int32) (l3 : Int64) (w : Nat × Nat × Nat) (m : zM) (Q : Int32 → zM → Prop) : Prop := ∀ o0 o1 : Option Value, mm_W d 188 4 [o0, o1, some (.int l2), some (.long l3), none] [] (zE w m) (rI w Q)
theorem S_M_lettersOf {p0 : Int64} {d : Nat} {w : Nat × Nat × Nat} {m : zM} {Q : Int32 → zM → Prop} (H : W_M_lettersOf_4 d (0 : Int32) p0 w m Q) : cI d 188 [.long p0] w m Q := by
  refine cI_in rfl ?_
  refine mm_yrun (is := mm_k188) [4] 400 rfl ?_
  exact H _ _
theorem S_M_lettersOf_4 {l2 : Int32} {l3 : Int64} {d : Nat} {w : Nat × Nat × Nat} {m : zM} {Q : Int32 → zM → Prop} (H : ((l3 = (0 : Int64) → Q l2 m) ∧ (¬ l3 = (0 : Int64) → (¬ (205891132094649 : Int64) = 0) ∧ (W_M_lettersOf_4 d (l2 + (1 : Int32)) ((l3 * (27 : Int64)) - (l3 * (27 : Int64)) / (205891132094649 : Int64) * (205891132094649 : Int64)) w m Q)))) : W_M_lettersOf_4 d l2 l3 w m Q := by
  intro o0 o1
  refine mm_yrun (is := mm_k188) [4] 400 rfl ?_
  refine And.intro (fun q => ?_) (fun q => ?_)
  · replace H := H.1 q
    exact rI_mk (w := w) (m := m) H
  · replace H := H.2 q
    refine And.intro H.1 ?_
    replace H := H.2
    exact H _ _

theorem S_M_head {p0 : Int64} {p1 : Int32} {d : Nat} {w : Nat × Nat × Nat} {m : zM} {Q : Int64 → zM → Prop} (H : cL d 187 [.int ((10 : Int32) - p1)] w m (fun v1 m1 => (¬ v1 = 0) ∧ (Q ((p0 / v1) * v1) m1))) : cL (d + 1) 189 [.long p0, .int p1] w m Q := by
  refine cL_in rfl ?_
  refine mm_yrun (is := mm_k189) [] 400 rfl ?_
  refine And.intro (trivial) ?_
  refine cL_use (w := w) (m := m) rfl H ?_
  intro v1 m1 H
  refine And.intro H.1 ?_
  replace H := H.2
  exact rL_mk (w := w) (m := m1) H

theorem S_M_tail {p0 : Int64} {p1 : Int32} {d : Nat} {w : Nat × Nat × Nat} {m : zM} {Q : Int64 → zM → Prop} (H : cL d 187 [.int ((10 : Int32) - p1)] w m (fun v1 m1 => (¬ v1 = 0) ∧ (cL d 187 [.int p1] w m1 (fun v2 m2 => Q ((p0 - p0 / v1 * v1) * v2) m2)))) : cL (d + 1) 190 [.long p0, .int p1] w m Q := by
  refine cL_in rfl ?_
  refine mm_yrun (is := mm_k190) [] 400 rfl ?_
  refine And.intro (trivial) ?_
  refine cL_use (w := w) (m := m) rfl H ?_
  intro v1 m1 H
  refine And.intro H.1 ?_
  replace H := H.2
  refine And.intro (trivial) ?_
  refine cL_use (w := w) (m := m1) rfl H ?_
  intro v2 m2 H
  exact rL_mk (w := w) (m := m2) H

def W_M_lexiconOf_2 (d : Nat) (l1 : Int64) (l3 : Int32) (w : Nat × Nat × Nat) (m : zM) (Q : Int32 → zM → Prop) : Prop := mm_W d 191 2 [some (.ref 261), some (.long l1), none, some (.int l3)] [] (zE w m) (rI w Q)
theorem S_M_lexiconOf {p0 : Int64} {d : Nat} {w : Nat × Nat × Nat} {m : zM} {Q : Int32 → zM → Prop} (H : W_M_lexiconOf_2 d p0 (0 : Int32) w m Q) : cI d 191 [.ref 261, .long p0] w m Q := by
  refine cI_in rfl ?_
  refine mm_yrun (is := mm_k191) [2] 400 rfl ?_
  exact H
theorem S_M_lexiconOf_2 {l1 : Int64} {l3 : Int32} {d : Nat} {w : Nat × Nat × Nat} {m : zM} {Q : Int32 → zM → Prop} (H : vp_in (0 : Int32) 1906 ∧ ((((m.2 262 ((0 : Int32)).toNatClampNeg) ≤ (l3).toInt64 → Q ((-1) : Int32) m) ∧ (¬ (m.2 262 ((0 : Int32)).toNatClampNeg) ≤ (l3).toInt64 → vp_in ((1 : Int32) + l3) 1906 ∧ (((¬ (m.2 262 (((1 : Int32) + l3)).toNatClampNeg) = l1 → W_M_lexiconOf_2 d l1 (l3 + (1 : Int32)) w m Q) ∧ ((m.2 262 (((1 : Int32) + l3)).toNatClampNeg) = l1 → Q l3 m))))))) : W_M_lexiconOf_2 d l1 l3 w m Q := by
  refine mm_yrun (is := mm_k191) [2] 400 rfl ?_
  refine And.intro (And.intro (rfl) (by decide : ¬ 262 = 0)) ?_
  refine And.intro (And.intro (rfl) H.1) ?_
  replace H := H.2
  refine And.intro (fun q => ?_) (fun q => ?_)
  · replace H := H.1 q
    exact rI_mk (w := w) (m := m) H
  · replace H := H.2 q
    refine And.intro (And.intro (rfl) (by decide : ¬ 262 = 0)) ?_
    refine And.intro (And.intro (rfl) H.1) ?_
    replace H := H.2
    refine And.intro (fun q => ?_) (fun q => ?_)
    · replace H := H.1 q
      exact H
    · replace H := H.2 (Classical.not_not.mp q)
      exact rI_mk (w := w) (m := m) H

def W_M_sameOf_2 (d : Nat) (l1 : Int64) (l3 : Int32) (w : Nat × Nat × Nat) (m : zM) (Q : Int64 → zM → Prop) : Prop := mm_W d 192 2 [some (.ref 261), some (.long l1), none, some (.int l3)] [] (zE w m) (rL w Q)
theorem S_M_sameOf {p0 : Int64} {d : Nat} {w : Nat × Nat × Nat} {m : zM} {Q : Int64 → zM → Prop} (H : W_M_sameOf_2 d p0 (0 : Int32) w m Q) : cL d 192 [.ref 261, .long p0] w m Q := by
  refine cL_in rfl ?_
  refine mm_yrun (is := mm_k192) [2] 400 rfl ?_
  exact H
theorem S_M_sameOf_2 {l1 : Int64} {l3 : Int32} {d : Nat} {w : Nat × Nat × Nat} {m : zM} {Q : Int64 → zM → Prop} (H : vp_in (178 : Int32) 1906 ∧ ((((m.2 262 ((178 : Int32)).toNatClampNeg) ≤ (l3).toInt64 → Q l1 m) ∧ (¬ (m.2 262 ((178 : Int32)).toNatClampNeg) ≤ (l3).toInt64 → vp_in ((179 : Int32) + l3) 1906 ∧ (((¬ (m.2 262 (((179 : Int32) + l3)).toNatClampNeg) = l1 → W_M_sameOf_2 d l1 (l3 + (1 : Int32)) w m Q) ∧ ((m.2 262 (((179 : Int32) + l3)).toNatClampNeg) = l1 → vp_in ((219 : Int32) + l3) 1906 ∧ ((((m.2 262 (((219 : Int32) + l3)).toNatClampNeg) = (0 : Int64) → W_M_sameOf_2 d l1 (l3 + (1 : Int32)) w m Q) ∧ (¬ (m.2 262 (((219 : Int32) + l3)).toNatClampNeg) = (0 : Int64) → vp_in ((219 : Int32) + l3) 1906 ∧ ((((m.2 262 (((219 : Int32) + l3)).toNatClampNeg) = l1 → W_M_sameOf_2 d l1 (l3 + (1 : Int32)) w m Q) ∧ (¬ (m.2 262 (((219 : Int32) + l3)).toNatClampNeg) = l1 → vp_in ((219 : Int32) + l3) 1906 ∧ (Q (m.2 262 (((219 : Int32) + l3)).toNatClampNeg) m)))))))))))))) : W_M_sameOf_2 d l1 l3 w m Q := by
  refine mm_yrun (is := mm_k192) [2] 400 rfl ?_
  refine And.intro (And.intro (rfl) (by decide : ¬ 262 = 0)) ?_
  refine And.intro (And.intro (rfl) H.1) ?_
  replace H := H.2
  refine And.intro (fun q => ?_) (fun q => ?_)
  · replace H := H.1 q
    exact rL_mk (w := w) (m := m) H
  · replace H := H.2 q
    refine And.intro (And.intro (rfl) (by decide : ¬ 262 = 0)) ?_
    refine And.intro (And.intro (rfl) H.1) ?_
    replace H := H.2
    refine And.intro (fun q => ?_) (fun q => ?_)
    · replace H := H.1 q
      exact H
    · replace H := H.2 (Classical.not_not.mp q)
      refine And.intro (And.intro (rfl) (by decide : ¬ 262 = 0)) ?_
      refine And.intro (And.intro (rfl) H.1) ?_
      replace H := H.2
      refine And.intro (fun q => ?_) (fun q => ?_)
      · replace H := H.1 q
        exact H
      · replace H := H.2 q
        refine And.intro (And.intro (rfl) (by decide : ¬ 262 = 0)) ?_
        refine And.intro (And.intro (rfl) H.1) ?_
        replace H := H.2
        refine And.intro (fun q => ?_) (fun q => ?_)
        · replace H := H.1 q
          exact H
        · replace H := H.2 q
          refine And.intro (And.intro (rfl) (by decide : ¬ 262 = 0)) ?_
          refine And.intro (And.intro (rfl) H.1) ?_
          replace H := H.2
          exact rL_mk (w := w) (m := m) H

def W_M_baseOf_14 (d : Nat) (l1 : Int64) (l5 : Int32) (l6 : Int32) (w : Nat × Nat × Nat) (m : zM) (Q : Int64 → zM → Prop) : Prop := ∀ o3 o4 o7 o8 o9 : Option Value, mm_W (d + 1) 193 14 [some (.ref 261), some (.long l1), none, o3, o4, some (.int l5), some (.int l6), o7, o8, o9] [] (zE w m) (rL w Q)
theorem S_M_baseOf {p0 : Int64} {d : Nat} {w : Nat × Nat × Nat} {m : zM} {Q : Int64 → zM → Prop} (H : cL d 192 [.ref 261, .long p0] w m (fun v1 m1 => ((v1 = p0 → cI d 188 [.long p0] w m1 (fun v2 m2 => W_M_baseOf_14 d p0 v2 (0 : Int32) w m2 Q)) ∧ (¬ v1 = p0 → Q v1 m1)))) : cL (d + 1) 193 [.ref 261, .long p0] w m Q := by
  refine cL_in rfl ?_
  refine mm_yrun (is := mm_k193) [14] 400 rfl ?_
  refine And.intro (rfl) ?_
  refine cL_use (w := w) (m := m) rfl H ?_
  intro v1 m1 H
  refine And.intro (fun q => ?_) (fun q => ?_)
  · replace H := H.1 q
    refine And.intro (trivial) ?_
    refine cI_use (w := w) (m := m1) rfl H ?_
    intro v2 m2 H
    exact H _ _ _ _ _
  · replace H := H.2 q
    exact rL_mk (w := w) (m := m1) H
theorem S_M_baseOf_14 {l1 : Int64} {l5 : Int32} {l6 : Int32} {d : Nat} {w : Nat × Nat × Nat} {m : zM} {Q : Int64 → zM → Prop} (H : vp_in (161 : Int32) 1906 ∧ ((((m.2 262 ((161 : Int32)).toNatClampNeg) ≤ (l6).toInt64 → Q l1 m) ∧ (¬ (m.2 262 ((161 : Int32)).toNatClampNeg) ≤ (l6).toInt64 → vp_in ((162 : Int32) + l6) 1906 ∧ (cI d 188 [.long (m.2 262 (((162 : Int32) + l6)).toNatClampNeg)] w m (fun v1 m1 => (((l5 - v1) < (2 : Int32) → W_M_baseOf_14 d l1 l5 (l6 + (1 : Int32)) w m1 Q) ∧ (¬ (l5 - v1) < (2 : Int32) → cL d 190 [.long l1, .int (l5 - v1)] w m1 (fun v2 m2 => vp_in ((162 : Int32) + l6) 1906 ∧ (((v2 = (m2.2 262 (((162 : Int32) + l6)).toNatClampNeg) → vp_in ((170 : Int32) + l6) 1906 ∧ (cI d 188 [.long (m2.2 262 (((170 : Int32) + l6)).toNatClampNeg)] w m2 (fun v3 m3 => ((((l5 - v1) + v3) ≤ (10 : Int32) → cL d 189 [.long l1, .int (l5 - v1)] w m3 (fun v4 m4 => vp_in ((170 : Int32) + l6) 1906 ∧ (cL d 187 [.int (l5 - v1)] w m4 (fun v5 m5 => (¬ v5 = 0) ∧ (cI d 191 [.ref 261, .long (v4 + ((m4.2 262 (((170 : Int32) + l6)).toNatClampNeg) / v5))] w m5 (fun v6 m6 => ((v6 = ((-1) : Int32) → W_M_baseOf_14 d l1 l5 (l6 + (1 : Int32)) w m6 Q) ∧ (¬ v6 = ((-1) : Int32) → cL d 192 [.ref 261, .long (v4 + ((m4.2 262 (((170 : Int32) + l6)).toNatClampNeg) / v5))] w m6 (fun v7 m7 => Q v7 m7))))))))) ∧ (¬ ((l5 - v1) + v3) ≤ (10 : Int32) → W_M_baseOf_14 d l1 l5 (l6 + (1 : Int32)) w m3 Q))))) ∧ (¬ v2 = (m2.2 262 (((162 : Int32) + l6)).toNatClampNeg) → W_M_baseOf_14 d l1 l5 (l6 + (1 : Int32)) w m2 Q)))))))))))) : W_M_baseOf_14 d l1 l5 l6 w m Q := by
  intro o3 o4 o7 o8 o9
  refine mm_yrun (is := mm_k193) [14] 400 rfl ?_
  refine And.intro (And.intro (rfl) (by decide : ¬ 262 = 0)) ?_
  refine And.intro (And.intro (rfl) H.1) ?_
  replace H := H.2
  refine And.intro (fun q => ?_) (fun q => ?_)
  · replace H := H.1 q
    exact rL_mk (w := w) (m := m) H
  · replace H := H.2 q
    refine And.intro (And.intro (rfl) (by decide : ¬ 262 = 0)) ?_
    refine And.intro (And.intro (rfl) H.1) ?_
    replace H := H.2
    refine And.intro (trivial) ?_
    refine cI_use (w := w) (m := m) rfl H ?_
    intro v1 m1 H
    refine And.intro (fun q => ?_) (fun q => ?_)
    · replace H := H.1 q
      exact H _ _ _ _ _
    · replace H := H.2 q
      refine And.intro (trivial) ?_
      refine cL_use (w := w) (m := m1) rfl H ?_
      intro v2 m2 H
      refine And.intro (And.intro (rfl) (by decide : ¬ 262 = 0)) ?_
      refine And.intro (And.intro (rfl) H.1) ?_
      replace H := H.2
      refine And.intro (fun q => ?_) (fun q => ?_)
      · replace H := H.1 q
        refine And.intro (And.intro (rfl) (by decide : ¬ 262 = 0)) ?_
        refine And.intro (And.intro (rfl) H.1) ?_
        replace H := H.2
        refine And.intro (trivial) ?_
        refine cI_use (w := w) (m := m2) rfl H ?_
        intro v3 m3 H
        refine And.intro (fun q => ?_) (fun q => ?_)
        · replace H := H.1 q
          refine And.intro (trivial) ?_
          refine cL_use (w := w) (m := m3) rfl H ?_
          intro v4 m4 H
          refine And.intro (And.intro (rfl) (by decide : ¬ 262 = 0)) ?_
          refine And.intro (And.intro (rfl) H.1) ?_
          replace H := H.2
          refine And.intro (trivial) ?_
          refine cL_use (w := w) (m := m4) rfl H ?_
          intro v5 m5 H
          refine And.intro H.1 ?_
          replace H := H.2
          refine And.intro (rfl) ?_
          refine cI_use (w := w) (m := m5) rfl H ?_
          intro v6 m6 H
          refine And.intro (fun q => ?_) (fun q => ?_)
          · replace H := H.1 q
            exact H _ _ _ _ _
          · replace H := H.2 q
            refine And.intro (rfl) ?_
            refine cL_use (w := w) (m := m6) rfl H ?_
            intro v7 m7 H
            exact rL_mk (w := w) (m := m7) H
        · replace H := H.2 q
          exact H _ _ _ _ _
      · replace H := H.2 q
        exact H _ _ _ _ _

theorem S_M_kindOf {p0 : Int64} {d : Nat} {w : Nat × Nat × Nat} {m : zM} {Q : Int32 → zM → Prop} (H : cI d 191 [.ref 261, .long p0] w m (fun v1 m1 => ((¬ v1 = ((-1) : Int32) → ((¬ v1 = ((-1) : Int32) → vp_in ((81 : Int32) + v1) 1906 ∧ (Q ((m1.2 262 (((81 : Int32) + v1)).toNatClampNeg)).toInt32 m1)) ∧ (v1 = ((-1) : Int32) → Q (6 : Int32) m1))) ∧ (v1 = ((-1) : Int32) → cL d 193 [.ref 261, .long p0] w m1 (fun v2 m2 => cI d 191 [.ref 261, .long v2] w m2 (fun v3 m3 => ((¬ v3 = ((-1) : Int32) → vp_in ((81 : Int32) + v3) 1906 ∧ (Q ((m3.2 262 (((81 : Int32) + v3)).toNatClampNeg)).toInt32 m3)) ∧ (v3 = ((-1) : Int32) → Q (6 : Int32) m3)))))))) : cI (d + 1) 194 [.ref 261, .long p0] w m Q := by
  refine cI_in rfl ?_
  refine mm_yrun (is := mm_k194) [] 400 rfl ?_
  refine And.intro (rfl) ?_
  refine cI_use (w := w) (m := m) rfl H ?_
  intro v1 m1 H
  refine And.intro (fun q => ?_) (fun q => ?_)
  · replace H := H.1 q
    refine And.intro (fun q => ?_) (fun q => ?_)
    · replace H := H.1 q
      refine And.intro (And.intro (rfl) (by decide : ¬ 262 = 0)) ?_
      refine And.intro (And.intro (rfl) H.1) ?_
      replace H := H.2
      exact rI_mk (w := w) (m := m1) H
    · replace H := H.2 (Classical.not_not.mp q)
      exact rI_mk (w := w) (m := m1) H
  · replace H := H.2 (Classical.not_not.mp q)
    refine And.intro (rfl) ?_
    refine cL_use (w := w) (m := m1) rfl H ?_
    intro v2 m2 H
    refine And.intro (rfl) ?_
    refine cI_use (w := w) (m := m2) rfl H ?_
    intro v3 m3 H
    refine And.intro (fun q => ?_) (fun q => ?_)
    · replace H := H.1 q
      refine And.intro (And.intro (rfl) (by decide : ¬ 262 = 0)) ?_
      refine And.intro (And.intro (rfl) H.1) ?_
      replace H := H.2
      exact rI_mk (w := w) (m := m3) H
    · replace H := H.2 (Classical.not_not.mp q)
      exact rI_mk (w := w) (m := m3) H

theorem S_M_kindBy {p0 : Int32} {d : Nat} {w : Nat × Nat × Nat} {m : zM} {Q : Int32 → zM → Prop} (H : ((p0 = (97 : Int32) → Q (1 : Int32) m) ∧ (¬ p0 = (97 : Int32) → ((p0 = (100 : Int32) → Q (4 : Int32) m) ∧ (¬ p0 = (100 : Int32) → ((p0 = (110 : Int32) → Q (0 : Int32) m) ∧ (¬ p0 = (110 : Int32) → ((p0 = (111 : Int32) → Q (5 : Int32) m) ∧ (¬ p0 = (111 : Int32) → ((p0 = (112 : Int32) → Q (3 : Int32) m) ∧ (¬ p0 = (112 : Int32) → ((p0 = (118 : Int32) → Q (2 : Int32) m) ∧ (¬ p0 = (118 : Int32) → Q ((-1) : Int32) m))))))))))))) : cI d 195 [.int p0] w m Q := by
  refine cI_in rfl ?_
  refine mm_yrun (is := mm_k195) [] 400 rfl ?_
  refine And.intro (fun q => ?_) (fun q => ?_)
  · replace H := H.1 q
    exact rI_mk (w := w) (m := m) H
  · replace H := H.2 q
    refine And.intro (fun q => ?_) (fun q => ?_)
    · replace H := H.1 q
      exact rI_mk (w := w) (m := m) H
    · replace H := H.2 q
      refine And.intro (fun q => ?_) (fun q => ?_)
      · replace H := H.1 q
        exact rI_mk (w := w) (m := m) H
      · replace H := H.2 q
        refine And.intro (fun q => ?_) (fun q => ?_)
        · replace H := H.1 q
          exact rI_mk (w := w) (m := m) H
        · replace H := H.2 q
          refine And.intro (fun q => ?_) (fun q => ?_)
          · replace H := H.1 q
            exact rI_mk (w := w) (m := m) H
          · replace H := H.2 q
            refine And.intro (fun q => ?_) (fun q => ?_)
            · replace H := H.1 q
              exact rI_mk (w := w) (m := m) H
            · replace H := H.2 q
              exact rI_mk (w := w) (m := m) H

theorem S_M_letterBy {p0 : Int32} {d : Nat} {w : Nat × Nat × Nat} {m : zM} {Q : Int32 → zM → Prop} (H : ((p0 = (0 : Int32) → Q (110 : Int32) m) ∧ (¬ p0 = (0 : Int32) → ((p0 = (1 : Int32) → Q (97 : Int32) m) ∧ (¬ p0 = (1 : Int32) → ((p0 = (2 : Int32) → Q (118 : Int32) m) ∧ (¬ p0 = (2 : Int32) → ((p0 = (3 : Int32) → Q (112 : Int32) m) ∧ (¬ p0 = (3 : Int32) → ((p0 = (4 : Int32) → Q (100 : Int32) m) ∧ (¬ p0 = (4 : Int32) → ((p0 = (5 : Int32) → Q (111 : Int32) m) ∧ (¬ p0 = (5 : Int32) → Q (120 : Int32) m))))))))))))) : cI d 196 [.int p0] w m Q := by
  refine cI_in rfl ?_
  refine mm_yrun (is := mm_k196) [] 400 rfl ?_
  refine And.intro (fun q => ?_) (fun q => ?_)
  · replace H := H.1 q
    exact rI_mk (w := w) (m := m) H
  · replace H := H.2 q
    refine And.intro (fun q => ?_) (fun q => ?_)
    · replace H := H.1 q
      exact rI_mk (w := w) (m := m) H
    · replace H := H.2 q
      refine And.intro (fun q => ?_) (fun q => ?_)
      · replace H := H.1 q
        exact rI_mk (w := w) (m := m) H
      · replace H := H.2 q
        refine And.intro (fun q => ?_) (fun q => ?_)
        · replace H := H.1 q
          exact rI_mk (w := w) (m := m) H
        · replace H := H.2 q
          refine And.intro (fun q => ?_) (fun q => ?_)
          · replace H := H.1 q
            exact rI_mk (w := w) (m := m) H
          · replace H := H.2 q
            refine And.intro (fun q => ?_) (fun q => ?_)
            · replace H := H.1 q
              exact rI_mk (w := w) (m := m) H
            · replace H := H.2 q
              exact rI_mk (w := w) (m := m) H

def W_M_four_2 (d : Nat) (l1 : Int32) (l2 : Int32) (w : Nat × Nat × Nat) (m : zM) (Q : zM → Prop) : Prop := mm_W d 197 2 [some (.ref 261), some (.int l1), some (.int l2)] [] (zE w m) (rV w Q)
theorem S_M_four {p0 : Int32} {d : Nat} {w : Nat × Nat × Nat} {m : zM} {Q : zM → Prop} (H : W_M_four_2 d p0 (24 : Int32) w m Q) : cV d 197 [.ref 261, .int p0] w m Q := by
  refine cV_in rfl ?_
  refine mm_yrun (is := mm_k197) [2] 400 rfl ?_
  exact H
theorem S_M_four_2 {l1 : Int32} {l2 : Int32} {d : Nat} {w : Nat × Nat × Nat} {m : zM} {Q : zM → Prop} (H : ((l2 < 0 → Q m) ∧ (¬ l2 < 0 → vp_in (m.1 261 5) 600 ∧ (W_M_four_2 d l1 (l2 + ((-8) : Int32)) w (zI (zI m 265 ((m.1 261 5)).toNatClampNeg ((l1 >>> (l2 &&& 31)) &&& (255 : Int32))) 261 5 ((m.1 261 5) + (1 : Int32))) Q)))) : W_M_four_2 d l1 l2 w m Q := by
  refine mm_yrun (is := mm_k197) [2] 400 rfl ?_
  refine And.intro (fun q => ?_) (fun q => ?_)
  · replace H := H.1 q
    exact rV_mk (w := w) (m := m) H
  · replace H := H.2 q
    refine And.intro (And.intro (rfl) (by decide : ¬ 265 = 0)) ?_
    refine And.intro (rfl) ?_
    refine And.intro (And.intro (rfl) H.1) ?_
    replace H := H.2
    refine And.intro (rfl) ?_
    refine And.intro (rfl) ?_
    exact H

theorem S_M_feed {p0 : Int32} {p1 : Int32} {p2 : Int32} {p3 : Int32} {p4 : Int32} {d : Nat} {w : Nat × Nat × Nat} {m : zM} {Q : Int32 → zM → Prop} (H : ((((m.1 261 5) + (20 : Int32)) ≤ (600 : Int32) → cV d 197 [.ref 261, .int p0] w m (fun m1 => cV d 197 [.ref 261, .int p1] w m1 (fun m2 => cV d 197 [.ref 261, .int p2] w m2 (fun m3 => cV d 197 [.ref 261, .int p3] w m3 (fun m4 => cV d 197 [.ref 261, .int p4] w m4 (fun m5 => Q (m5.1 261 5) m5)))))) ∧ (¬ ((m.1 261 5) + (20 : Int32)) ≤ (600 : Int32) → Q ((-1) : Int32) m))) : cI (d + 1) 198 [.ref 261, .int p0, .int p1, .int p2, .int p3, .int p4] w m Q := by
  refine cI_in rfl ?_
  refine mm_yrun (is := mm_k198) [] 400 rfl ?_
  refine And.intro (rfl) ?_
  refine And.intro (fun q => ?_) (fun q => ?_)
  · replace H := H.1 q
    refine And.intro (rfl) ?_
    refine cV_use (w := w) (m := m) rfl H ?_
    intro m1 H
    refine And.intro (rfl) ?_
    refine cV_use (w := w) (m := m1) rfl H ?_
    intro m2 H
    refine And.intro (rfl) ?_
    refine cV_use (w := w) (m := m2) rfl H ?_
    intro m3 H
    refine And.intro (rfl) ?_
    refine cV_use (w := w) (m := m3) rfl H ?_
    intro m4 H
    refine And.intro (rfl) ?_
    refine cV_use (w := w) (m := m4) rfl H ?_
    intro m5 H
    refine And.intro (rfl) ?_
    exact rI_mk (w := w) (m := m5) H
  · replace H := H.2 q
    exact rI_mk (w := w) (m := m) H

theorem S_M_end {p0 : Int32} {d : Nat} {w : Nat × Nat × Nat} {m : zM} {Q : Int32 → zM → Prop} (H : cI d 181 [.long (p0).toInt64, .long (0 : Int64), .long ((m.1 261 5)).toInt64] w m (fun v1 m1 => ((¬ v1 = 0 → Q (1 : Int32) (zI m1 261 5 p0)) ∧ (v1 = 0 → Q (0 : Int32) m1)))) : cI (d + 1) 199 [.ref 261, .int p0] w m Q := by
  refine cI_in rfl ?_
  refine mm_yrun (is := mm_k199) [] 400 rfl ?_
  refine And.intro (rfl) ?_
  refine And.intro (trivial) ?_
  refine cI_use (w := w) (m := m) rfl H ?_
  intro v1 m1 H
  refine And.intro (fun q => ?_) (fun q => ?_)
  · replace H := H.1 q
    refine And.intro (rfl) ?_
    refine And.intro (Or.inr rfl) ?_
    exact rI_mk (w := w) (m := (zI m1 261 5 p0)) H
  · replace H := H.2 (Classical.not_not.mp q)
    refine And.intro (Or.inl rfl) ?_
    exact rI_mk (w := w) (m := m1) H

theorem S_M_begins  {d : Nat} {w : Nat × Nat × Nat} {m : zM} {Q : zM → Prop} (H : Q (zI (zI (zI m 261 6 (0 : Int32)) 261 7 (0 : Int32)) 261 8 ((-1) : Int32))) : cV d 200 [.ref 261] w m Q := by
  refine cV_in rfl ?_
  refine mm_yrun (is := mm_k200) [] 400 rfl ?_
  refine And.intro (rfl) ?_
  refine And.intro (rfl) ?_
  refine And.intro (rfl) ?_
  exact rV_mk (w := w) (m := (zI (zI (zI m 261 6 (0 : Int32)) 261 7 (0 : Int32)) 261 8 ((-1) : Int32))) H

def W_M_see_0 (d : Nat)  (w : Nat × Nat × Nat) (m : zM) (Q : Int32 → zM → Prop) : Prop := mm_W d 201 0 [some (.ref 261)] [] (zE w m) (rI w Q)
theorem S_M_see  {d : Nat} {w : Nat × Nat × Nat} {m : zM} {Q : Int32 → zM → Prop} (H : W_M_see_0 d w m Q) : cI d 201 [.ref 261] w m Q := by
  refine cI_in rfl ?_
  exact H
theorem S_M_see_0  {d : Nat} {w : Nat × Nat × Nat} {m : zM} {Q : Int32 → zM → Prop} (H : (((m.1 261 5) ≤ (m.1 261 6) → (((m.1 261 5) ≤ (m.1 261 6) → Q ((-1) : Int32) m) ∧ (¬ (m.1 261 5) ≤ (m.1 261 6) → vp_in (m.1 261 6) 600 ∧ (Q (m.1 265 ((m.1 261 6)).toNatClampNeg) m)))) ∧ (¬ (m.1 261 5) ≤ (m.1 261 6) → vp_in (m.1 261 6) 600 ∧ ((((m.1 265 ((m.1 261 6)).toNatClampNeg) = (32 : Int32) → W_M_see_0 d w (zI m 261 6 ((m.1 261 6) + (1 : Int32))) Q) ∧ (¬ (m.1 265 ((m.1 261 6)).toNatClampNeg) = (32 : Int32) → vp_in (m.1 261 6) 600 ∧ (((¬ (m.1 265 ((m.1 261 6)).toNatClampNeg) = (10 : Int32) → (((m.1 261 5) ≤ (m.1 261 6) → Q ((-1) : Int32) m) ∧ (¬ (m.1 261 5) ≤ (m.1 261 6) → vp_in (m.1 261 6) 600 ∧ (Q (m.1 265 ((m.1 261 6)).toNatClampNeg) m)))) ∧ ((m.1 265 ((m.1 261 6)).toNatClampNeg) = (10 : Int32) → W_M_see_0 d w (zI m 261 6 ((m.1 261 6) + (1 : Int32))) Q))))))))) : W_M_see_0 d w m Q := by
  refine mm_yrun (is := mm_k201) [0] 400 rfl ?_
  refine And.intro (rfl) ?_
  refine And.intro (rfl) ?_
  refine And.intro (fun q => ?_) (fun q => ?_)
  · replace H := H.1 q
    refine And.intro (rfl) ?_
    refine And.intro (rfl) ?_
    refine And.intro (fun q => ?_) (fun q => ?_)
    · replace H := H.1 q
      exact rI_mk (w := w) (m := m) H
    · replace H := H.2 q
      refine And.intro (And.intro (rfl) (by decide : ¬ 265 = 0)) ?_
      refine And.intro (rfl) ?_
      refine And.intro (And.intro (rfl) H.1) ?_
      replace H := H.2
      exact rI_mk (w := w) (m := m) H
  · replace H := H.2 q
    refine And.intro (And.intro (rfl) (by decide : ¬ 265 = 0)) ?_
    refine And.intro (rfl) ?_
    refine And.intro (And.intro (rfl) H.1) ?_
    replace H := H.2
    refine And.intro (fun q => ?_) (fun q => ?_)
    · replace H := H.1 q
      refine And.intro (rfl) ?_
      refine And.intro (rfl) ?_
      exact H
    · replace H := H.2 q
      refine And.intro (And.intro (rfl) (by decide : ¬ 265 = 0)) ?_
      refine And.intro (rfl) ?_
      refine And.intro (And.intro (rfl) H.1) ?_
      replace H := H.2
      refine And.intro (fun q => ?_) (fun q => ?_)
      · replace H := H.1 q
        refine And.intro (rfl) ?_
        refine And.intro (rfl) ?_
        refine And.intro (fun q => ?_) (fun q => ?_)
        · replace H := H.1 q
          exact rI_mk (w := w) (m := m) H
        · replace H := H.2 q
          refine And.intro (And.intro (rfl) (by decide : ¬ 265 = 0)) ?_
          refine And.intro (rfl) ?_
          refine And.intro (And.intro (rfl) H.1) ?_
          replace H := H.2
          exact rI_mk (w := w) (m := m) H
      · replace H := H.2 (Classical.not_not.mp q)
        refine And.intro (rfl) ?_
        refine And.intro (rfl) ?_
        exact H

theorem S_M_fails {p0 : Int32} {p1 : Int32} {d : Nat} {w : Nat × Nat × Nat} {m : zM} {Q : Int32 → zM → Prop} (H : ((¬ (m.1 261 7) = 0 → Q (0 : Int32) m) ∧ ((m.1 261 7) = 0 → Q (0 : Int32) (zI (zI m 261 7 p0) 261 8 p1)))) : cI d 202 [.ref 261, .int p0, .int p1] w m Q := by
  refine cI_in rfl ?_
  refine mm_yrun (is := mm_k202) [] 400 rfl ?_
  refine And.intro (rfl) ?_
  refine And.intro (fun q => ?_) (fun q => ?_)
  · replace H := H.1 q
    refine And.intro (Or.inl rfl) ?_
    exact rI_mk (w := w) (m := m) H
  · replace H := H.2 (Classical.not_not.mp q)
    refine And.intro (rfl) ?_
    refine And.intro (rfl) ?_
    refine And.intro (Or.inl rfl) ?_
    exact rI_mk (w := w) (m := (zI (zI m 261 7 p0) 261 8 p1)) H

theorem S_M_isLetter  {d : Nat} {w : Nat × Nat × Nat} {m : zM} {Q : Int32 → zM → Prop} (H : cI d 201 [.ref 261] w m (fun v1 m1 => cI d 181 [.long (v1).toInt64, .long (97 : Int64), .long (122 : Int64)] w m1 (fun v2 m2 => (v2 = 0 ∨ v2 = 1) ∧ (Q v2 m2)))) : cI (d + 1) 203 [.ref 261] w m Q := by
  refine cI_in rfl ?_
  refine mm_yrun (is := mm_k203) [] 400 rfl ?_
  refine And.intro (rfl) ?_
  refine cI_use (w := w) (m := m) rfl H ?_
  intro v1 m1 H
  refine And.intro (trivial) ?_
  refine cI_use (w := w) (m := m1) rfl H ?_
  intro v2 m2 H
  refine And.intro H.1 ?_
  replace H := H.2
  exact rI_mk (w := w) (m := m2) H

def W_M_readWord_19 (d : Nat) (l1 : Int64) (w : Nat × Nat × Nat) (m : zM) (Q : Int32 → zM → Prop) : Prop := mm_W (d + 1) 204 19 [some (.ref 261), some (.long l1), none] [] (zE w m) (rI w Q)
theorem S_M_readWord  {d : Nat} {w : Nat × Nat × Nat} {m : zM} {Q : Int32 → zM → Prop} (H : cI d 203 [.ref 261] w m (fun v1 m1 => ((¬ v1 = 0 → cL d 187 [.int (9 : Int32)] w (zL (zI m1 261 12 (m1.1 261 6)) 261 11 (0 : Int64)) (fun v2 m2 => W_M_readWord_19 d v2 w m2 Q)) ∧ (v1 = 0 → cI d 202 [.ref 261, .int (1 : Int32), .int (m1.1 261 6)] w m1 (fun v3 m3 => (v3 = 0 ∨ v3 = 1) ∧ (Q v3 m3)))))) : cI (d + 1) 204 [.ref 261] w m Q := by
  refine cI_in rfl ?_
  refine mm_yrun (is := mm_k204) [19] 400 rfl ?_
  refine And.intro (rfl) ?_
  refine cI_use (w := w) (m := m) rfl H ?_
  intro v1 m1 H
  refine And.intro (fun q => ?_) (fun q => ?_)
  · replace H := H.1 q
    refine And.intro (rfl) ?_
    refine And.intro (rfl) ?_
    refine And.intro (rfl) ?_
    refine And.intro (trivial) ?_
    refine cL_use (w := w) (m := (zL (zI m1 261 12 (m1.1 261 6)) 261 11 (0 : Int64))) rfl H ?_
    intro v2 m2 H
    exact H
  · replace H := H.2 (Classical.not_not.mp q)
    refine And.intro (rfl) ?_
    refine And.intro (rfl) ?_
    refine cI_use (w := w) (m := m1) rfl H ?_
    intro v3 m3 H
    refine And.intro H.1 ?_
    replace H := H.2
    exact rI_mk (w := w) (m := m3) H
theorem S_M_readWord_19 {l1 : Int64} {d : Nat} {w : Nat × Nat × Nat} {m : zM} {Q : Int32 → zM → Prop} (H : (((m.1 261 5) ≤ (m.1 261 6) → ((((m.1 261 6) - (m.1 261 12)) ≤ (10 : Int32) → Q (1 : Int32) m) ∧ (¬ ((m.1 261 6) - (m.1 261 12)) ≤ (10 : Int32) → cI d 202 [.ref 261, .int (1 : Int32), .int (m.1 261 12)] w m (fun v1 m1 => ((v1 = 0 → Q (0 : Int32) m1) ∧ (¬ v1 = 0 → Q (1 : Int32) m1)))))) ∧ (¬ (m.1 261 5) ≤ (m.1 261 6) → vp_in (m.1 261 6) 600 ∧ (cI d 181 [.long ((m.1 265 ((m.1 261 6)).toNatClampNeg)).toInt64, .long (97 : Int64), .long (122 : Int64)] w m (fun v2 m2 => ((v2 = 0 → ((((m2.1 261 6) - (m2.1 261 12)) ≤ (10 : Int32) → Q (1 : Int32) m2) ∧ (¬ ((m2.1 261 6) - (m2.1 261 12)) ≤ (10 : Int32) → cI d 202 [.ref 261, .int (1 : Int32), .int (m2.1 261 12)] w m2 (fun v3 m3 => ((v3 = 0 → Q (0 : Int32) m3) ∧ (¬ v3 = 0 → Q (1 : Int32) m3)))))) ∧ (¬ v2 = 0 → (((10 : Int32) ≤ ((m2.1 261 6) - (m2.1 261 12)) → (¬ (27 : Int64) = 0) ∧ (W_M_readWord_19 d (l1 / (27 : Int64)) w (zI m2 261 6 ((m2.1 261 6) + (1 : Int32))) Q)) ∧ (¬ (10 : Int32) ≤ ((m2.1 261 6) - (m2.1 261 12)) → vp_in (m2.1 261 6) 600 ∧ ((¬ (27 : Int64) = 0) ∧ (W_M_readWord_19 d (l1 / (27 : Int64)) w (zI (zL m2 261 11 ((m2.2 261 11) + ((((m2.1 265 ((m2.1 261 6)).toNatClampNeg) - (96 : Int32))).toInt64 * l1))) 261 6 ((m2.1 261 6) + (1 : Int32))) Q))))))))))) : W_M_readWord_19 d l1 w m Q := by
  refine mm_yrun (is := mm_k204) [19] 400 rfl ?_
  refine And.intro (rfl) ?_
  refine And.intro (rfl) ?_
  refine And.intro (fun q => ?_) (fun q => ?_)
  · replace H := H.1 q
    refine And.intro (rfl) ?_
    refine And.intro (rfl) ?_
    refine And.intro (fun q => ?_) (fun q => ?_)
    · replace H := H.1 q
      refine And.intro (Or.inr rfl) ?_
      exact rI_mk (w := w) (m := m) H
    · replace H := H.2 q
      refine And.intro (rfl) ?_
      refine And.intro (rfl) ?_
      refine cI_use (w := w) (m := m) rfl H ?_
      intro v1 m1 H
      refine And.intro (fun q => ?_) (fun q => ?_)
      · replace H := H.1 q
        refine And.intro (Or.inl rfl) ?_
        exact rI_mk (w := w) (m := m1) H
      · replace H := H.2 q
        refine And.intro (Or.inr rfl) ?_
        exact rI_mk (w := w) (m := m1) H
  · replace H := H.2 q
    refine And.intro (And.intro (rfl) (by decide : ¬ 265 = 0)) ?_
    refine And.intro (rfl) ?_
    refine And.intro (And.intro (rfl) H.1) ?_
    replace H := H.2
    refine And.intro (trivial) ?_
    refine cI_use (w := w) (m := m) rfl H ?_
    intro v2 m2 H
    refine And.intro (fun q => ?_) (fun q => ?_)
    · replace H := H.1 q
      refine And.intro (rfl) ?_
      refine And.intro (rfl) ?_
      refine And.intro (fun q => ?_) (fun q => ?_)
      · replace H := H.1 q
        refine And.intro (Or.inr rfl) ?_
        exact rI_mk (w := w) (m := m2) H
      · replace H := H.2 q
        refine And.intro (rfl) ?_
        refine And.intro (rfl) ?_
        refine cI_use (w := w) (m := m2) rfl H ?_
        intro v3 m3 H
        refine And.intro (fun q => ?_) (fun q => ?_)
        · replace H := H.1 q
          refine And.intro (Or.inl rfl) ?_
          exact rI_mk (w := w) (m := m3) H
        · replace H := H.2 q
          refine And.intro (Or.inr rfl) ?_
          exact rI_mk (w := w) (m := m3) H
    · replace H := H.2 q
      refine And.intro (rfl) ?_
      refine And.intro (rfl) ?_
      refine And.intro (fun q => ?_) (fun q => ?_)
      · replace H := H.1 q
        refine And.intro H.1 ?_
        replace H := H.2
        refine And.intro (rfl) ?_
        refine And.intro (rfl) ?_
        exact H
      · replace H := H.2 q
        refine And.intro (rfl) ?_
        refine And.intro (And.intro (rfl) (by decide : ¬ 265 = 0)) ?_
        refine And.intro (rfl) ?_
        refine And.intro (And.intro (rfl) H.1) ?_
        replace H := H.2
        refine And.intro (rfl) ?_
        refine And.intro H.1 ?_
        replace H := H.2
        refine And.intro (rfl) ?_
        refine And.intro (rfl) ?_
        exact H

theorem S_M_takes {p0 : Int32} {d : Nat} {w : Nat × Nat × Nat} {m : zM} {Q : Int32 → zM → Prop} (H : cI d 201 [.ref 261] w m (fun v1 m1 => ((v1 = p0 → Q (1 : Int32) (zI m1 261 6 ((m1.1 261 6) + (1 : Int32)))) ∧ (¬ v1 = p0 → cI d 202 [.ref 261, .int (1 : Int32), .int (m1.1 261 6)] w m1 (fun v2 m2 => (v2 = 0 ∨ v2 = 1) ∧ (Q v2 m2)))))) : cI (d + 1) 205 [.ref 261, .int p0] w m Q := by
  refine cI_in rfl ?_
  refine mm_yrun (is := mm_k205) [] 400 rfl ?_
  refine And.intro (rfl) ?_
  refine cI_use (w := w) (m := m) rfl H ?_
  intro v1 m1 H
  refine And.intro (fun q => ?_) (fun q => ?_)
  · replace H := H.1 q
    refine And.intro (rfl) ?_
    refine And.intro (rfl) ?_
    refine And.intro (Or.inr rfl) ?_
    exact rI_mk (w := w) (m := (zI m1 261 6 ((m1.1 261 6) + (1 : Int32)))) H
  · replace H := H.2 q
    refine And.intro (rfl) ?_
    refine And.intro (rfl) ?_
    refine cI_use (w := w) (m := m1) rfl H ?_
    intro v2 m2 H
    refine And.intro H.1 ?_
    replace H := H.2
    exact rI_mk (w := w) (m := m2) H

def W_M_readLexicon_0 (d : Nat)  (w : Nat × Nat × Nat) (m : zM) (Q : Int32 → zM → Prop) : Prop := ∀ o1 o2 : Option Value, mm_W (d + 1) 206 0 [some (.ref 261), o1, o2] [] (zE w m) (rI w Q)
def W_M_readLexicon_41 (d : Nat) (l1 : Int32) (w : Nat × Nat × Nat) (m : zM) (Q : Int32 → zM → Prop) : Prop := ∀ o2 : Option Value, mm_W (d + 1) 206 41 [some (.ref 261), some (.int l1), o2] [] (zE w m) (rI w Q)
theorem S_M_readLexicon  {d : Nat} {w : Nat × Nat × Nat} {m : zM} {Q : Int32 → zM → Prop} (H : W_M_readLexicon_0 d w m Q) : cI (d + 1) 206 [.ref 261] w m Q := by
  refine cI_in rfl ?_
  exact H _ _
theorem S_M_readLexicon_0  {d : Nat} {w : Nat × Nat × Nat} {m : zM} {Q : Int32 → zM → Prop} (H : cI d 201 [.ref 261] w m (fun v1 m1 => ((v1 = ((-1) : Int32) → Q (1 : Int32) m1) ∧ (¬ v1 = ((-1) : Int32) → cI d 204 [.ref 261] w m1 (fun v2 m2 => ((¬ v2 = 0 → cI d 188 [.long (m2.2 261 11)] w m2 (fun v3 m3 => ((¬ v3 = (1 : Int32) → ((¬ ((-1) : Int32) = ((-1) : Int32) → cI d 205 [.ref 261, .int (58 : Int32)] w m3 (fun v4 m4 => ((¬ v4 = 0 → W_M_readLexicon_41 d ((-1) : Int32) w m4 Q) ∧ (v4 = 0 → Q (0 : Int32) m4)))) ∧ (((-1) : Int32) = ((-1) : Int32) → cI d 202 [.ref 261, .int (1 : Int32), .int (m3.1 261 12)] w m3 (fun v5 m5 => (v5 = 0 ∨ v5 = 1) ∧ (Q v5 m5))))) ∧ (v3 = (1 : Int32) → cL d 187 [.int (9 : Int32)] w m3 (fun v6 m6 => (¬ v6 = 0) ∧ (cI d 195 [.int ((((m3.2 261 11) / v6)).toInt32 + (96 : Int32))] w m6 (fun v7 m7 => ((¬ v7 = ((-1) : Int32) → cI d 205 [.ref 261, .int (58 : Int32)] w m7 (fun v8 m8 => ((¬ v8 = 0 → W_M_readLexicon_41 d v7 w m8 Q) ∧ (v8 = 0 → Q (0 : Int32) m8)))) ∧ (v7 = ((-1) : Int32) → cI d 202 [.ref 261, .int (1 : Int32), .int (m7.1 261 12)] w m7 (fun v9 m9 => (v9 = 0 ∨ v9 = 1) ∧ (Q v9 m9))))))))))) ∧ (v2 = 0 → Q (0 : Int32) m2))))))) : W_M_readLexicon_0 d w m Q := by
  intro o1 o2
  refine mm_yrun (is := mm_k206) [0, 41] 400 rfl ?_
  refine And.intro (rfl) ?_
  refine cI_use (w := w) (m := m) rfl H ?_
  intro v1 m1 H
  refine And.intro (fun q => ?_) (fun q => ?_)
  · replace H := H.1 q
    refine And.intro (Or.inr rfl) ?_
    exact rI_mk (w := w) (m := m1) H
  · replace H := H.2 q
    refine And.intro (rfl) ?_
    refine cI_use (w := w) (m := m1) rfl H ?_
    intro v2 m2 H
    refine And.intro (fun q => ?_) (fun q => ?_)
    · replace H := H.1 q
      refine And.intro (rfl) ?_
      refine And.intro (trivial) ?_
      refine cI_use (w := w) (m := m2) rfl H ?_
      intro v3 m3 H
      refine And.intro (fun q => ?_) (fun q => ?_)
      · replace H := H.1 q
        refine And.intro (fun q => ?_) (fun q => ?_)
        · replace H := H.1 q
          refine And.intro (rfl) ?_
          refine cI_use (w := w) (m := m3) rfl H ?_
          intro v4 m4 H
          refine And.intro (fun q => ?_) (fun q => ?_)
          · replace H := H.1 q
            exact H _
          · replace H := H.2 (Classical.not_not.mp q)
            refine And.intro (Or.inl rfl) ?_
            exact rI_mk (w := w) (m := m4) H
        · replace H := H.2 (Classical.not_not.mp q)
          refine And.intro (rfl) ?_
          refine And.intro (rfl) ?_
          refine cI_use (w := w) (m := m3) rfl H ?_
          intro v5 m5 H
          refine And.intro H.1 ?_
          replace H := H.2
          exact rI_mk (w := w) (m := m5) H
      · replace H := H.2 (Classical.not_not.mp q)
        refine And.intro (rfl) ?_
        refine And.intro (trivial) ?_
        refine cL_use (w := w) (m := m3) rfl H ?_
        intro v6 m6 H
        refine And.intro H.1 ?_
        replace H := H.2
        refine And.intro (trivial) ?_
        refine cI_use (w := w) (m := m6) rfl H ?_
        intro v7 m7 H
        refine And.intro (fun q => ?_) (fun q => ?_)
        · replace H := H.1 q
          refine And.intro (rfl) ?_
          refine cI_use (w := w) (m := m7) rfl H ?_
          intro v8 m8 H
          refine And.intro (fun q => ?_) (fun q => ?_)
          · replace H := H.1 q
            exact H _
          · replace H := H.2 (Classical.not_not.mp q)
            refine And.intro (Or.inl rfl) ?_
            exact rI_mk (w := w) (m := m8) H
        · replace H := H.2 (Classical.not_not.mp q)
          refine And.intro (rfl) ?_
          refine And.intro (rfl) ?_
          refine cI_use (w := w) (m := m7) rfl H ?_
          intro v9 m9 H
          refine And.intro H.1 ?_
          replace H := H.2
          exact rI_mk (w := w) (m := m9) H
    · replace H := H.2 (Classical.not_not.mp q)
      refine And.intro (Or.inl rfl) ?_
      exact rI_mk (w := w) (m := m2) H
theorem S_M_readLexicon_41 {l1 : Int32} {d : Nat} {w : Nat × Nat × Nat} {m : zM} {Q : Int32 → zM → Prop} (H : cI d 204 [.ref 261] w m (fun v1 m1 => ((¬ v1 = 0 → cI d 191 [.ref 261, .long (m1.2 261 11)] w m1 (fun v2 m2 => ((¬ v2 = ((-1) : Int32) → vp_in ((81 : Int32) + v2) 1906 ∧ (cI d 201 [.ref 261] w (zL m2 262 (((81 : Int32) + v2)).toNatClampNeg (l1).toInt64) (fun v3 m3 => ((¬ v3 = (59 : Int32) → W_M_readLexicon_41 d l1 w m3 Q) ∧ (v3 = (59 : Int32) → W_M_readLexicon_0 d w (zI m3 261 6 ((m3.1 261 6) + (1 : Int32))) Q))))) ∧ (v2 = ((-1) : Int32) → vp_in (0 : Int32) 1906 ∧ (((¬ (m2.2 262 ((0 : Int32)).toNatClampNeg) = (80 : Int64) → vp_in (0 : Int32) 1906 ∧ (vp_in (0 : Int32) 1906 ∧ (vp_in (0 : Int32) 1906 ∧ (vp_in ((1 : Int32) + ((m2.2 262 ((0 : Int32)).toNatClampNeg)).toInt32) 1906 ∧ (vp_in ((81 : Int32) + ((m2.2 262 ((0 : Int32)).toNatClampNeg)).toInt32) 1906 ∧ (cI d 201 [.ref 261] w (zL (zL (zL m2 262 ((0 : Int32)).toNatClampNeg ((m2.2 262 ((0 : Int32)).toNatClampNeg) + (1 : Int64))) 262 (((1 : Int32) + ((m2.2 262 ((0 : Int32)).toNatClampNeg)).toInt32)).toNatClampNeg (m2.2 261 11)) 262 (((81 : Int32) + ((m2.2 262 ((0 : Int32)).toNatClampNeg)).toInt32)).toNatClampNeg (l1).toInt64) (fun v4 m4 => ((¬ v4 = (59 : Int32) → W_M_readLexicon_41 d l1 w m4 Q) ∧ (v4 = (59 : Int32) → W_M_readLexicon_0 d w (zI m4 261 6 ((m4.1 261 6) + (1 : Int32))) Q))))))))) ∧ ((m2.2 262 ((0 : Int32)).toNatClampNeg) = (80 : Int64) → cI d 202 [.ref 261, .int (2 : Int32), .int (m2.1 261 12)] w m2 (fun v5 m5 => (v5 = 0 ∨ v5 = 1) ∧ (Q v5 m5))))))))) ∧ (v1 = 0 → Q (0 : Int32) m1)))) : W_M_readLexicon_41 d l1 w m Q := by
  intro o2
  refine mm_yrun (is := mm_k206) [0, 41] 400 rfl ?_
  refine And.intro (rfl) ?_
  refine cI_use (w := w) (m := m) rfl H ?_
  intro v1 m1 H
  refine And.intro (fun q => ?_) (fun q => ?_)
  · replace H := H.1 q
    refine And.intro (rfl) ?_
    refine And.intro (rfl) ?_
    refine cI_use (w := w) (m := m1) rfl H ?_
    intro v2 m2 H
    refine And.intro (fun q => ?_) (fun q => ?_)
    · replace H := H.1 q
      refine And.intro (And.intro (rfl) (by decide : ¬ 262 = 0)) ?_
      refine And.intro (And.intro (rfl) H.1) ?_
      replace H := H.2
      refine And.intro (rfl) ?_
      refine cI_use (w := w) (m := (zL m2 262 (((81 : Int32) + v2)).toNatClampNeg (l1).toInt64)) rfl H ?_
      intro v3 m3 H
      refine And.intro (fun q => ?_) (fun q => ?_)
      · replace H := H.1 q
        exact H _
      · replace H := H.2 (Classical.not_not.mp q)
        refine And.intro (rfl) ?_
        refine And.intro (rfl) ?_
        exact H _ _
    · replace H := H.2 (Classical.not_not.mp q)
      refine And.intro (And.intro (rfl) (by decide : ¬ 262 = 0)) ?_
      refine And.intro (And.intro (rfl) H.1) ?_
      replace H := H.2
      refine And.intro (fun q => ?_) (fun q => ?_)
      · replace H := H.1 q
        refine And.intro (And.intro (rfl) (by decide : ¬ 262 = 0)) ?_
        refine And.intro (And.intro (rfl) H.1) ?_
        replace H := H.2
        refine And.intro (And.intro (rfl) (by decide : ¬ 262 = 0)) ?_
        refine And.intro (And.intro (rfl) H.1) ?_
        replace H := H.2
        refine And.intro (And.intro (rfl) H.1) ?_
        replace H := H.2
        refine And.intro (And.intro (rfl) (by decide : ¬ 262 = 0)) ?_
        refine And.intro (rfl) ?_
        refine And.intro (And.intro (rfl) H.1) ?_
        replace H := H.2
        refine And.intro (And.intro (rfl) (by decide : ¬ 262 = 0)) ?_
        refine And.intro (And.intro (rfl) H.1) ?_
        replace H := H.2
        refine And.intro (rfl) ?_
        refine cI_use (w := w) (m := (zL (zL (zL m2 262 ((0 : Int32)).toNatClampNeg ((m2.2 262 ((0 : Int32)).toNatClampNeg) + (1 : Int64))) 262 (((1 : Int32) + ((m2.2 262 ((0 : Int32)).toNatClampNeg)).toInt32)).toNatClampNeg (m2.2 261 11)) 262 (((81 : Int32) + ((m2.2 262 ((0 : Int32)).toNatClampNeg)).toInt32)).toNatClampNeg (l1).toInt64)) rfl H ?_
        intro v4 m4 H
        refine And.intro (fun q => ?_) (fun q => ?_)
        · replace H := H.1 q
          exact H _
        · replace H := H.2 (Classical.not_not.mp q)
          refine And.intro (rfl) ?_
          refine And.intro (rfl) ?_
          exact H _ _
      · replace H := H.2 (Classical.not_not.mp q)
        refine And.intro (rfl) ?_
        refine And.intro (rfl) ?_
        refine cI_use (w := w) (m := m2) rfl H ?_
        intro v5 m5 H
        refine And.intro H.1 ?_
        replace H := H.2
        exact rI_mk (w := w) (m := m5) H
  · replace H := H.2 (Classical.not_not.mp q)
    refine And.intro (Or.inl rfl) ?_
    exact rI_mk (w := w) (m := m1) H

def W_M_readEndings_5 (d : Nat)  (w : Nat × Nat × Nat) (m : zM) (Q : Int32 → zM → Prop) : Prop := ∀ o1 o2 : Option Value, mm_W (d + 1) 207 5 [some (.ref 261), o1, o2] [] (zE w m) (rI w Q)
def W_M_readEndings_46 (d : Nat) (l1 : Int64) (w : Nat × Nat × Nat) (m : zM) (Q : Int32 → zM → Prop) : Prop := mm_W (d + 1) 207 46 [some (.ref 261), some (.long l1), none] [] (zE w m) (rI w Q)
theorem S_M_readEndings  {d : Nat} {w : Nat × Nat × Nat} {m : zM} {Q : Int32 → zM → Prop} (H : vp_in (161 : Int32) 1906 ∧ (W_M_readEndings_5 d w (zL m 262 ((161 : Int32)).toNatClampNeg (0 : Int64)) Q)) : cI (d + 1) 207 [.ref 261] w m Q := by
  refine cI_in rfl ?_
  refine mm_yrun (is := mm_k207) [5, 46] 400 rfl ?_
  refine And.intro (And.intro (rfl) (by decide : ¬ 262 = 0)) ?_
  refine And.intro (And.intro (rfl) H.1) ?_
  replace H := H.2
  exact H _ _
theorem S_M_readEndings_5  {d : Nat} {w : Nat × Nat × Nat} {m : zM} {Q : Int32 → zM → Prop} (H : cI d 201 [.ref 261] w m (fun v1 m1 => ((v1 = ((-1) : Int32) → Q (1 : Int32) m1) ∧ (¬ v1 = ((-1) : Int32) → cI d 204 [.ref 261] w m1 (fun v2 m2 => ((¬ v2 = 0 → vp_in (161 : Int32) 1906 ∧ (((¬ (m2.2 262 ((161 : Int32)).toNatClampNeg) = (8 : Int64) → cI d 205 [.ref 261, .int (61 : Int32)] w m2 (fun v3 m3 => ((¬ v3 = 0 → cI d 203 [.ref 261] w (zL m3 261 11 (0 : Int64)) (fun v4 m4 => ((v4 = 0 → W_M_readEndings_46 d (m2.2 261 11) w m4 Q) ∧ (¬ v4 = 0 → cI d 204 [.ref 261] w m4 (fun v5 m5 => ((¬ v5 = 0 → W_M_readEndings_46 d (m2.2 261 11) w m5 Q) ∧ (v5 = 0 → Q (0 : Int32) m5))))))) ∧ (v3 = 0 → Q (0 : Int32) m3)))) ∧ ((m2.2 262 ((161 : Int32)).toNatClampNeg) = (8 : Int64) → cI d 202 [.ref 261, .int (2 : Int32), .int (m2.1 261 12)] w m2 (fun v6 m6 => (v6 = 0 ∨ v6 = 1) ∧ (Q v6 m6)))))) ∧ (v2 = 0 → Q (0 : Int32) m2))))))) : W_M_readEndings_5 d w m Q := by
  intro o1 o2
  refine mm_yrun (is := mm_k207) [5, 46] 400 rfl ?_
  refine And.intro (rfl) ?_
  refine cI_use (w := w) (m := m) rfl H ?_
  intro v1 m1 H
  refine And.intro (fun q => ?_) (fun q => ?_)
  · replace H := H.1 q
    refine And.intro (Or.inr rfl) ?_
    exact rI_mk (w := w) (m := m1) H
  · replace H := H.2 q
    refine And.intro (rfl) ?_
    refine cI_use (w := w) (m := m1) rfl H ?_
    intro v2 m2 H
    refine And.intro (fun q => ?_) (fun q => ?_)
    · replace H := H.1 q
      refine And.intro (And.intro (rfl) (by decide : ¬ 262 = 0)) ?_
      refine And.intro (And.intro (rfl) H.1) ?_
      replace H := H.2
      refine And.intro (fun q => ?_) (fun q => ?_)
      · replace H := H.1 q
        refine And.intro (rfl) ?_
        refine And.intro (rfl) ?_
        refine cI_use (w := w) (m := m2) rfl H ?_
        intro v3 m3 H
        refine And.intro (fun q => ?_) (fun q => ?_)
        · replace H := H.1 q
          refine And.intro (rfl) ?_
          refine And.intro (rfl) ?_
          refine cI_use (w := w) (m := (zL m3 261 11 (0 : Int64))) rfl H ?_
          intro v4 m4 H
          refine And.intro (fun q => ?_) (fun q => ?_)
          · replace H := H.1 q
            exact H
          · replace H := H.2 q
            refine And.intro (rfl) ?_
            refine cI_use (w := w) (m := m4) rfl H ?_
            intro v5 m5 H
            refine And.intro (fun q => ?_) (fun q => ?_)
            · replace H := H.1 q
              exact H
            · replace H := H.2 (Classical.not_not.mp q)
              refine And.intro (Or.inl rfl) ?_
              exact rI_mk (w := w) (m := m5) H
        · replace H := H.2 (Classical.not_not.mp q)
          refine And.intro (Or.inl rfl) ?_
          exact rI_mk (w := w) (m := m3) H
      · replace H := H.2 (Classical.not_not.mp q)
        refine And.intro (rfl) ?_
        refine And.intro (rfl) ?_
        refine cI_use (w := w) (m := m2) rfl H ?_
        intro v6 m6 H
        refine And.intro H.1 ?_
        replace H := H.2
        exact rI_mk (w := w) (m := m6) H
    · replace H := H.2 (Classical.not_not.mp q)
      refine And.intro (Or.inl rfl) ?_
      exact rI_mk (w := w) (m := m2) H
theorem S_M_readEndings_46 {l1 : Int64} {d : Nat} {w : Nat × Nat × Nat} {m : zM} {Q : Int32 → zM → Prop} (H : cI d 205 [.ref 261, .int (59 : Int32)] w m (fun v1 m1 => ((¬ v1 = 0 → vp_in (161 : Int32) 1906 ∧ (vp_in ((162 : Int32) + ((m1.2 262 ((161 : Int32)).toNatClampNeg)).toInt32) 1906 ∧ (vp_in (161 : Int32) 1906 ∧ (vp_in ((170 : Int32) + (((zL m1 262 (((162 : Int32) + ((m1.2 262 ((161 : Int32)).toNatClampNeg)).toInt32)).toNatClampNeg l1).2 262 ((161 : Int32)).toNatClampNeg)).toInt32) 1906 ∧ (vp_in (161 : Int32) 1906 ∧ (vp_in (161 : Int32) 1906 ∧ (W_M_readEndings_5 d w (zL (zL (zL m1 262 (((162 : Int32) + ((m1.2 262 ((161 : Int32)).toNatClampNeg)).toInt32)).toNatClampNeg l1) 262 (((170 : Int32) + (((zL m1 262 (((162 : Int32) + ((m1.2 262 ((161 : Int32)).toNatClampNeg)).toInt32)).toNatClampNeg l1).2 262 ((161 : Int32)).toNatClampNeg)).toInt32)).toNatClampNeg (m1.2 261 11)) 262 ((161 : Int32)).toNatClampNeg (((zL (zL m1 262 (((162 : Int32) + ((m1.2 262 ((161 : Int32)).toNatClampNeg)).toInt32)).toNatClampNeg l1) 262 (((170 : Int32) + (((zL m1 262 (((162 : Int32) + ((m1.2 262 ((161 : Int32)).toNatClampNeg)).toInt32)).toNatClampNeg l1).2 262 ((161 : Int32)).toNatClampNeg)).toInt32)).toNatClampNeg (m1.2 261 11)).2 262 ((161 : Int32)).toNatClampNeg) + (1 : Int64))) Q))))))) ∧ (v1 = 0 → Q (0 : Int32) m1)))) : W_M_readEndings_46 d l1 w m Q := by
  refine mm_yrun (is := mm_k207) [5, 46] 400 rfl ?_
  refine And.intro (rfl) ?_
  refine cI_use (w := w) (m := m) rfl H ?_
  intro v1 m1 H
  refine And.intro (fun q => ?_) (fun q => ?_)
  · replace H := H.1 q
    refine And.intro (And.intro (rfl) (by decide : ¬ 262 = 0)) ?_
    refine And.intro (And.intro (rfl) (by decide : ¬ 262 = 0)) ?_
    refine And.intro (And.intro (rfl) H.1) ?_
    replace H := H.2
    refine And.intro (And.intro (rfl) H.1) ?_
    replace H := H.2
    refine And.intro (And.intro (rfl) (by decide : ¬ 262 = 0)) ?_
    refine And.intro (And.intro (rfl) (by decide : ¬ 262 = 0)) ?_
    refine And.intro (And.intro (rfl) H.1) ?_
    replace H := H.2
    refine And.intro (rfl) ?_
    refine And.intro (And.intro (rfl) H.1) ?_
    replace H := H.2
    refine And.intro (And.intro (rfl) (by decide : ¬ 262 = 0)) ?_
    refine And.intro (And.intro (rfl) H.1) ?_
    replace H := H.2
    refine And.intro (And.intro (rfl) H.1) ?_
    replace H := H.2
    exact H _ _
  · replace H := H.2 (Classical.not_not.mp q)
    refine And.intro (Or.inl rfl) ?_
    exact rI_mk (w := w) (m := m1) H

def W_M_readSame_5 (d : Nat)  (w : Nat × Nat × Nat) (m : zM) (Q : Int32 → zM → Prop) : Prop := ∀ o1 o2 o3 : Option Value, mm_W (d + 1) 208 5 [some (.ref 261), o1, o2, o3] [] (zE w m) (rI w Q)
def W_M_readSame_13 (d : Nat) (l1 : Int64) (l3 : Int32) (w : Nat × Nat × Nat) (m : zM) (Q : Int32 → zM → Prop) : Prop := mm_W (d + 1) 208 13 [some (.ref 261), some (.long l1), none, some (.int l3)] [] (zE w m) (rI w Q)
def W_M_readSame_37 (d : Nat) (l1 : Int64) (l3 : Int32) (w : Nat × Nat × Nat) (m : zM) (Q : Int32 → zM → Prop) : Prop := mm_W (d + 1) 208 37 [some (.ref 261), some (.long l1), none, some (.int l3)] [] (zE w m) (rI w Q)
def W_M_readSame_63 (d : Nat) (l1 : Int64) (l3 : Int32) (t1 : Int32) (t2 : Int64) (w : Nat × Nat × Nat) (m : zM) (Q : Int32 → zM → Prop) : Prop := mm_W (d + 1) 208 63 [some (.ref 261), some (.long l1), none, some (.int l3)] [.long t2, .int t1, .ref 262] (zE w m) (rI w Q)
theorem S_M_readSame  {d : Nat} {w : Nat × Nat × Nat} {m : zM} {Q : Int32 → zM → Prop} (H : vp_in (178 : Int32) 1906 ∧ (W_M_readSame_5 d w (zL m 262 ((178 : Int32)).toNatClampNeg (0 : Int64)) Q)) : cI (d + 1) 208 [.ref 261] w m Q := by
  refine cI_in rfl ?_
  refine mm_yrun (is := mm_k208) [5, 13, 37, 63] 400 rfl ?_
  refine And.intro (And.intro (rfl) (by decide : ¬ 262 = 0)) ?_
  refine And.intro (And.intro (rfl) H.1) ?_
  replace H := H.2
  exact H _ _ _
theorem S_M_readSame_5  {d : Nat} {w : Nat × Nat × Nat} {m : zM} {Q : Int32 → zM → Prop} (H : cI d 201 [.ref 261] w m (fun v1 m1 => ((v1 = ((-1) : Int32) → Q (1 : Int32) m1) ∧ (¬ v1 = ((-1) : Int32) → W_M_readSame_13 d (0 : Int64) (0 : Int32) w m1 Q)))) : W_M_readSame_5 d w m Q := by
  intro o1 o2 o3
  refine mm_yrun (is := mm_k208) [5, 13, 37, 63] 400 rfl ?_
  refine And.intro (rfl) ?_
  refine cI_use (w := w) (m := m) rfl H ?_
  intro v1 m1 H
  refine And.intro (fun q => ?_) (fun q => ?_)
  · replace H := H.1 q
    refine And.intro (Or.inr rfl) ?_
    exact rI_mk (w := w) (m := m1) H
  · replace H := H.2 q
    exact H
theorem S_M_readSame_13 {l1 : Int64} {l3 : Int32} {d : Nat} {w : Nat × Nat × Nat} {m : zM} {Q : Int32 → zM → Prop} (H : cI d 204 [.ref 261] w m (fun v1 m1 => ((¬ v1 = 0 → vp_in (178 : Int32) 1906 ∧ (((¬ (m1.2 262 ((178 : Int32)).toNatClampNeg) = (40 : Int64) → ((¬ l3 = 0 → W_M_readSame_37 d l1 l3 w m1 Q) ∧ (l3 = 0 → cL d 192 [.ref 261, .long (m1.2 261 11)] w m1 (fun v2 m2 => W_M_readSame_37 d v2 l3 w m2 Q)))) ∧ ((m1.2 262 ((178 : Int32)).toNatClampNeg) = (40 : Int64) → cI d 202 [.ref 261, .int (2 : Int32), .int (m1.1 261 12)] w m1 (fun v3 m3 => (v3 = 0 ∨ v3 = 1) ∧ (Q v3 m3)))))) ∧ (v1 = 0 → Q (0 : Int32) m1)))) : W_M_readSame_13 d l1 l3 w m Q := by
  refine mm_yrun (is := mm_k208) [5, 13, 37, 63] 400 rfl ?_
  refine And.intro (rfl) ?_
  refine cI_use (w := w) (m := m) rfl H ?_
  intro v1 m1 H
  refine And.intro (fun q => ?_) (fun q => ?_)
  · replace H := H.1 q
    refine And.intro (And.intro (rfl) (by decide : ¬ 262 = 0)) ?_
    refine And.intro (And.intro (rfl) H.1) ?_
    replace H := H.2
    refine And.intro (fun q => ?_) (fun q => ?_)
    · replace H := H.1 q
      refine And.intro (fun q => ?_) (fun q => ?_)
      · replace H := H.1 q
        exact H
      · replace H := H.2 (Classical.not_not.mp q)
        refine And.intro (rfl) ?_
        refine And.intro (rfl) ?_
        refine cL_use (w := w) (m := m1) rfl H ?_
        intro v2 m2 H
        exact H
    · replace H := H.2 (Classical.not_not.mp q)
      refine And.intro (rfl) ?_
      refine And.intro (rfl) ?_
      refine cI_use (w := w) (m := m1) rfl H ?_
      intro v3 m3 H
      refine And.intro H.1 ?_
      replace H := H.2
      exact rI_mk (w := w) (m := m3) H
  · replace H := H.2 (Classical.not_not.mp q)
    refine And.intro (Or.inl rfl) ?_
    exact rI_mk (w := w) (m := m1) H
theorem S_M_readSame_37 {l1 : Int64} {l3 : Int32} {d : Nat} {w : Nat × Nat × Nat} {m : zM} {Q : Int32 → zM → Prop} (H : vp_in (178 : Int32) 1906 ∧ (vp_in ((179 : Int32) + ((m.2 262 ((178 : Int32)).toNatClampNeg)).toInt32) 1906 ∧ (vp_in (178 : Int32) 1906 ∧ (((¬ l3 = 0 → W_M_readSame_63 d l1 l3 ((219 : Int32) + (((zL m 262 (((179 : Int32) + ((m.2 262 ((178 : Int32)).toNatClampNeg)).toInt32)).toNatClampNeg (m.2 261 11)).2 262 ((178 : Int32)).toNatClampNeg)).toInt32) l1 w (zL m 262 (((179 : Int32) + ((m.2 262 ((178 : Int32)).toNatClampNeg)).toInt32)).toNatClampNeg (m.2 261 11)) Q) ∧ (l3 = 0 → W_M_readSame_63 d l1 l3 ((219 : Int32) + (((zL m 262 (((179 : Int32) + ((m.2 262 ((178 : Int32)).toNatClampNeg)).toInt32)).toNatClampNeg (m.2 261 11)).2 262 ((178 : Int32)).toNatClampNeg)).toInt32) (0 : Int64) w (zL m 262 (((179 : Int32) + ((m.2 262 ((178 : Int32)).toNatClampNeg)).toInt32)).toNatClampNeg (m.2 261 11)) Q)))))) : W_M_readSame_37 d l1 l3 w m Q := by
  refine mm_yrun (is := mm_k208) [5, 13, 37, 63] 400 rfl ?_
  refine And.intro (And.intro (rfl) (by decide : ¬ 262 = 0)) ?_
  refine And.intro (And.intro (rfl) (by decide : ¬ 262 = 0)) ?_
  refine And.intro (And.intro (rfl) H.1) ?_
  replace H := H.2
  refine And.intro (rfl) ?_
  refine And.intro (And.intro (rfl) H.1) ?_
  replace H := H.2
  refine And.intro (And.intro (rfl) (by decide : ¬ 262 = 0)) ?_
  refine And.intro (And.intro (rfl) (by decide : ¬ 262 = 0)) ?_
  refine And.intro (And.intro (rfl) H.1) ?_
  replace H := H.2
  refine And.intro (fun q => ?_) (fun q => ?_)
  · replace H := H.1 q
    exact H
  · replace H := H.2 (Classical.not_not.mp q)
    exact H
theorem S_M_readSame_63 {l1 : Int64} {l3 : Int32} {t1 : Int32} {t2 : Int64} {d : Nat} {w : Nat × Nat × Nat} {m : zM} {Q : Int32 → zM → Prop} (H : vp_in t1 1906 ∧ (vp_in (178 : Int32) 1906 ∧ (vp_in (178 : Int32) 1906 ∧ ((((l3 + (1 : Int32)) < (2 : Int32) → W_M_readSame_13 d l1 (l3 + (1 : Int32)) w (zL (zL m 262 (t1).toNatClampNeg t2) 262 ((178 : Int32)).toNatClampNeg (((zL m 262 (t1).toNatClampNeg t2).2 262 ((178 : Int32)).toNatClampNeg) + (1 : Int64))) Q) ∧ (¬ (l3 + (1 : Int32)) < (2 : Int32) → cI d 201 [.ref 261] w (zL (zL m 262 (t1).toNatClampNeg t2) 262 ((178 : Int32)).toNatClampNeg (((zL m 262 (t1).toNatClampNeg t2).2 262 ((178 : Int32)).toNatClampNeg) + (1 : Int64))) (fun v1 m1 => ((¬ v1 = (59 : Int32) → W_M_readSame_13 d l1 (l3 + (1 : Int32)) w m1 Q) ∧ (v1 = (59 : Int32) → W_M_readSame_5 d w (zI m1 261 6 ((m1.1 261 6) + (1 : Int32))) Q))))))))) : W_M_readSame_63 d l1 l3 t1 t2 w m Q := by
  refine mm_yrun (is := mm_k208) [5, 13, 37, 63] 400 rfl ?_
  refine And.intro (And.intro (rfl) H.1) ?_
  replace H := H.2
  refine And.intro (And.intro (rfl) (by decide : ¬ 262 = 0)) ?_
  refine And.intro (And.intro (rfl) H.1) ?_
  replace H := H.2
  refine And.intro (And.intro (rfl) H.1) ?_
  replace H := H.2
  refine And.intro (fun q => ?_) (fun q => ?_)
  · replace H := H.1 q
    exact H
  · replace H := H.2 q
    refine And.intro (rfl) ?_
    refine cI_use (w := w) (m := (zL (zL m 262 (t1).toNatClampNeg t2) 262 ((178 : Int32)).toNatClampNeg (((zL m 262 (t1).toNatClampNeg t2).2 262 ((178 : Int32)).toNatClampNeg) + (1 : Int64)))) rfl H ?_
    intro v1 m1 H
    refine And.intro (fun q => ?_) (fun q => ?_)
    · replace H := H.1 q
      exact H
    · replace H := H.2 (Classical.not_not.mp q)
      refine And.intro (rfl) ?_
      refine And.intro (rfl) ?_
      exact H _ _ _

def W_M_readWords_4 (d : Nat) (l1 : Int32) (l2 : Int32) (l4 : Int32) (l5 : Int32) (w : Nat × Nat × Nat) (m : zM) (Q : Int32 → zM → Prop) : Prop := ∀ o3 : Option Value, mm_W (d + 1) 209 4 [some (.ref 261), some (.int l1), some (.int l2), o3, some (.int l4), some (.int l5)] [] (zE w m) (rI w Q)
theorem S_M_readWords {p0 : Int32} {p1 : Int32} {p2 : Int32} {d : Nat} {w : Nat × Nat × Nat} {m : zM} {Q : Int32 → zM → Prop} (H : W_M_readWords_4 d p0 p1 p2 (0 : Int32) w m Q) : cI (d + 1) 209 [.ref 261, .int p0, .int p1, .int p2] w m Q := by
  refine cI_in rfl ?_
  refine mm_yrun (is := mm_k209) [4] 400 rfl ?_
  exact H _
theorem S_M_readWords_4 {l1 : Int32} {l2 : Int32} {l4 : Int32} {l5 : Int32} {d : Nat} {w : Nat × Nat × Nat} {m : zM} {Q : Int32 → zM → Prop} (H : cI d 201 [.ref 261] w m (fun v1 m1 => ((v1 = ((-1) : Int32) → Q l4 m1) ∧ (¬ v1 = ((-1) : Int32) → cI d 201 [.ref 261] w m1 (fun v2 m2 => ((¬ v2 = (46 : Int32) → cI d 204 [.ref 261] w m2 (fun v3 m3 => ((¬ v3 = 0 → ((¬ l4 = (240 : Int32) → vp_in (l1 + l4) 1906 ∧ (vp_in (l2 + l4) 1906 ∧ (W_M_readWords_4 d l1 l2 (l4 + (1 : Int32)) l5 w (zL (zL m3 262 ((l1 + l4)).toNatClampNeg (m3.2 261 11)) 262 ((l2 + l4)).toNatClampNeg (l5).toInt64) Q))) ∧ (l4 = (240 : Int32) → cI d 202 [.ref 261, .int (2 : Int32), .int (m3.1 261 12)] w m3 (fun v4 m4 => Q ((-1) : Int32) m4)))) ∧ (v3 = 0 → Q ((-1) : Int32) m3)))) ∧ (v2 = (46 : Int32) → W_M_readWords_4 d l1 l2 l4 (l5 + (1 : Int32)) w (zI m2 261 6 ((m2.1 261 6) + (1 : Int32))) Q))))))) : W_M_readWords_4 d l1 l2 l4 l5 w m Q := by
  intro o3
  refine mm_yrun (is := mm_k209) [4] 400 rfl ?_
  refine And.intro (rfl) ?_
  refine cI_use (w := w) (m := m) rfl H ?_
  intro v1 m1 H
  refine And.intro (fun q => ?_) (fun q => ?_)
  · replace H := H.1 q
    exact rI_mk (w := w) (m := m1) H
  · replace H := H.2 q
    refine And.intro (rfl) ?_
    refine cI_use (w := w) (m := m1) rfl H ?_
    intro v2 m2 H
    refine And.intro (fun q => ?_) (fun q => ?_)
    · replace H := H.1 q
      refine And.intro (rfl) ?_
      refine cI_use (w := w) (m := m2) rfl H ?_
      intro v3 m3 H
      refine And.intro (fun q => ?_) (fun q => ?_)
      · replace H := H.1 q
        refine And.intro (fun q => ?_) (fun q => ?_)
        · replace H := H.1 q
          refine And.intro (And.intro (rfl) (by decide : ¬ 262 = 0)) ?_
          refine And.intro (rfl) ?_
          refine And.intro (And.intro (rfl) H.1) ?_
          replace H := H.2
          refine And.intro (And.intro (rfl) (by decide : ¬ 262 = 0)) ?_
          refine And.intro (And.intro (rfl) H.1) ?_
          replace H := H.2
          exact H _
        · replace H := H.2 (Classical.not_not.mp q)
          refine And.intro (rfl) ?_
          refine And.intro (rfl) ?_
          refine cI_use (w := w) (m := m3) rfl H ?_
          intro v4 m4 H
          exact rI_mk (w := w) (m := m4) H
      · replace H := H.2 (Classical.not_not.mp q)
        exact rI_mk (w := w) (m := m3) H
    · replace H := H.2 (Classical.not_not.mp q)
      refine And.intro (rfl) ?_
      refine And.intro (rfl) ?_
      exact H _

def W_M_readAtom_71 (d : Nat) (t1 : Int32) (t2 : Int32) (w : Nat × Nat × Nat) (m : zM) (Q : Int32 → zM → Prop) : Prop := ∀ o1 : Option Value, mm_W (d + 1) 210 71 [some (.ref 261), o1] [.int t2, .int t1, .ref 266] (zE w m) (rI w Q)
theorem S_M_readAtom  {d : Nat} {w : Nat × Nat × Nat} {m : zM} {Q : Int32 → zM → Prop} (H : cI d 201 [.ref 261] w m (fun v1 m1 => ((¬ v1 = (40 : Int32) → ((¬ (m1.1 261 15) = (12 : Int32) → ((¬ v1 = (46 : Int32) → ((¬ v1 = (120 : Int32) → cI d 195 [.int v1] w m1 (fun v2 m2 => W_M_readAtom_71 d (m1.1 261 15) v2 w m2 Q)) ∧ (v1 = (120 : Int32) → W_M_readAtom_71 d (m1.1 261 15) (6 : Int32) w m1 Q))) ∧ (v1 = (46 : Int32) → W_M_readAtom_71 d (m1.1 261 15) (7 : Int32) w m1 Q))) ∧ ((m1.1 261 15) = (12 : Int32) → cI d 202 [.ref 261, .int (2 : Int32), .int (m1.1 261 6)] w m1 (fun v3 m3 => (v3 = 0 ∨ v3 = 1) ∧ (Q v3 m3))))) ∧ (v1 = (40 : Int32) → ((¬ (m1.1 261 16) = (4 : Int32) → cI d 215 [.ref 261] w (zI (zI m1 261 16 ((m1.1 261 16) + (1 : Int32))) 261 6 ((m1.1 261 6) + (1 : Int32))) (fun v4 m4 => ((v4 = 0 → Q (0 : Int32) m4) ∧ (¬ v4 = 0 → cI d 205 [.ref 261, .int (41 : Int32)] w m4 (fun v5 m5 => ((¬ v5 = 0 → Q (1 : Int32) (zI m5 261 16 ((m5.1 261 16) - (1 : Int32)))) ∧ (v5 = 0 → Q (0 : Int32) m5))))))) ∧ ((m1.1 261 16) = (4 : Int32) → cI d 202 [.ref 261, .int (2 : Int32), .int (m1.1 261 6)] w m1 (fun v6 m6 => (v6 = 0 ∨ v6 = 1) ∧ (Q v6 m6)))))))) : cI (d + 1) 210 [.ref 261] w m Q := by
  refine cI_in rfl ?_
  refine mm_yrun (is := mm_k210) [71] 400 rfl ?_
  refine And.intro (rfl) ?_
  refine cI_use (w := w) (m := m) rfl H ?_
  intro v1 m1 H
  refine And.intro (fun q => ?_) (fun q => ?_)
  · replace H := H.1 q
    refine And.intro (rfl) ?_
    refine And.intro (fun q => ?_) (fun q => ?_)
    · replace H := H.1 q
      refine And.intro (And.intro (rfl) (by decide : ¬ 266 = 0)) ?_
      refine And.intro (rfl) ?_
      refine And.intro (fun q => ?_) (fun q => ?_)
      · replace H := H.1 q
        refine And.intro (fun q => ?_) (fun q => ?_)
        · replace H := H.1 q
          refine And.intro (trivial) ?_
          refine cI_use (w := w) (m := m1) rfl H ?_
          intro v2 m2 H
          exact H _
        · replace H := H.2 (Classical.not_not.mp q)
          exact H _
      · replace H := H.2 (Classical.not_not.mp q)
        exact H _
    · replace H := H.2 (Classical.not_not.mp q)
      refine And.intro (rfl) ?_
      refine And.intro (rfl) ?_
      refine cI_use (w := w) (m := m1) rfl H ?_
      intro v3 m3 H
      refine And.intro H.1 ?_
      replace H := H.2
      exact rI_mk (w := w) (m := m3) H
  · replace H := H.2 (Classical.not_not.mp q)
    refine And.intro (rfl) ?_
    refine And.intro (fun q => ?_) (fun q => ?_)
    · replace H := H.1 q
      refine And.intro (rfl) ?_
      refine And.intro (rfl) ?_
      refine And.intro (rfl) ?_
      refine And.intro (rfl) ?_
      refine And.intro (rfl) ?_
      refine cI_use (w := w) (m := (zI (zI m1 261 16 ((m1.1 261 16) + (1 : Int32))) 261 6 ((m1.1 261 6) + (1 : Int32)))) rfl H ?_
      intro v4 m4 H
      refine And.intro (fun q => ?_) (fun q => ?_)
      · replace H := H.1 q
        refine And.intro (Or.inl rfl) ?_
        exact rI_mk (w := w) (m := m4) H
      · replace H := H.2 q
        refine And.intro (rfl) ?_
        refine cI_use (w := w) (m := m4) rfl H ?_
        intro v5 m5 H
        refine And.intro (fun q => ?_) (fun q => ?_)
        · replace H := H.1 q
          refine And.intro (rfl) ?_
          refine And.intro (rfl) ?_
          refine And.intro (Or.inr rfl) ?_
          exact rI_mk (w := w) (m := (zI m5 261 16 ((m5.1 261 16) - (1 : Int32)))) H
        · replace H := H.2 (Classical.not_not.mp q)
          refine And.intro (Or.inl rfl) ?_
          exact rI_mk (w := w) (m := m5) H
    · replace H := H.2 (Classical.not_not.mp q)
      refine And.intro (rfl) ?_
      refine And.intro (rfl) ?_
      refine cI_use (w := w) (m := m1) rfl H ?_
      intro v6 m6 H
      refine And.intro H.1 ?_
      replace H := H.2
      exact rI_mk (w := w) (m := m6) H
theorem S_M_readAtom_71 {t1 : Int32} {t2 : Int32} {d : Nat} {w : Nat × Nat × Nat} {m : zM} {Q : Int32 → zM → Prop} (H : vp_in t1 12 ∧ (vp_in (m.1 261 15) 12 ∧ (Q (1 : Int32) (zI (zI (zI (zI (zI (zI (zI m 266 (t1).toNatClampNeg t2) 267 ((m.1 261 15)).toNatClampNeg (0 : Int32)) 261 17 ((1 : Int32) <<< ((m.1 261 15) &&& 31))) 261 18 ((1 : Int32) <<< ((m.1 261 15) &&& 31))) 261 19 (0 : Int32)) 261 15 ((m.1 261 15) + (1 : Int32))) 261 6 ((m.1 261 6) + (1 : Int32)))))) : W_M_readAtom_71 d t1 t2 w m Q := by
  intro o1
  refine mm_yrun (is := mm_k210) [71] 400 rfl ?_
  refine And.intro (And.intro (rfl) H.1) ?_
  replace H := H.2
  refine And.intro (And.intro (rfl) (by decide : ¬ 267 = 0)) ?_
  refine And.intro (rfl) ?_
  refine And.intro (And.intro (rfl) H.1) ?_
  replace H := H.2
  refine And.intro (rfl) ?_
  refine And.intro (rfl) ?_
  refine And.intro (rfl) ?_
  refine And.intro (rfl) ?_
  refine And.intro (And.intro (rfl) (Or.inl rfl)) ?_
  refine And.intro (rfl) ?_
  refine And.intro (rfl) ?_
  refine And.intro (rfl) ?_
  refine And.intro (rfl) ?_
  refine And.intro (Or.inr rfl) ?_
  exact rI_mk (w := w) (m := (zI (zI (zI (zI (zI (zI (zI m 266 (t1).toNatClampNeg t2) 267 ((m.1 261 15)).toNatClampNeg (0 : Int32)) 261 17 ((1 : Int32) <<< ((m.1 261 15) &&& 31))) 261 18 ((1 : Int32) <<< ((m.1 261 15) &&& 31))) 261 19 (0 : Int32)) 261 15 ((m.1 261 15) + (1 : Int32))) 261 6 ((m.1 261 6) + (1 : Int32)))) H
