def W_Pattern_readItem_12 (d : Nat) (a : Nat) (t0 : Int32) (w : Nat × Nat × Nat) (m : zM) (Q : Int32 → zM → Prop) : Prop := ∀ o2 o3 o4 o5 : Option Value, mm_W (d + 1) 43 12 [some (.ref a), some (.ref 8), o2, o3, o4, o5] [.int t0] (zE w m) (rI w Q)
def W_Pattern_readItem_29 (d : Nat) (a : Nat) (l3 : Int32) (t0 : Int32) (w : Nat × Nat × Nat) (m : zM) (Q : Int32 → zM → Prop) : Prop := ∀ o2 o4 o5 : Option Value, mm_W (d + 1) 43 29 [some (.ref a), some (.ref 8), o2, some (.int l3), o4, o5] [.int t0] (zE w m) (rI w Q)
def W_Pattern_readItem_41 (d : Nat) (a : Nat) (l3 : Int32) (l4 : Int32) (t0 : Int32) (w : Nat × Nat × Nat) (m : zM) (Q : Int32 → zM → Prop) : Prop := ∀ o2 o5 : Option Value, mm_W (d + 1) 43 41 [some (.ref a), some (.ref 8), o2, some (.int l3), some (.int l4), o5] [.int t0] (zE w m) (rI w Q)
def W_Pattern_readItem_48 (d : Nat) (a : Nat) (l3 : Int32) (l4 : Int32) (l5 : Int32) (w : Nat × Nat × Nat) (m : zM) (Q : Int32 → zM → Prop) : Prop := ∀ o0 o2 : Option Value, mm_W (d + 1) 43 48 [o0, some (.ref 8), o2, some (.int l3), some (.int l4), some (.int l5)] [] (zE w m) (rI w Q)
def W_Pattern_readItem_54 (d : Nat) (a : Nat) (l3 : Int32) (l5 : Int32) (w : Nat × Nat × Nat) (m : zM) (Q : Int32 → zM → Prop) : Prop := ∀ o0 o1 o2 o4 : Option Value, mm_W (d + 1) 43 54 [o0, o1, o2, some (.int l3), o4, some (.int l5)] [] (zE w m) (rI w Q)
theorem R_Pattern_readItem {a : Nat} {p1 : Int32} {d : Nat} {w : Nat × Nat × Nat} {m : zM} {Q : Int32 → zM → Prop} (hk_a : (zK w.1 a).1 = 5) (H : ((¬ (m.1 8 3) = (40 : Int32) → cI d 45 [.ref a, .ref 8] w m (fun v1 m1 => W_Pattern_readItem_12 d a v1 w m1 Q)) ∧ ((m.1 8 3) = (40 : Int32) → cI d 44 [.ref a, .ref 8, .int p1] w m (fun v2 m2 => W_Pattern_readItem_12 d a v2 w m2 Q)))) : cI (d + 1) 43 [.ref a, .ref 8, .int p1] w m Q := by
  refine cI_in rfl ?_
  refine mm_yrun (is := mm_k43) [12, 29, 41, 48, 54] 400 rfl ?_
  refine And.intro (rfl) ?_
  refine And.intro (fun q => ?_) (fun q => ?_)
  · replace H := H.1 q
    refine And.intro (hk_a) ?_
    refine cI_use (w := w) (m := m) rfl H ?_
    intro v1 m1 H
    exact H _ _ _ _
  · replace H := H.2 (Classical.not_not.mp q)
    refine And.intro (hk_a) ?_
    refine cI_use (w := w) (m := m) rfl H ?_
    intro v2 m2 H
    exact H _ _ _ _
theorem S_Pattern_readItem {a : Nat} {p1 : Int32} {d : Nat} {w : Nat × Nat × Nat} {m : zM} {Q : Int32 → zM → Prop} (hp_a : zPt w a) (H : ((¬ (m.1 8 3) = (40 : Int32) → cI d 45 [.ref a, .ref 8] w m (fun v1 m1 => W_Pattern_readItem_12 d a v1 w m1 Q)) ∧ ((m.1 8 3) = (40 : Int32) → cI d 44 [.ref a, .ref 8, .int p1] w m (fun v2 m2 => W_Pattern_readItem_12 d a v2 w m2 Q)))) : cI (d + 1) 43 [.ref a, .ref 8, .int p1] w m Q := R_Pattern_readItem hp_a.1 H
theorem S_Pattern_readItem_12 {a : Nat} {t0 : Int32} {d : Nat} {w : Nat × Nat × Nat} {m : zM} {Q : Int32 → zM → Prop} (H : (((m.1 8 5) = 0 → (((m.1 8 3) = (42 : Int32) → W_Pattern_readItem_29 d a t0 (1 : Int32) w m Q) ∧ (¬ (m.1 8 3) = (42 : Int32) → ((¬ (m.1 8 3) = (43 : Int32) → W_Pattern_readItem_29 d a t0 (0 : Int32) w m Q) ∧ ((m.1 8 3) = (43 : Int32) → W_Pattern_readItem_29 d a t0 (1 : Int32) w m Q))))) ∧ (¬ (m.1 8 5) = 0 → Q t0 m))) : W_Pattern_readItem_12 d a t0 w m Q := by
  intro o2 o3 o4 o5
  refine mm_yrun (is := mm_k43) [12, 29, 41, 48, 54] 400 rfl ?_
  refine And.intro (rfl) ?_
  refine And.intro (fun q => ?_) (fun q => ?_)
  · replace H := H.1 q
    refine And.intro (rfl) ?_
    refine And.intro (fun q => ?_) (fun q => ?_)
    · replace H := H.1 q
      exact H _ _ _
    · replace H := H.2 q
      refine And.intro (rfl) ?_
      refine And.intro (fun q => ?_) (fun q => ?_)
      · replace H := H.1 q
        exact H _ _ _
      · replace H := H.2 (Classical.not_not.mp q)
        exact H _ _ _
  · replace H := H.2 q
    exact rI_mk (w := w) (m := m) H
theorem S_Pattern_readItem_29 {a : Nat} {l3 : Int32} {t0 : Int32} {d : Nat} {w : Nat × Nat × Nat} {m : zM} {Q : Int32 → zM → Prop} (H : (((m.1 8 3) = (42 : Int32) → W_Pattern_readItem_41 d a l3 t0 (1 : Int32) w m Q) ∧ (¬ (m.1 8 3) = (42 : Int32) → ((¬ (m.1 8 3) = (63 : Int32) → W_Pattern_readItem_41 d a l3 t0 (0 : Int32) w m Q) ∧ ((m.1 8 3) = (63 : Int32) → W_Pattern_readItem_41 d a l3 t0 (1 : Int32) w m Q))))) : W_Pattern_readItem_29 d a l3 t0 w m Q := by
  intro o2 o4 o5
  refine mm_yrun (is := mm_k43) [12, 29, 41, 48, 54] 400 rfl ?_
  refine And.intro (rfl) ?_
  refine And.intro (fun q => ?_) (fun q => ?_)
  · replace H := H.1 q
    exact H _ _
  · replace H := H.2 q
    refine And.intro (rfl) ?_
    refine And.intro (fun q => ?_) (fun q => ?_)
    · replace H := H.1 q
      exact H _ _
    · replace H := H.2 (Classical.not_not.mp q)
      exact H _ _
theorem R_Pattern_readItem_41 {a : Nat} {l3 : Int32} {l4 : Int32} {t0 : Int32} {d : Nat} {w : Nat × Nat × Nat} {m : zM} {Q : Int32 → zM → Prop} (hk_a : (zK w.1 a).1 = 5) (H : ((l4 = 0 → W_Pattern_readItem_48 d a l3 l4 t0 w m Q) ∧ (¬ l4 = 0 → cV d 48 [.ref a, .int l3, .int l3] w m (fun m1 => W_Pattern_readItem_48 d a l3 l4 t0 w m1 Q)))) : W_Pattern_readItem_41 d a l3 l4 t0 w m Q := by
  intro o2 o5
  refine mm_yrun (is := mm_k43) [12, 29, 41, 48, 54] 400 rfl ?_
  refine And.intro (fun q => ?_) (fun q => ?_)
  · replace H := H.1 q
    exact H _ _
  · replace H := H.2 q
    refine And.intro (hk_a) ?_
    refine cV_use (w := w) (m := m) rfl H ?_
    intro m1 H
    exact H _ _
theorem S_Pattern_readItem_41 {a : Nat} {l3 : Int32} {l4 : Int32} {t0 : Int32} {d : Nat} {w : Nat × Nat × Nat} {m : zM} {Q : Int32 → zM → Prop} (hp_a : zPt w a) (H : ((l4 = 0 → W_Pattern_readItem_48 d a l3 l4 t0 w m Q) ∧ (¬ l4 = 0 → cV d 48 [.ref a, .int l3, .int l3] w m (fun m1 => W_Pattern_readItem_48 d a l3 l4 t0 w m1 Q)))) : W_Pattern_readItem_41 d a l3 l4 t0 w m Q := R_Pattern_readItem_41 hp_a.1 H
theorem S_Pattern_readItem_48 {a : Nat} {l3 : Int32} {l4 : Int32} {l5 : Int32} {d : Nat} {w : Nat × Nat × Nat} {m : zM} {Q : Int32 → zM → Prop} (H : ((¬ l4 = 0 → cV d 64 [.ref 8] w m (fun m1 => W_Pattern_readItem_54 d a l3 l5 w m1 Q)) ∧ (l4 = 0 → ((l5 = 0 → W_Pattern_readItem_54 d a l3 l5 w m Q) ∧ (¬ l5 = 0 → cV d 64 [.ref 8] w m (fun m2 => W_Pattern_readItem_54 d a l3 l5 w m2 Q)))))) : W_Pattern_readItem_48 d a l3 l4 l5 w m Q := by
  intro o0 o2
  refine mm_yrun (is := mm_k43) [12, 29, 41, 48, 54] 400 rfl ?_
  refine And.intro (fun q => ?_) (fun q => ?_)
  · replace H := H.1 q
    refine And.intro (rfl) ?_
    refine cV_use (w := w) (m := m) rfl H ?_
    intro m1 H
    exact H _ _ _ _
  · replace H := H.2 (Classical.not_not.mp q)
    refine And.intro (fun q => ?_) (fun q => ?_)
    · replace H := H.1 q
      exact H _ _ _ _
    · replace H := H.2 q
      refine And.intro (rfl) ?_
      refine cV_use (w := w) (m := m) rfl H ?_
      intro m2 H
      exact H _ _ _ _
theorem S_Pattern_readItem_54 {a : Nat} {l3 : Int32} {l5 : Int32} {d : Nat} {w : Nat × Nat × Nat} {m : zM} {Q : Int32 → zM → Prop} (H : ((l5 = 0 → Q l3 m) ∧ (¬ l5 = 0 → Q (l3 ||| (16777216 : Int32)) m))) : W_Pattern_readItem_54 d a l3 l5 w m Q := by
  intro o0 o1 o2 o4
  refine mm_yrun (is := mm_k43) [12, 29, 41, 48, 54] 400 rfl ?_
  refine And.intro (fun q => ?_) (fun q => ?_)
  · replace H := H.1 q
    exact rI_mk (w := w) (m := m) H
  · replace H := H.2 q
    exact rI_mk (w := w) (m := m) H

theorem R_Pattern_readGroup {a : Nat} {p1 : Int32} {d : Nat} {w : Nat × Nat × Nat} {m : zM} {Q : Int32 → zM → Prop} (hk_a : (zK w.1 a).1 = 5) (H : ((p1 < (4 : Int32) → cV d 64 [.ref 8] w m (fun m1 => cI d 41 [.ref a, .ref 8, .int (p1 + (1 : Int32))] w m1 (fun v2 m2 => cI d 66 [.ref 8, .int (41 : Int32)] w m2 (fun v3 m3 => ((v3 = 0 → Q v2 m3) ∧ (¬ v3 = 0 → cV d 64 [.ref 8] w m3 (fun m4 => Q v2 m4))))))) ∧ (¬ p1 < (4 : Int32) → cV d 63 [.ref 8, .int (2 : Int32)] w m (fun m5 => Q (0 : Int32) m5)))) : cI (d + 1) 44 [.ref a, .ref 8, .int p1] w m Q := by
  refine cI_in rfl ?_
  refine mm_yrun (is := mm_k44) [] 400 rfl ?_
  refine And.intro (fun q => ?_) (fun q => ?_)
  · replace H := H.1 q
    refine And.intro (rfl) ?_
    refine cV_use (w := w) (m := m) rfl H ?_
    intro m1 H
    refine And.intro (hk_a) ?_
    refine cI_use (w := w) (m := m1) rfl H ?_
    intro v2 m2 H
    refine And.intro (rfl) ?_
    refine cI_use (w := w) (m := m2) rfl H ?_
    intro v3 m3 H
    refine And.intro (fun q => ?_) (fun q => ?_)
    · replace H := H.1 q
      exact rI_mk (w := w) (m := m3) H
    · replace H := H.2 q
      refine And.intro (rfl) ?_
      refine cV_use (w := w) (m := m3) rfl H ?_
      intro m4 H
      exact rI_mk (w := w) (m := m4) H
  · replace H := H.2 q
    refine And.intro (rfl) ?_
    refine cV_use (w := w) (m := m) rfl H ?_
    intro m5 H
    exact rI_mk (w := w) (m := m5) H
theorem S_Pattern_readGroup {a : Nat} {p1 : Int32} {d : Nat} {w : Nat × Nat × Nat} {m : zM} {Q : Int32 → zM → Prop} (hp_a : zPt w a) (H : ((p1 < (4 : Int32) → cV d 64 [.ref 8] w m (fun m1 => cI d 41 [.ref a, .ref 8, .int (p1 + (1 : Int32))] w m1 (fun v2 m2 => cI d 66 [.ref 8, .int (41 : Int32)] w m2 (fun v3 m3 => ((v3 = 0 → Q v2 m3) ∧ (¬ v3 = 0 → cV d 64 [.ref 8] w m3 (fun m4 => Q v2 m4))))))) ∧ (¬ p1 < (4 : Int32) → cV d 63 [.ref 8, .int (2 : Int32)] w m (fun m5 => Q (0 : Int32) m5)))) : cI (d + 1) 44 [.ref a, .ref 8, .int p1] w m Q := R_Pattern_readGroup hp_a.1 H

theorem R_Pattern_readKind {a : Nat} {a_0 : Nat} {a_1 : Nat} {d : Nat} {w : Nat × Nat × Nat} {m : zM} {Q : Int32 → zM → Prop} (he_a_0 : zR w.2.1 w.2.2 a 0 = a_0) (he_a_1 : zR w.2.1 w.2.2 a 1 = a_1) (hk_a : (zK w.1 a).1 = 5) (hn_a_0 : ¬ a_0 = 0) (hn_a_1 : ¬ a_1 = 0) (H : (((m.1 8 3) = (46 : Int32) → (((m.1 a 2) < (12 : Int32) → cV d 158 [.ref a_0, .int (m.1 a 2), .int (m.1 8 3)] w m (fun m1 => cV d 158 [.ref a_1, .int (m1.1 a 2), .int (0 : Int32)] w m1 (fun m2 => cV d 64 [.ref 8] w (zI m2 a 2 ((m2.1 a 2) + (1 : Int32))) (fun m3 => Q (((1 : Int32) <<< ((m2.1 a 2) &&& 31)) ||| (((1 : Int32) <<< ((m2.1 a 2) &&& 31)) <<< ((12 : Int32) &&& 31))) m3)))) ∧ (¬ (m.1 a 2) < (12 : Int32) → cV d 63 [.ref 8, .int (2 : Int32)] w m (fun m4 => Q (0 : Int32) m4)))) ∧ (¬ (m.1 8 3) = (46 : Int32) → cI d 69 [.int (m.1 8 3)] w m (fun v5 m5 => ((¬ v5 = 0 → (((m5.1 a 2) < (12 : Int32) → cV d 158 [.ref a_0, .int (m5.1 a 2), .int (m5.1 8 3)] w m5 (fun m6 => cV d 158 [.ref a_1, .int (m6.1 a 2), .int (0 : Int32)] w m6 (fun m7 => cV d 64 [.ref 8] w (zI m7 a 2 ((m7.1 a 2) + (1 : Int32))) (fun m8 => Q (((1 : Int32) <<< ((m7.1 a 2) &&& 31)) ||| (((1 : Int32) <<< ((m7.1 a 2) &&& 31)) <<< ((12 : Int32) &&& 31))) m8)))) ∧ (¬ (m5.1 a 2) < (12 : Int32) → cV d 63 [.ref 8, .int (2 : Int32)] w m5 (fun m9 => Q (0 : Int32) m9)))) ∧ (v5 = 0 → cV d 63 [.ref 8, .int (1 : Int32)] w m5 (fun m10 => Q (0 : Int32) m10))))))) : cI (d + 1) 45 [.ref a, .ref 8] w m Q := by
  subst he_a_0
  subst he_a_1
  refine cI_in rfl ?_
  refine mm_yrun (is := mm_k45) [] 400 rfl ?_
  refine And.intro (rfl) ?_
  refine And.intro (fun q => ?_) (fun q => ?_)
  · replace H := H.1 q
    refine And.intro (hk_a) ?_
    refine And.intro (fun q => ?_) (fun q => ?_)
    · replace H := H.1 q
      refine And.intro (And.intro (hk_a) hn_a_0) ?_
      refine And.intro (hk_a) ?_
      refine And.intro (rfl) ?_
      refine And.intro (trivial) ?_
      refine cV_use (w := w) (m := m) rfl H ?_
      intro m1 H
      refine And.intro (And.intro (hk_a) hn_a_1) ?_
      refine And.intro (hk_a) ?_
      refine And.intro (trivial) ?_
      refine cV_use (w := w) (m := m1) rfl H ?_
      intro m2 H
      refine And.intro (hk_a) ?_
      refine And.intro (hk_a) ?_
      refine And.intro (hk_a) ?_
      refine And.intro (rfl) ?_
      refine cV_use (w := w) (m := (zI m2 a 2 ((m2.1 a 2) + (1 : Int32)))) rfl H ?_
      intro m3 H
      exact rI_mk (w := w) (m := m3) H
    · replace H := H.2 q
      refine And.intro (rfl) ?_
      refine cV_use (w := w) (m := m) rfl H ?_
      intro m4 H
      exact rI_mk (w := w) (m := m4) H
  · replace H := H.2 q
    refine And.intro (rfl) ?_
    refine And.intro (trivial) ?_
    refine cI_use (w := w) (m := m) rfl H ?_
    intro v5 m5 H
    refine And.intro (fun q => ?_) (fun q => ?_)
    · replace H := H.1 q
      refine And.intro (hk_a) ?_
      refine And.intro (fun q => ?_) (fun q => ?_)
      · replace H := H.1 q
        refine And.intro (And.intro (hk_a) hn_a_0) ?_
        refine And.intro (hk_a) ?_
        refine And.intro (rfl) ?_
        refine And.intro (trivial) ?_
        refine cV_use (w := w) (m := m5) rfl H ?_
        intro m6 H
        refine And.intro (And.intro (hk_a) hn_a_1) ?_
        refine And.intro (hk_a) ?_
        refine And.intro (trivial) ?_
        refine cV_use (w := w) (m := m6) rfl H ?_
        intro m7 H
        refine And.intro (hk_a) ?_
        refine And.intro (hk_a) ?_
        refine And.intro (hk_a) ?_
        refine And.intro (rfl) ?_
        refine cV_use (w := w) (m := (zI m7 a 2 ((m7.1 a 2) + (1 : Int32)))) rfl H ?_
        intro m8 H
        exact rI_mk (w := w) (m := m8) H
      · replace H := H.2 q
        refine And.intro (rfl) ?_
        refine cV_use (w := w) (m := m5) rfl H ?_
        intro m9 H
        exact rI_mk (w := w) (m := m9) H
    · replace H := H.2 (Classical.not_not.mp q)
      refine And.intro (rfl) ?_
      refine cV_use (w := w) (m := m5) rfl H ?_
      intro m10 H
      exact rI_mk (w := w) (m := m10) H
theorem S_Pattern_readKind {a : Nat} {d : Nat} {w : Nat × Nat × Nat} {m : zM} {Q : Int32 → zM → Prop} (hp_a : zPt w a) (H : (((m.1 8 3) = (46 : Int32) → (((m.1 a 2) < (12 : Int32) → cV d 158 [.ref (a + 1), .int (m.1 a 2), .int (m.1 8 3)] w m (fun m1 => cV d 158 [.ref (a + 2), .int (m1.1 a 2), .int (0 : Int32)] w m1 (fun m2 => cV d 64 [.ref 8] w (zI m2 a 2 ((m2.1 a 2) + (1 : Int32))) (fun m3 => Q (((1 : Int32) <<< ((m2.1 a 2) &&& 31)) ||| (((1 : Int32) <<< ((m2.1 a 2) &&& 31)) <<< ((12 : Int32) &&& 31))) m3)))) ∧ (¬ (m.1 a 2) < (12 : Int32) → cV d 63 [.ref 8, .int (2 : Int32)] w m (fun m4 => Q (0 : Int32) m4)))) ∧ (¬ (m.1 8 3) = (46 : Int32) → cI d 69 [.int (m.1 8 3)] w m (fun v5 m5 => ((¬ v5 = 0 → (((m5.1 a 2) < (12 : Int32) → cV d 158 [.ref (a + 1), .int (m5.1 a 2), .int (m5.1 8 3)] w m5 (fun m6 => cV d 158 [.ref (a + 2), .int (m6.1 a 2), .int (0 : Int32)] w m6 (fun m7 => cV d 64 [.ref 8] w (zI m7 a 2 ((m7.1 a 2) + (1 : Int32))) (fun m8 => Q (((1 : Int32) <<< ((m7.1 a 2) &&& 31)) ||| (((1 : Int32) <<< ((m7.1 a 2) &&& 31)) <<< ((12 : Int32) &&& 31))) m8)))) ∧ (¬ (m5.1 a 2) < (12 : Int32) → cV d 63 [.ref 8, .int (2 : Int32)] w m5 (fun m9 => Q (0 : Int32) m9)))) ∧ (v5 = 0 → cV d 63 [.ref 8, .int (1 : Int32)] w m5 (fun m10 => Q (0 : Int32) m10))))))) : cI (d + 1) 45 [.ref a, .ref 8] w m Q := R_Pattern_readKind hp_a.2.1 hp_a.2.2.1 hp_a.1 (Nat.succ_ne_zero _) (Nat.succ_ne_zero _) H

theorem S_Pattern_firstOf {p0 : Int32} {d : Nat} {w : Nat × Nat × Nat} {m : zM} {Q : Int32 → zM → Prop} (H : Q (p0 &&& (4095 : Int32)) m) : cI d 46 [.int p0] w m Q := by
  refine cI_in rfl ?_
  refine mm_yrun (is := mm_k46) [] 400 rfl ?_
  exact rI_mk (w := w) (m := m) H

theorem S_Pattern_lastOf {p0 : Int32} {d : Nat} {w : Nat × Nat × Nat} {m : zM} {Q : Int32 → zM → Prop} (H : Q (((p0).toUInt32 >>> (((12 : Int32)).toUInt32 &&& Int32.toUInt32 31)).toInt32 &&& (4095 : Int32)) m) : cI d 47 [.int p0] w m Q := by
  refine cI_in rfl ?_
  refine mm_yrun (is := mm_k47) [] 400 rfl ?_
  exact rI_mk (w := w) (m := m) H

def W_Pattern_link_5 (d : Nat) (a : Nat) (l2 : Int32) (l3 : Int32) (l4 : Int32) (w : Nat × Nat × Nat) (m : zM) (Q : zM → Prop) : Prop := ∀ o1 : Option Value, mm_W (d + 1) 48 5 [some (.ref a), o1, some (.int l2), some (.int l3), some (.int l4)] [] (zE w m) (rV w Q)
theorem S_Pattern_link {a : Nat} {p0 : Int32} {p1 : Int32} {d : Nat} {w : Nat × Nat × Nat} {m : zM} {Q : zM → Prop} (H : cI d 47 [.int p0] w m (fun v1 m1 => W_Pattern_link_5 d a p1 v1 (0 : Int32) w m1 Q)) : cV (d + 1) 48 [.ref a, .int p0, .int p1] w m Q := by
  refine cV_in rfl ?_
  refine mm_yrun (is := mm_k48) [5] 400 rfl ?_
  refine And.intro (trivial) ?_
  refine cI_use (w := w) (m := m) rfl H ?_
  intro v1 m1 H
  exact H _
theorem R_Pattern_link_5 {a : Nat} {l2 : Int32} {l3 : Int32} {l4 : Int32} {a_1 : Nat} {d : Nat} {w : Nat × Nat × Nat} {m : zM} {Q : zM → Prop} (he_a_1 : zR w.2.1 w.2.2 a 1 = a_1) (hk_a : (zK w.1 a).1 = 5) (hn_a_1 : ¬ a_1 = 0) (H : (((m.1 a 2) ≤ l4 → Q m) ∧ (¬ (m.1 a 2) ≤ l4 → (((12 : Int32) ≤ l4 → Q m) ∧ (¬ (12 : Int32) ≤ l4 → (((((l3).toUInt32 >>> ((l4).toUInt32 &&& Int32.toUInt32 31)).toInt32 &&& (1 : Int32)) = 0 → W_Pattern_link_5 d a l2 l3 (l4 + (1 : Int32)) w m Q) ∧ (¬ (((l3).toUInt32 >>> ((l4).toUInt32 &&& Int32.toUInt32 31)).toInt32 &&& (1 : Int32)) = 0 → cI d 156 [.ref a_1, .int l4] w m (fun v1 m1 => cI d 46 [.int l2] w m1 (fun v2 m2 => cV d 158 [.ref a_1, .int l4, .int (v1 ||| v2)] w m2 (fun m3 => W_Pattern_link_5 d a l2 l3 (l4 + (1 : Int32)) w m3 Q)))))))))) : W_Pattern_link_5 d a l2 l3 l4 w m Q := by
  subst he_a_1
  intro o1
  refine mm_yrun (is := mm_k48) [5] 400 rfl ?_
  refine And.intro (hk_a) ?_
  refine And.intro (fun q => ?_) (fun q => ?_)
  · replace H := H.1 q
    exact rV_mk (w := w) (m := m) H
  · replace H := H.2 q
    refine And.intro (fun q => ?_) (fun q => ?_)
    · replace H := H.1 q
      exact rV_mk (w := w) (m := m) H
    · replace H := H.2 q
      refine And.intro (fun q => ?_) (fun q => ?_)
      · replace H := H.1 q
        exact H _
      · replace H := H.2 q
        refine And.intro (And.intro (hk_a) hn_a_1) ?_
        refine And.intro (And.intro (hk_a) hn_a_1) ?_
        refine And.intro (trivial) ?_
        refine cI_use (w := w) (m := m) rfl H ?_
        intro v1 m1 H
        refine And.intro (trivial) ?_
        refine cI_use (w := w) (m := m1) rfl H ?_
        intro v2 m2 H
        refine And.intro (trivial) ?_
        refine cV_use (w := w) (m := m2) rfl H ?_
        intro m3 H
        exact H _
theorem S_Pattern_link_5 {a : Nat} {l2 : Int32} {l3 : Int32} {l4 : Int32} {d : Nat} {w : Nat × Nat × Nat} {m : zM} {Q : zM → Prop} (hp_a : zPt w a) (H : (((m.1 a 2) ≤ l4 → Q m) ∧ (¬ (m.1 a 2) ≤ l4 → (((12 : Int32) ≤ l4 → Q m) ∧ (¬ (12 : Int32) ≤ l4 → (((((l3).toUInt32 >>> ((l4).toUInt32 &&& Int32.toUInt32 31)).toInt32 &&& (1 : Int32)) = 0 → W_Pattern_link_5 d a l2 l3 (l4 + (1 : Int32)) w m Q) ∧ (¬ (((l3).toUInt32 >>> ((l4).toUInt32 &&& Int32.toUInt32 31)).toInt32 &&& (1 : Int32)) = 0 → cI d 156 [.ref (a + 2), .int l4] w m (fun v1 m1 => cI d 46 [.int l2] w m1 (fun v2 m2 => cV d 158 [.ref (a + 2), .int l4, .int (v1 ||| v2)] w m2 (fun m3 => W_Pattern_link_5 d a l2 l3 (l4 + (1 : Int32)) w m3 Q)))))))))) : W_Pattern_link_5 d a l2 l3 l4 w m Q := R_Pattern_link_5 hp_a.2.2.1 hp_a.1 (Nat.succ_ne_zero _) H

theorem R_Pattern_joined {a : Nat} {p0 : Int32} {p1 : Int32} {d : Nat} {w : Nat × Nat × Nat} {m : zM} {Q : Int32 → zM → Prop} (hk_a : (zK w.1 a).1 = 5) (H : cV d 48 [.ref a, .int p0, .int p1] w m (fun m1 => cI d 46 [.int p0] w m1 (fun v2 m2 => (((p0 &&& (16777216 : Int32)) = 0 → cI d 47 [.int p1] w m2 (fun v3 m3 => (((p1 &&& (16777216 : Int32)) = 0 → Q (((v2 ||| (0 : Int32)) ||| ((v3 ||| (0 : Int32)) <<< ((12 : Int32) &&& 31))) ||| ((p0 &&& p1) &&& (16777216 : Int32))) m3) ∧ (¬ (p1 &&& (16777216 : Int32)) = 0 → cI d 47 [.int p0] w m3 (fun v4 m4 => Q (((v2 ||| (0 : Int32)) ||| ((v3 ||| v4) <<< ((12 : Int32) &&& 31))) ||| ((p0 &&& p1) &&& (16777216 : Int32))) m4))))) ∧ (¬ (p0 &&& (16777216 : Int32)) = 0 → cI d 46 [.int p1] w m2 (fun v5 m5 => cI d 47 [.int p1] w m5 (fun v6 m6 => (((p1 &&& (16777216 : Int32)) = 0 → Q (((v2 ||| v5) ||| ((v6 ||| (0 : Int32)) <<< ((12 : Int32) &&& 31))) ||| ((p0 &&& p1) &&& (16777216 : Int32))) m6) ∧ (¬ (p1 &&& (16777216 : Int32)) = 0 → cI d 47 [.int p0] w m6 (fun v7 m7 => Q (((v2 ||| v5) ||| ((v6 ||| v7) <<< ((12 : Int32) &&& 31))) ||| ((p0 &&& p1) &&& (16777216 : Int32))) m7)))))))))) : cI (d + 1) 49 [.ref a, .int p0, .int p1] w m Q := by
  refine cI_in rfl ?_
  refine mm_yrun (is := mm_k49) [] 400 rfl ?_
  refine And.intro (hk_a) ?_
  refine cV_use (w := w) (m := m) rfl H ?_
  intro m1 H
  refine And.intro (trivial) ?_
  refine cI_use (w := w) (m := m1) rfl H ?_
  intro v2 m2 H
  refine And.intro (fun q => ?_) (fun q => ?_)
  · replace H := H.1 q
    refine And.intro (trivial) ?_
    refine cI_use (w := w) (m := m2) rfl H ?_
    intro v3 m3 H
    refine And.intro (fun q => ?_) (fun q => ?_)
    · replace H := H.1 q
      exact rI_mk (w := w) (m := m3) H
    · replace H := H.2 q
      refine And.intro (trivial) ?_
      refine cI_use (w := w) (m := m3) rfl H ?_
      intro v4 m4 H
      exact rI_mk (w := w) (m := m4) H
  · replace H := H.2 q
    refine And.intro (trivial) ?_
    refine cI_use (w := w) (m := m2) rfl H ?_
    intro v5 m5 H
    refine And.intro (trivial) ?_
    refine cI_use (w := w) (m := m5) rfl H ?_
    intro v6 m6 H
    refine And.intro (fun q => ?_) (fun q => ?_)
    · replace H := H.1 q
      exact rI_mk (w := w) (m := m6) H
    · replace H := H.2 q
      refine And.intro (trivial) ?_
      refine cI_use (w := w) (m := m6) rfl H ?_
      intro v7 m7 H
      exact rI_mk (w := w) (m := m7) H
theorem S_Pattern_joined {a : Nat} {p0 : Int32} {p1 : Int32} {d : Nat} {w : Nat × Nat × Nat} {m : zM} {Q : Int32 → zM → Prop} (hp_a : zPt w a) (H : cV d 48 [.ref a, .int p0, .int p1] w m (fun m1 => cI d 46 [.int p0] w m1 (fun v2 m2 => (((p0 &&& (16777216 : Int32)) = 0 → cI d 47 [.int p1] w m2 (fun v3 m3 => (((p1 &&& (16777216 : Int32)) = 0 → Q (((v2 ||| (0 : Int32)) ||| ((v3 ||| (0 : Int32)) <<< ((12 : Int32) &&& 31))) ||| ((p0 &&& p1) &&& (16777216 : Int32))) m3) ∧ (¬ (p1 &&& (16777216 : Int32)) = 0 → cI d 47 [.int p0] w m3 (fun v4 m4 => Q (((v2 ||| (0 : Int32)) ||| ((v3 ||| v4) <<< ((12 : Int32) &&& 31))) ||| ((p0 &&& p1) &&& (16777216 : Int32))) m4))))) ∧ (¬ (p0 &&& (16777216 : Int32)) = 0 → cI d 46 [.int p1] w m2 (fun v5 m5 => cI d 47 [.int p1] w m5 (fun v6 m6 => (((p1 &&& (16777216 : Int32)) = 0 → Q (((v2 ||| v5) ||| ((v6 ||| (0 : Int32)) <<< ((12 : Int32) &&& 31))) ||| ((p0 &&& p1) &&& (16777216 : Int32))) m6) ∧ (¬ (p1 &&& (16777216 : Int32)) = 0 → cI d 47 [.int p0] w m6 (fun v7 m7 => Q (((v2 ||| v5) ||| ((v6 ||| v7) <<< ((12 : Int32) &&& 31))) ||| ((p0 &&& p1) &&& (16777216 : Int32))) m7)))))))))) : cI (d + 1) 49 [.ref a, .int p0, .int p1] w m Q := R_Pattern_joined hp_a.1 H

def W_Pattern_taking_4 (d : Nat) (a : Nat) (l1 : Int32) (l2 : Int32) (l3 : Int32) (l4 : Int32) (w : Nat × Nat × Nat) (m : zM) (Q : Int32 → zM → Prop) : Prop := ∀ o5 : Option Value, mm_W (d + 1) 50 4 [some (.ref a), some (.int l1), some (.int l2), some (.int l3), some (.int l4), o5] [] (zE w m) (rI w Q)
theorem S_Pattern_taking {a : Nat} {p0 : Int32} {p1 : Int32} {d : Nat} {w : Nat × Nat × Nat} {m : zM} {Q : Int32 → zM → Prop} (H : W_Pattern_taking_4 d a p0 p1 (0 : Int32) (0 : Int32) w m Q) : cI (d + 1) 50 [.ref a, .int p0, .int p1] w m Q := by
  refine cI_in rfl ?_
  refine mm_yrun (is := mm_k50) [4] 400 rfl ?_
  exact H _
theorem R_Pattern_taking_4 {a : Nat} {l1 : Int32} {l2 : Int32} {l3 : Int32} {l4 : Int32} {a_0 : Nat} {d : Nat} {w : Nat × Nat × Nat} {m : zM} {Q : Int32 → zM → Prop} (he_a_0 : zR w.2.1 w.2.2 a 0 = a_0) (hk_a : (zK w.1 a).1 = 5) (hn_a_0 : ¬ a_0 = 0) (H : (((m.1 a 2) ≤ l4 → Q l3 m) ∧ (¬ (m.1 a 2) ≤ l4 → (((12 : Int32) ≤ l4 → Q l3 m) ∧ (¬ (12 : Int32) ≤ l4 → cI d 156 [.ref a_0, .int l4] w m (fun v1 m1 => (((((l1).toUInt32 >>> ((l4).toUInt32 &&& Int32.toUInt32 31)).toInt32 &&& (1 : Int32)) = 0 → W_Pattern_taking_4 d a l1 l2 l3 (l4 + (1 : Int32)) w m1 Q) ∧ (¬ (((l1).toUInt32 >>> ((l4).toUInt32 &&& Int32.toUInt32 31)).toInt32 &&& (1 : Int32)) = 0 → ((v1 = (46 : Int32) → W_Pattern_taking_4 d a l1 l2 (l3 ||| ((1 : Int32) <<< (l4 &&& 31))) (l4 + (1 : Int32)) w m1 Q) ∧ (¬ v1 = (46 : Int32) → ((¬ v1 = l2 → W_Pattern_taking_4 d a l1 l2 l3 (l4 + (1 : Int32)) w m1 Q) ∧ (v1 = l2 → W_Pattern_taking_4 d a l1 l2 (l3 ||| ((1 : Int32) <<< (l4 &&& 31))) (l4 + (1 : Int32)) w m1 Q)))))))))))) : W_Pattern_taking_4 d a l1 l2 l3 l4 w m Q := by
  subst he_a_0
  intro o5
  refine mm_yrun (is := mm_k50) [4] 400 rfl ?_
  refine And.intro (hk_a) ?_
  refine And.intro (fun q => ?_) (fun q => ?_)
  · replace H := H.1 q
    exact rI_mk (w := w) (m := m) H
  · replace H := H.2 q
    refine And.intro (fun q => ?_) (fun q => ?_)
    · replace H := H.1 q
      exact rI_mk (w := w) (m := m) H
    · replace H := H.2 q
      refine And.intro (And.intro (hk_a) hn_a_0) ?_
      refine And.intro (trivial) ?_
      refine cI_use (w := w) (m := m) rfl H ?_
      intro v1 m1 H
      refine And.intro (fun q => ?_) (fun q => ?_)
      · replace H := H.1 q
        exact H _
      · replace H := H.2 q
        refine And.intro (fun q => ?_) (fun q => ?_)
        · replace H := H.1 q
          exact H _
        · replace H := H.2 q
          refine And.intro (fun q => ?_) (fun q => ?_)
          · replace H := H.1 q
            exact H _
          · replace H := H.2 (Classical.not_not.mp q)
            exact H _
theorem S_Pattern_taking_4 {a : Nat} {l1 : Int32} {l2 : Int32} {l3 : Int32} {l4 : Int32} {d : Nat} {w : Nat × Nat × Nat} {m : zM} {Q : Int32 → zM → Prop} (hp_a : zPt w a) (H : (((m.1 a 2) ≤ l4 → Q l3 m) ∧ (¬ (m.1 a 2) ≤ l4 → (((12 : Int32) ≤ l4 → Q l3 m) ∧ (¬ (12 : Int32) ≤ l4 → cI d 156 [.ref (a + 1), .int l4] w m (fun v1 m1 => (((((l1).toUInt32 >>> ((l4).toUInt32 &&& Int32.toUInt32 31)).toInt32 &&& (1 : Int32)) = 0 → W_Pattern_taking_4 d a l1 l2 l3 (l4 + (1 : Int32)) w m1 Q) ∧ (¬ (((l1).toUInt32 >>> ((l4).toUInt32 &&& Int32.toUInt32 31)).toInt32 &&& (1 : Int32)) = 0 → ((v1 = (46 : Int32) → W_Pattern_taking_4 d a l1 l2 (l3 ||| ((1 : Int32) <<< (l4 &&& 31))) (l4 + (1 : Int32)) w m1 Q) ∧ (¬ v1 = (46 : Int32) → ((¬ v1 = l2 → W_Pattern_taking_4 d a l1 l2 l3 (l4 + (1 : Int32)) w m1 Q) ∧ (v1 = l2 → W_Pattern_taking_4 d a l1 l2 (l3 ||| ((1 : Int32) <<< (l4 &&& 31))) (l4 + (1 : Int32)) w m1 Q)))))))))))) : W_Pattern_taking_4 d a l1 l2 l3 l4 w m Q := R_Pattern_taking_4 hp_a.2.1 hp_a.1 (Nat.succ_ne_zero _) H

theorem R_Pattern_startBy {a : Nat} {p0 : Int32} {d : Nat} {w : Nat × Nat × Nat} {m : zM} {Q : Int32 → zM → Prop} (hk_a : (zK w.1 a).1 = 5) (H : cI d 50 [.ref a, .int (m.1 a 3), .int p0] w m (fun v1 m1 => Q v1 m1)) : cI (d + 1) 51 [.ref a, .int p0] w m Q := by
  refine cI_in rfl ?_
  refine mm_yrun (is := mm_k51) [] 400 rfl ?_
  refine And.intro (hk_a) ?_
  refine And.intro (hk_a) ?_
  refine cI_use (w := w) (m := m) rfl H ?_
  intro v1 m1 H
  exact rI_mk (w := w) (m := m1) H
theorem S_Pattern_startBy {a : Nat} {p0 : Int32} {d : Nat} {w : Nat × Nat × Nat} {m : zM} {Q : Int32 → zM → Prop} (hp_a : zPt w a) (H : cI d 50 [.ref a, .int (m.1 a 3), .int p0] w m (fun v1 m1 => Q v1 m1)) : cI (d + 1) 51 [.ref a, .int p0] w m Q := R_Pattern_startBy hp_a.1 H

def W_Pattern_goOn_4 (d : Nat) (a : Nat) (l1 : Int32) (l2 : Int32) (l3 : Int32) (l4 : Int32) (w : Nat × Nat × Nat) (m : zM) (Q : Int32 → zM → Prop) : Prop := mm_W (d + 1) 52 4 [some (.ref a), some (.int l1), some (.int l2), some (.int l3), some (.int l4)] [] (zE w m) (rI w Q)
theorem S_Pattern_goOn {a : Nat} {p0 : Int32} {p1 : Int32} {d : Nat} {w : Nat × Nat × Nat} {m : zM} {Q : Int32 → zM → Prop} (H : W_Pattern_goOn_4 d a p0 p1 (0 : Int32) (0 : Int32) w m Q) : cI (d + 1) 52 [.ref a, .int p0, .int p1] w m Q := by
  refine cI_in rfl ?_
  refine mm_yrun (is := mm_k52) [4] 400 rfl ?_
  exact H
theorem R_Pattern_goOn_4 {a : Nat} {l1 : Int32} {l2 : Int32} {l3 : Int32} {l4 : Int32} {a_1 : Nat} {d : Nat} {w : Nat × Nat × Nat} {m : zM} {Q : Int32 → zM → Prop} (he_a_1 : zR w.2.1 w.2.2 a 1 = a_1) (hk_a : (zK w.1 a).1 = 5) (hn_a_1 : ¬ a_1 = 0) (H : (((m.1 a 2) ≤ l4 → cI d 50 [.ref a, .int l3, .int l2] w m (fun v1 m1 => Q v1 m1)) ∧ (¬ (m.1 a 2) ≤ l4 → (((12 : Int32) ≤ l4 → cI d 50 [.ref a, .int l3, .int l2] w m (fun v2 m2 => Q v2 m2)) ∧ (¬ (12 : Int32) ≤ l4 → (((((l1).toUInt32 >>> ((l4).toUInt32 &&& Int32.toUInt32 31)).toInt32 &&& (1 : Int32)) = 0 → W_Pattern_goOn_4 d a l1 l2 l3 (l4 + (1 : Int32)) w m Q) ∧ (¬ (((l1).toUInt32 >>> ((l4).toUInt32 &&& Int32.toUInt32 31)).toInt32 &&& (1 : Int32)) = 0 → cI d 156 [.ref a_1, .int l4] w m (fun v3 m3 => W_Pattern_goOn_4 d a l1 l2 (l3 ||| v3) (l4 + (1 : Int32)) w m3 Q)))))))) : W_Pattern_goOn_4 d a l1 l2 l3 l4 w m Q := by
  subst he_a_1
  refine mm_yrun (is := mm_k52) [4] 400 rfl ?_
  refine And.intro (hk_a) ?_
  refine And.intro (fun q => ?_) (fun q => ?_)
  · replace H := H.1 q
    refine And.intro (hk_a) ?_
    refine cI_use (w := w) (m := m) rfl H ?_
    intro v1 m1 H
    exact rI_mk (w := w) (m := m1) H
  · replace H := H.2 q
    refine And.intro (fun q => ?_) (fun q => ?_)
    · replace H := H.1 q
      refine And.intro (hk_a) ?_
      refine cI_use (w := w) (m := m) rfl H ?_
      intro v2 m2 H
      exact rI_mk (w := w) (m := m2) H
    · replace H := H.2 q
      refine And.intro (fun q => ?_) (fun q => ?_)
      · replace H := H.1 q
        exact H
      · replace H := H.2 q
        refine And.intro (And.intro (hk_a) hn_a_1) ?_
        refine And.intro (trivial) ?_
        refine cI_use (w := w) (m := m) rfl H ?_
        intro v3 m3 H
        exact H
theorem S_Pattern_goOn_4 {a : Nat} {l1 : Int32} {l2 : Int32} {l3 : Int32} {l4 : Int32} {d : Nat} {w : Nat × Nat × Nat} {m : zM} {Q : Int32 → zM → Prop} (hp_a : zPt w a) (H : (((m.1 a 2) ≤ l4 → cI d 50 [.ref a, .int l3, .int l2] w m (fun v1 m1 => Q v1 m1)) ∧ (¬ (m.1 a 2) ≤ l4 → (((12 : Int32) ≤ l4 → cI d 50 [.ref a, .int l3, .int l2] w m (fun v2 m2 => Q v2 m2)) ∧ (¬ (12 : Int32) ≤ l4 → (((((l1).toUInt32 >>> ((l4).toUInt32 &&& Int32.toUInt32 31)).toInt32 &&& (1 : Int32)) = 0 → W_Pattern_goOn_4 d a l1 l2 l3 (l4 + (1 : Int32)) w m Q) ∧ (¬ (((l1).toUInt32 >>> ((l4).toUInt32 &&& Int32.toUInt32 31)).toInt32 &&& (1 : Int32)) = 0 → cI d 156 [.ref (a + 2), .int l4] w m (fun v3 m3 => W_Pattern_goOn_4 d a l1 l2 (l3 ||| v3) (l4 + (1 : Int32)) w m3 Q)))))))) : W_Pattern_goOn_4 d a l1 l2 l3 l4 w m Q := R_Pattern_goOn_4 hp_a.2.2.1 hp_a.1 (Nat.succ_ne_zero _) H

theorem R_Pattern_endsWith {a : Nat} {p0 : Int32} {d : Nat} {w : Nat × Nat × Nat} {m : zM} {Q : Int32 → zM → Prop} (hk_a : (zK w.1 a).1 = 5) (H : (((p0 &&& (m.1 a 4)) = 0 → Q (0 : Int32) m) ∧ (¬ (p0 &&& (m.1 a 4)) = 0 → Q (1 : Int32) m))) : cI d 53 [.ref a, .int p0] w m Q := by
  refine cI_in rfl ?_
  refine mm_yrun (is := mm_k53) [] 400 rfl ?_
  refine And.intro (hk_a) ?_
  refine And.intro (fun q => ?_) (fun q => ?_)
  · replace H := H.1 q
    refine And.intro (Or.inl rfl) ?_
    exact rI_mk (w := w) (m := m) H
  · replace H := H.2 q
    refine And.intro (Or.inr rfl) ?_
    exact rI_mk (w := w) (m := m) H
theorem S_Pattern_endsWith {a : Nat} {p0 : Int32} {d : Nat} {w : Nat × Nat × Nat} {m : zM} {Q : Int32 → zM → Prop} (hp_a : zPt w a) (H : (((p0 &&& (m.1 a 4)) = 0 → Q (0 : Int32) m) ∧ (¬ (p0 &&& (m.1 a 4)) = 0 → Q (1 : Int32) m))) : cI d 53 [.ref a, .int p0] w m Q := R_Pattern_endsWith hp_a.1 H

theorem R_Prose_copyFrom {a : Nat} {p0 : Nat} {p0_0 : Nat} {a_0 : Nat} {p0_1 : Nat} {a_1 : Nat} {d : Nat} {w : Nat × Nat × Nat} {m : zM} {Q : zM → Prop} (he_p0_0 : zR w.2.1 w.2.2 p0 0 = p0_0) (he_a_0 : zR w.2.1 w.2.2 a 0 = a_0) (he_p0_1 : zR w.2.1 w.2.2 p0 1 = p0_1) (he_a_1 : zR w.2.1 w.2.2 a 1 = a_1) (hk_p0 : (zK w.1 p0).1 = 6) (hk_a : (zK w.1 a).1 = 6) (hn_p0_0 : ¬ p0_0 = 0) (hn_a_0 : ¬ a_0 = 0) (hn_p0_1 : ¬ p0_1 = 0) (hn_a_1 : ¬ a_1 = 0) (H : cV d 162 [.ref p0_0, .ref a_0, .int ((zI m a 2 (m.1 p0 2)).1 a 2)] w (zI m a 2 (m.1 p0 2)) (fun m1 => cV d 161 [.ref p0_1, .ref a_1, .int (m1.1 a 2)] w m1 (fun m2 => Q m2))) : cV (d + 1) 55 [.ref a, .ref p0] w m Q := by
  subst he_p0_0
  subst he_a_0
  subst he_p0_1
  subst he_a_1
  refine cV_in rfl ?_
  refine mm_yrun (is := mm_k55) [] 400 rfl ?_
  refine And.intro (hk_p0) ?_
  refine And.intro (hk_a) ?_
  refine And.intro (And.intro (hk_p0) hn_p0_0) ?_
  refine And.intro (And.intro (hk_a) hn_a_0) ?_
  refine And.intro (hk_a) ?_
  refine And.intro (trivial) ?_
  refine cV_use (w := w) (m := (zI m a 2 (m.1 p0 2))) rfl H ?_
  intro m1 H
  refine And.intro (And.intro (hk_p0) hn_p0_1) ?_
  refine And.intro (And.intro (hk_a) hn_a_1) ?_
  refine And.intro (hk_a) ?_
  refine And.intro (trivial) ?_
  refine cV_use (w := w) (m := m1) rfl H ?_
  intro m2 H
  exact rV_mk (w := w) (m := m2) H
theorem S_Prose_copyFrom {a : Nat} {p0 : Nat} {d : Nat} {w : Nat × Nat × Nat} {m : zM} {Q : zM → Prop} (hp_p0 : zPr w p0) (hp_a : zPr w a) (H : cV d 162 [.ref (p0 + 1), .ref (a + 1), .int ((zI m a 2 (m.1 p0 2)).1 a 2)] w (zI m a 2 (m.1 p0 2)) (fun m1 => cV d 161 [.ref (p0 + 2), .ref (a + 2), .int (m1.1 a 2)] w m1 (fun m2 => Q m2))) : cV (d + 1) 55 [.ref a, .ref p0] w m Q := R_Prose_copyFrom hp_p0.2.1 hp_a.2.1 hp_p0.2.2.1 hp_a.2.2.1 hp_p0.1 hp_a.1 (Nat.succ_ne_zero _) (Nat.succ_ne_zero _) (Nat.succ_ne_zero _) (Nat.succ_ne_zero _) H

theorem R_Prose_add {a : Nat} {p0 : Int64} {p1 : Int32} {a_0 : Nat} {a_1 : Nat} {d : Nat} {w : Nat × Nat × Nat} {m : zM} {Q : Int32 → zM → Prop} (he_a_0 : zR w.2.1 w.2.2 a 0 = a_0) (he_a_1 : zR w.2.1 w.2.2 a 1 = a_1) (hk_a : (zK w.1 a).1 = 6) (hn_a_0 : ¬ a_0 = 0) (hn_a_1 : ¬ a_1 = 0) (H : (((m.1 a 2) < (240 : Int32) → cV d 159 [.ref a_0, .int (m.1 a 2), .long p0] w m (fun m1 => cV d 158 [.ref a_1, .int (m1.1 a 2), .int p1] w m1 (fun m2 => Q (1 : Int32) (zI m2 a 2 ((m2.1 a 2) + (1 : Int32)))))) ∧ (¬ (m.1 a 2) < (240 : Int32) → Q (0 : Int32) m))) : cI (d + 1) 56 [.ref a, .long p0, .int p1] w m Q := by
  subst he_a_0
  subst he_a_1
  refine cI_in rfl ?_
  refine mm_yrun (is := mm_k56) [] 400 rfl ?_
  refine And.intro (hk_a) ?_
  refine And.intro (fun q => ?_) (fun q => ?_)
  · replace H := H.1 q
    refine And.intro (And.intro (hk_a) hn_a_0) ?_
    refine And.intro (hk_a) ?_
    refine And.intro (trivial) ?_
    refine cV_use (w := w) (m := m) rfl H ?_
    intro m1 H
    refine And.intro (And.intro (hk_a) hn_a_1) ?_
    refine And.intro (hk_a) ?_
    refine And.intro (trivial) ?_
    refine cV_use (w := w) (m := m1) rfl H ?_
    intro m2 H
    refine And.intro (hk_a) ?_
    refine And.intro (hk_a) ?_
    refine And.intro (Or.inr rfl) ?_
    exact rI_mk (w := w) (m := (zI m2 a 2 ((m2.1 a 2) + (1 : Int32)))) H
  · replace H := H.2 q
    refine And.intro (Or.inl rfl) ?_
    exact rI_mk (w := w) (m := m) H
theorem S_Prose_add {a : Nat} {p0 : Int64} {p1 : Int32} {d : Nat} {w : Nat × Nat × Nat} {m : zM} {Q : Int32 → zM → Prop} (hp_a : zPr w a) (H : (((m.1 a 2) < (240 : Int32) → cV d 159 [.ref (a + 1), .int (m.1 a 2), .long p0] w m (fun m1 => cV d 158 [.ref (a + 2), .int (m1.1 a 2), .int p1] w m1 (fun m2 => Q (1 : Int32) (zI m2 a 2 ((m2.1 a 2) + (1 : Int32)))))) ∧ (¬ (m.1 a 2) < (240 : Int32) → Q (0 : Int32) m))) : cI (d + 1) 56 [.ref a, .long p0, .int p1] w m Q := R_Prose_add hp_a.2.1 hp_a.2.2.1 hp_a.1 (Nat.succ_ne_zero _) (Nat.succ_ne_zero _) H

theorem R_Prose_wordAt {a : Nat} {p0 : Int32} {a_0 : Nat} {d : Nat} {w : Nat × Nat × Nat} {m : zM} {Q : Int64 → zM → Prop} (he_a_0 : zR w.2.1 w.2.2 a 0 = a_0) (hk_a : (zK w.1 a).1 = 6) (hn_a_0 : ¬ a_0 = 0) (H : cL d 157 [.ref a_0, .int p0] w m (fun v1 m1 => Q v1 m1)) : cL (d + 1) 57 [.ref a, .int p0] w m Q := by
  subst he_a_0
  refine cL_in rfl ?_
  refine mm_yrun (is := mm_k57) [] 400 rfl ?_
  refine And.intro (And.intro (hk_a) hn_a_0) ?_
  refine And.intro (trivial) ?_
  refine cL_use (w := w) (m := m) rfl H ?_
  intro v1 m1 H
  exact rL_mk (w := w) (m := m1) H
theorem S_Prose_wordAt {a : Nat} {p0 : Int32} {d : Nat} {w : Nat × Nat × Nat} {m : zM} {Q : Int64 → zM → Prop} (hp_a : zPr w a) (H : cL d 157 [.ref (a + 1), .int p0] w m (fun v1 m1 => Q v1 m1)) : cL (d + 1) 57 [.ref a, .int p0] w m Q := R_Prose_wordAt hp_a.2.1 hp_a.1 (Nat.succ_ne_zero _) H

theorem R_Prose_nextSentence {a : Nat} {a_1 : Nat} {d : Nat} {w : Nat × Nat × Nat} {m : zM} {Q : Int32 → zM → Prop} (he_a_1 : zR w.2.1 w.2.2 a 1 = a_1) (hk_a : (zK w.1 a).1 = 6) (hn_a_1 : ¬ a_1 = 0) (H : ((¬ (m.1 a 2) = 0 → cI d 156 [.ref a_1, .int ((m.1 a 2) - (1 : Int32))] w m (fun v1 m1 => Q (v1 + (1 : Int32)) m1)) ∧ ((m.1 a 2) = 0 → Q (0 : Int32) m))) : cI (d + 1) 58 [.ref a] w m Q := by
  subst he_a_1
  refine cI_in rfl ?_
  refine mm_yrun (is := mm_k58) [] 400 rfl ?_
  refine And.intro (hk_a) ?_
  refine And.intro (fun q => ?_) (fun q => ?_)
  · replace H := H.1 q
    refine And.intro (And.intro (hk_a) hn_a_1) ?_
    refine And.intro (hk_a) ?_
    refine And.intro (trivial) ?_
    refine cI_use (w := w) (m := m) rfl H ?_
    intro v1 m1 H
    exact rI_mk (w := w) (m := m1) H
  · replace H := H.2 (Classical.not_not.mp q)
    exact rI_mk (w := w) (m := m) H
theorem S_Prose_nextSentence {a : Nat} {d : Nat} {w : Nat × Nat × Nat} {m : zM} {Q : Int32 → zM → Prop} (hp_a : zPr w a) (H : ((¬ (m.1 a 2) = 0 → cI d 156 [.ref (a + 2), .int ((m.1 a 2) - (1 : Int32))] w m (fun v1 m1 => Q (v1 + (1 : Int32)) m1)) ∧ ((m.1 a 2) = 0 → Q (0 : Int32) m))) : cI (d + 1) 58 [.ref a] w m Q := R_Prose_nextSentence hp_a.2.2.1 hp_a.1 (Nat.succ_ne_zero _) H

theorem R_Prose_oneSentence {a : Nat} {p0 : Int32} {p1 : Int32} {a_1 : Nat} {d : Nat} {w : Nat × Nat × Nat} {m : zM} {Q : Int32 → zM → Prop} (he_a_1 : zR w.2.1 w.2.2 a 1 = a_1) (hk_a : (zK w.1 a).1 = 6) (hn_a_1 : ¬ a_1 = 0) (H : ((p0 < 0 → Q (0 : Int32) m) ∧ (¬ p0 < 0 → ((p1 < 0 → Q (0 : Int32) m) ∧ (¬ p1 < 0 → (((m.1 a 2) ≤ p0 → Q (0 : Int32) m) ∧ (¬ (m.1 a 2) ≤ p0 → (((m.1 a 2) ≤ p1 → Q (0 : Int32) m) ∧ (¬ (m.1 a 2) ≤ p1 → cI d 156 [.ref a_1, .int p0] w m (fun v1 m1 => cI d 156 [.ref a_1, .int p1] w m1 (fun v2 m2 => ((¬ v1 = v2 → Q (0 : Int32) m2) ∧ (v1 = v2 → Q (1 : Int32) m2))))))))))))) : cI (d + 1) 59 [.ref a, .int p0, .int p1] w m Q := by
  subst he_a_1
  refine cI_in rfl ?_
  refine mm_yrun (is := mm_k59) [] 400 rfl ?_
  refine And.intro (fun q => ?_) (fun q => ?_)
  · replace H := H.1 q
    refine And.intro (Or.inl rfl) ?_
    exact rI_mk (w := w) (m := m) H
  · replace H := H.2 q
    refine And.intro (fun q => ?_) (fun q => ?_)
    · replace H := H.1 q
      refine And.intro (Or.inl rfl) ?_
      exact rI_mk (w := w) (m := m) H
    · replace H := H.2 q
      refine And.intro (hk_a) ?_
      refine And.intro (fun q => ?_) (fun q => ?_)
      · replace H := H.1 q
        refine And.intro (Or.inl rfl) ?_
        exact rI_mk (w := w) (m := m) H
      · replace H := H.2 q
        refine And.intro (hk_a) ?_
        refine And.intro (fun q => ?_) (fun q => ?_)
        · replace H := H.1 q
          refine And.intro (Or.inl rfl) ?_
          exact rI_mk (w := w) (m := m) H
        · replace H := H.2 q
          refine And.intro (And.intro (hk_a) hn_a_1) ?_
          refine And.intro (trivial) ?_
          refine cI_use (w := w) (m := m) rfl H ?_
          intro v1 m1 H
          refine And.intro (And.intro (hk_a) hn_a_1) ?_
          refine And.intro (trivial) ?_
          refine cI_use (w := w) (m := m1) rfl H ?_
          intro v2 m2 H
          refine And.intro (fun q => ?_) (fun q => ?_)
          · replace H := H.1 q
            refine And.intro (Or.inl rfl) ?_
            exact rI_mk (w := w) (m := m2) H
          · replace H := H.2 (Classical.not_not.mp q)
            refine And.intro (Or.inr rfl) ?_
            exact rI_mk (w := w) (m := m2) H
theorem S_Prose_oneSentence {a : Nat} {p0 : Int32} {p1 : Int32} {d : Nat} {w : Nat × Nat × Nat} {m : zM} {Q : Int32 → zM → Prop} (hp_a : zPr w a) (H : ((p0 < 0 → Q (0 : Int32) m) ∧ (¬ p0 < 0 → ((p1 < 0 → Q (0 : Int32) m) ∧ (¬ p1 < 0 → (((m.1 a 2) ≤ p0 → Q (0 : Int32) m) ∧ (¬ (m.1 a 2) ≤ p0 → (((m.1 a 2) ≤ p1 → Q (0 : Int32) m) ∧ (¬ (m.1 a 2) ≤ p1 → cI d 156 [.ref (a + 2), .int p0] w m (fun v1 m1 => cI d 156 [.ref (a + 2), .int p1] w m1 (fun v2 m2 => ((¬ v1 = v2 → Q (0 : Int32) m2) ∧ (v1 = v2 → Q (1 : Int32) m2))))))))))))) : cI (d + 1) 59 [.ref a, .int p0, .int p1] w m Q := R_Prose_oneSentence hp_a.2.2.1 hp_a.1 (Nat.succ_ne_zero _) H

def W_Prose_remove_2 (d : Nat) (a : Nat) (l2 : Int32) (l3 : Int32) (w : Nat × Nat × Nat) (m : zM) (Q : zM → Prop) : Prop := ∀ o1 : Option Value, mm_W (d + 1) 60 2 [some (.ref a), o1, some (.int l2), some (.int l3)] [] (zE w m) (rV w Q)
theorem S_Prose_remove {a : Nat} {p0 : Int32} {p1 : Int32} {d : Nat} {w : Nat × Nat × Nat} {m : zM} {Q : zM → Prop} (H : W_Prose_remove_2 d a p1 p0 w m Q) : cV (d + 1) 60 [.ref a, .int p0, .int p1] w m Q := by
  refine cV_in rfl ?_
  refine mm_yrun (is := mm_k60) [2] 400 rfl ?_
  exact H _
theorem R_Prose_remove_2 {a : Nat} {l2 : Int32} {l3 : Int32} {a_0 : Nat} {a_1 : Nat} {d : Nat} {w : Nat × Nat × Nat} {m : zM} {Q : zM → Prop} (he_a_0 : zR w.2.1 w.2.2 a 0 = a_0) (he_a_1 : zR w.2.1 w.2.2 a 1 = a_1) (hk_a : (zK w.1 a).1 = 6) (hn_a_0 : ¬ a_0 = 0) (hn_a_1 : ¬ a_1 = 0) (H : (((m.1 a 2) ≤ (l3 + l2) → Q (zI m a 2 ((m.1 a 2) - l2))) ∧ (¬ (m.1 a 2) ≤ (l3 + l2) → cL d 157 [.ref a_0, .int (l3 + l2)] w m (fun v1 m1 => cV d 159 [.ref a_0, .int l3, .long v1] w m1 (fun m2 => cI d 156 [.ref a_1, .int (l3 + l2)] w m2 (fun v3 m3 => cV d 158 [.ref a_1, .int l3, .int v3] w m3 (fun m4 => W_Prose_remove_2 d a l2 (l3 + (1 : Int32)) w m4 Q))))))) : W_Prose_remove_2 d a l2 l3 w m Q := by
  subst he_a_0
  subst he_a_1
  intro o1
  refine mm_yrun (is := mm_k60) [2] 400 rfl ?_
  refine And.intro (hk_a) ?_
  refine And.intro (fun q => ?_) (fun q => ?_)
  · replace H := H.1 q
    refine And.intro (hk_a) ?_
    refine And.intro (hk_a) ?_
    exact rV_mk (w := w) (m := (zI m a 2 ((m.1 a 2) - l2))) H
  · replace H := H.2 q
    refine And.intro (And.intro (hk_a) hn_a_0) ?_
    refine And.intro (And.intro (hk_a) hn_a_0) ?_
    refine And.intro (trivial) ?_
    refine cL_use (w := w) (m := m) rfl H ?_
    intro v1 m1 H
    refine And.intro (trivial) ?_
    refine cV_use (w := w) (m := m1) rfl H ?_
    intro m2 H
    refine And.intro (And.intro (hk_a) hn_a_1) ?_
    refine And.intro (And.intro (hk_a) hn_a_1) ?_
    refine And.intro (trivial) ?_
    refine cI_use (w := w) (m := m2) rfl H ?_
    intro v3 m3 H
    refine And.intro (trivial) ?_
    refine cV_use (w := w) (m := m3) rfl H ?_
    intro m4 H
    exact H _
theorem S_Prose_remove_2 {a : Nat} {l2 : Int32} {l3 : Int32} {d : Nat} {w : Nat × Nat × Nat} {m : zM} {Q : zM → Prop} (hp_a : zPr w a) (H : (((m.1 a 2) ≤ (l3 + l2) → Q (zI m a 2 ((m.1 a 2) - l2))) ∧ (¬ (m.1 a 2) ≤ (l3 + l2) → cL d 157 [.ref (a + 1), .int (l3 + l2)] w m (fun v1 m1 => cV d 159 [.ref (a + 1), .int l3, .long v1] w m1 (fun m2 => cI d 156 [.ref (a + 2), .int (l3 + l2)] w m2 (fun v3 m3 => cV d 158 [.ref (a + 2), .int l3, .int v3] w m3 (fun m4 => W_Prose_remove_2 d a l2 (l3 + (1 : Int32)) w m4 Q))))))) : W_Prose_remove_2 d a l2 l3 w m Q := R_Prose_remove_2 hp_a.2.1 hp_a.2.2.1 hp_a.1 (Nat.succ_ne_zero _) (Nat.succ_ne_zero _) H

theorem S_Reader_begin  {d : Nat} {w : Nat × Nat × Nat} {m : zM} {Q : zM → Prop} (H : Q (zI (zI (zI m 8 1 (0 : Int32)) 8 5 (0 : Int32)) 8 6 ((-1) : Int32))) : cV d 62 [.ref 8] w m Q := by
  refine cV_in rfl ?_
  refine mm_yrun (is := mm_k62) [] 400 rfl ?_
  refine And.intro (rfl) ?_
  refine And.intro (rfl) ?_
  refine And.intro (rfl) ?_
  exact rV_mk (w := w) (m := (zI (zI (zI m 8 1 (0 : Int32)) 8 5 (0 : Int32)) 8 6 ((-1) : Int32))) H

theorem S_Reader_refuse {p0 : Int32} {d : Nat} {w : Nat × Nat × Nat} {m : zM} {Q : zM → Prop} (H : ((¬ (m.1 8 5) = 0 → Q m) ∧ ((m.1 8 5) = 0 → Q (zI (zI m 8 5 p0) 8 6 (m.1 8 2))))) : cV d 63 [.ref 8, .int p0] w m Q := by
  refine cV_in rfl ?_
  refine mm_yrun (is := mm_k63) [] 400 rfl ?_
  refine And.intro (rfl) ?_
  refine And.intro (fun q => ?_) (fun q => ?_)
  · replace H := H.1 q
    exact rV_mk (w := w) (m := m) H
  · replace H := H.2 (Classical.not_not.mp q)
    refine And.intro (rfl) ?_
    refine And.intro (rfl) ?_
    refine And.intro (rfl) ?_
    exact rV_mk (w := w) (m := (zI (zI m 8 5 p0) 8 6 (m.1 8 2))) H

def W_Reader_nextByte_8 (d : Nat) (l1 : Int32) (l2 : Int32) (w : Nat × Nat × Nat) (m : zM) (Q : zM → Prop) : Prop := mm_W (d + 1) 64 8 [some (.ref 8), some (.int l1), some (.int l2)] [] (zE w m) (rV w Q)
theorem S_Reader_nextByte  {d : Nat} {w : Nat × Nat × Nat} {m : zM} {Q : zM → Prop} (H : cI d 7 [.ref 4, .int (m.1 8 1)] w m (fun v1 m1 => W_Reader_nextByte_8 d v1 (0 : Int32) w m1 Q)) : cV (d + 1) 64 [.ref 8] w m Q := by
  refine cV_in rfl ?_
  refine mm_yrun (is := mm_k64) [8] 400 rfl ?_
  refine And.intro (And.intro (rfl) (by decide : ¬ 4 = 0)) ?_
  refine And.intro (rfl) ?_
  refine And.intro (rfl) ?_
  refine cI_use (w := w) (m := m) rfl H ?_
  intro v1 m1 H
  exact H
theorem S_Reader_nextByte_8 {l1 : Int32} {l2 : Int32} {d : Nat} {w : Nat × Nat × Nat} {m : zM} {Q : zM → Prop} (H : (((600 : Int32) ≤ l2 → ((l1 = ((-1) : Int32) → Q (zI (zI m 8 2 (m.1 8 1)) 8 3 l1)) ∧ (¬ l1 = ((-1) : Int32) → Q (zI (zI (zI m 8 2 (m.1 8 1)) 8 3 l1) 8 1 ((m.1 8 1) + (1 : Int32)))))) ∧ (¬ (600 : Int32) ≤ l2 → ((l1 = (32 : Int32) → cI d 7 [.ref 4, .int ((m.1 8 1) + (1 : Int32))] w (zI m 8 1 ((m.1 8 1) + (1 : Int32))) (fun v1 m1 => W_Reader_nextByte_8 d v1 (l2 + (1 : Int32)) w m1 Q)) ∧ (¬ l1 = (32 : Int32) → ((¬ l1 = (10 : Int32) → ((l1 = ((-1) : Int32) → Q (zI (zI m 8 2 (m.1 8 1)) 8 3 l1)) ∧ (¬ l1 = ((-1) : Int32) → Q (zI (zI (zI m 8 2 (m.1 8 1)) 8 3 l1) 8 1 ((m.1 8 1) + (1 : Int32)))))) ∧ (l1 = (10 : Int32) → cI d 7 [.ref 4, .int ((m.1 8 1) + (1 : Int32))] w (zI m 8 1 ((m.1 8 1) + (1 : Int32))) (fun v2 m2 => W_Reader_nextByte_8 d v2 (l2 + (1 : Int32)) w m2 Q)))))))) : W_Reader_nextByte_8 d l1 l2 w m Q := by
  refine mm_yrun (is := mm_k64) [8] 400 rfl ?_
  refine And.intro (fun q => ?_) (fun q => ?_)
  · replace H := H.1 q
    refine And.intro (rfl) ?_
    refine And.intro (rfl) ?_
    refine And.intro (rfl) ?_
    refine And.intro (fun q => ?_) (fun q => ?_)
    · replace H := H.1 q
      exact rV_mk (w := w) (m := (zI (zI m 8 2 (m.1 8 1)) 8 3 l1)) H
    · replace H := H.2 q
      refine And.intro (rfl) ?_
      refine And.intro (rfl) ?_
      exact rV_mk (w := w) (m := (zI (zI (zI m 8 2 (m.1 8 1)) 8 3 l1) 8 1 ((m.1 8 1) + (1 : Int32)))) H
  · replace H := H.2 q
    refine And.intro (fun q => ?_) (fun q => ?_)
    · replace H := H.1 q
      refine And.intro (rfl) ?_
      refine And.intro (rfl) ?_
      refine And.intro (And.intro (rfl) (by decide : ¬ 4 = 0)) ?_
      refine And.intro (rfl) ?_
      refine And.intro (rfl) ?_
      refine cI_use (w := w) (m := (zI m 8 1 ((m.1 8 1) + (1 : Int32)))) rfl H ?_
      intro v1 m1 H
      exact H
    · replace H := H.2 q
      refine And.intro (fun q => ?_) (fun q => ?_)
      · replace H := H.1 q
        refine And.intro (rfl) ?_
        refine And.intro (rfl) ?_
        refine And.intro (rfl) ?_
        refine And.intro (fun q => ?_) (fun q => ?_)
        · replace H := H.1 q
          exact rV_mk (w := w) (m := (zI (zI m 8 2 (m.1 8 1)) 8 3 l1)) H
        · replace H := H.2 q
          refine And.intro (rfl) ?_
          refine And.intro (rfl) ?_
          exact rV_mk (w := w) (m := (zI (zI (zI m 8 2 (m.1 8 1)) 8 3 l1) 8 1 ((m.1 8 1) + (1 : Int32)))) H
      · replace H := H.2 (Classical.not_not.mp q)
        refine And.intro (rfl) ?_
        refine And.intro (rfl) ?_
        refine And.intro (And.intro (rfl) (by decide : ¬ 4 = 0)) ?_
        refine And.intro (rfl) ?_
        refine And.intro (rfl) ?_
        refine cI_use (w := w) (m := (zI m 8 1 ((m.1 8 1) + (1 : Int32)))) rfl H ?_
        intro v2 m2 H
        exact H

def W_Reader_next_18 (d : Nat) (l1 : Int32) (l2 : Int32) (w : Nat × Nat × Nat) (m : zM) (Q : zM → Prop) : Prop := mm_W (d + 1) 65 18 [some (.ref 8), some (.int l1), some (.int l2)] [] (zE w m) (rV w Q)
theorem S_Reader_next  {d : Nat} {w : Nat × Nat × Nat} {m : zM} {Q : zM → Prop} (H : cV d 64 [.ref 8] w m (fun m1 => cI d 169 [.int (m1.1 8 3)] w m1 (fun v2 m2 => ((¬ v2 = 0 → W_Reader_next_18 d (0 : Int32) (0 : Int32) w (zI (zL m2 8 4 (0 : Int64)) 8 1 (m2.1 8 2)) Q) ∧ (v2 = 0 → Q m2))))) : cV (d + 1) 65 [.ref 8] w m Q := by
  refine cV_in rfl ?_
  refine mm_yrun (is := mm_k65) [18] 400 rfl ?_
  refine And.intro (rfl) ?_
  refine cV_use (w := w) (m := m) rfl H ?_
  intro m1 H
  refine And.intro (rfl) ?_
  refine And.intro (trivial) ?_
  refine cI_use (w := w) (m := m1) rfl H ?_
  intro v2 m2 H
  refine And.intro (fun q => ?_) (fun q => ?_)
  · replace H := H.1 q
    refine And.intro (rfl) ?_
    refine And.intro (rfl) ?_
    refine And.intro (rfl) ?_
    exact H
  · replace H := H.2 (Classical.not_not.mp q)
    exact rV_mk (w := w) (m := m2) H
theorem S_Reader_next_18 {l1 : Int32} {l2 : Int32} {d : Nat} {w : Nat × Nat × Nat} {m : zM} {Q : zM → Prop} (H : (((600 : Int32) ≤ l2 → ((l1 ≤ (10 : Int32) → Q (zI m 8 3 ((-2) : Int32))) ∧ (¬ l1 ≤ (10 : Int32) → Q (zI m 8 3 ((-3) : Int32))))) ∧ (¬ (600 : Int32) ≤ l2 → cI d 7 [.ref 4, .int (m.1 8 1)] w m (fun v1 m1 => cI d 169 [.int v1] w m1 (fun v2 m2 => ((v2 = 0 → ((l1 ≤ (10 : Int32) → Q (zI m2 8 3 ((-2) : Int32))) ∧ (¬ l1 ≤ (10 : Int32) → Q (zI m2 8 3 ((-3) : Int32))))) ∧ (¬ v2 = 0 → (((10 : Int32) ≤ l1 → W_Reader_next_18 d (l1 + (1 : Int32)) (l2 + (1 : Int32)) w (zI m2 8 1 ((m2.1 8 1) + (1 : Int32))) Q) ∧ (¬ (10 : Int32) ≤ l1 → cI d 7 [.ref 4, .int (m2.1 8 1)] w m2 (fun v3 m3 => cI d 166 [.int l1] w m3 (fun v4 m4 => W_Reader_next_18 d (l1 + (1 : Int32)) (l2 + (1 : Int32)) w (zI (zL m4 8 4 ((m2.2 8 4) ||| (((v3 - (96 : Int32))).toInt64 <<< ((v4).toInt64 &&& 63)))) 8 1 ((m4.1 8 1) + (1 : Int32))) Q))))))))))) : W_Reader_next_18 d l1 l2 w m Q := by
  refine mm_yrun (is := mm_k65) [18] 400 rfl ?_
  refine And.intro (fun q => ?_) (fun q => ?_)
  · replace H := H.1 q
    refine And.intro (fun q => ?_) (fun q => ?_)
    · replace H := H.1 q
      refine And.intro (rfl) ?_
      exact rV_mk (w := w) (m := (zI m 8 3 ((-2) : Int32))) H
    · replace H := H.2 q
      refine And.intro (rfl) ?_
      exact rV_mk (w := w) (m := (zI m 8 3 ((-3) : Int32))) H
  · replace H := H.2 q
    refine And.intro (And.intro (rfl) (by decide : ¬ 4 = 0)) ?_
    refine And.intro (rfl) ?_
    refine And.intro (rfl) ?_
    refine cI_use (w := w) (m := m) rfl H ?_
    intro v1 m1 H
    refine And.intro (trivial) ?_
    refine cI_use (w := w) (m := m1) rfl H ?_
    intro v2 m2 H
    refine And.intro (fun q => ?_) (fun q => ?_)
    · replace H := H.1 q
      refine And.intro (fun q => ?_) (fun q => ?_)
      · replace H := H.1 q
        refine And.intro (rfl) ?_
        exact rV_mk (w := w) (m := (zI m2 8 3 ((-2) : Int32))) H
      · replace H := H.2 q
        refine And.intro (rfl) ?_
        exact rV_mk (w := w) (m := (zI m2 8 3 ((-3) : Int32))) H
    · replace H := H.2 q
      refine And.intro (fun q => ?_) (fun q => ?_)
      · replace H := H.1 q
        refine And.intro (rfl) ?_
        refine And.intro (rfl) ?_
        exact H
      · replace H := H.2 q
        refine And.intro (rfl) ?_
        refine And.intro (And.intro (rfl) (by decide : ¬ 4 = 0)) ?_
        refine And.intro (rfl) ?_
        refine And.intro (rfl) ?_
        refine cI_use (w := w) (m := m2) rfl H ?_
        intro v3 m3 H
        refine And.intro (trivial) ?_
        refine cI_use (w := w) (m := m3) rfl H ?_
        intro v4 m4 H
        refine And.intro (rfl) ?_
        refine And.intro (rfl) ?_
        refine And.intro (rfl) ?_
        exact H

theorem S_Reader_needs {p0 : Int32} {d : Nat} {w : Nat × Nat × Nat} {m : zM} {Q : Int32 → zM → Prop} (H : (((m.1 8 3) = p0 → ((¬ (m.1 8 5) = 0 → Q (0 : Int32) m) ∧ ((m.1 8 5) = 0 → Q (1 : Int32) m))) ∧ (¬ (m.1 8 3) = p0 → cV d 63 [.ref 8, .int (1 : Int32)] w m (fun m1 => ((¬ (m1.1 8 5) = 0 → Q (0 : Int32) m1) ∧ ((m1.1 8 5) = 0 → Q (1 : Int32) m1)))))) : cI (d + 1) 66 [.ref 8, .int p0] w m Q := by
  refine cI_in rfl ?_
  refine mm_yrun (is := mm_k66) [] 400 rfl ?_
  refine And.intro (rfl) ?_
  refine And.intro (fun q => ?_) (fun q => ?_)
  · replace H := H.1 q
    refine And.intro (rfl) ?_
    refine And.intro (fun q => ?_) (fun q => ?_)
    · replace H := H.1 q
      refine And.intro (Or.inl rfl) ?_
      exact rI_mk (w := w) (m := m) H
    · replace H := H.2 (Classical.not_not.mp q)
      refine And.intro (Or.inr rfl) ?_
      exact rI_mk (w := w) (m := m) H
  · replace H := H.2 q
    refine And.intro (rfl) ?_
    refine cV_use (w := w) (m := m) rfl H ?_
    intro m1 H
    refine And.intro (rfl) ?_
    refine And.intro (fun q => ?_) (fun q => ?_)
    · replace H := H.1 q
      refine And.intro (Or.inl rfl) ?_
      exact rI_mk (w := w) (m := m1) H
    · replace H := H.2 (Classical.not_not.mp q)
      refine And.intro (Or.inr rfl) ?_
      exact rI_mk (w := w) (m := m1) H

theorem S_Reader_passes {p0 : Int32} {d : Nat} {w : Nat × Nat × Nat} {m : zM} {Q : Int32 → zM → Prop} (H : cI d 66 [.ref 8, .int p0] w m (fun v1 m1 => ((¬ v1 = 0 → cV d 65 [.ref 8] w m1 (fun m2 => Q (1 : Int32) m2)) ∧ (v1 = 0 → Q (0 : Int32) m1)))) : cI (d + 1) 67 [.ref 8, .int p0] w m Q := by
  refine cI_in rfl ?_
  refine mm_yrun (is := mm_k67) [] 400 rfl ?_
  refine And.intro (rfl) ?_
  refine cI_use (w := w) (m := m) rfl H ?_
  intro v1 m1 H
  refine And.intro (fun q => ?_) (fun q => ?_)
  · replace H := H.1 q
    refine And.intro (rfl) ?_
    refine cV_use (w := w) (m := m1) rfl H ?_
    intro m2 H
    refine And.intro (Or.inr rfl) ?_
    exact rI_mk (w := w) (m := m2) H
  · replace H := H.2 (Classical.not_not.mp q)
    refine And.intro (Or.inl rfl) ?_
    exact rI_mk (w := w) (m := m1) H

theorem S_Reader_kindHere  {d : Nat} {w : Nat × Nat × Nat} {m : zM} {Q : Int32 → zM → Prop} (H : ((¬ (m.1 8 3) = ((-2) : Int32) → Q (0 : Int32) m) ∧ ((m.1 8 3) = ((-2) : Int32) → cI d 168 [.long (m.2 8 4)] w m (fun v1 m1 => ((v1 = (1 : Int32) → cI d 167 [.long (m1.2 8 4), .int (0 : Int32)] w m1 (fun v2 m2 => cI d 69 [.int ((96 : Int32) + v2)] w m2 (fun v3 m3 => ((v3 = 0 → Q (0 : Int32) m3) ∧ (¬ v3 = 0 → ((((96 : Int32) + v2) = (120 : Int32) → Q (0 : Int32) m3) ∧ (¬ ((96 : Int32) + v2) = (120 : Int32) → Q ((96 : Int32) + v2) m3))))))) ∧ (¬ v1 = (1 : Int32) → Q (0 : Int32) m1)))))) : cI (d + 1) 68 [.ref 8] w m Q := by
  refine cI_in rfl ?_
  refine mm_yrun (is := mm_k68) [] 400 rfl ?_
  refine And.intro (rfl) ?_
  refine And.intro (fun q => ?_) (fun q => ?_)
  · replace H := H.1 q
    exact rI_mk (w := w) (m := m) H
  · replace H := H.2 (Classical.not_not.mp q)
    refine And.intro (rfl) ?_
    refine And.intro (trivial) ?_
    refine cI_use (w := w) (m := m) rfl H ?_
    intro v1 m1 H
    refine And.intro (fun q => ?_) (fun q => ?_)
    · replace H := H.1 q
      refine And.intro (rfl) ?_
      refine And.intro (trivial) ?_
      refine cI_use (w := w) (m := m1) rfl H ?_
      intro v2 m2 H
      refine And.intro (trivial) ?_
      refine cI_use (w := w) (m := m2) rfl H ?_
      intro v3 m3 H
      refine And.intro (fun q => ?_) (fun q => ?_)
      · replace H := H.1 q
        exact rI_mk (w := w) (m := m3) H
      · replace H := H.2 q
        refine And.intro (fun q => ?_) (fun q => ?_)
        · replace H := H.1 q
          exact rI_mk (w := w) (m := m3) H
        · replace H := H.2 q
          exact rI_mk (w := w) (m := m3) H
    · replace H := H.2 q
      exact rI_mk (w := w) (m := m1) H

theorem S_Reader_isKind {p0 : Int32} {d : Nat} {w : Nat × Nat × Nat} {m : zM} {Q : Int32 → zM → Prop} (H : ((p0 = (97 : Int32) → Q (1 : Int32) m) ∧ (¬ p0 = (97 : Int32) → ((p0 = (98 : Int32) → Q (0 : Int32) m) ∧ (¬ p0 = (98 : Int32) → ((p0 = (99 : Int32) → Q (0 : Int32) m) ∧ (¬ p0 = (99 : Int32) → ((p0 = (100 : Int32) → Q (1 : Int32) m) ∧ (¬ p0 = (100 : Int32) → ((p0 = (101 : Int32) → Q (0 : Int32) m) ∧ (¬ p0 = (101 : Int32) → ((p0 = (102 : Int32) → Q (0 : Int32) m) ∧ (¬ p0 = (102 : Int32) → ((p0 = (103 : Int32) → Q (0 : Int32) m) ∧ (¬ p0 = (103 : Int32) → ((p0 = (104 : Int32) → Q (0 : Int32) m) ∧ (¬ p0 = (104 : Int32) → ((p0 = (105 : Int32) → Q (0 : Int32) m) ∧ (¬ p0 = (105 : Int32) → ((p0 = (106 : Int32) → Q (0 : Int32) m) ∧ (¬ p0 = (106 : Int32) → ((p0 = (107 : Int32) → Q (0 : Int32) m) ∧ (¬ p0 = (107 : Int32) → ((p0 = (108 : Int32) → Q (0 : Int32) m) ∧ (¬ p0 = (108 : Int32) → ((p0 = (109 : Int32) → Q (0 : Int32) m) ∧ (¬ p0 = (109 : Int32) → ((p0 = (110 : Int32) → Q (1 : Int32) m) ∧ (¬ p0 = (110 : Int32) → ((p0 = (111 : Int32) → Q (1 : Int32) m) ∧ (¬ p0 = (111 : Int32) → ((p0 = (112 : Int32) → Q (1 : Int32) m) ∧ (¬ p0 = (112 : Int32) → ((p0 = (113 : Int32) → Q (0 : Int32) m) ∧ (¬ p0 = (113 : Int32) → ((p0 = (114 : Int32) → Q (0 : Int32) m) ∧ (¬ p0 = (114 : Int32) → ((p0 = (115 : Int32) → Q (0 : Int32) m) ∧ (¬ p0 = (115 : Int32) → ((p0 = (116 : Int32) → Q (0 : Int32) m) ∧ (¬ p0 = (116 : Int32) → ((p0 = (117 : Int32) → Q (0 : Int32) m) ∧ (¬ p0 = (117 : Int32) → ((p0 = (118 : Int32) → Q (1 : Int32) m) ∧ (¬ p0 = (118 : Int32) → ((p0 = (119 : Int32) → Q (0 : Int32) m) ∧ (¬ p0 = (119 : Int32) → ((p0 = (120 : Int32) → Q (1 : Int32) m) ∧ (¬ p0 = (120 : Int32) → Q (0 : Int32) m))))))))))))))))))))))))))))))))))))))))))))))))) : cI d 69 [.int p0] w m Q := by
  refine cI_in rfl ?_
  refine mm_yrun (is := mm_k69) [] 400 rfl ?_
  refine And.intro (fun q => ?_) (fun q => ?_)
  · replace H := H.1 q
    refine And.intro (Or.inr rfl) ?_
    exact rI_mk (w := w) (m := m) H
  · replace H := H.2 q
    refine And.intro (fun q => ?_) (fun q => ?_)
    · replace H := H.1 q
      refine And.intro (Or.inl rfl) ?_
      exact rI_mk (w := w) (m := m) H
    · replace H := H.2 q
      refine And.intro (fun q => ?_) (fun q => ?_)
      · replace H := H.1 q
        refine And.intro (Or.inl rfl) ?_
        exact rI_mk (w := w) (m := m) H
      · replace H := H.2 q
        refine And.intro (fun q => ?_) (fun q => ?_)
        · replace H := H.1 q
          refine And.intro (Or.inr rfl) ?_
          exact rI_mk (w := w) (m := m) H
        · replace H := H.2 q
          refine And.intro (fun q => ?_) (fun q => ?_)
          · replace H := H.1 q
            refine And.intro (Or.inl rfl) ?_
            exact rI_mk (w := w) (m := m) H
          · replace H := H.2 q
            refine And.intro (fun q => ?_) (fun q => ?_)
            · replace H := H.1 q
              refine And.intro (Or.inl rfl) ?_
              exact rI_mk (w := w) (m := m) H
            · replace H := H.2 q
              refine And.intro (fun q => ?_) (fun q => ?_)
              · replace H := H.1 q
                refine And.intro (Or.inl rfl) ?_
                exact rI_mk (w := w) (m := m) H
              · replace H := H.2 q
                refine And.intro (fun q => ?_) (fun q => ?_)
                · replace H := H.1 q
                  refine And.intro (Or.inl rfl) ?_
                  exact rI_mk (w := w) (m := m) H
                · replace H := H.2 q
                  refine And.intro (fun q => ?_) (fun q => ?_)
                  · replace H := H.1 q
                    refine And.intro (Or.inl rfl) ?_
                    exact rI_mk (w := w) (m := m) H
                  · replace H := H.2 q
                    refine And.intro (fun q => ?_) (fun q => ?_)
                    · replace H := H.1 q
                      refine And.intro (Or.inl rfl) ?_
                      exact rI_mk (w := w) (m := m) H
                    · replace H := H.2 q
                      refine And.intro (fun q => ?_) (fun q => ?_)
                      · replace H := H.1 q
                        refine And.intro (Or.inl rfl) ?_
                        exact rI_mk (w := w) (m := m) H
                      · replace H := H.2 q
                        refine And.intro (fun q => ?_) (fun q => ?_)
                        · replace H := H.1 q
                          refine And.intro (Or.inl rfl) ?_
                          exact rI_mk (w := w) (m := m) H
                        · replace H := H.2 q
                          refine And.intro (fun q => ?_) (fun q => ?_)
                          · replace H := H.1 q
                            refine And.intro (Or.inl rfl) ?_
                            exact rI_mk (w := w) (m := m) H
                          · replace H := H.2 q
                            refine And.intro (fun q => ?_) (fun q => ?_)
                            · replace H := H.1 q
                              refine And.intro (Or.inr rfl) ?_
                              exact rI_mk (w := w) (m := m) H
                            · replace H := H.2 q
                              refine And.intro (fun q => ?_) (fun q => ?_)
                              · replace H := H.1 q
                                refine And.intro (Or.inr rfl) ?_
                                exact rI_mk (w := w) (m := m) H
                              · replace H := H.2 q
                                refine And.intro (fun q => ?_) (fun q => ?_)
                                · replace H := H.1 q
                                  refine And.intro (Or.inr rfl) ?_
                                  exact rI_mk (w := w) (m := m) H
                                · replace H := H.2 q
                                  refine And.intro (fun q => ?_) (fun q => ?_)
                                  · replace H := H.1 q
                                    refine And.intro (Or.inl rfl) ?_
                                    exact rI_mk (w := w) (m := m) H
                                  · replace H := H.2 q
                                    refine And.intro (fun q => ?_) (fun q => ?_)
                                    · replace H := H.1 q
                                      refine And.intro (Or.inl rfl) ?_
                                      exact rI_mk (w := w) (m := m) H
                                    · replace H := H.2 q
                                      refine And.intro (fun q => ?_) (fun q => ?_)
                                      · replace H := H.1 q
                                        refine And.intro (Or.inl rfl) ?_
                                        exact rI_mk (w := w) (m := m) H
                                      · replace H := H.2 q
                                        refine And.intro (fun q => ?_) (fun q => ?_)
                                        · replace H := H.1 q
                                          refine And.intro (Or.inl rfl) ?_
                                          exact rI_mk (w := w) (m := m) H
                                        · replace H := H.2 q
                                          refine And.intro (fun q => ?_) (fun q => ?_)
                                          · replace H := H.1 q
                                            refine And.intro (Or.inl rfl) ?_
                                            exact rI_mk (w := w) (m := m) H
                                          · replace H := H.2 q
                                            refine And.intro (fun q => ?_) (fun q => ?_)
                                            · replace H := H.1 q
                                              refine And.intro (Or.inr rfl) ?_
                                              exact rI_mk (w := w) (m := m) H
                                            · replace H := H.2 q
                                              refine And.intro (fun q => ?_) (fun q => ?_)
                                              · replace H := H.1 q
                                                refine And.intro (Or.inl rfl) ?_
                                                exact rI_mk (w := w) (m := m) H
                                              · replace H := H.2 q
                                                refine And.intro (fun q => ?_) (fun q => ?_)
                                                · replace H := H.1 q
                                                  refine And.intro (Or.inr rfl) ?_
                                                  exact rI_mk (w := w) (m := m) H
                                                · replace H := H.2 q
                                                  refine And.intro (Or.inl rfl) ?_
                                                  exact rI_mk (w := w) (m := m) H

def W_Reader_readLexicon_6 (d : Nat) (p0 : Nat) (l2 : Int32) (w : Nat × Nat × Nat) (m : zM) (Q : zM → Prop) : Prop := mm_W (d + 1) 70 6 [some (.ref 8), some (.ref p0), some (.int l2)] [] (zE w m) (rV w Q)
theorem S_Reader_readLexicon {p0 : Nat} {d : Nat} {w : Nat × Nat × Nat} {m : zM} {Q : zM → Prop} (H : cV d 62 [.ref 8] w m (fun m1 => cV d 65 [.ref 8] w m1 (fun m2 => W_Reader_readLexicon_6 d p0 (0 : Int32) w m2 Q))) : cV (d + 1) 70 [.ref 8, .ref p0] w m Q := by
  refine cV_in rfl ?_
  refine mm_yrun (is := mm_k70) [6] 400 rfl ?_
  refine And.intro (rfl) ?_
  refine cV_use (w := w) (m := m) rfl H ?_
  intro m1 H
  refine And.intro (rfl) ?_
  refine cV_use (w := w) (m := m1) rfl H ?_
  intro m2 H
  exact H
theorem S_Reader_readLexicon_6 {p0 : Nat} {l2 : Int32} {d : Nat} {w : Nat × Nat × Nat} {m : zM} {Q : zM → Prop} (H : (((601 : Int32) ≤ l2 → Q m) ∧ (¬ (601 : Int32) ≤ l2 → ((¬ (m.1 8 5) = 0 → Q m) ∧ ((m.1 8 5) = 0 → (((m.1 8 3) = ((-1) : Int32) → Q m) ∧ (¬ (m.1 8 3) = ((-1) : Int32) → cV d 71 [.ref 8, .ref p0] w m (fun m1 => W_Reader_readLexicon_6 d p0 (l2 + (1 : Int32)) w m1 Q)))))))) : W_Reader_readLexicon_6 d p0 l2 w m Q := by
  refine mm_yrun (is := mm_k70) [6] 400 rfl ?_
  refine And.intro (fun q => ?_) (fun q => ?_)
  · replace H := H.1 q
    exact rV_mk (w := w) (m := m) H
  · replace H := H.2 q
    refine And.intro (rfl) ?_
    refine And.intro (fun q => ?_) (fun q => ?_)
    · replace H := H.1 q
      exact rV_mk (w := w) (m := m) H
    · replace H := H.2 (Classical.not_not.mp q)
      refine And.intro (rfl) ?_
      refine And.intro (fun q => ?_) (fun q => ?_)
      · replace H := H.1 q
        exact rV_mk (w := w) (m := m) H
      · replace H := H.2 q
        refine And.intro (rfl) ?_
        refine cV_use (w := w) (m := m) rfl H ?_
        intro m1 H
        exact H

def W_Reader_readLexiconLine_22 (d : Nat) (p0 : Nat) (l2 : Int32) (l3 : Int32) (w : Nat × Nat × Nat) (m : zM) (Q : zM → Prop) : Prop := mm_W (d + 1) 71 22 [some (.ref 8), some (.ref p0), some (.int l2), some (.int l3)] [] (zE w m) (rV w Q)
theorem S_Reader_readLexiconLine {p0 : Nat} {d : Nat} {w : Nat × Nat × Nat} {m : zM} {Q : zM → Prop} (H : cI d 68 [.ref 8] w m (fun v1 m1 => ((¬ v1 = 0 → cV d 65 [.ref 8] w m1 (fun m2 => cI d 67 [.ref 8, .int (58 : Int32)] w m2 (fun v3 m3 => ((v3 = 0 → Q m3) ∧ (¬ v3 = 0 → cI d 66 [.ref 8, .int ((-2) : Int32)] w m3 (fun v4 m4 => ((¬ v4 = 0 → W_Reader_readLexiconLine_22 d p0 v1 (0 : Int32) w m4 Q) ∧ (v4 = 0 → Q m4)))))))) ∧ (v1 = 0 → cV d 63 [.ref 8, .int (1 : Int32)] w m1 (fun m5 => Q m5))))) : cV (d + 1) 71 [.ref 8, .ref p0] w m Q := by
  refine cV_in rfl ?_
  refine mm_yrun (is := mm_k71) [22] 400 rfl ?_
  refine And.intro (rfl) ?_
  refine cI_use (w := w) (m := m) rfl H ?_
  intro v1 m1 H
  refine And.intro (fun q => ?_) (fun q => ?_)
  · replace H := H.1 q
    refine And.intro (rfl) ?_
    refine cV_use (w := w) (m := m1) rfl H ?_
    intro m2 H
    refine And.intro (rfl) ?_
    refine cI_use (w := w) (m := m2) rfl H ?_
    intro v3 m3 H
    refine And.intro (fun q => ?_) (fun q => ?_)
    · replace H := H.1 q
      exact rV_mk (w := w) (m := m3) H
    · replace H := H.2 q
      refine And.intro (rfl) ?_
      refine cI_use (w := w) (m := m3) rfl H ?_
      intro v4 m4 H
      refine And.intro (fun q => ?_) (fun q => ?_)
      · replace H := H.1 q
        exact H
      · replace H := H.2 (Classical.not_not.mp q)
        exact rV_mk (w := w) (m := m4) H
  · replace H := H.2 (Classical.not_not.mp q)
    refine And.intro (rfl) ?_
    refine cV_use (w := w) (m := m1) rfl H ?_
    intro m5 H
    exact rV_mk (w := w) (m := m5) H
theorem R_Reader_readLexiconLine_22 {p0 : Nat} {l2 : Int32} {l3 : Int32} {d : Nat} {w : Nat × Nat × Nat} {m : zM} {Q : zM → Prop} (hk_p0 : (zK w.1 p0).1 = 4) (H : (((601 : Int32) ≤ l3 → cI d 67 [.ref 8, .int (59 : Int32)] w m (fun v1 m1 => Q m1)) ∧ (¬ (601 : Int32) ≤ l3 → ((¬ (m.1 8 3) = ((-2) : Int32) → cI d 67 [.ref 8, .int (59 : Int32)] w m (fun v2 m2 => Q m2)) ∧ ((m.1 8 3) = ((-2) : Int32) → cI d 37 [.ref p0, .long (m.2 8 4), .long (l2).toInt64] w m (fun v3 m3 => ((¬ v3 = 0 → cV d 65 [.ref 8] w m3 (fun m4 => W_Reader_readLexiconLine_22 d p0 l2 (l3 + (1 : Int32)) w m4 Q)) ∧ (v3 = 0 → cV d 63 [.ref 8, .int (2 : Int32)] w m3 (fun m5 => Q m5))))))))) : W_Reader_readLexiconLine_22 d p0 l2 l3 w m Q := by
  refine mm_yrun (is := mm_k71) [22] 400 rfl ?_
  refine And.intro (fun q => ?_) (fun q => ?_)
  · replace H := H.1 q
    refine And.intro (rfl) ?_
    refine cI_use (w := w) (m := m) rfl H ?_
    intro v1 m1 H
    exact rV_mk (w := w) (m := m1) H
  · replace H := H.2 q
    refine And.intro (rfl) ?_
    refine And.intro (fun q => ?_) (fun q => ?_)
    · replace H := H.1 q
      refine And.intro (rfl) ?_
      refine cI_use (w := w) (m := m) rfl H ?_
      intro v2 m2 H
      exact rV_mk (w := w) (m := m2) H
    · replace H := H.2 (Classical.not_not.mp q)
      refine And.intro (rfl) ?_
      refine And.intro (hk_p0) ?_
      refine cI_use (w := w) (m := m) rfl H ?_
      intro v3 m3 H
      refine And.intro (fun q => ?_) (fun q => ?_)
      · replace H := H.1 q
        refine And.intro (rfl) ?_
        refine cV_use (w := w) (m := m3) rfl H ?_
        intro m4 H
        exact H
      · replace H := H.2 (Classical.not_not.mp q)
        refine And.intro (rfl) ?_
        refine cV_use (w := w) (m := m3) rfl H ?_
        intro m5 H
        exact rV_mk (w := w) (m := m5) H
theorem S_Reader_readLexiconLine_22 {p0 : Nat} {l2 : Int32} {l3 : Int32} {n_p0 : Nat} {d : Nat} {w : Nat × Nat × Nat} {m : zM} {Q : zM → Prop} (hp_p0 : zPa w p0 n_p0) (H : (((601 : Int32) ≤ l3 → cI d 67 [.ref 8, .int (59 : Int32)] w m (fun v1 m1 => Q m1)) ∧ (¬ (601 : Int32) ≤ l3 → ((¬ (m.1 8 3) = ((-2) : Int32) → cI d 67 [.ref 8, .int (59 : Int32)] w m (fun v2 m2 => Q m2)) ∧ ((m.1 8 3) = ((-2) : Int32) → cI d 37 [.ref p0, .long (m.2 8 4), .long (l2).toInt64] w m (fun v3 m3 => ((¬ v3 = 0 → cV d 65 [.ref 8] w m3 (fun m4 => W_Reader_readLexiconLine_22 d p0 l2 (l3 + (1 : Int32)) w m4 Q)) ∧ (v3 = 0 → cV d 63 [.ref 8, .int (2 : Int32)] w m3 (fun m5 => Q m5))))))))) : W_Reader_readLexiconLine_22 d p0 l2 l3 w m Q := R_Reader_readLexiconLine_22 hp_p0.1 H

def W_Reader_readEndings_9 (d : Nat) (p0 : Nat) (l2 : Int32) (w : Nat × Nat × Nat) (m : zM) (Q : zM → Prop) : Prop := mm_W (d + 1) 72 9 [some (.ref 8), some (.ref p0), some (.int l2)] [] (zE w m) (rV w Q)
theorem R_Reader_readEndings {p0 : Nat} {d : Nat} {w : Nat × Nat × Nat} {m : zM} {Q : zM → Prop} (hk_p0 : (zK w.1 p0).1 = 4) (H : cV d 62 [.ref 8] w m (fun m1 => cV d 65 [.ref 8] w (zI m1 p0 2 (0 : Int32)) (fun m2 => W_Reader_readEndings_9 d p0 (0 : Int32) w m2 Q))) : cV (d + 1) 72 [.ref 8, .ref p0] w m Q := by
  refine cV_in rfl ?_
  refine mm_yrun (is := mm_k72) [9] 400 rfl ?_
  refine And.intro (rfl) ?_
  refine cV_use (w := w) (m := m) rfl H ?_
  intro m1 H
  refine And.intro (hk_p0) ?_
  refine And.intro (rfl) ?_
  refine cV_use (w := w) (m := (zI m1 p0 2 (0 : Int32))) rfl H ?_
  intro m2 H
  exact H
theorem S_Reader_readEndings {p0 : Nat} {n_p0 : Nat} {d : Nat} {w : Nat × Nat × Nat} {m : zM} {Q : zM → Prop} (hp_p0 : zPa w p0 n_p0) (H : cV d 62 [.ref 8] w m (fun m1 => cV d 65 [.ref 8] w (zI m1 p0 2 (0 : Int32)) (fun m2 => W_Reader_readEndings_9 d p0 (0 : Int32) w m2 Q))) : cV (d + 1) 72 [.ref 8, .ref p0] w m Q := R_Reader_readEndings hp_p0.1 H
theorem S_Reader_readEndings_9 {p0 : Nat} {l2 : Int32} {d : Nat} {w : Nat × Nat × Nat} {m : zM} {Q : zM → Prop} (H : (((601 : Int32) ≤ l2 → Q m) ∧ (¬ (601 : Int32) ≤ l2 → ((¬ (m.1 8 5) = 0 → Q m) ∧ ((m.1 8 5) = 0 → (((m.1 8 3) = ((-1) : Int32) → Q m) ∧ (¬ (m.1 8 3) = ((-1) : Int32) → cV d 73 [.ref 8, .ref p0] w m (fun m1 => W_Reader_readEndings_9 d p0 (l2 + (1 : Int32)) w m1 Q)))))))) : W_Reader_readEndings_9 d p0 l2 w m Q := by
  refine mm_yrun (is := mm_k72) [9] 400 rfl ?_
  refine And.intro (fun q => ?_) (fun q => ?_)
  · replace H := H.1 q
    exact rV_mk (w := w) (m := m) H
  · replace H := H.2 q
    refine And.intro (rfl) ?_
    refine And.intro (fun q => ?_) (fun q => ?_)
    · replace H := H.1 q
      exact rV_mk (w := w) (m := m) H
    · replace H := H.2 (Classical.not_not.mp q)
      refine And.intro (rfl) ?_
      refine And.intro (fun q => ?_) (fun q => ?_)
      · replace H := H.1 q
        exact rV_mk (w := w) (m := m) H
      · replace H := H.2 q
        refine And.intro (rfl) ?_
        refine cV_use (w := w) (m := m) rfl H ?_
        intro m1 H
        exact H

theorem R_Reader_readEndingsLine {p0 : Nat} {d : Nat} {w : Nat × Nat × Nat} {m : zM} {Q : zM → Prop} (hk_p0 : (zK w.1 p0).1 = 4) (H : cI d 66 [.ref 8, .int ((-2) : Int32)] w m (fun v1 m1 => ((¬ v1 = 0 → (((m1.1 p0 2) < (8 : Int32) → cV d 65 [.ref 8] w m1 (fun m2 => cI d 67 [.ref 8, .int (61 : Int32)] w m2 (fun v3 m3 => ((¬ v3 = 0 → ((¬ (m3.1 8 3) = ((-2) : Int32) → cI d 67 [.ref 8, .int (59 : Int32)] w m3 (fun v4 m4 => ((v4 = 0 → Q m4) ∧ (¬ v4 = 0 → cI d 35 [.ref p0, .long (m1.2 8 4), .long (0 : Int64)] w m4 (fun v5 m5 => Q m5))))) ∧ ((m3.1 8 3) = ((-2) : Int32) → cV d 65 [.ref 8] w m3 (fun m6 => cI d 67 [.ref 8, .int (59 : Int32)] w m6 (fun v7 m7 => ((v7 = 0 → Q m7) ∧ (¬ v7 = 0 → cI d 35 [.ref p0, .long (m1.2 8 4), .long (m3.2 8 4)] w m7 (fun v8 m8 => Q m8)))))))) ∧ (v3 = 0 → Q m3))))) ∧ (¬ (m1.1 p0 2) < (8 : Int32) → cV d 63 [.ref 8, .int (2 : Int32)] w m1 (fun m9 => Q m9)))) ∧ (v1 = 0 → Q m1)))) : cV (d + 1) 73 [.ref 8, .ref p0] w m Q := by
  refine cV_in rfl ?_
  refine mm_yrun (is := mm_k73) [] 400 rfl ?_
  refine And.intro (rfl) ?_
  refine cI_use (w := w) (m := m) rfl H ?_
  intro v1 m1 H
  refine And.intro (fun q => ?_) (fun q => ?_)
  · replace H := H.1 q
    refine And.intro (hk_p0) ?_
    refine And.intro (fun q => ?_) (fun q => ?_)
    · replace H := H.1 q
      refine And.intro (rfl) ?_
      refine And.intro (rfl) ?_
      refine cV_use (w := w) (m := m1) rfl H ?_
      intro m2 H
      refine And.intro (rfl) ?_
      refine cI_use (w := w) (m := m2) rfl H ?_
      intro v3 m3 H
      refine And.intro (fun q => ?_) (fun q => ?_)
      · replace H := H.1 q
        refine And.intro (rfl) ?_
        refine And.intro (fun q => ?_) (fun q => ?_)
        · replace H := H.1 q
          refine And.intro (rfl) ?_
          refine cI_use (w := w) (m := m3) rfl H ?_
          intro v4 m4 H
          refine And.intro (fun q => ?_) (fun q => ?_)
          · replace H := H.1 q
            exact rV_mk (w := w) (m := m4) H
          · replace H := H.2 q
            refine And.intro (hk_p0) ?_
            refine cI_use (w := w) (m := m4) rfl H ?_
            intro v5 m5 H
            exact rV_mk (w := w) (m := m5) H
        · replace H := H.2 (Classical.not_not.mp q)
          refine And.intro (rfl) ?_
          refine And.intro (rfl) ?_
          refine cV_use (w := w) (m := m3) rfl H ?_
          intro m6 H
          refine And.intro (rfl) ?_
          refine cI_use (w := w) (m := m6) rfl H ?_
          intro v7 m7 H
          refine And.intro (fun q => ?_) (fun q => ?_)
          · replace H := H.1 q
            exact rV_mk (w := w) (m := m7) H
          · replace H := H.2 q
            refine And.intro (hk_p0) ?_
            refine cI_use (w := w) (m := m7) rfl H ?_
            intro v8 m8 H
            exact rV_mk (w := w) (m := m8) H
      · replace H := H.2 (Classical.not_not.mp q)
        exact rV_mk (w := w) (m := m3) H
    · replace H := H.2 q
      refine And.intro (rfl) ?_
      refine cV_use (w := w) (m := m1) rfl H ?_
      intro m9 H
      exact rV_mk (w := w) (m := m9) H
  · replace H := H.2 (Classical.not_not.mp q)
    exact rV_mk (w := w) (m := m1) H
theorem S_Reader_readEndingsLine {p0 : Nat} {n_p0 : Nat} {d : Nat} {w : Nat × Nat × Nat} {m : zM} {Q : zM → Prop} (hp_p0 : zPa w p0 n_p0) (H : cI d 66 [.ref 8, .int ((-2) : Int32)] w m (fun v1 m1 => ((¬ v1 = 0 → (((m1.1 p0 2) < (8 : Int32) → cV d 65 [.ref 8] w m1 (fun m2 => cI d 67 [.ref 8, .int (61 : Int32)] w m2 (fun v3 m3 => ((¬ v3 = 0 → ((¬ (m3.1 8 3) = ((-2) : Int32) → cI d 67 [.ref 8, .int (59 : Int32)] w m3 (fun v4 m4 => ((v4 = 0 → Q m4) ∧ (¬ v4 = 0 → cI d 35 [.ref p0, .long (m1.2 8 4), .long (0 : Int64)] w m4 (fun v5 m5 => Q m5))))) ∧ ((m3.1 8 3) = ((-2) : Int32) → cV d 65 [.ref 8] w m3 (fun m6 => cI d 67 [.ref 8, .int (59 : Int32)] w m6 (fun v7 m7 => ((v7 = 0 → Q m7) ∧ (¬ v7 = 0 → cI d 35 [.ref p0, .long (m1.2 8 4), .long (m3.2 8 4)] w m7 (fun v8 m8 => Q m8)))))))) ∧ (v3 = 0 → Q m3))))) ∧ (¬ (m1.1 p0 2) < (8 : Int32) → cV d 63 [.ref 8, .int (2 : Int32)] w m1 (fun m9 => Q m9)))) ∧ (v1 = 0 → Q m1)))) : cV (d + 1) 73 [.ref 8, .ref p0] w m Q := R_Reader_readEndingsLine hp_p0.1 H

def W_Reader_readSame_13 (d : Nat) (p0 : Nat) (l2 : Int32) (w : Nat × Nat × Nat) (m : zM) (Q : zM → Prop) : Prop := mm_W (d + 1) 74 13 [some (.ref 8), some (.ref p0), some (.int l2)] [] (zE w m) (rV w Q)
theorem R_Reader_readSame {p0 : Nat} {p0_2 : Nat} {d : Nat} {w : Nat × Nat × Nat} {m : zM} {Q : zM → Prop} (he_p0_2 : zR w.2.1 w.2.2 p0 2 = p0_2) (hk_p0 : (zK w.1 p0).1 = 9) (hn_p0_2 : ¬ p0_2 = 0) (hk_p0_2 : (zK w.1 p0_2).1 = 4) (H : cV d 62 [.ref 8] w m (fun m1 => cV d 65 [.ref 8] w (zI (zI m1 p0_2 2 (0 : Int32)) p0 8 (0 : Int32)) (fun m2 => W_Reader_readSame_13 d p0 (0 : Int32) w m2 Q))) : cV (d + 1) 74 [.ref 8, .ref p0] w m Q := by
  subst he_p0_2
  refine cV_in rfl ?_
  refine mm_yrun (is := mm_k74) [13] 400 rfl ?_
  refine And.intro (rfl) ?_
  refine cV_use (w := w) (m := m) rfl H ?_
  intro m1 H
  refine And.intro (And.intro (hk_p0) hn_p0_2) ?_
  refine And.intro (hk_p0_2) ?_
  refine And.intro (hk_p0) ?_
  refine And.intro (rfl) ?_
  refine cV_use (w := w) (m := (zI (zI m1 (zR w.2.1 w.2.2 p0 2) 2 (0 : Int32)) p0 8 (0 : Int32))) rfl H ?_
  intro m2 H
  exact H
theorem S_Reader_readSame {p0 : Nat} {d : Nat} {w : Nat × Nat × Nat} {m : zM} {Q : zM → Prop} (hp_p0 : zT p0) (H : cV d 62 [.ref 8] w m (fun m1 => cV d 65 [.ref 8] w (zI (zI m1 (p0 + 7) 2 (0 : Int32)) p0 8 (0 : Int32)) (fun m2 => W_Reader_readSame_13 d p0 (0 : Int32) w m2 Q))) : cV (d + 1) 74 [.ref 8, .ref p0] w m Q := R_Reader_readSame (zT_e2 hp_p0) (zT_k hp_p0) (Nat.succ_ne_zero _) (zT_sam hp_p0).1 H
theorem S_Reader_readSame_13 {p0 : Nat} {l2 : Int32} {d : Nat} {w : Nat × Nat × Nat} {m : zM} {Q : zM → Prop} (H : (((601 : Int32) ≤ l2 → Q m) ∧ (¬ (601 : Int32) ≤ l2 → ((¬ (m.1 8 5) = 0 → Q m) ∧ ((m.1 8 5) = 0 → (((m.1 8 3) = ((-1) : Int32) → Q m) ∧ (¬ (m.1 8 3) = ((-1) : Int32) → cV d 75 [.ref 8, .ref p0] w m (fun m1 => W_Reader_readSame_13 d p0 (l2 + (1 : Int32)) w m1 Q)))))))) : W_Reader_readSame_13 d p0 l2 w m Q := by
  refine mm_yrun (is := mm_k74) [13] 400 rfl ?_
  refine And.intro (fun q => ?_) (fun q => ?_)
  · replace H := H.1 q
    exact rV_mk (w := w) (m := m) H
  · replace H := H.2 q
    refine And.intro (rfl) ?_
    refine And.intro (fun q => ?_) (fun q => ?_)
    · replace H := H.1 q
      exact rV_mk (w := w) (m := m) H
    · replace H := H.2 (Classical.not_not.mp q)
      refine And.intro (rfl) ?_
      refine And.intro (fun q => ?_) (fun q => ?_)
      · replace H := H.1 q
        exact rV_mk (w := w) (m := m) H
      · replace H := H.2 q
        refine And.intro (rfl) ?_
        refine cV_use (w := w) (m := m) rfl H ?_
        intro m1 H
        exact H

def W_Reader_readSameLine_19 (d : Nat) (p0 : Nat) (l2 : Int64) (l4 : Int32) (w : Nat × Nat × Nat) (m : zM) (Q : zM → Prop) : Prop := mm_W (d + 1) 75 19 [some (.ref 8), some (.ref p0), some (.long l2), none, some (.int l4)] [] (zE w m) (rV w Q)
theorem R_Reader_readSameLine {p0 : Nat} {d : Nat} {w : Nat × Nat × Nat} {m : zM} {Q : zM → Prop} (hk_p0 : (zK w.1 p0).1 = 9) (H : cI d 76 [.ref 8, .ref p0] w m (fun v1 m1 => ((¬ v1 = 0 → cL d 103 [.ref p0, .long (m1.2 8 4)] w m1 (fun v2 m2 => cV d 65 [.ref 8] w m2 (fun m3 => cI d 66 [.ref 8, .int ((-2) : Int32)] w m3 (fun v4 m4 => ((¬ v4 = 0 → W_Reader_readSameLine_19 d p0 v2 (0 : Int32) w m4 Q) ∧ (v4 = 0 → Q m4)))))) ∧ (v1 = 0 → Q m1)))) : cV (d + 1) 75 [.ref 8, .ref p0] w m Q := by
  refine cV_in rfl ?_
  refine mm_yrun (is := mm_k75) [19] 400 rfl ?_
  refine And.intro (rfl) ?_
  refine cI_use (w := w) (m := m) rfl H ?_
  intro v1 m1 H
  refine And.intro (fun q => ?_) (fun q => ?_)
  · replace H := H.1 q
    refine And.intro (rfl) ?_
    refine And.intro (hk_p0) ?_
    refine cL_use (w := w) (m := m1) rfl H ?_
    intro v2 m2 H
    refine And.intro (rfl) ?_
    refine cV_use (w := w) (m := m2) rfl H ?_
    intro m3 H
    refine And.intro (rfl) ?_
    refine cI_use (w := w) (m := m3) rfl H ?_
    intro v4 m4 H
    refine And.intro (fun q => ?_) (fun q => ?_)
    · replace H := H.1 q
      exact H
    · replace H := H.2 (Classical.not_not.mp q)
      exact rV_mk (w := w) (m := m4) H
  · replace H := H.2 (Classical.not_not.mp q)
    exact rV_mk (w := w) (m := m1) H
theorem S_Reader_readSameLine {p0 : Nat} {d : Nat} {w : Nat × Nat × Nat} {m : zM} {Q : zM → Prop} (hp_p0 : zT p0) (H : cI d 76 [.ref 8, .ref p0] w m (fun v1 m1 => ((¬ v1 = 0 → cL d 103 [.ref p0, .long (m1.2 8 4)] w m1 (fun v2 m2 => cV d 65 [.ref 8] w m2 (fun m3 => cI d 66 [.ref 8, .int ((-2) : Int32)] w m3 (fun v4 m4 => ((¬ v4 = 0 → W_Reader_readSameLine_19 d p0 v2 (0 : Int32) w m4 Q) ∧ (v4 = 0 → Q m4)))))) ∧ (v1 = 0 → Q m1)))) : cV (d + 1) 75 [.ref 8, .ref p0] w m Q := R_Reader_readSameLine (zT_k hp_p0) H
theorem R_Reader_readSameLine_19 {p0 : Nat} {l2 : Int64} {l4 : Int32} {d : Nat} {w : Nat × Nat × Nat} {m : zM} {Q : zM → Prop} (hk_p0 : (zK w.1 p0).1 = 9) (H : (((601 : Int32) ≤ l4 → cI d 67 [.ref 8, .int (59 : Int32)] w m (fun v1 m1 => Q m1)) ∧ (¬ (601 : Int32) ≤ l4 → ((¬ (m.1 8 3) = ((-2) : Int32) → cI d 67 [.ref 8, .int (59 : Int32)] w m (fun v2 m2 => Q m2)) ∧ ((m.1 8 3) = ((-2) : Int32) → cI d 76 [.ref 8, .ref p0] w m (fun v3 m3 => ((¬ v3 = 0 → cV d 104 [.ref p0, .long (m3.2 8 4), .long l2] w m3 (fun m4 => cV d 65 [.ref 8] w m4 (fun m5 => W_Reader_readSameLine_19 d p0 l2 (l4 + (1 : Int32)) w m5 Q))) ∧ (v3 = 0 → Q m3)))))))) : W_Reader_readSameLine_19 d p0 l2 l4 w m Q := by
  refine mm_yrun (is := mm_k75) [19] 400 rfl ?_
  refine And.intro (fun q => ?_) (fun q => ?_)
  · replace H := H.1 q
    refine And.intro (rfl) ?_
    refine cI_use (w := w) (m := m) rfl H ?_
    intro v1 m1 H
    exact rV_mk (w := w) (m := m1) H
  · replace H := H.2 q
    refine And.intro (rfl) ?_
    refine And.intro (fun q => ?_) (fun q => ?_)
    · replace H := H.1 q
      refine And.intro (rfl) ?_
      refine cI_use (w := w) (m := m) rfl H ?_
      intro v2 m2 H
      exact rV_mk (w := w) (m := m2) H
    · replace H := H.2 (Classical.not_not.mp q)
      refine And.intro (rfl) ?_
      refine cI_use (w := w) (m := m) rfl H ?_
      intro v3 m3 H
      refine And.intro (fun q => ?_) (fun q => ?_)
      · replace H := H.1 q
        refine And.intro (rfl) ?_
        refine And.intro (hk_p0) ?_
        refine cV_use (w := w) (m := m3) rfl H ?_
        intro m4 H
        refine And.intro (rfl) ?_
        refine cV_use (w := w) (m := m4) rfl H ?_
        intro m5 H
        exact H
      · replace H := H.2 (Classical.not_not.mp q)
        exact rV_mk (w := w) (m := m3) H
theorem S_Reader_readSameLine_19 {p0 : Nat} {l2 : Int64} {l4 : Int32} {d : Nat} {w : Nat × Nat × Nat} {m : zM} {Q : zM → Prop} (hp_p0 : zT p0) (H : (((601 : Int32) ≤ l4 → cI d 67 [.ref 8, .int (59 : Int32)] w m (fun v1 m1 => Q m1)) ∧ (¬ (601 : Int32) ≤ l4 → ((¬ (m.1 8 3) = ((-2) : Int32) → cI d 67 [.ref 8, .int (59 : Int32)] w m (fun v2 m2 => Q m2)) ∧ ((m.1 8 3) = ((-2) : Int32) → cI d 76 [.ref 8, .ref p0] w m (fun v3 m3 => ((¬ v3 = 0 → cV d 104 [.ref p0, .long (m3.2 8 4), .long l2] w m3 (fun m4 => cV d 65 [.ref 8] w m4 (fun m5 => W_Reader_readSameLine_19 d p0 l2 (l4 + (1 : Int32)) w m5 Q))) ∧ (v3 = 0 → Q m3)))))))) : W_Reader_readSameLine_19 d p0 l2 l4 w m Q := R_Reader_readSameLine_19 (zT_k hp_p0) H

theorem R_Reader_takesSame {p0 : Nat} {d : Nat} {w : Nat × Nat × Nat} {m : zM} {Q : Int32 → zM → Prop} (hk_p0 : (zK w.1 p0).1 = 9) (H : cI d 66 [.ref 8, .int ((-2) : Int32)] w m (fun v1 m1 => ((¬ v1 = 0 → (((m1.1 p0 8) < (40 : Int32) → Q (1 : Int32) (zI m1 p0 8 ((m1.1 p0 8) + (1 : Int32)))) ∧ (¬ (m1.1 p0 8) < (40 : Int32) → cV d 63 [.ref 8, .int (2 : Int32)] w m1 (fun m2 => Q (0 : Int32) m2)))) ∧ (v1 = 0 → Q (0 : Int32) m1)))) : cI (d + 1) 76 [.ref 8, .ref p0] w m Q := by
  refine cI_in rfl ?_
  refine mm_yrun (is := mm_k76) [] 400 rfl ?_
  refine And.intro (rfl) ?_
  refine cI_use (w := w) (m := m) rfl H ?_
  intro v1 m1 H
  refine And.intro (fun q => ?_) (fun q => ?_)
  · replace H := H.1 q
    refine And.intro (hk_p0) ?_
    refine And.intro (fun q => ?_) (fun q => ?_)
    · replace H := H.1 q
      refine And.intro (hk_p0) ?_
      refine And.intro (hk_p0) ?_
      refine And.intro (Or.inr rfl) ?_
      exact rI_mk (w := w) (m := (zI m1 p0 8 ((m1.1 p0 8) + (1 : Int32)))) H
    · replace H := H.2 q
      refine And.intro (rfl) ?_
      refine cV_use (w := w) (m := m1) rfl H ?_
      intro m2 H
      refine And.intro (Or.inl rfl) ?_
      exact rI_mk (w := w) (m := m2) H
  · replace H := H.2 (Classical.not_not.mp q)
    refine And.intro (Or.inl rfl) ?_
    exact rI_mk (w := w) (m := m1) H
theorem S_Reader_takesSame {p0 : Nat} {d : Nat} {w : Nat × Nat × Nat} {m : zM} {Q : Int32 → zM → Prop} (hp_p0 : zT p0) (H : cI d 66 [.ref 8, .int ((-2) : Int32)] w m (fun v1 m1 => ((¬ v1 = 0 → (((m1.1 p0 8) < (40 : Int32) → Q (1 : Int32) (zI m1 p0 8 ((m1.1 p0 8) + (1 : Int32)))) ∧ (¬ (m1.1 p0 8) < (40 : Int32) → cV d 63 [.ref 8, .int (2 : Int32)] w m1 (fun m2 => Q (0 : Int32) m2)))) ∧ (v1 = 0 → Q (0 : Int32) m1)))) : cI (d + 1) 76 [.ref 8, .ref p0] w m Q := R_Reader_takesSame (zT_k hp_p0) H

def W_Reader_readProse_9 (d : Nat) (p0 : Nat) (l2 : Int32) (l3 : Int32) (w : Nat × Nat × Nat) (m : zM) (Q : zM → Prop) : Prop := mm_W (d + 1) 77 9 [some (.ref 8), some (.ref p0), some (.int l2), some (.int l3)] [] (zE w m) (rV w Q)
theorem R_Reader_readProse {p0 : Nat} {d : Nat} {w : Nat × Nat × Nat} {m : zM} {Q : zM → Prop} (hk_p0 : (zK w.1 p0).1 = 6) (H : cV d 62 [.ref 8] w m (fun m1 => cI d 58 [.ref p0] w m1 (fun v2 m2 => cV d 65 [.ref 8] w m2 (fun m3 => W_Reader_readProse_9 d p0 v2 (0 : Int32) w m3 Q)))) : cV (d + 1) 77 [.ref 8, .ref p0] w m Q := by
  refine cV_in rfl ?_
  refine mm_yrun (is := mm_k77) [9] 400 rfl ?_
  refine And.intro (rfl) ?_
  refine cV_use (w := w) (m := m) rfl H ?_
  intro m1 H
  refine And.intro (hk_p0) ?_
  refine cI_use (w := w) (m := m1) rfl H ?_
  intro v2 m2 H
  refine And.intro (rfl) ?_
  refine cV_use (w := w) (m := m2) rfl H ?_
  intro m3 H
  exact H
theorem S_Reader_readProse {p0 : Nat} {d : Nat} {w : Nat × Nat × Nat} {m : zM} {Q : zM → Prop} (hp_p0 : zPr w p0) (H : cV d 62 [.ref 8] w m (fun m1 => cI d 58 [.ref p0] w m1 (fun v2 m2 => cV d 65 [.ref 8] w m2 (fun m3 => W_Reader_readProse_9 d p0 v2 (0 : Int32) w m3 Q)))) : cV (d + 1) 77 [.ref 8, .ref p0] w m Q := R_Reader_readProse hp_p0.1 H
theorem R_Reader_readProse_9 {p0 : Nat} {l2 : Int32} {l3 : Int32} {d : Nat} {w : Nat × Nat × Nat} {m : zM} {Q : zM → Prop} (hk_p0 : (zK w.1 p0).1 = 6) (H : (((601 : Int32) ≤ l3 → Q m) ∧ (¬ (601 : Int32) ≤ l3 → ((¬ (m.1 8 5) = 0 → Q m) ∧ ((m.1 8 5) = 0 → (((m.1 8 3) = ((-1) : Int32) → Q m) ∧ (¬ (m.1 8 3) = ((-1) : Int32) → ((¬ (m.1 8 3) = (46 : Int32) → cI d 66 [.ref 8, .int ((-2) : Int32)] w m (fun v1 m1 => ((v1 = 0 → ((¬ (m1.1 8 5) = 0 → W_Reader_readProse_9 d p0 l2 (l3 + (1 : Int32)) w m1 Q) ∧ ((m1.1 8 5) = 0 → cV d 65 [.ref 8] w m1 (fun m2 => W_Reader_readProse_9 d p0 l2 (l3 + (1 : Int32)) w m2 Q)))) ∧ (¬ v1 = 0 → cI d 56 [.ref p0, .long (m1.2 8 4), .int l2] w m1 (fun v3 m3 => ((¬ v3 = 0 → ((¬ (m3.1 8 5) = 0 → W_Reader_readProse_9 d p0 l2 (l3 + (1 : Int32)) w m3 Q) ∧ ((m3.1 8 5) = 0 → cV d 65 [.ref 8] w m3 (fun m4 => W_Reader_readProse_9 d p0 l2 (l3 + (1 : Int32)) w m4 Q)))) ∧ (v3 = 0 → cV d 63 [.ref 8, .int (2 : Int32)] w m3 (fun m5 => ((¬ (m5.1 8 5) = 0 → W_Reader_readProse_9 d p0 l2 (l3 + (1 : Int32)) w m5 Q) ∧ ((m5.1 8 5) = 0 → cV d 65 [.ref 8] w m5 (fun m6 => W_Reader_readProse_9 d p0 l2 (l3 + (1 : Int32)) w m6 Q))))))))))) ∧ ((m.1 8 3) = (46 : Int32) → ((¬ (m.1 8 5) = 0 → W_Reader_readProse_9 d p0 (l2 + (1 : Int32)) (l3 + (1 : Int32)) w m Q) ∧ ((m.1 8 5) = 0 → cV d 65 [.ref 8] w m (fun m7 => W_Reader_readProse_9 d p0 (l2 + (1 : Int32)) (l3 + (1 : Int32)) w m7 Q)))))))))))) : W_Reader_readProse_9 d p0 l2 l3 w m Q := by
  refine mm_yrun (is := mm_k77) [9] 400 rfl ?_
  refine And.intro (fun q => ?_) (fun q => ?_)
  · replace H := H.1 q
    exact rV_mk (w := w) (m := m) H
  · replace H := H.2 q
    refine And.intro (rfl) ?_
    refine And.intro (fun q => ?_) (fun q => ?_)
    · replace H := H.1 q
      exact rV_mk (w := w) (m := m) H
    · replace H := H.2 (Classical.not_not.mp q)
      refine And.intro (rfl) ?_
      refine And.intro (fun q => ?_) (fun q => ?_)
      · replace H := H.1 q
        exact rV_mk (w := w) (m := m) H
      · replace H := H.2 q
        refine And.intro (rfl) ?_
        refine And.intro (fun q => ?_) (fun q => ?_)
        · replace H := H.1 q
          refine And.intro (rfl) ?_
          refine cI_use (w := w) (m := m) rfl H ?_
          intro v1 m1 H
          refine And.intro (fun q => ?_) (fun q => ?_)
          · replace H := H.1 q
            refine And.intro (rfl) ?_
            refine And.intro (fun q => ?_) (fun q => ?_)
            · replace H := H.1 q
              exact H
            · replace H := H.2 (Classical.not_not.mp q)
              refine And.intro (rfl) ?_
              refine cV_use (w := w) (m := m1) rfl H ?_
              intro m2 H
              exact H
          · replace H := H.2 q
            refine And.intro (rfl) ?_
            refine And.intro (hk_p0) ?_
            refine cI_use (w := w) (m := m1) rfl H ?_
            intro v3 m3 H
            refine And.intro (fun q => ?_) (fun q => ?_)
            · replace H := H.1 q
              refine And.intro (rfl) ?_
              refine And.intro (fun q => ?_) (fun q => ?_)
              · replace H := H.1 q
                exact H
              · replace H := H.2 (Classical.not_not.mp q)
                refine And.intro (rfl) ?_
                refine cV_use (w := w) (m := m3) rfl H ?_
                intro m4 H
                exact H
            · replace H := H.2 (Classical.not_not.mp q)
              refine And.intro (rfl) ?_
              refine cV_use (w := w) (m := m3) rfl H ?_
              intro m5 H
              refine And.intro (rfl) ?_
              refine And.intro (fun q => ?_) (fun q => ?_)
              · replace H := H.1 q
                exact H
              · replace H := H.2 (Classical.not_not.mp q)
                refine And.intro (rfl) ?_
                refine cV_use (w := w) (m := m5) rfl H ?_
                intro m6 H
                exact H
        · replace H := H.2 (Classical.not_not.mp q)
          refine And.intro (rfl) ?_
          refine And.intro (fun q => ?_) (fun q => ?_)
          · replace H := H.1 q
            exact H
          · replace H := H.2 (Classical.not_not.mp q)
            refine And.intro (rfl) ?_
            refine cV_use (w := w) (m := m) rfl H ?_
            intro m7 H
            exact H
theorem S_Reader_readProse_9 {p0 : Nat} {l2 : Int32} {l3 : Int32} {d : Nat} {w : Nat × Nat × Nat} {m : zM} {Q : zM → Prop} (hp_p0 : zPr w p0) (H : (((601 : Int32) ≤ l3 → Q m) ∧ (¬ (601 : Int32) ≤ l3 → ((¬ (m.1 8 5) = 0 → Q m) ∧ ((m.1 8 5) = 0 → (((m.1 8 3) = ((-1) : Int32) → Q m) ∧ (¬ (m.1 8 3) = ((-1) : Int32) → ((¬ (m.1 8 3) = (46 : Int32) → cI d 66 [.ref 8, .int ((-2) : Int32)] w m (fun v1 m1 => ((v1 = 0 → ((¬ (m1.1 8 5) = 0 → W_Reader_readProse_9 d p0 l2 (l3 + (1 : Int32)) w m1 Q) ∧ ((m1.1 8 5) = 0 → cV d 65 [.ref 8] w m1 (fun m2 => W_Reader_readProse_9 d p0 l2 (l3 + (1 : Int32)) w m2 Q)))) ∧ (¬ v1 = 0 → cI d 56 [.ref p0, .long (m1.2 8 4), .int l2] w m1 (fun v3 m3 => ((¬ v3 = 0 → ((¬ (m3.1 8 5) = 0 → W_Reader_readProse_9 d p0 l2 (l3 + (1 : Int32)) w m3 Q) ∧ ((m3.1 8 5) = 0 → cV d 65 [.ref 8] w m3 (fun m4 => W_Reader_readProse_9 d p0 l2 (l3 + (1 : Int32)) w m4 Q)))) ∧ (v3 = 0 → cV d 63 [.ref 8, .int (2 : Int32)] w m3 (fun m5 => ((¬ (m5.1 8 5) = 0 → W_Reader_readProse_9 d p0 l2 (l3 + (1 : Int32)) w m5 Q) ∧ ((m5.1 8 5) = 0 → cV d 65 [.ref 8] w m5 (fun m6 => W_Reader_readProse_9 d p0 l2 (l3 + (1 : Int32)) w m6 Q))))))))))) ∧ ((m.1 8 3) = (46 : Int32) → ((¬ (m.1 8 5) = 0 → W_Reader_readProse_9 d p0 (l2 + (1 : Int32)) (l3 + (1 : Int32)) w m Q) ∧ ((m.1 8 5) = 0 → cV d 65 [.ref 8] w m (fun m7 => W_Reader_readProse_9 d p0 (l2 + (1 : Int32)) (l3 + (1 : Int32)) w m7 Q)))))))))))) : W_Reader_readProse_9 d p0 l2 l3 w m Q := R_Reader_readProse_9 hp_p0.1 H

theorem R_Reader_readPattern {p0 : Nat} {d : Nat} {w : Nat × Nat × Nat} {m : zM} {Q : zM → Prop} (hk_p0 : (zK w.1 p0).1 = 5) (H : cV d 62 [.ref 8] w m (fun m1 => cV d 64 [.ref 8] w m1 (fun m2 => cV d 40 [.ref p0, .ref 8] w m2 (fun m3 => Q m3)))) : cV (d + 1) 78 [.ref 8, .ref p0] w m Q := by
  refine cV_in rfl ?_
  refine mm_yrun (is := mm_k78) [] 400 rfl ?_
  refine And.intro (rfl) ?_
  refine cV_use (w := w) (m := m) rfl H ?_
  intro m1 H
  refine And.intro (rfl) ?_
  refine cV_use (w := w) (m := m1) rfl H ?_
  intro m2 H
  refine And.intro (hk_p0) ?_
  refine cV_use (w := w) (m := m2) rfl H ?_
  intro m3 H
  exact rV_mk (w := w) (m := m3) H
theorem S_Reader_readPattern {p0 : Nat} {d : Nat} {w : Nat × Nat × Nat} {m : zM} {Q : zM → Prop} (hp_p0 : zPt w p0) (H : cV d 62 [.ref 8] w m (fun m1 => cV d 64 [.ref 8] w m1 (fun m2 => cV d 40 [.ref p0, .ref 8] w m2 (fun m3 => Q m3)))) : cV (d + 1) 78 [.ref 8, .ref p0] w m Q := R_Reader_readPattern hp_p0.1 H

theorem S_Terms_build {p0 : Nat} {d : Nat} {w : Nat × Nat × Nat} {m : zM} {Q : zM → Prop} (H : cV d 81 [.ref 237, .ref p0] w m (fun m1 => cV d 84 [.ref 237] w m1 (fun m2 => cV d 85 [.ref 237, .ref p0] w m2 (fun m3 => cV d 86 [.ref 237, .ref p0] w m3 (fun m4 => cV d 87 [.ref 237, .ref p0] w m4 (fun m5 => Q m5)))))) : cV (d + 1) 80 [.ref 237, .ref p0] w m Q := by
  refine cV_in rfl ?_
  refine mm_yrun (is := mm_k80) [] 400 rfl ?_
  refine And.intro (rfl) ?_
  refine cV_use (w := w) (m := m) rfl H ?_
  intro m1 H
  refine And.intro (rfl) ?_
  refine cV_use (w := w) (m := m1) rfl H ?_
  intro m2 H
  refine And.intro (rfl) ?_
  refine cV_use (w := w) (m := m2) rfl H ?_
  intro m3 H
  refine And.intro (rfl) ?_
  refine cV_use (w := w) (m := m3) rfl H ?_
  intro m4 H
  refine And.intro (rfl) ?_
  refine cV_use (w := w) (m := m4) rfl H ?_
  intro m5 H
  exact rV_mk (w := w) (m := m5) H

def W_Terms_gather_9 (d : Nat) (p0 : Nat) (l2 : Int32) (l3 : Int32) (l4 : Int32) (w : Nat × Nat × Nat) (m : zM) (Q : zM → Prop) : Prop := ∀ o5 o6 o7 o8 o9 : Option Value, mm_W (d + 1) 81 9 [some (.ref 237), some (.ref p0), some (.int l2), some (.int l3), some (.int l4), o5, o6, o7, o8, o9] [] (zE w m) (rV w Q)
def W_Terms_gather_44 (d : Nat) (p0 : Nat) (l2 : Int32) (l3 : Int32) (l4 : Int32) (l5 : Int32) (l6 : Int32) (t0 : Int32) (w : Nat × Nat × Nat) (m : zM) (Q : zM → Prop) : Prop := ∀ o7 o8 o9 : Option Value, mm_W (d + 1) 81 44 [some (.ref 237), some (.ref p0), some (.int l2), some (.int l3), some (.int l4), some (.int l5), some (.int l6), o7, o8, o9] [.int t0] (zE w m) (rV w Q)
def W_Terms_gather_61 (d : Nat) (p0 : Nat) (l2 : Int32) (l3 : Int32) (l4 : Int32) (l5 : Int32) (l7 : Int32) (t0 : Int32) (w : Nat × Nat × Nat) (m : zM) (Q : zM → Prop) : Prop := ∀ o6 o8 o9 : Option Value, mm_W (d + 1) 81 61 [some (.ref 237), some (.ref p0), some (.int l2), some (.int l3), some (.int l4), some (.int l5), o6, some (.int l7), o8, o9] [.int t0] (zE w m) (rV w Q)
def W_Terms_gather_70 (d : Nat) (p0 : Nat) (l2 : Int32) (l3 : Int32) (l4 : Int32) (l5 : Int32) (l8 : Int32) (w : Nat × Nat × Nat) (m : zM) (Q : zM → Prop) : Prop := ∀ o6 o7 o9 : Option Value, mm_W (d + 1) 81 70 [some (.ref 237), some (.ref p0), some (.int l2), some (.int l3), some (.int l4), some (.int l5), o6, o7, some (.int l8), o9] [] (zE w m) (rV w Q)
def W_Terms_gather_93 (d : Nat) (p0 : Nat) (l2 : Int32) (l3 : Int32) (l4 : Int32) (l5 : Int32) (l8 : Int32) (l9 : Int32) (w : Nat × Nat × Nat) (m : zM) (Q : zM → Prop) : Prop := ∀ o6 o7 : Option Value, mm_W (d + 1) 81 93 [some (.ref 237), some (.ref p0), some (.int l2), some (.int l3), some (.int l4), some (.int l5), o6, o7, some (.int l8), some (.int l9)] [] (zE w m) (rV w Q)
theorem S_Terms_gather {p0 : Nat} {d : Nat} {w : Nat × Nat × Nat} {m : zM} {Q : zM → Prop} (H : W_Terms_gather_9 d p0 (0 : Int32) (0 : Int32) (0 : Int32) w (zI m 237 19 (0 : Int32)) Q) : cV (d + 1) 81 [.ref 237, .ref p0] w m Q := by
  refine cV_in rfl ?_
  refine mm_yrun (is := mm_k81) [9, 44, 61, 70, 93] 400 rfl ?_
  refine And.intro (rfl) ?_
  exact H _ _ _ _ _
theorem S_Terms_gather_9 {p0 : Nat} {l2 : Int32} {l3 : Int32} {l4 : Int32} {d : Nat} {w : Nat × Nat × Nat} {m : zM} {Q : zM → Prop} (H : (((m.1 228 8) ≤ l4 → Q m) ∧ (¬ (m.1 228 8) ≤ l4 → cI d 156 [.ref 229, .int l4] w m (fun v1 m1 => cI d 156 [.ref 229, .int (l4 - (1 : Int32))] w m1 (fun v2 m2 => ((l4 = 0 → W_Terms_gather_44 d p0 l2 l3 l4 v1 v2 (1 : Int32) w m2 Q) ∧ (¬ l4 = 0 → cL d 157 [.ref 235, .int v1] w m2 (fun v3 m3 => cL d 157 [.ref 235, .int v2] w m3 (fun v4 m4 => ((v3 = v4 → W_Terms_gather_44 d p0 l2 l3 l4 v1 v2 (0 : Int32) w m4 Q) ∧ (¬ v3 = v4 → W_Terms_gather_44 d p0 l2 l3 l4 v1 v2 (1 : Int32) w m4 Q))))))))))) : W_Terms_gather_9 d p0 l2 l3 l4 w m Q := by
  intro o5 o6 o7 o8 o9
  refine mm_yrun (is := mm_k81) [9, 44, 61, 70, 93] 400 rfl ?_
  refine And.intro (And.intro (rfl) (by decide : ¬ 228 = 0)) ?_
  refine And.intro (rfl) ?_
  refine And.intro (fun q => ?_) (fun q => ?_)
  · replace H := H.1 q
    exact rV_mk (w := w) (m := m) H
  · replace H := H.2 q
    refine And.intro (And.intro (rfl) (by decide : ¬ 228 = 0)) ?_
    refine And.intro (And.intro (rfl) (by decide : ¬ 229 = 0)) ?_
    refine And.intro (trivial) ?_
    refine cI_use (w := w) (m := m) rfl H ?_
    intro v1 m1 H
    refine And.intro (And.intro (rfl) (by decide : ¬ 228 = 0)) ?_
    refine And.intro (And.intro (rfl) (by decide : ¬ 229 = 0)) ?_
    refine And.intro (trivial) ?_
    refine cI_use (w := w) (m := m1) rfl H ?_
    intro v2 m2 H
    refine And.intro (fun q => ?_) (fun q => ?_)
    · replace H := H.1 q
      exact H _ _ _
    · replace H := H.2 q
      refine And.intro (And.intro (rfl) (by decide : ¬ 228 = 0)) ?_
      refine And.intro (And.intro (rfl) (by decide : ¬ 235 = 0)) ?_
      refine And.intro (trivial) ?_
      refine cL_use (w := w) (m := m2) rfl H ?_
      intro v3 m3 H
      refine And.intro (And.intro (rfl) (by decide : ¬ 228 = 0)) ?_
      refine And.intro (And.intro (rfl) (by decide : ¬ 235 = 0)) ?_
      refine And.intro (trivial) ?_
      refine cL_use (w := w) (m := m3) rfl H ?_
      intro v4 m4 H
      refine And.intro (fun q => ?_) (fun q => ?_)
      · replace H := H.1 q
        exact H _ _ _
      · replace H := H.2 q
        exact H _ _ _
theorem S_Terms_gather_44 {p0 : Nat} {l2 : Int32} {l3 : Int32} {l4 : Int32} {l5 : Int32} {l6 : Int32} {t0 : Int32} {d : Nat} {w : Nat × Nat × Nat} {m : zM} {Q : zM → Prop} (H : ((¬ t0 = 0 → W_Terms_gather_61 d p0 l2 l3 l4 l5 t0 (1 : Int32) w m Q) ∧ (t0 = 0 → cL d 157 [.ref 236, .int l5] w m (fun v1 m1 => cL d 157 [.ref 236, .int l6] w m1 (fun v2 m2 => ((v1 = v2 → W_Terms_gather_61 d p0 l2 l3 l4 l5 t0 (0 : Int32) w m2 Q) ∧ (¬ v1 = v2 → W_Terms_gather_61 d p0 l2 l3 l4 l5 t0 (1 : Int32) w m2 Q))))))) : W_Terms_gather_44 d p0 l2 l3 l4 l5 l6 t0 w m Q := by
  intro o7 o8 o9
  refine mm_yrun (is := mm_k81) [9, 44, 61, 70, 93] 400 rfl ?_
  refine And.intro (fun q => ?_) (fun q => ?_)
  · replace H := H.1 q
    exact H _ _ _
  · replace H := H.2 (Classical.not_not.mp q)
    refine And.intro (And.intro (rfl) (by decide : ¬ 228 = 0)) ?_
    refine And.intro (And.intro (rfl) (by decide : ¬ 236 = 0)) ?_
    refine And.intro (trivial) ?_
    refine cL_use (w := w) (m := m) rfl H ?_
    intro v1 m1 H
    refine And.intro (And.intro (rfl) (by decide : ¬ 228 = 0)) ?_
    refine And.intro (And.intro (rfl) (by decide : ¬ 236 = 0)) ?_
    refine And.intro (trivial) ?_
    refine cL_use (w := w) (m := m1) rfl H ?_
    intro v2 m2 H
    refine And.intro (fun q => ?_) (fun q => ?_)
    · replace H := H.1 q
      exact H _ _ _
    · replace H := H.2 q
      exact H _ _ _
theorem S_Terms_gather_61 {p0 : Nat} {l2 : Int32} {l3 : Int32} {l4 : Int32} {l5 : Int32} {l7 : Int32} {t0 : Int32} {d : Nat} {w : Nat × Nat × Nat} {m : zM} {Q : zM → Prop} (H : ((l7 = 0 → W_Terms_gather_70 d p0 l2 l3 l4 l5 t0 w m Q) ∧ (¬ l7 = 0 → cV d 82 [.ref 237, .int l5, .int l4] w m (fun m1 => W_Terms_gather_70 d p0 l2 (0 : Int32) l4 l5 t0 w m1 Q)))) : W_Terms_gather_61 d p0 l2 l3 l4 l5 l7 t0 w m Q := by
  intro o6 o8 o9
  refine mm_yrun (is := mm_k81) [9, 44, 61, 70, 93] 400 rfl ?_
  refine And.intro (fun q => ?_) (fun q => ?_)
  · replace H := H.1 q
    exact H _ _ _
  · replace H := H.2 q
    refine And.intro (rfl) ?_
    refine cV_use (w := w) (m := m) rfl H ?_
    intro m1 H
    exact H _ _ _
theorem S_Terms_gather_70 {p0 : Nat} {l2 : Int32} {l3 : Int32} {l4 : Int32} {l5 : Int32} {l8 : Int32} {d : Nat} {w : Nat × Nat × Nat} {m : zM} {Q : zM → Prop} (H : ((l8 = 0 → (((l2 + (1 : Int32)) ≤ l3 → W_Terms_gather_93 d p0 (l2 + (1 : Int32)) l3 l4 l5 l8 ((m.1 237 19) - (1 : Int32)) w m Q) ∧ (¬ (l2 + (1 : Int32)) ≤ l3 → cV d 158 [.ref 245, .int ((m.1 237 19) - (1 : Int32)), .int l5] w m (fun m1 => W_Terms_gather_93 d p0 (l2 + (1 : Int32)) (l2 + (1 : Int32)) l4 l5 l8 ((m.1 237 19) - (1 : Int32)) w m1 Q)))) ∧ (¬ l8 = 0 → (((1 : Int32) ≤ l3 → W_Terms_gather_93 d p0 (1 : Int32) l3 l4 l5 l8 ((m.1 237 19) - (1 : Int32)) w m Q) ∧ (¬ (1 : Int32) ≤ l3 → cV d 158 [.ref 245, .int ((m.1 237 19) - (1 : Int32)), .int l5] w m (fun m2 => W_Terms_gather_93 d p0 (1 : Int32) (1 : Int32) l4 l5 l8 ((m.1 237 19) - (1 : Int32)) w m2 Q)))))) : W_Terms_gather_70 d p0 l2 l3 l4 l5 l8 w m Q := by
  intro o6 o7 o9
  refine mm_yrun (is := mm_k81) [9, 44, 61, 70, 93] 400 rfl ?_
  refine And.intro (rfl) ?_
  refine And.intro (fun q => ?_) (fun q => ?_)
  · replace H := H.1 q
    refine And.intro (fun q => ?_) (fun q => ?_)
    · replace H := H.1 q
      exact H _ _
    · replace H := H.2 q
      refine And.intro (And.intro (rfl) (by decide : ¬ 245 = 0)) ?_
      refine And.intro (trivial) ?_
      refine cV_use (w := w) (m := m) rfl H ?_
      intro m1 H
      exact H _ _
  · replace H := H.2 q
    refine And.intro (fun q => ?_) (fun q => ?_)
    · replace H := H.1 q
      exact H _ _
    · replace H := H.2 q
      refine And.intro (And.intro (rfl) (by decide : ¬ 245 = 0)) ?_
      refine And.intro (trivial) ?_
      refine cV_use (w := w) (m := m) rfl H ?_
      intro m2 H
      exact H _ _
theorem S_Terms_gather_93 {p0 : Nat} {l2 : Int32} {l3 : Int32} {l4 : Int32} {l5 : Int32} {l8 : Int32} {l9 : Int32} {d : Nat} {w : Nat × Nat × Nat} {m : zM} {Q : zM → Prop} (H : cI d 156 [.ref 244, .int l9] w m (fun v1 m1 => ((l8 = 0 → cV d 158 [.ref 244, .int l9, .int (v1 + (0 : Int32))] w m1 (fun m2 => cV d 83 [.ref 237, .ref p0, .int l9, .int l5] w m2 (fun m3 => W_Terms_gather_9 d p0 l2 l3 (l4 + (1 : Int32)) w m3 Q))) ∧ (¬ l8 = 0 → cV d 158 [.ref 244, .int l9, .int (v1 + (1 : Int32))] w m1 (fun m4 => cV d 83 [.ref 237, .ref p0, .int l9, .int l5] w m4 (fun m5 => W_Terms_gather_9 d p0 l2 l3 (l4 + (1 : Int32)) w m5 Q)))))) : W_Terms_gather_93 d p0 l2 l3 l4 l5 l8 l9 w m Q := by
  intro o6 o7
  refine mm_yrun (is := mm_k81) [9, 44, 61, 70, 93] 400 rfl ?_
  refine And.intro (And.intro (rfl) (by decide : ¬ 244 = 0)) ?_
  refine And.intro (And.intro (rfl) (by decide : ¬ 244 = 0)) ?_
  refine And.intro (trivial) ?_
  refine cI_use (w := w) (m := m) rfl H ?_
  intro v1 m1 H
  refine And.intro (fun q => ?_) (fun q => ?_)
  · replace H := H.1 q
    refine And.intro (trivial) ?_
    refine cV_use (w := w) (m := m1) rfl H ?_
    intro m2 H
    refine And.intro (rfl) ?_
    refine cV_use (w := w) (m := m2) rfl H ?_
    intro m3 H
    exact H _ _ _ _ _
  · replace H := H.2 q
    refine And.intro (trivial) ?_
    refine cV_use (w := w) (m := m1) rfl H ?_
    intro m4 H
    refine And.intro (rfl) ?_
    refine cV_use (w := w) (m := m4) rfl H ?_
    intro m5 H
    exact H _ _ _ _ _
