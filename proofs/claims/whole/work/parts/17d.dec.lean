theorem S_T_fault {p0 : Int32} {d : Nat} {w : Nat × Nat × Nat} {m : zM} {Q : Int32 → zM → Prop} (H : ((¬ p0 = 0 → ((¬ p0 = (1 : Int32) → Q ((-1) : Int32) m) ∧ (p0 = (1 : Int32) → Q (m.1 3 13) m))) ∧ (p0 = 0 → Q (m.1 3 12) m))) : cI d 120 [.ref 3, .int p0] w m Q := by
  refine cI_in rfl ?_
  refine mm_yrun (is := mm_k120) [] 400 rfl ?_
  refine And.intro (fun q => ?_) (fun q => ?_)
  · replace H := H.1 q
    refine And.intro (fun q => ?_) (fun q => ?_)
    · replace H := H.1 q
      exact rI_mk (w := w) (m := m) H
    · replace H := H.2 (Classical.not_not.mp q)
      refine And.intro (rfl) ?_
      exact rI_mk (w := w) (m := m) H
  · replace H := H.2 (Classical.not_not.mp q)
    refine And.intro (rfl) ?_
    exact rI_mk (w := w) (m := m) H

theorem R_T_lengths {p0 : Int32} {p1 : Int32} {d : Nat} {w : Nat × Nat × Nat} {m : zM} {Q : Int32 → (Nat × Nat × Nat) → zM → Prop} (hk_w21 : (zK w.1 w.2.1).1 = 9) (hn_w21 : ¬ w.2.1 = 0) (H : ((p0 < (1 : Int32) → Q (0 : Int32) w m) ∧ (¬ p0 < (1 : Int32) → (((5 : Int32) < p1 → Q (0 : Int32) w m) ∧ (¬ (5 : Int32) < p1 → ((p0 ≤ p1 → ((¬ p0 = (m.1 w.2.1 10) → cVw d 145 [.ref 3] w m (fun w1 m1 => (¬ w1.2.2 = 0) ∧ ((zK w1.1 w1.2.2).1 = 9 ∧ ((¬ w1.2.2 = 0) ∧ ((zK w1.1 w1.2.2).1 = 9 ∧ (cVw d 146 [.ref 3] w1 (zI (zI m1 w1.2.2 10 p0) w1.2.2 11 p1) (fun w2 m2 => Q (1 : Int32) w2 m2))))))) ∧ (p0 = (m.1 w.2.1 10) → ((¬ p1 = (m.1 w.2.1 11) → cVw d 145 [.ref 3] w m (fun w3 m3 => (¬ w3.2.2 = 0) ∧ ((zK w3.1 w3.2.2).1 = 9 ∧ ((¬ w3.2.2 = 0) ∧ ((zK w3.1 w3.2.2).1 = 9 ∧ (cVw d 146 [.ref 3] w3 (zI (zI m3 w3.2.2 10 p0) w3.2.2 11 p1) (fun w4 m4 => Q (1 : Int32) w4 m4))))))) ∧ (p1 = (m.1 w.2.1 11) → Q (0 : Int32) w m))))) ∧ (¬ p0 ≤ p1 → Q (0 : Int32) w m))))))) : cIw (d + 1) 121 [.ref 3, .int p0, .int p1] w m Q := by
  refine cIw_in rfl ?_
  refine mm_yrun (is := mm_k121) [] 400 rfl ?_
  refine And.intro (fun q => ?_) (fun q => ?_)
  · replace H := H.1 q
    refine And.intro (Or.inl rfl) ?_
    exact rIw_mk (w0 := w) (w := w) (m := m) H
  · replace H := H.2 q
    refine And.intro (fun q => ?_) (fun q => ?_)
    · replace H := H.1 q
      refine And.intro (Or.inl rfl) ?_
      exact rIw_mk (w0 := w) (w := w) (m := m) H
    · replace H := H.2 q
      refine And.intro (fun q => ?_) (fun q => ?_)
      · replace H := H.1 q
        refine And.intro (And.intro (rfl) hn_w21) ?_
        refine And.intro (hk_w21) ?_
        refine And.intro (fun q => ?_) (fun q => ?_)
        · replace H := H.1 q
          refine And.intro (rfl) ?_
          refine cVw_use (w := w) (m := m) rfl H ?_
          intro w1 m1 H
          refine And.intro (And.intro (rfl) H.1) ?_
          replace H := H.2
          refine And.intro H.1 ?_
          replace H := H.2
          refine And.intro (And.intro (rfl) H.1) ?_
          replace H := H.2
          refine And.intro H.1 ?_
          replace H := H.2
          refine And.intro (rfl) ?_
          refine cVw_use (w := w1) (m := (zI (zI m1 w1.2.2 10 p0) w1.2.2 11 p1)) rfl H ?_
          intro w2 m2 H
          refine And.intro (Or.inr rfl) ?_
          exact rIw_mk (w0 := w) (w := w2) (m := m2) H
        · replace H := H.2 (Classical.not_not.mp q)
          refine And.intro (And.intro (rfl) hn_w21) ?_
          refine And.intro (hk_w21) ?_
          refine And.intro (fun q => ?_) (fun q => ?_)
          · replace H := H.1 q
            refine And.intro (rfl) ?_
            refine cVw_use (w := w) (m := m) rfl H ?_
            intro w3 m3 H
            refine And.intro (And.intro (rfl) H.1) ?_
            replace H := H.2
            refine And.intro H.1 ?_
            replace H := H.2
            refine And.intro (And.intro (rfl) H.1) ?_
            replace H := H.2
            refine And.intro H.1 ?_
            replace H := H.2
            refine And.intro (rfl) ?_
            refine cVw_use (w := w3) (m := (zI (zI m3 w3.2.2 10 p0) w3.2.2 11 p1)) rfl H ?_
            intro w4 m4 H
            refine And.intro (Or.inr rfl) ?_
            exact rIw_mk (w0 := w) (w := w4) (m := m4) H
          · replace H := H.2 (Classical.not_not.mp q)
            refine And.intro (Or.inl rfl) ?_
            exact rIw_mk (w0 := w) (w := w) (m := m) H
      · replace H := H.2 q
        refine And.intro (Or.inl rfl) ?_
        exact rIw_mk (w0 := w) (w := w) (m := m) H
theorem S_T_lengths {p0 : Int32} {p1 : Int32} {d : Nat} {w : Nat × Nat × Nat} {m : zM} {Q : Int32 → (Nat × Nat × Nat) → zM → Prop} (hp_w21 : zT w.2.1) (H : ((p0 < (1 : Int32) → Q (0 : Int32) w m) ∧ (¬ p0 < (1 : Int32) → (((5 : Int32) < p1 → Q (0 : Int32) w m) ∧ (¬ (5 : Int32) < p1 → ((p0 ≤ p1 → ((¬ p0 = (m.1 w.2.1 10) → cVw d 145 [.ref 3] w m (fun w1 m1 => (¬ w1.2.2 = 0) ∧ ((zK w1.1 w1.2.2).1 = 9 ∧ ((¬ w1.2.2 = 0) ∧ ((zK w1.1 w1.2.2).1 = 9 ∧ (cVw d 146 [.ref 3] w1 (zI (zI m1 w1.2.2 10 p0) w1.2.2 11 p1) (fun w2 m2 => Q (1 : Int32) w2 m2))))))) ∧ (p0 = (m.1 w.2.1 10) → ((¬ p1 = (m.1 w.2.1 11) → cVw d 145 [.ref 3] w m (fun w3 m3 => (¬ w3.2.2 = 0) ∧ ((zK w3.1 w3.2.2).1 = 9 ∧ ((¬ w3.2.2 = 0) ∧ ((zK w3.1 w3.2.2).1 = 9 ∧ (cVw d 146 [.ref 3] w3 (zI (zI m3 w3.2.2 10 p0) w3.2.2 11 p1) (fun w4 m4 => Q (1 : Int32) w4 m4))))))) ∧ (p1 = (m.1 w.2.1 11) → Q (0 : Int32) w m))))) ∧ (¬ p0 ≤ p1 → Q (0 : Int32) w m))))))) : cIw (d + 1) 121 [.ref 3, .int p0, .int p1] w m Q := R_T_lengths (zT_k hp_w21) (zT_n hp_w21) H

theorem R_T_weight {p0 : Int32} {p1 : Int32} {w21_7 : Nat} {d : Nat} {w : Nat × Nat × Nat} {m : zM} {Q : Int32 → (Nat × Nat × Nat) → zM → Prop} (he_w21_7 : zR w.2.1 w.2.2 w.2.1 7 = w21_7) (hk_w21 : (zK w.1 w.2.1).1 = 9) (hn_w21 : ¬ w.2.1 = 0) (hn_w21_7 : ¬ w21_7 = 0) (H : ((p0 < (1 : Int32) → Q (0 : Int32) w m) ∧ (¬ p0 < (1 : Int32) → (((5 : Int32) < p0 → Q (0 : Int32) w m) ∧ (¬ (5 : Int32) < p0 → ((p1 < 0 → Q (0 : Int32) w m) ∧ (¬ p1 < 0 → ((p1 ≤ (9 : Int32) → cI d 156 [.ref w21_7, .int p0] w m (fun v1 m1 => ((¬ v1 = p1 → cVw d 145 [.ref 3] w m1 (fun w2 m2 => (¬ w2.2.2 = 0) ∧ (((zK w2.1 w2.2.2).1 = 9 ∧ ¬ (zR w2.2.1 w2.2.2 w2.2.2 7) = 0) ∧ (cV d 158 [.ref (zR w2.2.1 w2.2.2 w2.2.2 7), .int p0, .int p1] w2 m2 (fun m3 => cVw d 146 [.ref 3] w2 m3 (fun w4 m4 => Q (1 : Int32) w4 m4)))))) ∧ (v1 = p1 → Q (0 : Int32) w m1)))) ∧ (¬ p1 ≤ (9 : Int32) → Q (0 : Int32) w m))))))))) : cIw (d + 1) 122 [.ref 3, .int p0, .int p1] w m Q := by
  subst he_w21_7
  refine cIw_in rfl ?_
  refine mm_yrun (is := mm_k122) [] 400 rfl ?_
  refine And.intro (fun q => ?_) (fun q => ?_)
  · replace H := H.1 q
    refine And.intro (Or.inl rfl) ?_
    exact rIw_mk (w0 := w) (w := w) (m := m) H
  · replace H := H.2 q
    refine And.intro (fun q => ?_) (fun q => ?_)
    · replace H := H.1 q
      refine And.intro (Or.inl rfl) ?_
      exact rIw_mk (w0 := w) (w := w) (m := m) H
    · replace H := H.2 q
      refine And.intro (fun q => ?_) (fun q => ?_)
      · replace H := H.1 q
        refine And.intro (Or.inl rfl) ?_
        exact rIw_mk (w0 := w) (w := w) (m := m) H
      · replace H := H.2 q
        refine And.intro (fun q => ?_) (fun q => ?_)
        · replace H := H.1 q
          refine And.intro (And.intro (rfl) hn_w21) ?_
          refine And.intro (And.intro (hk_w21) hn_w21_7) ?_
          refine And.intro (trivial) ?_
          refine cI_use (w := w) (m := m) rfl H ?_
          intro v1 m1 H
          refine And.intro (fun q => ?_) (fun q => ?_)
          · replace H := H.1 q
            refine And.intro (rfl) ?_
            refine cVw_use (w := w) (m := m1) rfl H ?_
            intro w2 m2 H
            refine And.intro (And.intro (rfl) H.1) ?_
            replace H := H.2
            refine And.intro H.1 ?_
            replace H := H.2
            refine And.intro (trivial) ?_
            refine cV_use (w := w2) (m := m2) rfl H ?_
            intro m3 H
            refine And.intro (rfl) ?_
            refine cVw_use (w := w2) (m := m3) rfl H ?_
            intro w4 m4 H
            refine And.intro (Or.inr rfl) ?_
            exact rIw_mk (w0 := w) (w := w4) (m := m4) H
          · replace H := H.2 (Classical.not_not.mp q)
            refine And.intro (Or.inl rfl) ?_
            exact rIw_mk (w0 := w) (w := w) (m := m1) H
        · replace H := H.2 q
          refine And.intro (Or.inl rfl) ?_
          exact rIw_mk (w0 := w) (w := w) (m := m) H
theorem S_T_weight {p0 : Int32} {p1 : Int32} {d : Nat} {w : Nat × Nat × Nat} {m : zM} {Q : Int32 → (Nat × Nat × Nat) → zM → Prop} (hp_w21 : zT w.2.1) (H : ((p0 < (1 : Int32) → Q (0 : Int32) w m) ∧ (¬ p0 < (1 : Int32) → (((5 : Int32) < p0 → Q (0 : Int32) w m) ∧ (¬ (5 : Int32) < p0 → ((p1 < 0 → Q (0 : Int32) w m) ∧ (¬ p1 < 0 → ((p1 ≤ (9 : Int32) → cI d 156 [.ref (w.2.1 + 20), .int p0] w m (fun v1 m1 => ((¬ v1 = p1 → cVw d 145 [.ref 3] w m1 (fun w2 m2 => (¬ w2.2.2 = 0) ∧ (((zK w2.1 w2.2.2).1 = 9 ∧ ¬ (zR w2.2.1 w2.2.2 w2.2.2 7) = 0) ∧ (cV d 158 [.ref (zR w2.2.1 w2.2.2 w2.2.2 7), .int p0, .int p1] w2 m2 (fun m3 => cVw d 146 [.ref 3] w2 m3 (fun w4 m4 => Q (1 : Int32) w4 m4)))))) ∧ (v1 = p1 → Q (0 : Int32) w m1)))) ∧ (¬ p1 ≤ (9 : Int32) → Q (0 : Int32) w m))))))))) : cIw (d + 1) 122 [.ref 3, .int p0, .int p1] w m Q := R_T_weight (zT_e7 hp_w21) (zT_k hp_w21) (zT_n hp_w21) (Nat.succ_ne_zero _) H

theorem R_T_wide {p0 : Int32} {d : Nat} {w : Nat × Nat × Nat} {m : zM} {Q : Int32 → (Nat × Nat × Nat) → zM → Prop} (hk_w21 : (zK w.1 w.2.1).1 = 9) (hn_w21 : ¬ w.2.1 = 0) (H : ((p0 < 0 → Q (0 : Int32) w m) ∧ (¬ p0 < 0 → (((3 : Int32) < p0 → Q (0 : Int32) w m) ∧ (¬ (3 : Int32) < p0 → ((¬ p0 = (m.1 w.2.1 12) → cVw d 145 [.ref 3] w m (fun w1 m1 => (¬ w1.2.2 = 0) ∧ ((zK w1.1 w1.2.2).1 = 9 ∧ (cVw d 146 [.ref 3] w1 (zI m1 w1.2.2 12 p0) (fun w2 m2 => Q (1 : Int32) w2 m2))))) ∧ (p0 = (m.1 w.2.1 12) → Q (0 : Int32) w m))))))) : cIw (d + 1) 123 [.ref 3, .int p0] w m Q := by
  refine cIw_in rfl ?_
  refine mm_yrun (is := mm_k123) [] 400 rfl ?_
  refine And.intro (fun q => ?_) (fun q => ?_)
  · replace H := H.1 q
    refine And.intro (Or.inl rfl) ?_
    exact rIw_mk (w0 := w) (w := w) (m := m) H
  · replace H := H.2 q
    refine And.intro (fun q => ?_) (fun q => ?_)
    · replace H := H.1 q
      refine And.intro (Or.inl rfl) ?_
      exact rIw_mk (w0 := w) (w := w) (m := m) H
    · replace H := H.2 q
      refine And.intro (And.intro (rfl) hn_w21) ?_
      refine And.intro (hk_w21) ?_
      refine And.intro (fun q => ?_) (fun q => ?_)
      · replace H := H.1 q
        refine And.intro (rfl) ?_
        refine cVw_use (w := w) (m := m) rfl H ?_
        intro w1 m1 H
        refine And.intro (And.intro (rfl) H.1) ?_
        replace H := H.2
        refine And.intro H.1 ?_
        replace H := H.2
        refine And.intro (rfl) ?_
        refine cVw_use (w := w1) (m := (zI m1 w1.2.2 12 p0)) rfl H ?_
        intro w2 m2 H
        refine And.intro (Or.inr rfl) ?_
        exact rIw_mk (w0 := w) (w := w2) (m := m2) H
      · replace H := H.2 (Classical.not_not.mp q)
        refine And.intro (Or.inl rfl) ?_
        exact rIw_mk (w0 := w) (w := w) (m := m) H
theorem S_T_wide {p0 : Int32} {d : Nat} {w : Nat × Nat × Nat} {m : zM} {Q : Int32 → (Nat × Nat × Nat) → zM → Prop} (hp_w21 : zT w.2.1) (H : ((p0 < 0 → Q (0 : Int32) w m) ∧ (¬ p0 < 0 → (((3 : Int32) < p0 → Q (0 : Int32) w m) ∧ (¬ (3 : Int32) < p0 → ((¬ p0 = (m.1 w.2.1 12) → cVw d 145 [.ref 3] w m (fun w1 m1 => (¬ w1.2.2 = 0) ∧ ((zK w1.1 w1.2.2).1 = 9 ∧ (cVw d 146 [.ref 3] w1 (zI m1 w1.2.2 12 p0) (fun w2 m2 => Q (1 : Int32) w2 m2))))) ∧ (p0 = (m.1 w.2.1 12) → Q (0 : Int32) w m))))))) : cIw (d + 1) 123 [.ref 3, .int p0] w m Q := R_T_wide (zT_k hp_w21) (zT_n hp_w21) H

theorem S_T_undo  {d : Nat} {w : Nat × Nat × Nat} {m : zM} {Q : Int32 → (Nat × Nat × Nat) → zM → Prop} (H : ((0 < (m.1 3 11) → (¬ (10 : Int32) = 0) ∧ (cR d 144 [.ref 3, .int ((((m.1 3 10) + (10 : Int32)) - (1 : Int32)) - (((m.1 3 10) + (10 : Int32)) - (1 : Int32)) / (10 : Int32) * (10 : Int32))] w (zI (zI m 3 11 ((m.1 3 11) - (1 : Int32))) 3 10 ((((m.1 3 10) + (10 : Int32)) - (1 : Int32)) - (((m.1 3 10) + (10 : Int32)) - (1 : Int32)) / (10 : Int32) * (10 : Int32))) (fun v1 m1 => (¬ v1 = 0) ∧ (Q (1 : Int32) (w.1, v1, w.2.2) (zI m1 3 14 (0 : Int32)))))) ∧ (¬ 0 < (m.1 3 11) → Q (0 : Int32) w m))) : cIw (d + 1) 124 [.ref 3] w m Q := by
  refine cIw_in rfl ?_
  refine mm_yrun (is := mm_k124) [] 400 rfl ?_
  refine And.intro (rfl) ?_
  refine And.intro (fun q => ?_) (fun q => ?_)
  · replace H := H.1 q
    refine And.intro (rfl) ?_
    refine And.intro (rfl) ?_
    refine And.intro (rfl) ?_
    refine And.intro H.1 ?_
    replace H := H.2
    refine And.intro (rfl) ?_
    refine And.intro (rfl) ?_
    refine And.intro (rfl) ?_
    refine cR_use (w := w) (m := (zI (zI m 3 11 ((m.1 3 11) - (1 : Int32))) 3 10 ((((m.1 3 10) + (10 : Int32)) - (1 : Int32)) - (((m.1 3 10) + (10 : Int32)) - (1 : Int32)) / (10 : Int32) * (10 : Int32)))) rfl H ?_
    intro v1 m1 H
    refine And.intro (And.intro (rfl) H.1) ?_
    replace H := H.2
    refine zW_now (w := w) (m := m1) ?_
    refine And.intro (And.intro (rfl) (Or.inl rfl)) ?_
    refine And.intro (Or.inr rfl) ?_
    exact rIw_mk (w0 := w) (w := (w.1, v1, w.2.2)) (m := (zI m1 3 14 (0 : Int32))) H
  · replace H := H.2 q
    refine And.intro (Or.inl rfl) ?_
    exact rIw_mk (w0 := w) (w := w) (m := m) H

theorem R_T_of {p0 : Int32} {p1 : Int32} {d : Nat} {w : Nat × Nat × Nat} {m : zM} {Q : Int32 → zM → Prop} (hk_w21 : (zK w.1 w.2.1).1 = 9) (hn_w21 : ¬ w.2.1 = 0) (H : ((p0 < 0 → Q ((-1) : Int32) m) ∧ (¬ p0 < 0 → ((p0 < (m.1 w.2.1 9) → ((p1 = (0 : Int32) → cI d 110 [.ref w.2.1, .int p0] w m (fun v1 m1 => Q v1 m1)) ∧ (¬ p1 = (0 : Int32) → ((p1 = (1 : Int32) → cI d 111 [.ref w.2.1, .int p0] w m (fun v2 m2 => Q v2 m2)) ∧ (¬ p1 = (1 : Int32) → ((p1 = (2 : Int32) → cV d 151 [.ref 3] w m (fun m3 => cI d 109 [.ref w.2.1, .int p0] w m3 (fun v4 m4 => cI d 109 [.ref w.2.1, .int p0] w m4 (fun v5 m5 => cI d 110 [.ref w.2.1, .int p0] w m5 (fun v6 m6 => cI d 15 [.ref 228, .int v4, .int (v5 + v6)] w m6 (fun v7 m7 => Q v7 m7)))))) ∧ (¬ p1 = (2 : Int32) → ((p1 = (3 : Int32) → cV d 151 [.ref 3] w m (fun m8 => cI d 92 [.ref 237, .int p0] w m8 (fun v9 m9 => Q v9 m9))) ∧ (¬ p1 = (3 : Int32) → Q ((-1) : Int32) m))))))))) ∧ (¬ p0 < (m.1 w.2.1 9) → Q ((-1) : Int32) m))))) : cI (d + 1) 125 [.ref 3, .int p0, .int p1] w m Q := by
  refine cI_in rfl ?_
  refine mm_yrun (is := mm_k125) [] 400 rfl ?_
  refine And.intro (fun q => ?_) (fun q => ?_)
  · replace H := H.1 q
    exact rI_mk (w := w) (m := m) H
  · replace H := H.2 q
    refine And.intro (And.intro (rfl) hn_w21) ?_
    refine And.intro (hk_w21) ?_
    refine And.intro (fun q => ?_) (fun q => ?_)
    · replace H := H.1 q
      refine And.intro (fun q => ?_) (fun q => ?_)
      · replace H := H.1 q
        refine And.intro (And.intro (rfl) hn_w21) ?_
        refine And.intro (hk_w21) ?_
        refine cI_use (w := w) (m := m) rfl H ?_
        intro v1 m1 H
        exact rI_mk (w := w) (m := m1) H
      · replace H := H.2 q
        refine And.intro (fun q => ?_) (fun q => ?_)
        · replace H := H.1 q
          refine And.intro (And.intro (rfl) hn_w21) ?_
          refine And.intro (hk_w21) ?_
          refine cI_use (w := w) (m := m) rfl H ?_
          intro v2 m2 H
          exact rI_mk (w := w) (m := m2) H
        · replace H := H.2 q
          refine And.intro (fun q => ?_) (fun q => ?_)
          · replace H := H.1 q
            refine And.intro (rfl) ?_
            refine cV_use (w := w) (m := m) rfl H ?_
            intro m3 H
            refine And.intro (And.intro (rfl) (by decide : ¬ 228 = 0)) ?_
            refine And.intro (And.intro (rfl) hn_w21) ?_
            refine And.intro (hk_w21) ?_
            refine cI_use (w := w) (m := m3) rfl H ?_
            intro v4 m4 H
            refine And.intro (And.intro (rfl) hn_w21) ?_
            refine And.intro (hk_w21) ?_
            refine cI_use (w := w) (m := m4) rfl H ?_
            intro v5 m5 H
            refine And.intro (And.intro (rfl) hn_w21) ?_
            refine And.intro (hk_w21) ?_
            refine cI_use (w := w) (m := m5) rfl H ?_
            intro v6 m6 H
            refine And.intro (rfl) ?_
            refine cI_use (w := w) (m := m6) rfl H ?_
            intro v7 m7 H
            exact rI_mk (w := w) (m := m7) H
          · replace H := H.2 q
            refine And.intro (fun q => ?_) (fun q => ?_)
            · replace H := H.1 q
              refine And.intro (rfl) ?_
              refine cV_use (w := w) (m := m) rfl H ?_
              intro m8 H
              refine And.intro (And.intro (rfl) (by decide : ¬ 237 = 0)) ?_
              refine And.intro (rfl) ?_
              refine cI_use (w := w) (m := m8) rfl H ?_
              intro v9 m9 H
              exact rI_mk (w := w) (m := m9) H
            · replace H := H.2 q
              exact rI_mk (w := w) (m := m) H
    · replace H := H.2 q
      exact rI_mk (w := w) (m := m) H
theorem S_T_of {p0 : Int32} {p1 : Int32} {d : Nat} {w : Nat × Nat × Nat} {m : zM} {Q : Int32 → zM → Prop} (hp_w21 : zT w.2.1) (H : ((p0 < 0 → Q ((-1) : Int32) m) ∧ (¬ p0 < 0 → ((p0 < (m.1 w.2.1 9) → ((p1 = (0 : Int32) → cI d 110 [.ref w.2.1, .int p0] w m (fun v1 m1 => Q v1 m1)) ∧ (¬ p1 = (0 : Int32) → ((p1 = (1 : Int32) → cI d 111 [.ref w.2.1, .int p0] w m (fun v2 m2 => Q v2 m2)) ∧ (¬ p1 = (1 : Int32) → ((p1 = (2 : Int32) → cV d 151 [.ref 3] w m (fun m3 => cI d 109 [.ref w.2.1, .int p0] w m3 (fun v4 m4 => cI d 109 [.ref w.2.1, .int p0] w m4 (fun v5 m5 => cI d 110 [.ref w.2.1, .int p0] w m5 (fun v6 m6 => cI d 15 [.ref 228, .int v4, .int (v5 + v6)] w m6 (fun v7 m7 => Q v7 m7)))))) ∧ (¬ p1 = (2 : Int32) → ((p1 = (3 : Int32) → cV d 151 [.ref 3] w m (fun m8 => cI d 92 [.ref 237, .int p0] w m8 (fun v9 m9 => Q v9 m9))) ∧ (¬ p1 = (3 : Int32) → Q ((-1) : Int32) m))))))))) ∧ (¬ p0 < (m.1 w.2.1 9) → Q ((-1) : Int32) m))))) : cI (d + 1) 125 [.ref 3, .int p0, .int p1] w m Q := R_T_of (zT_k hp_w21) (zT_n hp_w21) H

theorem R_T_word {p0 : Int32} {p1 : Int32} {p2 : Int32} {w21_3 : Nat} {d : Nat} {w : Nat × Nat × Nat} {m : zM} {Q : Int32 → zM → Prop} (he_w21_3 : zR w.2.1 w.2.2 w.2.1 3 = w21_3) (hk_w21 : (zK w.1 w.2.1).1 = 9) (hn_w21 : ¬ w.2.1 = 0) (hn_w21_3 : ¬ w21_3 = 0) (hk_w21_3 : (zK w.1 w21_3).1 = 6) (H : cI d 112 [.ref w.2.1, .int p0, .int p1] w m (fun v1 m1 => ((0 ≤ v1 → cL d 57 [.ref w21_3, .int v1] w m1 (fun v2 m2 => ((p2 = 0 → cV d 6 [.ref 6, .long v2] w (zI m2 6 1 (0 : Int32)) (fun m3 => Q (m3.1 6 1) m3)) ∧ (¬ p2 = 0 → cL d 105 [.ref w.2.1, .long v2] w (zI m2 6 1 (0 : Int32)) (fun v4 m4 => cV d 6 [.ref 6, .long v4] w m4 (fun m5 => Q (m5.1 6 1) m5)))))) ∧ (¬ 0 ≤ v1 → Q ((-1) : Int32) m1)))) : cI (d + 1) 126 [.ref 3, .int p0, .int p1, .int p2] w m Q := by
  subst he_w21_3
  refine cI_in rfl ?_
  refine mm_yrun (is := mm_k126) [] 400 rfl ?_
  refine And.intro (And.intro (rfl) hn_w21) ?_
  refine And.intro (hk_w21) ?_
  refine cI_use (w := w) (m := m) rfl H ?_
  intro v1 m1 H
  refine And.intro (fun q => ?_) (fun q => ?_)
  · replace H := H.1 q
    refine And.intro (And.intro (rfl) hn_w21) ?_
    refine And.intro (And.intro (hk_w21) hn_w21_3) ?_
    refine And.intro (hk_w21_3) ?_
    refine cL_use (w := w) (m := m1) rfl H ?_
    intro v2 m2 H
    refine And.intro (And.intro (rfl) (by decide : ¬ 6 = 0)) ?_
    refine And.intro (rfl) ?_
    refine And.intro (And.intro (rfl) (by decide : ¬ 6 = 0)) ?_
    refine And.intro (fun q => ?_) (fun q => ?_)
    · replace H := H.1 q
      refine And.intro (rfl) ?_
      refine cV_use (w := w) (m := (zI m2 6 1 (0 : Int32))) rfl H ?_
      intro m3 H
      refine And.intro (And.intro (rfl) (by decide : ¬ 6 = 0)) ?_
      refine And.intro (rfl) ?_
      exact rI_mk (w := w) (m := m3) H
    · replace H := H.2 q
      refine And.intro (And.intro (rfl) hn_w21) ?_
      refine And.intro (hk_w21) ?_
      refine cL_use (w := w) (m := (zI m2 6 1 (0 : Int32))) rfl H ?_
      intro v4 m4 H
      refine And.intro (rfl) ?_
      refine cV_use (w := w) (m := m4) rfl H ?_
      intro m5 H
      refine And.intro (And.intro (rfl) (by decide : ¬ 6 = 0)) ?_
      refine And.intro (rfl) ?_
      exact rI_mk (w := w) (m := m5) H
  · replace H := H.2 q
    exact rI_mk (w := w) (m := m1) H
theorem S_T_word {p0 : Int32} {p1 : Int32} {p2 : Int32} {d : Nat} {w : Nat × Nat × Nat} {m : zM} {Q : Int32 → zM → Prop} (hp_w21 : zT w.2.1) (H : cI d 112 [.ref w.2.1, .int p0, .int p1] w m (fun v1 m1 => ((0 ≤ v1 → cL d 57 [.ref (w.2.1 + 10), .int v1] w m1 (fun v2 m2 => ((p2 = 0 → cV d 6 [.ref 6, .long v2] w (zI m2 6 1 (0 : Int32)) (fun m3 => Q (m3.1 6 1) m3)) ∧ (¬ p2 = 0 → cL d 105 [.ref w.2.1, .long v2] w (zI m2 6 1 (0 : Int32)) (fun v4 m4 => cV d 6 [.ref 6, .long v4] w m4 (fun m5 => Q (m5.1 6 1) m5)))))) ∧ (¬ 0 ≤ v1 → Q ((-1) : Int32) m1)))) : cI (d + 1) 126 [.ref 3, .int p0, .int p1, .int p2] w m Q := R_T_word (zT_e3 hp_w21) (zT_k hp_w21) (zT_n hp_w21) (Nat.succ_ne_zero _) (zT_pr hp_w21).1 H

theorem R_T_kindAt {p0 : Int32} {p1 : Int32} {w21_3 : Nat} {d : Nat} {w : Nat × Nat × Nat} {m : zM} {Q : Int32 → zM → Prop} (he_w21_3 : zR w.2.1 w.2.2 w.2.1 3 = w21_3) (hk_w21 : (zK w.1 w.2.1).1 = 9) (hn_w21 : ¬ w.2.1 = 0) (hn_w21_3 : ¬ w21_3 = 0) (hk_w21_3 : (zK w.1 w21_3).1 = 6) (H : cI d 112 [.ref w.2.1, .int p0, .int p1] w m (fun v1 m1 => ((0 ≤ v1 → cL d 57 [.ref w21_3, .int v1] w m1 (fun v2 m2 => cL d 105 [.ref w.2.1, .long v2] w m2 (fun v3 m3 => cI d 106 [.ref w.2.1, .long v2, .long v3] w m3 (fun v4 m4 => Q v4 m4)))) ∧ (¬ 0 ≤ v1 → Q ((-1) : Int32) m1)))) : cI (d + 1) 127 [.ref 3, .int p0, .int p1] w m Q := by
  subst he_w21_3
  refine cI_in rfl ?_
  refine mm_yrun (is := mm_k127) [] 400 rfl ?_
  refine And.intro (And.intro (rfl) hn_w21) ?_
  refine And.intro (hk_w21) ?_
  refine cI_use (w := w) (m := m) rfl H ?_
  intro v1 m1 H
  refine And.intro (fun q => ?_) (fun q => ?_)
  · replace H := H.1 q
    refine And.intro (And.intro (rfl) hn_w21) ?_
    refine And.intro (And.intro (hk_w21) hn_w21_3) ?_
    refine And.intro (hk_w21_3) ?_
    refine cL_use (w := w) (m := m1) rfl H ?_
    intro v2 m2 H
    refine And.intro (And.intro (rfl) hn_w21) ?_
    refine And.intro (And.intro (rfl) hn_w21) ?_
    refine And.intro (hk_w21) ?_
    refine cL_use (w := w) (m := m2) rfl H ?_
    intro v3 m3 H
    refine And.intro (hk_w21) ?_
    refine cI_use (w := w) (m := m3) rfl H ?_
    intro v4 m4 H
    exact rI_mk (w := w) (m := m4) H
  · replace H := H.2 q
    exact rI_mk (w := w) (m := m1) H
theorem S_T_kindAt {p0 : Int32} {p1 : Int32} {d : Nat} {w : Nat × Nat × Nat} {m : zM} {Q : Int32 → zM → Prop} (hp_w21 : zT w.2.1) (H : cI d 112 [.ref w.2.1, .int p0, .int p1] w m (fun v1 m1 => ((0 ≤ v1 → cL d 57 [.ref (w.2.1 + 10), .int v1] w m1 (fun v2 m2 => cL d 105 [.ref w.2.1, .long v2] w m2 (fun v3 m3 => cI d 106 [.ref w.2.1, .long v2, .long v3] w m3 (fun v4 m4 => Q v4 m4)))) ∧ (¬ 0 ≤ v1 → Q ((-1) : Int32) m1)))) : cI (d + 1) 127 [.ref 3, .int p0, .int p1] w m Q := R_T_kindAt (zT_e3 hp_w21) (zT_k hp_w21) (zT_n hp_w21) (Nat.succ_ne_zero _) (zT_pr hp_w21).1 H

theorem R_T_match {p0 : Int32} {p1 : Int32} {d : Nat} {w : Nat × Nat × Nat} {m : zM} {Q : Int32 → zM → Prop} (hk_w21 : (zK w.1 w.2.1).1 = 9) (hn_w21 : ¬ w.2.1 = 0) (H : cV d 151 [.ref 3] w m (fun m1 => ((¬ p0 = ((-1) : Int32) → ((p0 < 0 → Q ((-1) : Int32) m1) ∧ (¬ p0 < 0 → ((p0 < (m1.1 228 8) → cI d 156 [.ref 231, .int p0] w m1 (fun v2 m2 => ((p1 = (0 : Int32) → cI d 113 [.ref w.2.1, .int v2] w m2 (fun v3 m3 => Q v3 m3)) ∧ (¬ p1 = (0 : Int32) → ((p1 = (1 : Int32) → cI d 113 [.ref w.2.1, .int v2] w m2 (fun v4 m4 => cI d 109 [.ref w.2.1, .int v4] w m4 (fun v5 m5 => Q (v2 - v5) m5))) ∧ (¬ p1 = (1 : Int32) → ((p1 = (2 : Int32) → cI d 156 [.ref 232, .int p0] w m2 (fun v6 m6 => Q v6 m6)) ∧ (¬ p1 = (2 : Int32) → ((p1 = (3 : Int32) → cI d 156 [.ref 233, .int p0] w m2 (fun v7 m7 => Q v7 m7)) ∧ (¬ p1 = (3 : Int32) → ((p1 = (4 : Int32) → cI d 156 [.ref 234, .int p0] w m2 (fun v8 m8 => Q v8 m8)) ∧ (¬ p1 = (4 : Int32) → Q ((-1) : Int32) m2)))))))))))) ∧ (¬ p0 < (m1.1 228 8) → Q ((-1) : Int32) m1))))) ∧ (p0 = ((-1) : Int32) → Q (m1.1 228 8) m1)))) : cI (d + 1) 128 [.ref 3, .int p0, .int p1] w m Q := by
  refine cI_in rfl ?_
  refine mm_yrun (is := mm_k128) [] 400 rfl ?_
  refine And.intro (rfl) ?_
  refine cV_use (w := w) (m := m) rfl H ?_
  intro m1 H
  refine And.intro (fun q => ?_) (fun q => ?_)
  · replace H := H.1 q
    refine And.intro (fun q => ?_) (fun q => ?_)
    · replace H := H.1 q
      exact rI_mk (w := w) (m := m1) H
    · replace H := H.2 q
      refine And.intro (And.intro (rfl) (by decide : ¬ 228 = 0)) ?_
      refine And.intro (rfl) ?_
      refine And.intro (fun q => ?_) (fun q => ?_)
      · replace H := H.1 q
        refine And.intro (And.intro (rfl) (by decide : ¬ 228 = 0)) ?_
        refine And.intro (And.intro (rfl) (by decide : ¬ 231 = 0)) ?_
        refine And.intro (trivial) ?_
        refine cI_use (w := w) (m := m1) rfl H ?_
        intro v2 m2 H
        refine And.intro (fun q => ?_) (fun q => ?_)
        · replace H := H.1 q
          refine And.intro (And.intro (rfl) hn_w21) ?_
          refine And.intro (hk_w21) ?_
          refine cI_use (w := w) (m := m2) rfl H ?_
          intro v3 m3 H
          exact rI_mk (w := w) (m := m3) H
        · replace H := H.2 q
          refine And.intro (fun q => ?_) (fun q => ?_)
          · replace H := H.1 q
            refine And.intro (And.intro (rfl) hn_w21) ?_
            refine And.intro (And.intro (rfl) hn_w21) ?_
            refine And.intro (hk_w21) ?_
            refine cI_use (w := w) (m := m2) rfl H ?_
            intro v4 m4 H
            refine And.intro (hk_w21) ?_
            refine cI_use (w := w) (m := m4) rfl H ?_
            intro v5 m5 H
            exact rI_mk (w := w) (m := m5) H
          · replace H := H.2 q
            refine And.intro (fun q => ?_) (fun q => ?_)
            · replace H := H.1 q
              refine And.intro (And.intro (rfl) (by decide : ¬ 228 = 0)) ?_
              refine And.intro (And.intro (rfl) (by decide : ¬ 232 = 0)) ?_
              refine And.intro (trivial) ?_
              refine cI_use (w := w) (m := m2) rfl H ?_
              intro v6 m6 H
              exact rI_mk (w := w) (m := m6) H
            · replace H := H.2 q
              refine And.intro (fun q => ?_) (fun q => ?_)
              · replace H := H.1 q
                refine And.intro (And.intro (rfl) (by decide : ¬ 228 = 0)) ?_
                refine And.intro (And.intro (rfl) (by decide : ¬ 233 = 0)) ?_
                refine And.intro (trivial) ?_
                refine cI_use (w := w) (m := m2) rfl H ?_
                intro v7 m7 H
                exact rI_mk (w := w) (m := m7) H
              · replace H := H.2 q
                refine And.intro (fun q => ?_) (fun q => ?_)
                · replace H := H.1 q
                  refine And.intro (And.intro (rfl) (by decide : ¬ 228 = 0)) ?_
                  refine And.intro (And.intro (rfl) (by decide : ¬ 234 = 0)) ?_
                  refine And.intro (trivial) ?_
                  refine cI_use (w := w) (m := m2) rfl H ?_
                  intro v8 m8 H
                  exact rI_mk (w := w) (m := m8) H
                · replace H := H.2 q
                  exact rI_mk (w := w) (m := m2) H
      · replace H := H.2 q
        exact rI_mk (w := w) (m := m1) H
  · replace H := H.2 (Classical.not_not.mp q)
    refine And.intro (And.intro (rfl) (by decide : ¬ 228 = 0)) ?_
    refine And.intro (rfl) ?_
    exact rI_mk (w := w) (m := m1) H
theorem S_T_match {p0 : Int32} {p1 : Int32} {d : Nat} {w : Nat × Nat × Nat} {m : zM} {Q : Int32 → zM → Prop} (hp_w21 : zT w.2.1) (H : cV d 151 [.ref 3] w m (fun m1 => ((¬ p0 = ((-1) : Int32) → ((p0 < 0 → Q ((-1) : Int32) m1) ∧ (¬ p0 < 0 → ((p0 < (m1.1 228 8) → cI d 156 [.ref 231, .int p0] w m1 (fun v2 m2 => ((p1 = (0 : Int32) → cI d 113 [.ref w.2.1, .int v2] w m2 (fun v3 m3 => Q v3 m3)) ∧ (¬ p1 = (0 : Int32) → ((p1 = (1 : Int32) → cI d 113 [.ref w.2.1, .int v2] w m2 (fun v4 m4 => cI d 109 [.ref w.2.1, .int v4] w m4 (fun v5 m5 => Q (v2 - v5) m5))) ∧ (¬ p1 = (1 : Int32) → ((p1 = (2 : Int32) → cI d 156 [.ref 232, .int p0] w m2 (fun v6 m6 => Q v6 m6)) ∧ (¬ p1 = (2 : Int32) → ((p1 = (3 : Int32) → cI d 156 [.ref 233, .int p0] w m2 (fun v7 m7 => Q v7 m7)) ∧ (¬ p1 = (3 : Int32) → ((p1 = (4 : Int32) → cI d 156 [.ref 234, .int p0] w m2 (fun v8 m8 => Q v8 m8)) ∧ (¬ p1 = (4 : Int32) → Q ((-1) : Int32) m2)))))))))))) ∧ (¬ p0 < (m1.1 228 8) → Q ((-1) : Int32) m1))))) ∧ (p0 = ((-1) : Int32) → Q (m1.1 228 8) m1)))) : cI (d + 1) 128 [.ref 3, .int p0, .int p1] w m Q := R_T_match (zT_k hp_w21) (zT_n hp_w21) H

def W_T_term_32 (d : Nat) (l2 : Int32) (l3 : Int32) (l4 : Int32) (l5 : Int32) (w : Nat × Nat × Nat) (m : zM) (Q : Int32 → zM → Prop) : Prop := ∀ o1 : Option Value, mm_W (d + 1) 129 32 [some (.ref 3), o1, some (.int l2), some (.int l3), some (.int l4), some (.int l5)] [] (zE w m) (rI w Q)
theorem S_T_term {p0 : Int32} {p1 : Int32} {d : Nat} {w : Nat × Nat × Nat} {m : zM} {Q : Int32 → zM → Prop} (H : cV d 151 [.ref 3] w m (fun m1 => ((p0 < 0 → Q ((-1) : Int32) m1) ∧ (¬ p0 < 0 → ((p0 < (m1.1 237 19) → cI d 156 [.ref 245, .int p0] w m1 (fun v2 m2 => cI d 156 [.ref 231, .int v2] w m2 (fun v3 m3 => cI d 90 [.ref 237, .int p0] w m3 (fun v4 m4 => W_T_term_32 d p1 v3 v4 (0 : Int32) w (zI m4 6 1 (0 : Int32)) Q)))) ∧ (¬ p0 < (m1.1 237 19) → Q ((-1) : Int32) m1)))))) : cI (d + 1) 129 [.ref 3, .int p0, .int p1] w m Q := by
  refine cI_in rfl ?_
  refine mm_yrun (is := mm_k129) [32] 400 rfl ?_
  refine And.intro (rfl) ?_
  refine cV_use (w := w) (m := m) rfl H ?_
  intro m1 H
  refine And.intro (fun q => ?_) (fun q => ?_)
  · replace H := H.1 q
    exact rI_mk (w := w) (m := m1) H
  · replace H := H.2 q
    refine And.intro (And.intro (rfl) (by decide : ¬ 237 = 0)) ?_
    refine And.intro (rfl) ?_
    refine And.intro (fun q => ?_) (fun q => ?_)
    · replace H := H.1 q
      refine And.intro (And.intro (rfl) (by decide : ¬ 228 = 0)) ?_
      refine And.intro (And.intro (rfl) (by decide : ¬ 231 = 0)) ?_
      refine And.intro (And.intro (rfl) (by decide : ¬ 237 = 0)) ?_
      refine And.intro (And.intro (rfl) (by decide : ¬ 245 = 0)) ?_
      refine And.intro (trivial) ?_
      refine cI_use (w := w) (m := m1) rfl H ?_
      intro v2 m2 H
      refine And.intro (trivial) ?_
      refine cI_use (w := w) (m := m2) rfl H ?_
      intro v3 m3 H
      refine And.intro (And.intro (rfl) (by decide : ¬ 237 = 0)) ?_
      refine And.intro (rfl) ?_
      refine cI_use (w := w) (m := m3) rfl H ?_
      intro v4 m4 H
      refine And.intro (And.intro (rfl) (by decide : ¬ 6 = 0)) ?_
      refine And.intro (rfl) ?_
      exact H _
    · replace H := H.2 q
      exact rI_mk (w := w) (m := m1) H
theorem R_T_term_32 {l2 : Int32} {l3 : Int32} {l4 : Int32} {l5 : Int32} {w21_3 : Nat} {d : Nat} {w : Nat × Nat × Nat} {m : zM} {Q : Int32 → zM → Prop} (he_w21_3 : zR w.2.1 w.2.2 w.2.1 3 = w21_3) (hk_w21 : (zK w.1 w.2.1).1 = 9) (hn_w21 : ¬ w.2.1 = 0) (hn_w21_3 : ¬ w21_3 = 0) (hk_w21_3 : (zK w.1 w21_3).1 = 6) (H : ((l4 ≤ l5 → Q (m.1 6 1) m) ∧ (¬ l4 ≤ l5 → (((5 : Int32) ≤ l5 → Q (m.1 6 1) m) ∧ (¬ (5 : Int32) ≤ l5 → ((l5 ≤ 0 → ((l2 = 0 → cL d 157 [.ref 221, .int (l3 + l5)] w m (fun v1 m1 => cV d 6 [.ref 6, .long v1] w m1 (fun m2 => W_T_term_32 d l2 l3 l4 (l5 + (1 : Int32)) w m2 Q))) ∧ (¬ l2 = 0 → cL d 57 [.ref w21_3, .int (l3 + l5)] w m (fun v3 m3 => cV d 6 [.ref 6, .long v3] w m3 (fun m4 => W_T_term_32 d l2 l3 l4 (l5 + (1 : Int32)) w m4 Q))))) ∧ (¬ l5 ≤ 0 → cV d 4 [.ref 6, .int (32 : Int32)] w m (fun m5 => ((l2 = 0 → cL d 157 [.ref 221, .int (l3 + l5)] w m5 (fun v6 m6 => cV d 6 [.ref 6, .long v6] w m6 (fun m7 => W_T_term_32 d l2 l3 l4 (l5 + (1 : Int32)) w m7 Q))) ∧ (¬ l2 = 0 → cL d 57 [.ref w21_3, .int (l3 + l5)] w m5 (fun v8 m8 => cV d 6 [.ref 6, .long v8] w m8 (fun m9 => W_T_term_32 d l2 l3 l4 (l5 + (1 : Int32)) w m9 Q)))))))))))) : W_T_term_32 d l2 l3 l4 l5 w m Q := by
  subst he_w21_3
  intro o1
  refine mm_yrun (is := mm_k129) [32] 400 rfl ?_
  refine And.intro (fun q => ?_) (fun q => ?_)
  · replace H := H.1 q
    refine And.intro (And.intro (rfl) (by decide : ¬ 6 = 0)) ?_
    refine And.intro (rfl) ?_
    exact rI_mk (w := w) (m := m) H
  · replace H := H.2 q
    refine And.intro (fun q => ?_) (fun q => ?_)
    · replace H := H.1 q
      refine And.intro (And.intro (rfl) (by decide : ¬ 6 = 0)) ?_
      refine And.intro (rfl) ?_
      exact rI_mk (w := w) (m := m) H
    · replace H := H.2 q
      refine And.intro (fun q => ?_) (fun q => ?_)
      · replace H := H.1 q
        refine And.intro (And.intro (rfl) (by decide : ¬ 6 = 0)) ?_
        refine And.intro (fun q => ?_) (fun q => ?_)
        · replace H := H.1 q
          refine And.intro (And.intro (rfl) (by decide : ¬ 220 = 0)) ?_
          refine And.intro (And.intro (rfl) (by decide : ¬ 221 = 0)) ?_
          refine And.intro (trivial) ?_
          refine cL_use (w := w) (m := m) rfl H ?_
          intro v1 m1 H
          refine And.intro (rfl) ?_
          refine cV_use (w := w) (m := m1) rfl H ?_
          intro m2 H
          exact H _
        · replace H := H.2 q
          refine And.intro (And.intro (rfl) hn_w21) ?_
          refine And.intro (And.intro (hk_w21) hn_w21_3) ?_
          refine And.intro (hk_w21_3) ?_
          refine cL_use (w := w) (m := m) rfl H ?_
          intro v3 m3 H
          refine And.intro (rfl) ?_
          refine cV_use (w := w) (m := m3) rfl H ?_
          intro m4 H
          exact H _
      · replace H := H.2 q
        refine And.intro (And.intro (rfl) (by decide : ¬ 6 = 0)) ?_
        refine And.intro (rfl) ?_
        refine cV_use (w := w) (m := m) rfl H ?_
        intro m5 H
        refine And.intro (And.intro (rfl) (by decide : ¬ 6 = 0)) ?_
        refine And.intro (fun q => ?_) (fun q => ?_)
        · replace H := H.1 q
          refine And.intro (And.intro (rfl) (by decide : ¬ 220 = 0)) ?_
          refine And.intro (And.intro (rfl) (by decide : ¬ 221 = 0)) ?_
          refine And.intro (trivial) ?_
          refine cL_use (w := w) (m := m5) rfl H ?_
          intro v6 m6 H
          refine And.intro (rfl) ?_
          refine cV_use (w := w) (m := m6) rfl H ?_
          intro m7 H
          exact H _
        · replace H := H.2 q
          refine And.intro (And.intro (rfl) hn_w21) ?_
          refine And.intro (And.intro (hk_w21) hn_w21_3) ?_
          refine And.intro (hk_w21_3) ?_
          refine cL_use (w := w) (m := m5) rfl H ?_
          intro v8 m8 H
          refine And.intro (rfl) ?_
          refine cV_use (w := w) (m := m8) rfl H ?_
          intro m9 H
          exact H _
theorem S_T_term_32 {l2 : Int32} {l3 : Int32} {l4 : Int32} {l5 : Int32} {d : Nat} {w : Nat × Nat × Nat} {m : zM} {Q : Int32 → zM → Prop} (hp_w21 : zT w.2.1) (H : ((l4 ≤ l5 → Q (m.1 6 1) m) ∧ (¬ l4 ≤ l5 → (((5 : Int32) ≤ l5 → Q (m.1 6 1) m) ∧ (¬ (5 : Int32) ≤ l5 → ((l5 ≤ 0 → ((l2 = 0 → cL d 157 [.ref 221, .int (l3 + l5)] w m (fun v1 m1 => cV d 6 [.ref 6, .long v1] w m1 (fun m2 => W_T_term_32 d l2 l3 l4 (l5 + (1 : Int32)) w m2 Q))) ∧ (¬ l2 = 0 → cL d 57 [.ref (w.2.1 + 10), .int (l3 + l5)] w m (fun v3 m3 => cV d 6 [.ref 6, .long v3] w m3 (fun m4 => W_T_term_32 d l2 l3 l4 (l5 + (1 : Int32)) w m4 Q))))) ∧ (¬ l5 ≤ 0 → cV d 4 [.ref 6, .int (32 : Int32)] w m (fun m5 => ((l2 = 0 → cL d 157 [.ref 221, .int (l3 + l5)] w m5 (fun v6 m6 => cV d 6 [.ref 6, .long v6] w m6 (fun m7 => W_T_term_32 d l2 l3 l4 (l5 + (1 : Int32)) w m7 Q))) ∧ (¬ l2 = 0 → cL d 57 [.ref (w.2.1 + 10), .int (l3 + l5)] w m5 (fun v8 m8 => cV d 6 [.ref 6, .long v8] w m8 (fun m9 => W_T_term_32 d l2 l3 l4 (l5 + (1 : Int32)) w m9 Q)))))))))))) : W_T_term_32 d l2 l3 l4 l5 w m Q := R_T_term_32 (zT_e3 hp_w21) (zT_k hp_w21) (zT_n hp_w21) (Nat.succ_ne_zero _) (zT_pr hp_w21).1 H

theorem S_T_slate {p0 : Int32} {d : Nat} {w : Nat × Nat × Nat} {m : zM} {Q : Int32 → zM → Prop} (H : ((¬ p0 = ((-1) : Int32) → ((p0 < 0 → Q ((-2) : Int32) m) ∧ (¬ p0 < 0 → ((p0 < (m.1 6 1) → cI d 156 [.ref 7, .int p0] w m (fun v1 m1 => Q v1 m1)) ∧ (¬ p0 < (m.1 6 1) → Q ((-2) : Int32) m))))) ∧ (p0 = ((-1) : Int32) → Q (m.1 6 1) m))) : cI (d + 1) 130 [.ref 3, .int p0] w m Q := by
  refine cI_in rfl ?_
  refine mm_yrun (is := mm_k130) [] 400 rfl ?_
  refine And.intro (fun q => ?_) (fun q => ?_)
  · replace H := H.1 q
    refine And.intro (fun q => ?_) (fun q => ?_)
    · replace H := H.1 q
      exact rI_mk (w := w) (m := m) H
    · replace H := H.2 q
      refine And.intro (And.intro (rfl) (by decide : ¬ 6 = 0)) ?_
      refine And.intro (rfl) ?_
      refine And.intro (fun q => ?_) (fun q => ?_)
      · replace H := H.1 q
        refine And.intro (And.intro (rfl) (by decide : ¬ 6 = 0)) ?_
        refine And.intro (And.intro (rfl) (by decide : ¬ 7 = 0)) ?_
        refine And.intro (trivial) ?_
        refine cI_use (w := w) (m := m) rfl H ?_
        intro v1 m1 H
        exact rI_mk (w := w) (m := m1) H
      · replace H := H.2 q
        exact rI_mk (w := w) (m := m) H
  · replace H := H.2 (Classical.not_not.mp q)
    refine And.intro (And.intro (rfl) (by decide : ¬ 6 = 0)) ?_
    refine And.intro (rfl) ?_
    exact rI_mk (w := w) (m := m) H

theorem S_T_find  {d : Nat} {w : Nat × Nat × Nat} {m : zM} {Q : Int32 → zM → Prop} (H : cV d 151 [.ref 3] w m (fun m1 => cL d 153 [.ref 3] w m1 (fun v2 m2 => ((¬ v2 = (0 : Int64) → cI d 91 [.ref 237, .long v2] w (zI m2 4 1 (0 : Int32)) (fun v3 m3 => Q v3 m3)) ∧ (v2 = (0 : Int64) → Q ((-1) : Int32) (zI m2 4 1 (0 : Int32))))))) : cI (d + 1) 131 [.ref 3] w m Q := by
  refine cI_in rfl ?_
  refine mm_yrun (is := mm_k131) [] 400 rfl ?_
  refine And.intro (rfl) ?_
  refine cV_use (w := w) (m := m) rfl H ?_
  intro m1 H
  refine And.intro (rfl) ?_
  refine cL_use (w := w) (m := m1) rfl H ?_
  intro v2 m2 H
  refine And.intro (And.intro (rfl) (by decide : ¬ 4 = 0)) ?_
  refine And.intro (rfl) ?_
  refine And.intro (fun q => ?_) (fun q => ?_)
  · replace H := H.1 q
    refine And.intro (And.intro (rfl) (by decide : ¬ 237 = 0)) ?_
    refine And.intro (rfl) ?_
    refine cI_use (w := w) (m := (zI m2 4 1 (0 : Int32))) rfl H ?_
    intro v3 m3 H
    exact rI_mk (w := w) (m := m3) H
  · replace H := H.2 (Classical.not_not.mp q)
    exact rI_mk (w := w) (m := (zI m2 4 1 (0 : Int32))) H

theorem S_T_told {p0 : Int32} {p1 : Int32} {d : Nat} {w : Nat × Nat × Nat} {m : zM} {Q : Int32 → zM → Prop} (H : cV d 151 [.ref 3] w m (fun m1 => ((¬ p0 = ((-1) : Int32) → ((p0 < 0 → Q ((-1) : Int32) m1) ∧ (¬ p0 < 0 → ((p0 < (m1.1 237 19) → cI d 93 [.ref 237, .int p0, .int p1] w m1 (fun v2 m2 => Q v2 m2)) ∧ (¬ p0 < (m1.1 237 19) → Q ((-1) : Int32) m1))))) ∧ (p0 = ((-1) : Int32) → Q (m1.1 237 19) m1)))) : cI (d + 1) 132 [.ref 3, .int p0, .int p1] w m Q := by
  refine cI_in rfl ?_
  refine mm_yrun (is := mm_k132) [] 400 rfl ?_
  refine And.intro (rfl) ?_
  refine cV_use (w := w) (m := m) rfl H ?_
  intro m1 H
  refine And.intro (fun q => ?_) (fun q => ?_)
  · replace H := H.1 q
    refine And.intro (fun q => ?_) (fun q => ?_)
    · replace H := H.1 q
      exact rI_mk (w := w) (m := m1) H
    · replace H := H.2 q
      refine And.intro (And.intro (rfl) (by decide : ¬ 237 = 0)) ?_
      refine And.intro (rfl) ?_
      refine And.intro (fun q => ?_) (fun q => ?_)
      · replace H := H.1 q
        refine And.intro (And.intro (rfl) (by decide : ¬ 237 = 0)) ?_
        refine And.intro (rfl) ?_
        refine cI_use (w := w) (m := m1) rfl H ?_
        intro v2 m2 H
        exact rI_mk (w := w) (m := m2) H
      · replace H := H.2 q
        exact rI_mk (w := w) (m := m1) H
  · replace H := H.2 (Classical.not_not.mp q)
    refine And.intro (And.intro (rfl) (by decide : ¬ 237 = 0)) ?_
    refine And.intro (rfl) ?_
    exact rI_mk (w := w) (m := m1) H

theorem S_T_measure {p0 : Int32} {p1 : Int32} {p2 : Int32} {d : Nat} {w : Nat × Nat × Nat} {m : zM} {Q : Int64 → zM → Prop} (H : cV d 151 [.ref 3] w m (fun m1 => cI d 152 [.ref 3, .int p0, .int p1] w m1 (fun v2 m2 => ((¬ v2 = 0 → ((p2 = 0 → Q (m2.2 255 7) m2) ∧ (¬ p2 = 0 → Q (m2.2 255 8) m2))) ∧ (v2 = 0 → Q ((-9223372036854775808) : Int64) m2))))) : cL (d + 1) 133 [.ref 3, .int p0, .int p1, .int p2] w m Q := by
  refine cL_in rfl ?_
  refine mm_yrun (is := mm_k133) [] 400 rfl ?_
  refine And.intro (rfl) ?_
  refine cV_use (w := w) (m := m) rfl H ?_
  intro m1 H
  refine And.intro (rfl) ?_
  refine cI_use (w := w) (m := m1) rfl H ?_
  intro v2 m2 H
  refine And.intro (fun q => ?_) (fun q => ?_)
  · replace H := H.1 q
    refine And.intro (fun q => ?_) (fun q => ?_)
    · replace H := H.1 q
      refine And.intro (And.intro (rfl) (by decide : ¬ 255 = 0)) ?_
      refine And.intro (rfl) ?_
      exact rL_mk (w := w) (m := m2) H
    · replace H := H.2 q
      refine And.intro (And.intro (rfl) (by decide : ¬ 255 = 0)) ?_
      refine And.intro (rfl) ?_
      exact rL_mk (w := w) (m := m2) H
  · replace H := H.2 (Classical.not_not.mp q)
    exact rL_mk (w := w) (m := m2) H

theorem S_T_share {p0 : Int32} {p1 : Int32} {d : Nat} {w : Nat × Nat × Nat} {m : zM} {Q : Int32 → zM → Prop} (H : cV d 151 [.ref 3] w m (fun m1 => cI d 152 [.ref 3, .int p0, .int p1] w m1 (fun v2 m2 => ((¬ v2 = 0 → (((Op.cmpValue (FP.fcmp (FP.l2f (m2.2 255 8)) (FP.fconst0 : UInt32)) .l) ≤ 0 → Q ((-1) : Int32) m2) ∧ (¬ (Op.cmpValue (FP.fcmp (FP.l2f (m2.2 255 8)) (FP.fconst0 : UInt32)) .l) ≤ 0 → vf_n32 (FP.fdiv (FP.l2f (m2.2 255 7)) (FP.l2f (m2.2 255 8))) ∧ (cI d 178 [.float (FP.fdiv (FP.l2f (m2.2 255 7)) (FP.l2f (m2.2 255 8)))] w m2 (fun v3 m3 => Q v3 m3))))) ∧ (v2 = 0 → Q ((-1) : Int32) m2))))) : cI (d + 1) 134 [.ref 3, .int p0, .int p1] w m Q := by
  refine cI_in rfl ?_
  refine mm_yrun (is := mm_k134) [] 400 rfl ?_
  refine And.intro (rfl) ?_
  refine cV_use (w := w) (m := m) rfl H ?_
  intro m1 H
  refine And.intro (rfl) ?_
  refine cI_use (w := w) (m := m1) rfl H ?_
  intro v2 m2 H
  refine And.intro (fun q => ?_) (fun q => ?_)
  · replace H := H.1 q
    refine And.intro (And.intro (rfl) (by decide : ¬ 255 = 0)) ?_
    refine And.intro (rfl) ?_
    refine And.intro (fun q => ?_) (fun q => ?_)
    · replace H := H.1 q
      exact rI_mk (w := w) (m := m2) H
    · replace H := H.2 q
      refine And.intro (And.intro (rfl) (by decide : ¬ 255 = 0)) ?_
      refine And.intro (rfl) ?_
      refine And.intro H.1 ?_
      replace H := H.2
      refine And.intro (trivial) ?_
      refine cI_use (w := w) (m := m2) rfl H ?_
      intro v3 m3 H
      exact rI_mk (w := w) (m := m3) H
  · replace H := H.2 (Classical.not_not.mp q)
    exact rI_mk (w := w) (m := m2) H

theorem S_T_rest {p0 : Int32} {p1 : Int32} {d : Nat} {w : Nat × Nat × Nat} {m : zM} {Q : Int64 → zM → Prop} (H : cV d 151 [.ref 3] w m (fun m1 => cI d 152 [.ref 3, .int p0, .int p1] w m1 (fun v2 m2 => ((¬ v2 = 0 → (((Op.cmpValue (FP.dcmp (FP.l2d (m2.2 255 8)) (FP.dconst0 : UInt64)) .l) ≤ 0 → Q ((-1) : Int64) m2) ∧ (¬ (Op.cmpValue (FP.dcmp (FP.l2d (m2.2 255 8)) (FP.dconst0 : UInt64)) .l) ≤ 0 → vf_n64 (FP.ddiv (FP.l2d (m2.2 255 7)) (FP.l2d (m2.2 255 8))) ∧ (cL d 179 [.double (FP.ddiv (FP.l2d (m2.2 255 7)) (FP.l2d (m2.2 255 8)))] w m2 (fun v3 m3 => Q v3 m3))))) ∧ (v2 = 0 → Q ((-1) : Int64) m2))))) : cL (d + 1) 135 [.ref 3, .int p0, .int p1] w m Q := by
  refine cL_in rfl ?_
  refine mm_yrun (is := mm_k135) [] 400 rfl ?_
  refine And.intro (rfl) ?_
  refine cV_use (w := w) (m := m) rfl H ?_
  intro m1 H
  refine And.intro (rfl) ?_
  refine cI_use (w := w) (m := m1) rfl H ?_
  intro v2 m2 H
  refine And.intro (fun q => ?_) (fun q => ?_)
  · replace H := H.1 q
    refine And.intro (And.intro (rfl) (by decide : ¬ 255 = 0)) ?_
    refine And.intro (rfl) ?_
    refine And.intro (fun q => ?_) (fun q => ?_)
    · replace H := H.1 q
      exact rL_mk (w := w) (m := m2) H
    · replace H := H.2 q
      refine And.intro (And.intro (rfl) (by decide : ¬ 255 = 0)) ?_
      refine And.intro (rfl) ?_
      refine And.intro H.1 ?_
      replace H := H.2
      refine And.intro (trivial) ?_
      refine cL_use (w := w) (m := m2) rfl H ?_
      intro v3 m3 H
      exact rL_mk (w := w) (m := m3) H
  · replace H := H.2 (Classical.not_not.mp q)
    exact rL_mk (w := w) (m := m2) H

theorem R_T_ranked {p0 : Int32} {p1 : Int32} {d : Nat} {w : Nat × Nat × Nat} {m : zM} {Q : Int32 → zM → Prop} (hk_w21 : (zK w.1 w.2.1).1 = 9) (hn_w21 : ¬ w.2.1 = 0) (H : cV d 151 [.ref 3] w m (fun m1 => ((p0 < 0 → Q ((-1) : Int32) m1) ∧ (¬ p0 < 0 → (((7 : Int32) ≤ p0 → Q ((-1) : Int32) m1) ∧ (¬ (7 : Int32) ≤ p0 → ((p1 < 0 → Q ((-1) : Int32) m1) ∧ (¬ p1 < 0 → ((p1 < (m1.1 237 19) → cV d 24 [.ref 255, .ref w.2.1, .int p0] w m1 (fun m2 => cI d 26 [.ref 255, .int p0, .int p1] w m2 (fun v3 m3 => Q v3 m3))) ∧ (¬ p1 < (m1.1 237 19) → Q ((-1) : Int32) m1)))))))))) : cI (d + 1) 136 [.ref 3, .int p0, .int p1] w m Q := by
  refine cI_in rfl ?_
  refine mm_yrun (is := mm_k136) [] 400 rfl ?_
  refine And.intro (rfl) ?_
  refine cV_use (w := w) (m := m) rfl H ?_
  intro m1 H
  refine And.intro (fun q => ?_) (fun q => ?_)
  · replace H := H.1 q
    exact rI_mk (w := w) (m := m1) H
  · replace H := H.2 q
    refine And.intro (fun q => ?_) (fun q => ?_)
    · replace H := H.1 q
      exact rI_mk (w := w) (m := m1) H
    · replace H := H.2 q
      refine And.intro (fun q => ?_) (fun q => ?_)
      · replace H := H.1 q
        exact rI_mk (w := w) (m := m1) H
      · replace H := H.2 q
        refine And.intro (And.intro (rfl) (by decide : ¬ 237 = 0)) ?_
        refine And.intro (rfl) ?_
        refine And.intro (fun q => ?_) (fun q => ?_)
        · replace H := H.1 q
          refine And.intro (And.intro (rfl) (by decide : ¬ 255 = 0)) ?_
          refine And.intro (And.intro (rfl) hn_w21) ?_
          refine And.intro (rfl) ?_
          refine cV_use (w := w) (m := m1) rfl H ?_
          intro m2 H
          refine And.intro (And.intro (rfl) (by decide : ¬ 255 = 0)) ?_
          refine And.intro (rfl) ?_
          refine cI_use (w := w) (m := m2) rfl H ?_
          intro v3 m3 H
          exact rI_mk (w := w) (m := m3) H
        · replace H := H.2 q
          exact rI_mk (w := w) (m := m1) H
theorem S_T_ranked {p0 : Int32} {p1 : Int32} {d : Nat} {w : Nat × Nat × Nat} {m : zM} {Q : Int32 → zM → Prop} (hp_w21 : zT w.2.1) (H : cV d 151 [.ref 3] w m (fun m1 => ((p0 < 0 → Q ((-1) : Int32) m1) ∧ (¬ p0 < 0 → (((7 : Int32) ≤ p0 → Q ((-1) : Int32) m1) ∧ (¬ (7 : Int32) ≤ p0 → ((p1 < 0 → Q ((-1) : Int32) m1) ∧ (¬ p1 < 0 → ((p1 < (m1.1 237 19) → cV d 24 [.ref 255, .ref w.2.1, .int p0] w m1 (fun m2 => cI d 26 [.ref 255, .int p0, .int p1] w m2 (fun v3 m3 => Q v3 m3))) ∧ (¬ p1 < (m1.1 237 19) → Q ((-1) : Int32) m1)))))))))) : cI (d + 1) 136 [.ref 3, .int p0, .int p1] w m Q := R_T_ranked (zT_k hp_w21) (zT_n hp_w21) H

theorem R_T_rank {p0 : Int32} {p1 : Int32} {d : Nat} {w : Nat × Nat × Nat} {m : zM} {Q : Int32 → zM → Prop} (hk_w21 : (zK w.1 w.2.1).1 = 9) (hn_w21 : ¬ w.2.1 = 0) (H : cV d 151 [.ref 3] w m (fun m1 => ((p1 < 0 → Q ((-1) : Int32) m1) ∧ (¬ p1 < 0 → (((7 : Int32) ≤ p1 → Q ((-1) : Int32) m1) ∧ (¬ (7 : Int32) ≤ p1 → ((p0 < 0 → Q ((-1) : Int32) m1) ∧ (¬ p0 < 0 → ((p0 < (m1.1 237 19) → cV d 24 [.ref 255, .ref w.2.1, .int p1] w m1 (fun m2 => cI d 27 [.ref 255, .int p1, .int p0] w m2 (fun v3 m3 => Q v3 m3))) ∧ (¬ p0 < (m1.1 237 19) → Q ((-1) : Int32) m1)))))))))) : cI (d + 1) 137 [.ref 3, .int p0, .int p1] w m Q := by
  refine cI_in rfl ?_
  refine mm_yrun (is := mm_k137) [] 400 rfl ?_
  refine And.intro (rfl) ?_
  refine cV_use (w := w) (m := m) rfl H ?_
  intro m1 H
  refine And.intro (fun q => ?_) (fun q => ?_)
  · replace H := H.1 q
    exact rI_mk (w := w) (m := m1) H
  · replace H := H.2 q
    refine And.intro (fun q => ?_) (fun q => ?_)
    · replace H := H.1 q
      exact rI_mk (w := w) (m := m1) H
    · replace H := H.2 q
      refine And.intro (fun q => ?_) (fun q => ?_)
      · replace H := H.1 q
        exact rI_mk (w := w) (m := m1) H
      · replace H := H.2 q
        refine And.intro (And.intro (rfl) (by decide : ¬ 237 = 0)) ?_
        refine And.intro (rfl) ?_
        refine And.intro (fun q => ?_) (fun q => ?_)
        · replace H := H.1 q
          refine And.intro (And.intro (rfl) (by decide : ¬ 255 = 0)) ?_
          refine And.intro (And.intro (rfl) hn_w21) ?_
          refine And.intro (rfl) ?_
          refine cV_use (w := w) (m := m1) rfl H ?_
          intro m2 H
          refine And.intro (And.intro (rfl) (by decide : ¬ 255 = 0)) ?_
          refine And.intro (rfl) ?_
          refine cI_use (w := w) (m := m2) rfl H ?_
          intro v3 m3 H
          exact rI_mk (w := w) (m := m3) H
        · replace H := H.2 q
          exact rI_mk (w := w) (m := m1) H
theorem S_T_rank {p0 : Int32} {p1 : Int32} {d : Nat} {w : Nat × Nat × Nat} {m : zM} {Q : Int32 → zM → Prop} (hp_w21 : zT w.2.1) (H : cV d 151 [.ref 3] w m (fun m1 => ((p1 < 0 → Q ((-1) : Int32) m1) ∧ (¬ p1 < 0 → (((7 : Int32) ≤ p1 → Q ((-1) : Int32) m1) ∧ (¬ (7 : Int32) ≤ p1 → ((p0 < 0 → Q ((-1) : Int32) m1) ∧ (¬ p0 < 0 → ((p0 < (m1.1 237 19) → cV d 24 [.ref 255, .ref w.2.1, .int p1] w m1 (fun m2 => cI d 27 [.ref 255, .int p1, .int p0] w m2 (fun v3 m3 => Q v3 m3))) ∧ (¬ p0 < (m1.1 237 19) → Q ((-1) : Int32) m1)))))))))) : cI (d + 1) 137 [.ref 3, .int p0, .int p1] w m Q := R_T_rank (zT_k hp_w21) (zT_n hp_w21) H

theorem S_T_longer {p0 : Int32} {p1 : Int32} {d : Nat} {w : Nat × Nat × Nat} {m : zM} {Q : Int32 → zM → Prop} (H : cV d 151 [.ref 3] w m (fun m1 => ((p0 < 0 → Q ((-1) : Int32) m1) ∧ (¬ p0 < 0 → ((p0 < (m1.1 237 19) → ((¬ p1 = ((-1) : Int32) → cI d 94 [.ref 237, .int p0, .int p1] w m1 (fun v2 m2 => Q v2 m2)) ∧ (p1 = ((-1) : Int32) → cI d 156 [.ref 242, .int p0] w m1 (fun v3 m3 => Q v3 m3)))) ∧ (¬ p0 < (m1.1 237 19) → Q ((-1) : Int32) m1)))))) : cI (d + 1) 138 [.ref 3, .int p0, .int p1] w m Q := by
  refine cI_in rfl ?_
  refine mm_yrun (is := mm_k138) [] 400 rfl ?_
  refine And.intro (rfl) ?_
  refine cV_use (w := w) (m := m) rfl H ?_
  intro m1 H
  refine And.intro (fun q => ?_) (fun q => ?_)
  · replace H := H.1 q
    exact rI_mk (w := w) (m := m1) H
  · replace H := H.2 q
    refine And.intro (And.intro (rfl) (by decide : ¬ 237 = 0)) ?_
    refine And.intro (rfl) ?_
    refine And.intro (fun q => ?_) (fun q => ?_)
    · replace H := H.1 q
      refine And.intro (fun q => ?_) (fun q => ?_)
      · replace H := H.1 q
        refine And.intro (And.intro (rfl) (by decide : ¬ 237 = 0)) ?_
        refine And.intro (rfl) ?_
        refine cI_use (w := w) (m := m1) rfl H ?_
        intro v2 m2 H
        exact rI_mk (w := w) (m := m2) H
      · replace H := H.2 (Classical.not_not.mp q)
        refine And.intro (And.intro (rfl) (by decide : ¬ 237 = 0)) ?_
        refine And.intro (And.intro (rfl) (by decide : ¬ 242 = 0)) ?_
        refine And.intro (trivial) ?_
        refine cI_use (w := w) (m := m1) rfl H ?_
        intro v3 m3 H
        exact rI_mk (w := w) (m := m3) H
    · replace H := H.2 q
      exact rI_mk (w := w) (m := m1) H

theorem R_T_around {p0 : Int32} {p1 : Int32} {d : Nat} {w : Nat × Nat × Nat} {m : zM} {Q : Int32 → zM → Prop} (hk_w21 : (zK w.1 w.2.1).1 = 9) (hn_w21 : ¬ w.2.1 = 0) (H : cV d 151 [.ref 3] w m (fun m1 => ((p0 < 0 → Q ((-1) : Int32) m1) ∧ (¬ p0 < 0 → (((m1.1 237 19) ≤ p0 → Q ((-1) : Int32) m1) ∧ (¬ (m1.1 237 19) ≤ p0 → ((0 ≤ p1 → cI d 95 [.ref 237, .ref w.2.1, .int p0, .int p1] w m1 (fun v2 m2 => ((0 ≤ v2 → cL d 157 [.ref 226, .int v2] w (zI m2 6 1 (0 : Int32)) (fun v3 m3 => cV d 6 [.ref 6, .long v3] w m3 (fun m4 => cI d 156 [.ref 253, .int v2] w m4 (fun v5 m5 => Q v5 m5)))) ∧ (¬ 0 ≤ v2 → Q ((-1) : Int32) m2)))) ∧ (¬ 0 ≤ p1 → Q ((-1) : Int32) m1)))))))) : cI (d + 1) 139 [.ref 3, .int p0, .int p1] w m Q := by
  refine cI_in rfl ?_
  refine mm_yrun (is := mm_k139) [] 400 rfl ?_
  refine And.intro (rfl) ?_
  refine cV_use (w := w) (m := m) rfl H ?_
  intro m1 H
  refine And.intro (fun q => ?_) (fun q => ?_)
  · replace H := H.1 q
    exact rI_mk (w := w) (m := m1) H
  · replace H := H.2 q
    refine And.intro (And.intro (rfl) (by decide : ¬ 237 = 0)) ?_
    refine And.intro (rfl) ?_
    refine And.intro (fun q => ?_) (fun q => ?_)
    · replace H := H.1 q
      exact rI_mk (w := w) (m := m1) H
    · replace H := H.2 q
      refine And.intro (fun q => ?_) (fun q => ?_)
      · replace H := H.1 q
        refine And.intro (And.intro (rfl) (by decide : ¬ 237 = 0)) ?_
        refine And.intro (And.intro (rfl) hn_w21) ?_
        refine And.intro (rfl) ?_
        refine cI_use (w := w) (m := m1) rfl H ?_
        intro v2 m2 H
        refine And.intro (fun q => ?_) (fun q => ?_)
        · replace H := H.1 q
          refine And.intro (And.intro (rfl) (by decide : ¬ 6 = 0)) ?_
          refine And.intro (rfl) ?_
          refine And.intro (And.intro (rfl) (by decide : ¬ 6 = 0)) ?_
          refine And.intro (And.intro (rfl) (by decide : ¬ 220 = 0)) ?_
          refine And.intro (And.intro (rfl) (by decide : ¬ 226 = 0)) ?_
          refine And.intro (trivial) ?_
          refine cL_use (w := w) (m := (zI m2 6 1 (0 : Int32))) rfl H ?_
          intro v3 m3 H
          refine And.intro (rfl) ?_
          refine cV_use (w := w) (m := m3) rfl H ?_
          intro m4 H
          refine And.intro (And.intro (rfl) (by decide : ¬ 237 = 0)) ?_
          refine And.intro (And.intro (rfl) (by decide : ¬ 253 = 0)) ?_
          refine And.intro (trivial) ?_
          refine cI_use (w := w) (m := m4) rfl H ?_
          intro v5 m5 H
          exact rI_mk (w := w) (m := m5) H
        · replace H := H.2 q
          exact rI_mk (w := w) (m := m2) H
      · replace H := H.2 q
        exact rI_mk (w := w) (m := m1) H
theorem S_T_around {p0 : Int32} {p1 : Int32} {d : Nat} {w : Nat × Nat × Nat} {m : zM} {Q : Int32 → zM → Prop} (hp_w21 : zT w.2.1) (H : cV d 151 [.ref 3] w m (fun m1 => ((p0 < 0 → Q ((-1) : Int32) m1) ∧ (¬ p0 < 0 → (((m1.1 237 19) ≤ p0 → Q ((-1) : Int32) m1) ∧ (¬ (m1.1 237 19) ≤ p0 → ((0 ≤ p1 → cI d 95 [.ref 237, .ref w.2.1, .int p0, .int p1] w m1 (fun v2 m2 => ((0 ≤ v2 → cL d 157 [.ref 226, .int v2] w (zI m2 6 1 (0 : Int32)) (fun v3 m3 => cV d 6 [.ref 6, .long v3] w m3 (fun m4 => cI d 156 [.ref 253, .int v2] w m4 (fun v5 m5 => Q v5 m5)))) ∧ (¬ 0 ≤ v2 → Q ((-1) : Int32) m2)))) ∧ (¬ 0 ≤ p1 → Q ((-1) : Int32) m1)))))))) : cI (d + 1) 139 [.ref 3, .int p0, .int p1] w m Q := R_T_around (zT_k hp_w21) (zT_n hp_w21) H

theorem S_T_likely {p0 : Int32} {d : Nat} {w : Nat × Nat × Nat} {m : zM} {Q : Int64 → zM → Prop} (H : cL d 8 [.ref 6] w m (fun v1 m1 => ((¬ v1 = (0 : Int64) → cV d 151 [.ref 3] w m1 (fun m2 => cI d 2 [.ref 220, .long v1] w m2 (fun v3 m3 => cI d 97 [.ref 237, .int v3] w m3 (fun v4 m4 => cV d 17 [.ref 255, .long (v4).toInt64, .long ((m4.1 237 19)).toInt64] w m4 (fun m5 => ((p0 = 0 → Q (m5.2 255 7) m5) ∧ (¬ p0 = 0 → Q (m5.2 255 8) m5))))))) ∧ (v1 = (0 : Int64) → Q ((-1) : Int64) m1)))) : cL (d + 1) 140 [.ref 3, .int p0] w m Q := by
  refine cL_in rfl ?_
  refine mm_yrun (is := mm_k140) [] 400 rfl ?_
  refine And.intro (And.intro (rfl) (by decide : ¬ 6 = 0)) ?_
  refine And.intro (rfl) ?_
  refine cL_use (w := w) (m := m) rfl H ?_
  intro v1 m1 H
  refine And.intro (fun q => ?_) (fun q => ?_)
  · replace H := H.1 q
    refine And.intro (rfl) ?_
    refine cV_use (w := w) (m := m1) rfl H ?_
    intro m2 H
    refine And.intro (And.intro (rfl) (by decide : ¬ 255 = 0)) ?_
    refine And.intro (And.intro (rfl) (by decide : ¬ 237 = 0)) ?_
    refine And.intro (And.intro (rfl) (by decide : ¬ 220 = 0)) ?_
    refine And.intro (rfl) ?_
    refine cI_use (w := w) (m := m2) rfl H ?_
    intro v3 m3 H
    refine And.intro (rfl) ?_
    refine cI_use (w := w) (m := m3) rfl H ?_
    intro v4 m4 H
    refine And.intro (And.intro (rfl) (by decide : ¬ 237 = 0)) ?_
    refine And.intro (rfl) ?_
    refine And.intro (rfl) ?_
    refine cV_use (w := w) (m := m4) rfl H ?_
    intro m5 H
    refine And.intro (fun q => ?_) (fun q => ?_)
    · replace H := H.1 q
      refine And.intro (And.intro (rfl) (by decide : ¬ 255 = 0)) ?_
      refine And.intro (rfl) ?_
      exact rL_mk (w := w) (m := m5) H
    · replace H := H.2 q
      refine And.intro (And.intro (rfl) (by decide : ¬ 255 = 0)) ?_
      refine And.intro (rfl) ?_
      exact rL_mk (w := w) (m := m5) H
  · replace H := H.2 (Classical.not_not.mp q)
    exact rL_mk (w := w) (m := m1) H

theorem S_T_head {p0 : Int32} {p1 : Int32} {d : Nat} {w : Nat × Nat × Nat} {m : zM} {Q : Int32 → zM → Prop} (H : cV d 151 [.ref 3] w m (fun m1 => cI d 99 [.ref 237] w m1 (fun v2 m2 => ((¬ p0 = ((-1) : Int32) → ((p0 < 0 → Q ((-1) : Int32) m2) ∧ (¬ p0 < 0 → ((p0 < v2 → cI d 96 [.ref 237, .int p0] w m2 (fun v3 m3 => cI d 100 [.ref 237, .int v3, .int p1] w m3 (fun v4 m4 => Q v4 m4))) ∧ (¬ p0 < v2 → Q ((-1) : Int32) m2))))) ∧ (p0 = ((-1) : Int32) → Q v2 m2))))) : cI (d + 1) 141 [.ref 3, .int p0, .int p1] w m Q := by
  refine cI_in rfl ?_
  refine mm_yrun (is := mm_k141) [] 400 rfl ?_
  refine And.intro (rfl) ?_
  refine cV_use (w := w) (m := m) rfl H ?_
  intro m1 H
  refine And.intro (And.intro (rfl) (by decide : ¬ 237 = 0)) ?_
  refine And.intro (rfl) ?_
  refine cI_use (w := w) (m := m1) rfl H ?_
  intro v2 m2 H
  refine And.intro (fun q => ?_) (fun q => ?_)
  · replace H := H.1 q
    refine And.intro (fun q => ?_) (fun q => ?_)
    · replace H := H.1 q
      exact rI_mk (w := w) (m := m2) H
    · replace H := H.2 q
      refine And.intro (fun q => ?_) (fun q => ?_)
      · replace H := H.1 q
        refine And.intro (And.intro (rfl) (by decide : ¬ 237 = 0)) ?_
        refine And.intro (And.intro (rfl) (by decide : ¬ 237 = 0)) ?_
        refine And.intro (rfl) ?_
        refine cI_use (w := w) (m := m2) rfl H ?_
        intro v3 m3 H
        refine And.intro (rfl) ?_
        refine cI_use (w := w) (m := m3) rfl H ?_
        intro v4 m4 H
        exact rI_mk (w := w) (m := m4) H
      · replace H := H.2 q
        exact rI_mk (w := w) (m := m2) H
  · replace H := H.2 (Classical.not_not.mp q)
    exact rI_mk (w := w) (m := m2) H

theorem R_T_cover {p0 : Int32} {p1 : Int32} {d : Nat} {w : Nat × Nat × Nat} {m : zM} {Q : Int32 → zM → Prop} (hk_w21 : (zK w.1 w.2.1).1 = 9) (hn_w21 : ¬ w.2.1 = 0) (H : cV d 151 [.ref 3] w m (fun m1 => ((p0 < 0 → Q ((-1) : Int32) m1) ∧ (¬ p0 < 0 → (((7 : Int32) ≤ p0 → Q ((-1) : Int32) m1) ∧ (¬ (7 : Int32) ≤ p0 → ((p1 < 0 → Q ((-1) : Int32) m1) ∧ (¬ p1 < 0 → ((p1 ≤ (m1.1 237 19) → cV d 24 [.ref 255, .ref w.2.1, .int p0] w m1 (fun m2 => cI d 28 [.ref 255, .int p0, .int p1] w m2 (fun v3 m3 => Q v3 m3))) ∧ (¬ p1 ≤ (m1.1 237 19) → Q ((-1) : Int32) m1)))))))))) : cI (d + 1) 142 [.ref 3, .int p0, .int p1] w m Q := by
  refine cI_in rfl ?_
  refine mm_yrun (is := mm_k142) [] 400 rfl ?_
  refine And.intro (rfl) ?_
  refine cV_use (w := w) (m := m) rfl H ?_
  intro m1 H
  refine And.intro (fun q => ?_) (fun q => ?_)
  · replace H := H.1 q
    exact rI_mk (w := w) (m := m1) H
  · replace H := H.2 q
    refine And.intro (fun q => ?_) (fun q => ?_)
    · replace H := H.1 q
      exact rI_mk (w := w) (m := m1) H
    · replace H := H.2 q
      refine And.intro (fun q => ?_) (fun q => ?_)
      · replace H := H.1 q
        exact rI_mk (w := w) (m := m1) H
      · replace H := H.2 q
        refine And.intro (And.intro (rfl) (by decide : ¬ 237 = 0)) ?_
        refine And.intro (rfl) ?_
        refine And.intro (fun q => ?_) (fun q => ?_)
        · replace H := H.1 q
          refine And.intro (And.intro (rfl) (by decide : ¬ 255 = 0)) ?_
          refine And.intro (And.intro (rfl) hn_w21) ?_
          refine And.intro (rfl) ?_
          refine cV_use (w := w) (m := m1) rfl H ?_
          intro m2 H
          refine And.intro (And.intro (rfl) (by decide : ¬ 255 = 0)) ?_
          refine And.intro (rfl) ?_
          refine cI_use (w := w) (m := m2) rfl H ?_
          intro v3 m3 H
          exact rI_mk (w := w) (m := m3) H
        · replace H := H.2 q
          exact rI_mk (w := w) (m := m1) H
theorem S_T_cover {p0 : Int32} {p1 : Int32} {d : Nat} {w : Nat × Nat × Nat} {m : zM} {Q : Int32 → zM → Prop} (hp_w21 : zT w.2.1) (H : cV d 151 [.ref 3] w m (fun m1 => ((p0 < 0 → Q ((-1) : Int32) m1) ∧ (¬ p0 < 0 → (((7 : Int32) ≤ p0 → Q ((-1) : Int32) m1) ∧ (¬ (7 : Int32) ≤ p0 → ((p1 < 0 → Q ((-1) : Int32) m1) ∧ (¬ p1 < 0 → ((p1 ≤ (m1.1 237 19) → cV d 24 [.ref 255, .ref w.2.1, .int p0] w m1 (fun m2 => cI d 28 [.ref 255, .int p0, .int p1] w m2 (fun v3 m3 => Q v3 m3))) ∧ (¬ p1 ≤ (m1.1 237 19) → Q ((-1) : Int32) m1)))))))))) : cI (d + 1) 142 [.ref 3, .int p0, .int p1] w m Q := R_T_cover (zT_k hp_w21) (zT_n hp_w21) H

theorem R_T_look {p0 : Int32} {w21_3 : Nat} {w21_5 : Nat} {d : Nat} {w : Nat × Nat × Nat} {m : zM} {Q : Int32 → zM → Prop} (he_w21_3 : zR w.2.1 w.2.2 w.2.1 3 = w21_3) (he_w21_5 : zR w.2.1 w.2.2 w.2.1 5 = w21_5) (hk_w21 : (zK w.1 w.2.1).1 = 9) (hn_w21 : ¬ w.2.1 = 0) (hn_w21_3 : ¬ w21_3 = 0) (hk_w21_3 : (zK w.1 w21_3).1 = 6) (hn_w21_5 : ¬ w21_5 = 0) (hk_w21_5 : (zK w.1 w21_5).1 = 6) (H : ((p0 = (0 : Int32) → cI d 150 [.ref 3, .int p0] w m (fun v1 m1 => Q v1 m1)) ∧ (¬ p0 = (0 : Int32) → ((p0 = (1 : Int32) → cI d 150 [.ref 3, .int p0] w m (fun v2 m2 => Q v2 m2)) ∧ (¬ p0 = (1 : Int32) → ((p0 = (2 : Int32) → cI d 150 [.ref 3, .int p0] w m (fun v3 m3 => Q v3 m3)) ∧ (¬ p0 = (2 : Int32) → ((p0 = (3 : Int32) → Q (m.1 w.2.1 9) m) ∧ (¬ p0 = (3 : Int32) → ((p0 = (4 : Int32) → Q (m.1 w21_3 2) m) ∧ (¬ p0 = (4 : Int32) → ((p0 = (5 : Int32) → Q (m.1 w21_5 2) m) ∧ (¬ p0 = (5 : Int32) → ((p0 = (6 : Int32) → Q (m.1 w.2.1 10) m) ∧ (¬ p0 = (6 : Int32) → ((p0 = (7 : Int32) → Q (m.1 w.2.1 11) m) ∧ (¬ p0 = (7 : Int32) → ((p0 = (8 : Int32) → Q (m.1 w.2.1 12) m) ∧ (¬ p0 = (8 : Int32) → ((p0 = (9 : Int32) → Q (m.1 3 11) m) ∧ (¬ p0 = (9 : Int32) → ((p0 = (10 : Int32) → Q (m.1 4 1) m) ∧ (¬ p0 = (10 : Int32) → Q ((-1) : Int32) m))))))))))))))))))))))) : cI (d + 1) 143 [.ref 3, .int p0] w m Q := by
  subst he_w21_3
  subst he_w21_5
  refine cI_in rfl ?_
  refine mm_yrun (is := mm_k143) [] 400 rfl ?_
  refine And.intro (fun q => ?_) (fun q => ?_)
  · replace H := H.1 q
    refine And.intro (rfl) ?_
    refine cI_use (w := w) (m := m) rfl H ?_
    intro v1 m1 H
    exact rI_mk (w := w) (m := m1) H
  · replace H := H.2 q
    refine And.intro (fun q => ?_) (fun q => ?_)
    · replace H := H.1 q
      refine And.intro (rfl) ?_
      refine cI_use (w := w) (m := m) rfl H ?_
      intro v2 m2 H
      exact rI_mk (w := w) (m := m2) H
    · replace H := H.2 q
      refine And.intro (fun q => ?_) (fun q => ?_)
      · replace H := H.1 q
        refine And.intro (rfl) ?_
        refine cI_use (w := w) (m := m) rfl H ?_
        intro v3 m3 H
        exact rI_mk (w := w) (m := m3) H
      · replace H := H.2 q
        refine And.intro (fun q => ?_) (fun q => ?_)
        · replace H := H.1 q
          refine And.intro (And.intro (rfl) hn_w21) ?_
          refine And.intro (hk_w21) ?_
          exact rI_mk (w := w) (m := m) H
        · replace H := H.2 q
          refine And.intro (fun q => ?_) (fun q => ?_)
          · replace H := H.1 q
            refine And.intro (And.intro (rfl) hn_w21) ?_
            refine And.intro (And.intro (hk_w21) hn_w21_3) ?_
            refine And.intro (hk_w21_3) ?_
            exact rI_mk (w := w) (m := m) H
          · replace H := H.2 q
            refine And.intro (fun q => ?_) (fun q => ?_)
            · replace H := H.1 q
              refine And.intro (And.intro (rfl) hn_w21) ?_
              refine And.intro (And.intro (hk_w21) hn_w21_5) ?_
              refine And.intro (hk_w21_5) ?_
              exact rI_mk (w := w) (m := m) H
            · replace H := H.2 q
              refine And.intro (fun q => ?_) (fun q => ?_)
              · replace H := H.1 q
                refine And.intro (And.intro (rfl) hn_w21) ?_
                refine And.intro (hk_w21) ?_
                exact rI_mk (w := w) (m := m) H
              · replace H := H.2 q
                refine And.intro (fun q => ?_) (fun q => ?_)
                · replace H := H.1 q
                  refine And.intro (And.intro (rfl) hn_w21) ?_
                  refine And.intro (hk_w21) ?_
                  exact rI_mk (w := w) (m := m) H
                · replace H := H.2 q
                  refine And.intro (fun q => ?_) (fun q => ?_)
                  · replace H := H.1 q
                    refine And.intro (And.intro (rfl) hn_w21) ?_
                    refine And.intro (hk_w21) ?_
                    exact rI_mk (w := w) (m := m) H
                  · replace H := H.2 q
                    refine And.intro (fun q => ?_) (fun q => ?_)
                    · replace H := H.1 q
                      refine And.intro (rfl) ?_
                      exact rI_mk (w := w) (m := m) H
                    · replace H := H.2 q
                      refine And.intro (fun q => ?_) (fun q => ?_)
                      · replace H := H.1 q
                        refine And.intro (And.intro (rfl) (by decide : ¬ 4 = 0)) ?_
                        refine And.intro (rfl) ?_
                        exact rI_mk (w := w) (m := m) H
                      · replace H := H.2 q
                        exact rI_mk (w := w) (m := m) H
theorem S_T_look {p0 : Int32} {d : Nat} {w : Nat × Nat × Nat} {m : zM} {Q : Int32 → zM → Prop} (hp_w21 : zT w.2.1) (H : ((p0 = (0 : Int32) → cI d 150 [.ref 3, .int p0] w m (fun v1 m1 => Q v1 m1)) ∧ (¬ p0 = (0 : Int32) → ((p0 = (1 : Int32) → cI d 150 [.ref 3, .int p0] w m (fun v2 m2 => Q v2 m2)) ∧ (¬ p0 = (1 : Int32) → ((p0 = (2 : Int32) → cI d 150 [.ref 3, .int p0] w m (fun v3 m3 => Q v3 m3)) ∧ (¬ p0 = (2 : Int32) → ((p0 = (3 : Int32) → Q (m.1 w.2.1 9) m) ∧ (¬ p0 = (3 : Int32) → ((p0 = (4 : Int32) → Q (m.1 (w.2.1 + 10) 2) m) ∧ (¬ p0 = (4 : Int32) → ((p0 = (5 : Int32) → Q (m.1 (w.2.1 + 14) 2) m) ∧ (¬ p0 = (5 : Int32) → ((p0 = (6 : Int32) → Q (m.1 w.2.1 10) m) ∧ (¬ p0 = (6 : Int32) → ((p0 = (7 : Int32) → Q (m.1 w.2.1 11) m) ∧ (¬ p0 = (7 : Int32) → ((p0 = (8 : Int32) → Q (m.1 w.2.1 12) m) ∧ (¬ p0 = (8 : Int32) → ((p0 = (9 : Int32) → Q (m.1 3 11) m) ∧ (¬ p0 = (9 : Int32) → ((p0 = (10 : Int32) → Q (m.1 4 1) m) ∧ (¬ p0 = (10 : Int32) → Q ((-1) : Int32) m))))))))))))))))))))))) : cI (d + 1) 143 [.ref 3, .int p0] w m Q := R_T_look (zT_e3 hp_w21) (zT_e5 hp_w21) (zT_k hp_w21) (zT_n hp_w21) (Nat.succ_ne_zero _) (zT_pr hp_w21).1 (Nat.succ_ne_zero _) (zT_ge hp_w21).1 H

theorem S_T_slotAt {p0 : Int32} {d : Nat} {w : Nat × Nat × Nat} {m : zM} {Q : Nat → zM → Prop} (H : ((p0 < 0 → False) ∧ (¬ p0 < 0 → (((Int32.ofNat 10) ≤ p0 → False) ∧ (¬ (Int32.ofNat 10) ≤ p0 → (vp_in p0 10 ∧ ¬ (zR w.2.1 w.2.2 51 (p0).toNatClampNeg) = 0) ∧ (Q (zR w.2.1 w.2.2 51 (p0).toNatClampNeg) m)))))) : cR d 144 [.ref 3, .int p0] w m Q := by
  refine cR_in rfl ?_
  refine mm_yrun (is := mm_k144) [] 400 rfl ?_
  refine And.intro (fun q => ?_) (fun q => ?_)
  · replace H := H.1 q
    exact H.elim
  · replace H := H.2 q
    refine And.intro (And.intro (rfl) (by decide : ¬ 51 = 0)) ?_
    refine And.intro (And.intro (by decide : 12 ≤ 15) (by decide : 15 < 16)) ?_
    refine And.intro (fun q => ?_) (fun q => ?_)
    · replace H := H.1 q
      exact H.elim
    · replace H := H.2 q
      refine And.intro (And.intro (rfl) (by decide : ¬ 51 = 0)) ?_
      refine And.intro (And.intro (And.intro (rfl) H.1.1) H.1.2) ?_
      replace H := H.2
      exact rR_mk (w := w) (m := m) H

theorem S_T_beginChange  {d : Nat} {w : Nat × Nat × Nat} {m : zM} {Q : (Nat × Nat × Nat) → zM → Prop} (H : (¬ (10 : Int32) = 0) ∧ (cR d 144 [.ref 3, .int (((m.1 3 10) + (1 : Int32)) - ((m.1 3 10) + (1 : Int32)) / (10 : Int32) * (10 : Int32))] w m (fun v1 m1 => (¬ v1 = 0) ∧ ((¬ (w.1, w.2.1, v1).2.2 = 0) ∧ ((¬ (w.1, w.2.1, v1).2.1 = 0) ∧ ((zK (w.1, w.2.1, v1).1 (w.1, w.2.1, v1).2.2).1 = 9 ∧ (cV d 102 [.ref (w.1, w.2.1, v1).2.2, .ref (w.1, w.2.1, v1).2.1] (w.1, w.2.1, v1) m1 (fun m2 => Q (w.1, w.2.1, v1) m2)))))))) : cVw (d + 1) 145 [.ref 3] w m Q := by
  refine cVw_in rfl ?_
  refine mm_yrun (is := mm_k145) [] 400 rfl ?_
  refine And.intro (rfl) ?_
  refine And.intro H.1 ?_
  replace H := H.2
  refine And.intro (rfl) ?_
  refine cR_use (w := w) (m := m) rfl H ?_
  intro v1 m1 H
  refine And.intro (And.intro (rfl) H.1) ?_
  replace H := H.2
  refine zW_draft (w := w) (m := m1) ?_
  refine And.intro (And.intro (rfl) H.1) ?_
  replace H := H.2
  refine And.intro (And.intro (rfl) H.1) ?_
  replace H := H.2
  refine And.intro H.1 ?_
  replace H := H.2
  refine cV_use (w := (w.1, w.2.1, v1)) (m := m1) rfl H ?_
  intro m2 H
  exact rVw_mk (w0 := w) (w := (w.1, w.2.1, v1)) (m := m2) H

theorem R_T_keepChange  {d : Nat} {w : Nat × Nat × Nat} {m : zM} {Q : (Nat × Nat × Nat) → zM → Prop} (hk_w22 : (zK w.1 w.2.2).1 = 9) (hn_w22 : ¬ w.2.2 = 0) (H : (¬ (10 : Int32) = 0) ∧ ((¬ w.2.2 = 0) ∧ (cI d 292 [.int ((m.1 3 11) + (1 : Int32)), .int (8 : Int32)] (w.1, w.2.2, w.2.2) (zI m 3 10 (((m.1 3 10) + (1 : Int32)) - ((m.1 3 10) + (1 : Int32)) / (10 : Int32) * (10 : Int32))) (fun v1 m1 => Q (w.1, w.2.2, w.2.2) (zI (zI m1 3 11 v1) 3 14 (0 : Int32)))))) : cVw (d + 1) 146 [.ref 3] w m Q := by
  refine cVw_in rfl ?_
  refine mm_yrun (is := mm_k146) [] 400 rfl ?_
  refine And.intro (rfl) ?_
  refine And.intro H.1 ?_
  replace H := H.2
  refine And.intro (rfl) ?_
  refine And.intro (And.intro (rfl) hn_w22) ?_
  refine And.intro (And.intro (rfl) H.1) ?_
  replace H := H.2
  refine zW_now (w := w) (m := (zI m 3 10 (((m.1 3 10) + (1 : Int32)) - ((m.1 3 10) + (1 : Int32)) / (10 : Int32) * (10 : Int32)))) ?_
  refine And.intro (rfl) ?_
  refine And.intro (trivial) ?_
  refine cI_use (w := (w.1, w.2.2, w.2.2)) (m := (zI m 3 10 (((m.1 3 10) + (1 : Int32)) - ((m.1 3 10) + (1 : Int32)) / (10 : Int32) * (10 : Int32)))) rfl H ?_
  intro v1 m1 H
  refine And.intro (rfl) ?_
  refine And.intro (And.intro (rfl) (Or.inl rfl)) ?_
  exact rVw_mk (w0 := w) (w := (w.1, w.2.2, w.2.2)) (m := (zI (zI m1 3 11 v1) 3 14 (0 : Int32))) H
theorem S_T_keepChange  {d : Nat} {w : Nat × Nat × Nat} {m : zM} {Q : (Nat × Nat × Nat) → zM → Prop} (hp_w22 : zT w.2.2) (H : (¬ (10 : Int32) = 0) ∧ ((¬ w.2.2 = 0) ∧ (cI d 292 [.int ((m.1 3 11) + (1 : Int32)), .int (8 : Int32)] (w.1, w.2.2, w.2.2) (zI m 3 10 (((m.1 3 10) + (1 : Int32)) - ((m.1 3 10) + (1 : Int32)) / (10 : Int32) * (10 : Int32))) (fun v1 m1 => Q (w.1, w.2.2, w.2.2) (zI (zI m1 3 11 v1) 3 14 (0 : Int32)))))) : cVw (d + 1) 146 [.ref 3] w m Q := R_T_keepChange (zT_k hp_w22) (zT_n hp_w22) H

theorem S_T_refuseUnread  {d : Nat} {w : Nat × Nat × Nat} {m : zM} {Q : Int32 → zM → Prop} (H : Q ((-2) : Int32) (zI (zI (zI m 4 1 (0 : Int32)) 3 12 (0 : Int32)) 3 13 ((-1) : Int32))) : cI d 147 [.ref 3] w m Q := by
  refine cI_in rfl ?_
  refine mm_yrun (is := mm_k147) [] 400 rfl ?_
  refine And.intro (And.intro (rfl) (by decide : ¬ 4 = 0)) ?_
  refine And.intro (rfl) ?_
  refine And.intro (rfl) ?_
  refine And.intro (rfl) ?_
  exact rI_mk (w := w) (m := (zI (zI (zI m 4 1 (0 : Int32)) 3 12 (0 : Int32)) 3 13 ((-1) : Int32))) H

theorem R_T_readInto {p0 : Nat} {p1 : Int32} {p0_0 : Nat} {p0_1 : Nat} {p0_5 : Nat} {p0_6 : Nat} {d : Nat} {w : Nat × Nat × Nat} {m : zM} {Q : zM → Prop} (he_p0_0 : zR w.2.1 w.2.2 p0 0 = p0_0) (he_p0_1 : zR w.2.1 w.2.2 p0 1 = p0_1) (he_p0_5 : zR w.2.1 w.2.2 p0 5 = p0_5) (he_p0_6 : zR w.2.1 w.2.2 p0 6 = p0_6) (hk_p0 : (zK w.1 p0).1 = 9) (hn_p0_0 : ¬ p0_0 = 0) (hn_p0_1 : ¬ p0_1 = 0) (hn_p0_5 : ¬ p0_5 = 0) (hk_p0_5 : (zK w.1 p0_5).1 = 6) (hn_p0_6 : ¬ p0_6 = 0) (H : ((p1 = (0 : Int32) → cV d 70 [.ref 8, .ref p0_0] w m (fun m1 => Q m1)) ∧ (¬ p1 = (0 : Int32) → ((p1 = (1 : Int32) → cV d 72 [.ref 8, .ref p0_1] w m (fun m2 => Q m2)) ∧ (¬ p1 = (1 : Int32) → ((p1 = (2 : Int32) → cV d 74 [.ref 8, .ref p0] w m (fun m3 => Q m3)) ∧ (¬ p1 = (2 : Int32) → ((p1 = (3 : Int32) → cV d 77 [.ref 8, .ref p0_5] w (zI m p0_5 2 (0 : Int32)) (fun m4 => Q m4)) ∧ (¬ p1 = (3 : Int32) → cV d 78 [.ref 8, .ref p0_6] w m (fun m5 => Q m5)))))))))) : cV (d + 1) 148 [.ref 3, .ref p0, .int p1] w m Q := by
  subst he_p0_0
  subst he_p0_1
  subst he_p0_5
  subst he_p0_6
  refine cV_in rfl ?_
  refine mm_yrun (is := mm_k148) [] 400 rfl ?_
  refine And.intro (fun q => ?_) (fun q => ?_)
  · replace H := H.1 q
    refine And.intro (And.intro (rfl) (by decide : ¬ 8 = 0)) ?_
    refine And.intro (And.intro (hk_p0) hn_p0_0) ?_
    refine And.intro (rfl) ?_
    refine cV_use (w := w) (m := m) rfl H ?_
    intro m1 H
    exact rV_mk (w := w) (m := m1) H
  · replace H := H.2 q
    refine And.intro (fun q => ?_) (fun q => ?_)
    · replace H := H.1 q
      refine And.intro (And.intro (rfl) (by decide : ¬ 8 = 0)) ?_
      refine And.intro (And.intro (hk_p0) hn_p0_1) ?_
      refine And.intro (rfl) ?_
      refine cV_use (w := w) (m := m) rfl H ?_
      intro m2 H
      exact rV_mk (w := w) (m := m2) H
    · replace H := H.2 q
      refine And.intro (fun q => ?_) (fun q => ?_)
      · replace H := H.1 q
        refine And.intro (And.intro (rfl) (by decide : ¬ 8 = 0)) ?_
        refine And.intro (rfl) ?_
        refine cV_use (w := w) (m := m) rfl H ?_
        intro m3 H
        exact rV_mk (w := w) (m := m3) H
      · replace H := H.2 q
        refine And.intro (fun q => ?_) (fun q => ?_)
        · replace H := H.1 q
          refine And.intro (And.intro (hk_p0) hn_p0_5) ?_
          refine And.intro (hk_p0_5) ?_
          refine And.intro (And.intro (rfl) (by decide : ¬ 8 = 0)) ?_
          refine And.intro (And.intro (hk_p0) hn_p0_5) ?_
          refine And.intro (rfl) ?_
          refine cV_use (w := w) (m := (zI m (zR w.2.1 w.2.2 p0 5) 2 (0 : Int32))) rfl H ?_
          intro m4 H
          exact rV_mk (w := w) (m := m4) H
        · replace H := H.2 q
          refine And.intro (And.intro (rfl) (by decide : ¬ 8 = 0)) ?_
          refine And.intro (And.intro (hk_p0) hn_p0_6) ?_
          refine And.intro (rfl) ?_
          refine cV_use (w := w) (m := m) rfl H ?_
          intro m5 H
          exact rV_mk (w := w) (m := m5) H
theorem S_T_readInto {p0 : Nat} {p1 : Int32} {d : Nat} {w : Nat × Nat × Nat} {m : zM} {Q : zM → Prop} (hp_p0 : zT p0) (H : ((p1 = (0 : Int32) → cV d 70 [.ref 8, .ref (p0 + 1)] w m (fun m1 => Q m1)) ∧ (¬ p1 = (0 : Int32) → ((p1 = (1 : Int32) → cV d 72 [.ref 8, .ref (p0 + 4)] w m (fun m2 => Q m2)) ∧ (¬ p1 = (1 : Int32) → ((p1 = (2 : Int32) → cV d 74 [.ref 8, .ref p0] w m (fun m3 => Q m3)) ∧ (¬ p1 = (2 : Int32) → ((p1 = (3 : Int32) → cV d 77 [.ref 8, .ref (p0 + 14)] w (zI m (p0 + 14) 2 (0 : Int32)) (fun m4 => Q m4)) ∧ (¬ p1 = (3 : Int32) → cV d 78 [.ref 8, .ref (p0 + 17)] w m (fun m5 => Q m5)))))))))) : cV (d + 1) 148 [.ref 3, .ref p0, .int p1] w m Q := R_T_readInto (zT_e0 hp_p0) (zT_e1 hp_p0) (zT_e5 hp_p0) (zT_e6 hp_p0) (zT_k hp_p0) (Nat.succ_ne_zero _) (Nat.succ_ne_zero _) (Nat.succ_ne_zero _) (zT_ge hp_p0).1 (Nat.succ_ne_zero _) H

theorem S_T_endReading  {d : Nat} {w : Nat × Nat × Nat} {m : zM} {Q : Int32 → (Nat × Nat × Nat) → zM → Prop} (H : ((¬ (m.1 8 5) = 0 → (((m.1 8 5) = 0 → cVw d 146 [.ref 3] w (zI (zI (zI m 4 1 (0 : Int32)) 3 12 (m.1 8 5)) 3 13 (m.1 8 6)) (fun w1 m1 => Q (1 : Int32) w1 m1)) ∧ (¬ (m.1 8 5) = 0 → Q (0 : Int32) w (zI (zI (zI m 4 1 (0 : Int32)) 3 12 (m.1 8 5)) 3 13 (m.1 8 6))))) ∧ ((m.1 8 5) = 0 → (((m.1 8 5) = 0 → cVw d 146 [.ref 3] w (zI (zI (zI m 4 1 (0 : Int32)) 3 12 (m.1 8 5)) 3 13 ((-1) : Int32)) (fun w2 m2 => Q (1 : Int32) w2 m2)) ∧ (¬ (m.1 8 5) = 0 → Q (0 : Int32) w (zI (zI (zI m 4 1 (0 : Int32)) 3 12 (m.1 8 5)) 3 13 ((-1) : Int32))))))) : cIw (d + 1) 149 [.ref 3] w m Q := by
  refine cIw_in rfl ?_
  refine mm_yrun (is := mm_k149) [] 400 rfl ?_
  refine And.intro (And.intro (rfl) (by decide : ¬ 4 = 0)) ?_
  refine And.intro (rfl) ?_
  refine And.intro (And.intro (rfl) (by decide : ¬ 8 = 0)) ?_
  refine And.intro (rfl) ?_
  refine And.intro (rfl) ?_
  refine And.intro (rfl) ?_
  refine And.intro (fun q => ?_) (fun q => ?_)
  · replace H := H.1 q
    refine And.intro (And.intro (rfl) (by decide : ¬ 8 = 0)) ?_
    refine And.intro (rfl) ?_
    refine And.intro (rfl) ?_
    refine And.intro (rfl) ?_
    refine And.intro (fun q => ?_) (fun q => ?_)
    · replace H := H.1 q
      refine And.intro (rfl) ?_
      refine cVw_use (w := w) (m := (zI (zI (zI m 4 1 (0 : Int32)) 3 12 (m.1 8 5)) 3 13 (m.1 8 6))) rfl H ?_
      intro w1 m1 H
      refine And.intro (Or.inr rfl) ?_
      exact rIw_mk (w0 := w) (w := w1) (m := m1) H
    · replace H := H.2 q
      refine And.intro (Or.inl rfl) ?_
      exact rIw_mk (w0 := w) (w := w) (m := (zI (zI (zI m 4 1 (0 : Int32)) 3 12 (m.1 8 5)) 3 13 (m.1 8 6))) H
  · replace H := H.2 (Classical.not_not.mp q)
    refine And.intro (rfl) ?_
    refine And.intro (rfl) ?_
    refine And.intro (fun q => ?_) (fun q => ?_)
    · replace H := H.1 q
      refine And.intro (rfl) ?_
      refine cVw_use (w := w) (m := (zI (zI (zI m 4 1 (0 : Int32)) 3 12 (m.1 8 5)) 3 13 ((-1) : Int32))) rfl H ?_
      intro w2 m2 H
      refine And.intro (Or.inr rfl) ?_
      exact rIw_mk (w0 := w) (w := w2) (m := m2) H
    · replace H := H.2 q
      refine And.intro (Or.inl rfl) ?_
      exact rIw_mk (w0 := w) (w := w) (m := (zI (zI (zI m 4 1 (0 : Int32)) 3 12 (m.1 8 5)) 3 13 ((-1) : Int32))) H

theorem R_T_sizeOf {p0 : Int32} {w21_0 : Nat} {w21_1 : Nat} {w21_5 : Nat} {w21_6 : Nat} {d : Nat} {w : Nat × Nat × Nat} {m : zM} {Q : Int32 → zM → Prop} (he_w21_0 : zR w.2.1 w.2.2 w.2.1 0 = w21_0) (he_w21_1 : zR w.2.1 w.2.2 w.2.1 1 = w21_1) (he_w21_5 : zR w.2.1 w.2.2 w.2.1 5 = w21_5) (he_w21_6 : zR w.2.1 w.2.2 w.2.1 6 = w21_6) (hk_w21 : (zK w.1 w.2.1).1 = 9) (hn_w21 : ¬ w.2.1 = 0) (hn_w21_0 : ¬ w21_0 = 0) (hk_w21_0 : (zK w.1 w21_0).1 = 4) (hn_w21_1 : ¬ w21_1 = 0) (hk_w21_1 : (zK w.1 w21_1).1 = 4) (hn_w21_5 : ¬ w21_5 = 0) (hk_w21_5 : (zK w.1 w21_5).1 = 6) (hn_w21_6 : ¬ w21_6 = 0) (hk_w21_6 : (zK w.1 w21_6).1 = 5) (H : ((p0 = (0 : Int32) → Q (m.1 w21_0 2) m) ∧ (¬ p0 = (0 : Int32) → ((p0 = (1 : Int32) → Q (m.1 w21_1 2) m) ∧ (¬ p0 = (1 : Int32) → ((p0 = (2 : Int32) → Q (m.1 w.2.1 8) m) ∧ (¬ p0 = (2 : Int32) → ((p0 = (3 : Int32) → Q (m.1 w21_5 2) m) ∧ (¬ p0 = (3 : Int32) → Q (m.1 w21_6 2) m))))))))) : cI d 150 [.ref 3, .int p0] w m Q := by
  subst he_w21_0
  subst he_w21_1
  subst he_w21_5
  subst he_w21_6
  refine cI_in rfl ?_
  refine mm_yrun (is := mm_k150) [] 400 rfl ?_
  refine And.intro (fun q => ?_) (fun q => ?_)
  · replace H := H.1 q
    refine And.intro (And.intro (rfl) hn_w21) ?_
    refine And.intro (And.intro (hk_w21) hn_w21_0) ?_
    refine And.intro (hk_w21_0) ?_
    exact rI_mk (w := w) (m := m) H
  · replace H := H.2 q
    refine And.intro (fun q => ?_) (fun q => ?_)
    · replace H := H.1 q
      refine And.intro (And.intro (rfl) hn_w21) ?_
      refine And.intro (And.intro (hk_w21) hn_w21_1) ?_
      refine And.intro (hk_w21_1) ?_
      exact rI_mk (w := w) (m := m) H
    · replace H := H.2 q
      refine And.intro (fun q => ?_) (fun q => ?_)
      · replace H := H.1 q
        refine And.intro (And.intro (rfl) hn_w21) ?_
        refine And.intro (hk_w21) ?_
        exact rI_mk (w := w) (m := m) H
      · replace H := H.2 q
        refine And.intro (fun q => ?_) (fun q => ?_)
        · replace H := H.1 q
          refine And.intro (And.intro (rfl) hn_w21) ?_
          refine And.intro (And.intro (hk_w21) hn_w21_5) ?_
          refine And.intro (hk_w21_5) ?_
          exact rI_mk (w := w) (m := m) H
        · replace H := H.2 q
          refine And.intro (And.intro (rfl) hn_w21) ?_
          refine And.intro (And.intro (hk_w21) hn_w21_6) ?_
          refine And.intro (hk_w21_6) ?_
          exact rI_mk (w := w) (m := m) H
theorem S_T_sizeOf {p0 : Int32} {d : Nat} {w : Nat × Nat × Nat} {m : zM} {Q : Int32 → zM → Prop} (hp_w21 : zT w.2.1) (H : ((p0 = (0 : Int32) → Q (m.1 (w.2.1 + 1) 2) m) ∧ (¬ p0 = (0 : Int32) → ((p0 = (1 : Int32) → Q (m.1 (w.2.1 + 4) 2) m) ∧ (¬ p0 = (1 : Int32) → ((p0 = (2 : Int32) → Q (m.1 w.2.1 8) m) ∧ (¬ p0 = (2 : Int32) → ((p0 = (3 : Int32) → Q (m.1 (w.2.1 + 14) 2) m) ∧ (¬ p0 = (3 : Int32) → Q (m.1 (w.2.1 + 17) 2) m))))))))) : cI d 150 [.ref 3, .int p0] w m Q := R_T_sizeOf (zT_e0 hp_w21) (zT_e1 hp_w21) (zT_e5 hp_w21) (zT_e6 hp_w21) (zT_k hp_w21) (zT_n hp_w21) (Nat.succ_ne_zero _) (zT_lex hp_w21).1 (Nat.succ_ne_zero _) (zT_end hp_w21).1 (Nat.succ_ne_zero _) (zT_ge hp_w21).1 (Nat.succ_ne_zero _) (zT_pt hp_w21).1 H

theorem R_T_draw  {d : Nat} {w : Nat × Nat × Nat} {m : zM} {Q : zM → Prop} (hk_w21 : (zK w.1 w.2.1).1 = 9) (hn_w21 : ¬ w.2.1 = 0) (H : (((m.1 3 14) = 0 → cV d 1 [.ref 220, .ref w.2.1] w m (fun m1 => cV d 10 [.ref 228, .ref w.2.1, .ref 220] w m1 (fun m2 => cV d 80 [.ref 237, .ref w.2.1] w m2 (fun m3 => Q (zI (zI m3 255 6 (0 : Int32)) 3 14 (1 : Int32)))))) ∧ (¬ (m.1 3 14) = 0 → Q m))) : cV (d + 1) 151 [.ref 3] w m Q := by
  refine cV_in rfl ?_
  refine mm_yrun (is := mm_k151) [] 400 rfl ?_
  refine And.intro (rfl) ?_
  refine And.intro (fun q => ?_) (fun q => ?_)
  · replace H := H.1 q
    refine And.intro (And.intro (rfl) (by decide : ¬ 220 = 0)) ?_
    refine And.intro (And.intro (rfl) hn_w21) ?_
    refine And.intro (rfl) ?_
    refine cV_use (w := w) (m := m) rfl H ?_
    intro m1 H
    refine And.intro (And.intro (rfl) (by decide : ¬ 228 = 0)) ?_
    refine And.intro (And.intro (rfl) hn_w21) ?_
    refine And.intro (And.intro (rfl) (by decide : ¬ 220 = 0)) ?_
    refine And.intro (rfl) ?_
    refine cV_use (w := w) (m := m1) rfl H ?_
    intro m2 H
    refine And.intro (And.intro (rfl) (by decide : ¬ 237 = 0)) ?_
    refine And.intro (And.intro (rfl) hn_w21) ?_
    refine And.intro (rfl) ?_
    refine cV_use (w := w) (m := m2) rfl H ?_
    intro m3 H
    refine And.intro (And.intro (rfl) (by decide : ¬ 255 = 0)) ?_
    refine And.intro (rfl) ?_
    refine And.intro (And.intro (rfl) (Or.inr rfl)) ?_
    exact rV_mk (w := w) (m := (zI (zI m3 255 6 (0 : Int32)) 3 14 (1 : Int32))) H
  · replace H := H.2 q
    exact rV_mk (w := w) (m := m) H
theorem S_T_draw  {d : Nat} {w : Nat × Nat × Nat} {m : zM} {Q : zM → Prop} (hp_w21 : zT w.2.1) (H : (((m.1 3 14) = 0 → cV d 1 [.ref 220, .ref w.2.1] w m (fun m1 => cV d 10 [.ref 228, .ref w.2.1, .ref 220] w m1 (fun m2 => cV d 80 [.ref 237, .ref w.2.1] w m2 (fun m3 => Q (zI (zI m3 255 6 (0 : Int32)) 3 14 (1 : Int32)))))) ∧ (¬ (m.1 3 14) = 0 → Q m))) : cV (d + 1) 151 [.ref 3] w m Q := R_T_draw (zT_k hp_w21) (zT_n hp_w21) H

theorem R_T_weighed {p0 : Int32} {p1 : Int32} {d : Nat} {w : Nat × Nat × Nat} {m : zM} {Q : Int32 → zM → Prop} (hk_w21 : (zK w.1 w.2.1).1 = 9) (hn_w21 : ¬ w.2.1 = 0) (H : ((p0 < 0 → Q (0 : Int32) m) ∧ (¬ p0 < 0 → (((m.1 237 19) ≤ p0 → Q (0 : Int32) m) ∧ (¬ (m.1 237 19) ≤ p0 → ((p1 < 0 → Q (0 : Int32) m) ∧ (¬ p1 < 0 → ((p1 < (7 : Int32) → cV d 18 [.ref 255, .ref w.2.1, .int p0, .int p1] w m (fun m1 => Q (1 : Int32) m1)) ∧ (¬ p1 < (7 : Int32) → Q (0 : Int32) m))))))))) : cI (d + 1) 152 [.ref 3, .int p0, .int p1] w m Q := by
  refine cI_in rfl ?_
  refine mm_yrun (is := mm_k152) [] 400 rfl ?_
  refine And.intro (fun q => ?_) (fun q => ?_)
  · replace H := H.1 q
    refine And.intro (Or.inl rfl) ?_
    exact rI_mk (w := w) (m := m) H
  · replace H := H.2 q
    refine And.intro (And.intro (rfl) (by decide : ¬ 237 = 0)) ?_
    refine And.intro (rfl) ?_
    refine And.intro (fun q => ?_) (fun q => ?_)
    · replace H := H.1 q
      refine And.intro (Or.inl rfl) ?_
      exact rI_mk (w := w) (m := m) H
    · replace H := H.2 q
      refine And.intro (fun q => ?_) (fun q => ?_)
      · replace H := H.1 q
        refine And.intro (Or.inl rfl) ?_
        exact rI_mk (w := w) (m := m) H
      · replace H := H.2 q
        refine And.intro (fun q => ?_) (fun q => ?_)
        · replace H := H.1 q
          refine And.intro (And.intro (rfl) (by decide : ¬ 255 = 0)) ?_
          refine And.intro (And.intro (rfl) hn_w21) ?_
          refine And.intro (rfl) ?_
          refine cV_use (w := w) (m := m) rfl H ?_
          intro m1 H
          refine And.intro (Or.inr rfl) ?_
          exact rI_mk (w := w) (m := m1) H
        · replace H := H.2 q
          refine And.intro (Or.inl rfl) ?_
          exact rI_mk (w := w) (m := m) H
theorem S_T_weighed {p0 : Int32} {p1 : Int32} {d : Nat} {w : Nat × Nat × Nat} {m : zM} {Q : Int32 → zM → Prop} (hp_w21 : zT w.2.1) (H : ((p0 < 0 → Q (0 : Int32) m) ∧ (¬ p0 < 0 → (((m.1 237 19) ≤ p0 → Q (0 : Int32) m) ∧ (¬ (m.1 237 19) ≤ p0 → ((p1 < 0 → Q (0 : Int32) m) ∧ (¬ p1 < 0 → ((p1 < (7 : Int32) → cV d 18 [.ref 255, .ref w.2.1, .int p0, .int p1] w m (fun m1 => Q (1 : Int32) m1)) ∧ (¬ p1 < (7 : Int32) → Q (0 : Int32) m))))))))) : cI (d + 1) 152 [.ref 3, .int p0, .int p1] w m Q := R_T_weighed (zT_k hp_w21) (zT_n hp_w21) H

def W_T_readRow_12 (d : Nat) (l1 : Int64) (l3 : Int32) (l4 : Int32) (w : Nat × Nat × Nat) (m : zM) (Q : Int64 → zM → Prop) : Prop := ∀ o5 : Option Value, mm_W (d + 1) 153 12 [some (.ref 3), some (.long l1), none, some (.int l3), some (.int l4), o5] [] (zE w m) (rL w Q)
theorem S_T_readRow  {d : Nat} {w : Nat × Nat × Nat} {m : zM} {Q : Int64 → zM → Prop} (H : cV d 62 [.ref 8] w m (fun m1 => cV d 65 [.ref 8] w m1 (fun m2 => W_T_readRow_12 d (0 : Int64) (0 : Int32) (0 : Int32) w m2 Q))) : cL (d + 1) 153 [.ref 3] w m Q := by
  refine cL_in rfl ?_
  refine mm_yrun (is := mm_k153) [12] 400 rfl ?_
  refine And.intro (And.intro (rfl) (by decide : ¬ 8 = 0)) ?_
  refine And.intro (rfl) ?_
  refine cV_use (w := w) (m := m) rfl H ?_
  intro m1 H
  refine And.intro (And.intro (rfl) (by decide : ¬ 8 = 0)) ?_
  refine And.intro (rfl) ?_
  refine cV_use (w := w) (m := m1) rfl H ?_
  intro m2 H
  exact H _
theorem R_T_readRow_12 {l1 : Int64} {l3 : Int32} {l4 : Int32} {d : Nat} {w : Nat × Nat × Nat} {m : zM} {Q : Int64 → zM → Prop} (hk_w21 : (zK w.1 w.2.1).1 = 9) (hn_w21 : ¬ w.2.1 = 0) (H : (((601 : Int32) ≤ l4 → ((¬ (m.1 8 3) = ((-1) : Int32) → Q (0 : Int64) m) ∧ ((m.1 8 3) = ((-1) : Int32) → Q l1 m))) ∧ (¬ (601 : Int32) ≤ l4 → ((¬ (m.1 8 3) = ((-2) : Int32) → ((¬ (m.1 8 3) = ((-1) : Int32) → Q (0 : Int64) m) ∧ ((m.1 8 3) = ((-1) : Int32) → Q l1 m))) ∧ ((m.1 8 3) = ((-2) : Int32) → cL d 105 [.ref w.2.1, .long (m.2 8 4)] w m (fun v1 m1 => cI d 2 [.ref 220, .long v1] w m1 (fun v2 m2 => ((v2 < 0 → Q (0 : Int64) m2) ∧ (¬ v2 < 0 → ((l3 < (5 : Int32) → cL d 171 [.int v2, .int l3] w m2 (fun v3 m3 => cV d 65 [.ref 8] w m3 (fun m4 => W_T_readRow_12 d (l1 ||| v3) (l3 + (1 : Int32)) (l4 + (1 : Int32)) w m4 Q))) ∧ (¬ l3 < (5 : Int32) → Q (0 : Int64) m2))))))))))) : W_T_readRow_12 d l1 l3 l4 w m Q := by
  intro o5
  refine mm_yrun (is := mm_k153) [12] 400 rfl ?_
  refine And.intro (fun q => ?_) (fun q => ?_)
  · replace H := H.1 q
    refine And.intro (And.intro (rfl) (by decide : ¬ 8 = 0)) ?_
    refine And.intro (rfl) ?_
    refine And.intro (fun q => ?_) (fun q => ?_)
    · replace H := H.1 q
      exact rL_mk (w := w) (m := m) H
    · replace H := H.2 (Classical.not_not.mp q)
      exact rL_mk (w := w) (m := m) H
  · replace H := H.2 q
    refine And.intro (And.intro (rfl) (by decide : ¬ 8 = 0)) ?_
    refine And.intro (rfl) ?_
    refine And.intro (fun q => ?_) (fun q => ?_)
    · replace H := H.1 q
      refine And.intro (And.intro (rfl) (by decide : ¬ 8 = 0)) ?_
      refine And.intro (rfl) ?_
      refine And.intro (fun q => ?_) (fun q => ?_)
      · replace H := H.1 q
        exact rL_mk (w := w) (m := m) H
      · replace H := H.2 (Classical.not_not.mp q)
        exact rL_mk (w := w) (m := m) H
    · replace H := H.2 (Classical.not_not.mp q)
      refine And.intro (And.intro (rfl) (by decide : ¬ 220 = 0)) ?_
      refine And.intro (And.intro (rfl) hn_w21) ?_
      refine And.intro (And.intro (rfl) (by decide : ¬ 8 = 0)) ?_
      refine And.intro (rfl) ?_
      refine And.intro (hk_w21) ?_
      refine cL_use (w := w) (m := m) rfl H ?_
      intro v1 m1 H
      refine And.intro (rfl) ?_
      refine cI_use (w := w) (m := m1) rfl H ?_
      intro v2 m2 H
      refine And.intro (fun q => ?_) (fun q => ?_)
      · replace H := H.1 q
        exact rL_mk (w := w) (m := m2) H
      · replace H := H.2 q
        refine And.intro (fun q => ?_) (fun q => ?_)
        · replace H := H.1 q
          refine And.intro (trivial) ?_
          refine cL_use (w := w) (m := m2) rfl H ?_
          intro v3 m3 H
          refine And.intro (And.intro (rfl) (by decide : ¬ 8 = 0)) ?_
          refine And.intro (rfl) ?_
          refine cV_use (w := w) (m := m3) rfl H ?_
          intro m4 H
          exact H _
        · replace H := H.2 q
          exact rL_mk (w := w) (m := m2) H
theorem S_T_readRow_12 {l1 : Int64} {l3 : Int32} {l4 : Int32} {d : Nat} {w : Nat × Nat × Nat} {m : zM} {Q : Int64 → zM → Prop} (hp_w21 : zT w.2.1) (H : (((601 : Int32) ≤ l4 → ((¬ (m.1 8 3) = ((-1) : Int32) → Q (0 : Int64) m) ∧ ((m.1 8 3) = ((-1) : Int32) → Q l1 m))) ∧ (¬ (601 : Int32) ≤ l4 → ((¬ (m.1 8 3) = ((-2) : Int32) → ((¬ (m.1 8 3) = ((-1) : Int32) → Q (0 : Int64) m) ∧ ((m.1 8 3) = ((-1) : Int32) → Q l1 m))) ∧ ((m.1 8 3) = ((-2) : Int32) → cL d 105 [.ref w.2.1, .long (m.2 8 4)] w m (fun v1 m1 => cI d 2 [.ref 220, .long v1] w m1 (fun v2 m2 => ((v2 < 0 → Q (0 : Int64) m2) ∧ (¬ v2 < 0 → ((l3 < (5 : Int32) → cL d 171 [.int v2, .int l3] w m2 (fun v3 m3 => cV d 65 [.ref 8] w m3 (fun m4 => W_T_readRow_12 d (l1 ||| v3) (l3 + (1 : Int32)) (l4 + (1 : Int32)) w m4 Q))) ∧ (¬ l3 < (5 : Int32) → Q (0 : Int64) m2))))))))))) : W_T_readRow_12 d l1 l3 l4 w m Q := R_T_readRow_12 (zT_k hp_w21) (zT_n hp_w21) H

theorem R_T_at {p0 : Nat} {p1 : Int32} {nl_p0 : Nat} {d : Nat} {w : Nat × Nat × Nat} {m : zM} {Q : Int32 → zM → Prop} (hk_p0 : (zK w.1 p0).1 = 12) (hl_p0 : (zK w.1 p0).2 = nl_p0) (H : ((p1 < 0 → Q (0 : Int32) m) ∧ (¬ p1 < 0 → (((Int32.ofNat nl_p0) ≤ p1 → Q (0 : Int32) m) ∧ (¬ (Int32.ofNat nl_p0) ≤ p1 → vp_in p1 nl_p0 ∧ (Q (m.1 p0 (p1).toNatClampNeg) m)))))) : cI d 156 [.ref p0, .int p1] w m Q := by
  subst hl_p0
  refine cI_in rfl ?_
  refine mm_yrun (is := mm_k156) [] 400 rfl ?_
  refine And.intro (fun q => ?_) (fun q => ?_)
  · replace H := H.1 q
    exact rI_mk (w := w) (m := m) H
  · replace H := H.2 q
    refine And.intro (zArK hk_p0) ?_
    refine And.intro (fun q => ?_) (fun q => ?_)
    · replace H := H.1 q
      exact rI_mk (w := w) (m := m) H
    · replace H := H.2 q
      refine And.intro (And.intro (hk_p0) H.1) ?_
      replace H := H.2
      exact rI_mk (w := w) (m := m) H
theorem S_T_at {p0 : Nat} {p1 : Int32} {n_p0 : Nat} {d : Nat} {w : Nat × Nat × Nat} {m : zM} {Q : Int32 → zM → Prop} (hp_p0 : zAr w p0 12 n_p0) (H : ((p1 < 0 → Q (0 : Int32) m) ∧ (¬ p1 < 0 → (((Int32.ofNat n_p0) ≤ p1 → Q (0 : Int32) m) ∧ (¬ (Int32.ofNat n_p0) ≤ p1 → vp_in p1 n_p0 ∧ (Q (m.1 p0 (p1).toNatClampNeg) m)))))) : cI d 156 [.ref p0, .int p1] w m Q := R_T_at (zAr_k hp_p0) (zAr_l hp_p0) H

theorem R_T_at_ {p0 : Nat} {p1 : Int32} {nl_p0 : Nat} {d : Nat} {w : Nat × Nat × Nat} {m : zM} {Q : Int64 → zM → Prop} (hk_p0 : (zK w.1 p0).1 = 13) (hl_p0 : (zK w.1 p0).2 = nl_p0) (H : ((p1 < 0 → Q (0 : Int64) m) ∧ (¬ p1 < 0 → (((Int32.ofNat nl_p0) ≤ p1 → Q (0 : Int64) m) ∧ (¬ (Int32.ofNat nl_p0) ≤ p1 → vp_in p1 nl_p0 ∧ (Q (m.2 p0 (p1).toNatClampNeg) m)))))) : cL d 157 [.ref p0, .int p1] w m Q := by
  subst hl_p0
  refine cL_in rfl ?_
  refine mm_yrun (is := mm_k157) [] 400 rfl ?_
  refine And.intro (fun q => ?_) (fun q => ?_)
  · replace H := H.1 q
    exact rL_mk (w := w) (m := m) H
  · replace H := H.2 q
    refine And.intro (zArK3 hk_p0) ?_
    refine And.intro (fun q => ?_) (fun q => ?_)
    · replace H := H.1 q
      exact rL_mk (w := w) (m := m) H
    · replace H := H.2 q
      refine And.intro (And.intro (hk_p0) H.1) ?_
      replace H := H.2
      exact rL_mk (w := w) (m := m) H
theorem S_T_at_ {p0 : Nat} {p1 : Int32} {n_p0 : Nat} {d : Nat} {w : Nat × Nat × Nat} {m : zM} {Q : Int64 → zM → Prop} (hp_p0 : zAr w p0 13 n_p0) (H : ((p1 < 0 → Q (0 : Int64) m) ∧ (¬ p1 < 0 → (((Int32.ofNat n_p0) ≤ p1 → Q (0 : Int64) m) ∧ (¬ (Int32.ofNat n_p0) ≤ p1 → vp_in p1 n_p0 ∧ (Q (m.2 p0 (p1).toNatClampNeg) m)))))) : cL d 157 [.ref p0, .int p1] w m Q := R_T_at_ (zAr_k hp_p0) (zAr_l hp_p0) H

theorem R_T_put {p0 : Nat} {p1 : Int32} {p2 : Int32} {nl_p0 : Nat} {d : Nat} {w : Nat × Nat × Nat} {m : zM} {Q : zM → Prop} (hk_p0 : (zK w.1 p0).1 = 12) (hl_p0 : (zK w.1 p0).2 = nl_p0) (H : ((p1 < 0 → Q m) ∧ (¬ p1 < 0 → (((Int32.ofNat nl_p0) ≤ p1 → Q m) ∧ (¬ (Int32.ofNat nl_p0) ≤ p1 → vp_in p1 nl_p0 ∧ (Q (zI m p0 (p1).toNatClampNeg p2))))))) : cV d 158 [.ref p0, .int p1, .int p2] w m Q := by
  subst hl_p0
  refine cV_in rfl ?_
  refine mm_yrun (is := mm_k158) [] 400 rfl ?_
  refine And.intro (fun q => ?_) (fun q => ?_)
  · replace H := H.1 q
    exact rV_mk (w := w) (m := m) H
  · replace H := H.2 q
    refine And.intro (zArK hk_p0) ?_
    refine And.intro (fun q => ?_) (fun q => ?_)
    · replace H := H.1 q
      exact rV_mk (w := w) (m := m) H
    · replace H := H.2 q
      refine And.intro (And.intro (hk_p0) H.1) ?_
      replace H := H.2
      exact rV_mk (w := w) (m := (zI m p0 (p1).toNatClampNeg p2)) H
theorem S_T_put {p0 : Nat} {p1 : Int32} {p2 : Int32} {n_p0 : Nat} {d : Nat} {w : Nat × Nat × Nat} {m : zM} {Q : zM → Prop} (hp_p0 : zAr w p0 12 n_p0) (H : ((p1 < 0 → Q m) ∧ (¬ p1 < 0 → (((Int32.ofNat n_p0) ≤ p1 → Q m) ∧ (¬ (Int32.ofNat n_p0) ≤ p1 → vp_in p1 n_p0 ∧ (Q (zI m p0 (p1).toNatClampNeg p2))))))) : cV d 158 [.ref p0, .int p1, .int p2] w m Q := R_T_put (zAr_k hp_p0) (zAr_l hp_p0) H

theorem R_T_put_ {p0 : Nat} {p1 : Int32} {p2 : Int64} {nl_p0 : Nat} {d : Nat} {w : Nat × Nat × Nat} {m : zM} {Q : zM → Prop} (hk_p0 : (zK w.1 p0).1 = 13) (hl_p0 : (zK w.1 p0).2 = nl_p0) (H : ((p1 < 0 → Q m) ∧ (¬ p1 < 0 → (((Int32.ofNat nl_p0) ≤ p1 → Q m) ∧ (¬ (Int32.ofNat nl_p0) ≤ p1 → vp_in p1 nl_p0 ∧ (Q (zL m p0 (p1).toNatClampNeg p2))))))) : cV d 159 [.ref p0, .int p1, .long p2] w m Q := by
  subst hl_p0
  refine cV_in rfl ?_
  refine mm_yrun (is := mm_k159) [] 400 rfl ?_
  refine And.intro (fun q => ?_) (fun q => ?_)
  · replace H := H.1 q
    exact rV_mk (w := w) (m := m) H
  · replace H := H.2 q
    refine And.intro (zArK3 hk_p0) ?_
    refine And.intro (fun q => ?_) (fun q => ?_)
    · replace H := H.1 q
      exact rV_mk (w := w) (m := m) H
    · replace H := H.2 q
      refine And.intro (And.intro (hk_p0) H.1) ?_
      replace H := H.2
      exact rV_mk (w := w) (m := (zL m p0 (p1).toNatClampNeg p2)) H
theorem S_T_put_ {p0 : Nat} {p1 : Int32} {p2 : Int64} {n_p0 : Nat} {d : Nat} {w : Nat × Nat × Nat} {m : zM} {Q : zM → Prop} (hp_p0 : zAr w p0 13 n_p0) (H : ((p1 < 0 → Q m) ∧ (¬ p1 < 0 → (((Int32.ofNat n_p0) ≤ p1 → Q m) ∧ (¬ (Int32.ofNat n_p0) ≤ p1 → vp_in p1 n_p0 ∧ (Q (zL m p0 (p1).toNatClampNeg p2))))))) : cV d 159 [.ref p0, .int p1, .long p2] w m Q := R_T_put_ (zAr_k hp_p0) (zAr_l hp_p0) H

def W_T_clear_2 (d : Nat) (p0 : Nat) (l1 : Int32) (l2 : Int32) (w : Nat × Nat × Nat) (m : zM) (Q : zM → Prop) : Prop := mm_W d 160 2 [some (.ref p0), some (.int l1), some (.int l2)] [] (zE w m) (rV w Q)
theorem S_T_clear {p0 : Nat} {p1 : Int32} {d : Nat} {w : Nat × Nat × Nat} {m : zM} {Q : zM → Prop} (H : W_T_clear_2 d p0 p1 (0 : Int32) w m Q) : cV d 160 [.ref p0, .int p1] w m Q := by
  refine cV_in rfl ?_
  refine mm_yrun (is := mm_k160) [2] 400 rfl ?_
  exact H
theorem R_T_clear_2 {p0 : Nat} {l1 : Int32} {l2 : Int32} {nl_p0 : Nat} {d : Nat} {w : Nat × Nat × Nat} {m : zM} {Q : zM → Prop} (hk_p0 : (zK w.1 p0).1 = 12) (hl_p0 : (zK w.1 p0).2 = nl_p0) (H : ((l1 ≤ l2 → Q m) ∧ (¬ l1 ≤ l2 → (((Int32.ofNat nl_p0) ≤ l2 → Q m) ∧ (¬ (Int32.ofNat nl_p0) ≤ l2 → vp_in l2 nl_p0 ∧ (W_T_clear_2 d p0 l1 (l2 + (1 : Int32)) w (zI m p0 (l2).toNatClampNeg (0 : Int32)) Q)))))) : W_T_clear_2 d p0 l1 l2 w m Q := by
  subst hl_p0
  refine mm_yrun (is := mm_k160) [2] 400 rfl ?_
  refine And.intro (fun q => ?_) (fun q => ?_)
  · replace H := H.1 q
    exact rV_mk (w := w) (m := m) H
  · replace H := H.2 q
    refine And.intro (zArK hk_p0) ?_
    refine And.intro (fun q => ?_) (fun q => ?_)
    · replace H := H.1 q
      exact rV_mk (w := w) (m := m) H
    · replace H := H.2 q
      refine And.intro (And.intro (hk_p0) H.1) ?_
      replace H := H.2
      exact H
theorem S_T_clear_2 {p0 : Nat} {l1 : Int32} {l2 : Int32} {n_p0 : Nat} {d : Nat} {w : Nat × Nat × Nat} {m : zM} {Q : zM → Prop} (hp_p0 : zAr w p0 12 n_p0) (H : ((l1 ≤ l2 → Q m) ∧ (¬ l1 ≤ l2 → (((Int32.ofNat n_p0) ≤ l2 → Q m) ∧ (¬ (Int32.ofNat n_p0) ≤ l2 → vp_in l2 n_p0 ∧ (W_T_clear_2 d p0 l1 (l2 + (1 : Int32)) w (zI m p0 (l2).toNatClampNeg (0 : Int32)) Q)))))) : W_T_clear_2 d p0 l1 l2 w m Q := R_T_clear_2 (zAr_k hp_p0) (zAr_l hp_p0) H

def W_T_copy_2 (d : Nat) (p0 : Nat) (p1 : Nat) (l2 : Int32) (l3 : Int32) (w : Nat × Nat × Nat) (m : zM) (Q : zM → Prop) : Prop := mm_W d 161 2 [some (.ref p0), some (.ref p1), some (.int l2), some (.int l3)] [] (zE w m) (rV w Q)
theorem S_T_copy {p0 : Nat} {p1 : Nat} {p2 : Int32} {d : Nat} {w : Nat × Nat × Nat} {m : zM} {Q : zM → Prop} (H : W_T_copy_2 d p0 p1 p2 (0 : Int32) w m Q) : cV d 161 [.ref p0, .ref p1, .int p2] w m Q := by
  refine cV_in rfl ?_
  refine mm_yrun (is := mm_k161) [2] 400 rfl ?_
  exact H
theorem R_T_copy_2 {p0 : Nat} {p1 : Nat} {l2 : Int32} {l3 : Int32} {nl_p0 : Nat} {nl_p1 : Nat} {d : Nat} {w : Nat × Nat × Nat} {m : zM} {Q : zM → Prop} (hk_p0 : (zK w.1 p0).1 = 12) (hl_p0 : (zK w.1 p0).2 = nl_p0) (hk_p1 : (zK w.1 p1).1 = 12) (hl_p1 : (zK w.1 p1).2 = nl_p1) (H : ((l2 ≤ l3 → Q m) ∧ (¬ l2 ≤ l3 → (((Int32.ofNat nl_p0) ≤ l3 → Q m) ∧ (¬ (Int32.ofNat nl_p0) ≤ l3 → (((Int32.ofNat nl_p1) ≤ l3 → Q m) ∧ (¬ (Int32.ofNat nl_p1) ≤ l3 → vp_in l3 nl_p0 ∧ (vp_in l3 nl_p1 ∧ (W_T_copy_2 d p0 p1 l2 (l3 + (1 : Int32)) w (zI m p1 (l3).toNatClampNeg (m.1 p0 (l3).toNatClampNeg)) Q))))))))) : W_T_copy_2 d p0 p1 l2 l3 w m Q := by
  subst hl_p0
  subst hl_p1
  refine mm_yrun (is := mm_k161) [2] 400 rfl ?_
  refine And.intro (fun q => ?_) (fun q => ?_)
  · replace H := H.1 q
    exact rV_mk (w := w) (m := m) H
  · replace H := H.2 q
    refine And.intro (zArK hk_p0) ?_
    refine And.intro (fun q => ?_) (fun q => ?_)
    · replace H := H.1 q
      exact rV_mk (w := w) (m := m) H
    · replace H := H.2 q
      refine And.intro (zArK hk_p1) ?_
      refine And.intro (fun q => ?_) (fun q => ?_)
      · replace H := H.1 q
        exact rV_mk (w := w) (m := m) H
      · replace H := H.2 q
        refine And.intro (And.intro (hk_p0) H.1) ?_
        replace H := H.2
        refine And.intro (And.intro (hk_p1) H.1) ?_
        replace H := H.2
        exact H
theorem S_T_copy_2 {p0 : Nat} {p1 : Nat} {l2 : Int32} {l3 : Int32} {n_p0 : Nat} {n_p1 : Nat} {d : Nat} {w : Nat × Nat × Nat} {m : zM} {Q : zM → Prop} (hp_p0 : zAr w p0 12 n_p0) (hp_p1 : zAr w p1 12 n_p1) (H : ((l2 ≤ l3 → Q m) ∧ (¬ l2 ≤ l3 → (((Int32.ofNat n_p0) ≤ l3 → Q m) ∧ (¬ (Int32.ofNat n_p0) ≤ l3 → (((Int32.ofNat n_p1) ≤ l3 → Q m) ∧ (¬ (Int32.ofNat n_p1) ≤ l3 → vp_in l3 n_p0 ∧ (vp_in l3 n_p1 ∧ (W_T_copy_2 d p0 p1 l2 (l3 + (1 : Int32)) w (zI m p1 (l3).toNatClampNeg (m.1 p0 (l3).toNatClampNeg)) Q))))))))) : W_T_copy_2 d p0 p1 l2 l3 w m Q := R_T_copy_2 (zAr_k hp_p0) (zAr_l hp_p0) (zAr_k hp_p1) (zAr_l hp_p1) H

def W_T_copy__2 (d : Nat) (p0 : Nat) (p1 : Nat) (l2 : Int32) (l3 : Int32) (w : Nat × Nat × Nat) (m : zM) (Q : zM → Prop) : Prop := mm_W d 162 2 [some (.ref p0), some (.ref p1), some (.int l2), some (.int l3)] [] (zE w m) (rV w Q)
theorem S_T_copy_ {p0 : Nat} {p1 : Nat} {p2 : Int32} {d : Nat} {w : Nat × Nat × Nat} {m : zM} {Q : zM → Prop} (H : W_T_copy__2 d p0 p1 p2 (0 : Int32) w m Q) : cV d 162 [.ref p0, .ref p1, .int p2] w m Q := by
  refine cV_in rfl ?_
  refine mm_yrun (is := mm_k162) [2] 400 rfl ?_
  exact H
theorem R_T_copy__2 {p0 : Nat} {p1 : Nat} {l2 : Int32} {l3 : Int32} {nl_p0 : Nat} {nl_p1 : Nat} {d : Nat} {w : Nat × Nat × Nat} {m : zM} {Q : zM → Prop} (hk_p0 : (zK w.1 p0).1 = 13) (hl_p0 : (zK w.1 p0).2 = nl_p0) (hk_p1 : (zK w.1 p1).1 = 13) (hl_p1 : (zK w.1 p1).2 = nl_p1) (H : ((l2 ≤ l3 → Q m) ∧ (¬ l2 ≤ l3 → (((Int32.ofNat nl_p0) ≤ l3 → Q m) ∧ (¬ (Int32.ofNat nl_p0) ≤ l3 → (((Int32.ofNat nl_p1) ≤ l3 → Q m) ∧ (¬ (Int32.ofNat nl_p1) ≤ l3 → vp_in l3 nl_p0 ∧ (vp_in l3 nl_p1 ∧ (W_T_copy__2 d p0 p1 l2 (l3 + (1 : Int32)) w (zL m p1 (l3).toNatClampNeg (m.2 p0 (l3).toNatClampNeg)) Q))))))))) : W_T_copy__2 d p0 p1 l2 l3 w m Q := by
  subst hl_p0
  subst hl_p1
  refine mm_yrun (is := mm_k162) [2] 400 rfl ?_
  refine And.intro (fun q => ?_) (fun q => ?_)
  · replace H := H.1 q
    exact rV_mk (w := w) (m := m) H
  · replace H := H.2 q
    refine And.intro (zArK3 hk_p0) ?_
    refine And.intro (fun q => ?_) (fun q => ?_)
    · replace H := H.1 q
      exact rV_mk (w := w) (m := m) H
    · replace H := H.2 q
      refine And.intro (zArK3 hk_p1) ?_
      refine And.intro (fun q => ?_) (fun q => ?_)
      · replace H := H.1 q
        exact rV_mk (w := w) (m := m) H
      · replace H := H.2 q
        refine And.intro (And.intro (hk_p0) H.1) ?_
        replace H := H.2
        refine And.intro (And.intro (hk_p1) H.1) ?_
        replace H := H.2
        exact H
theorem S_T_copy__2 {p0 : Nat} {p1 : Nat} {l2 : Int32} {l3 : Int32} {n_p0 : Nat} {n_p1 : Nat} {d : Nat} {w : Nat × Nat × Nat} {m : zM} {Q : zM → Prop} (hp_p0 : zAr w p0 13 n_p0) (hp_p1 : zAr w p1 13 n_p1) (H : ((l2 ≤ l3 → Q m) ∧ (¬ l2 ≤ l3 → (((Int32.ofNat n_p0) ≤ l3 → Q m) ∧ (¬ (Int32.ofNat n_p0) ≤ l3 → (((Int32.ofNat n_p1) ≤ l3 → Q m) ∧ (¬ (Int32.ofNat n_p1) ≤ l3 → vp_in l3 n_p0 ∧ (vp_in l3 n_p1 ∧ (W_T_copy__2 d p0 p1 l2 (l3 + (1 : Int32)) w (zL m p1 (l3).toNatClampNeg (m.2 p0 (l3).toNatClampNeg)) Q))))))))) : W_T_copy__2 d p0 p1 l2 l3 w m Q := R_T_copy__2 (zAr_k hp_p0) (zAr_l hp_p0) (zAr_k hp_p1) (zAr_l hp_p1) H
