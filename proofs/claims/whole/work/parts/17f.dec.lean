theorem S_M_isAtom  {d : Nat} {w : Nat × Nat × Nat} {m : zM} {Q : Int32 → zM → Prop} (H : cI d 201 [.ref 261] w m (fun v1 m1 => ((v1 = (40 : Int32) → Q (1 : Int32) m1) ∧ (¬ v1 = (40 : Int32) → ((v1 = (46 : Int32) → Q (1 : Int32) m1) ∧ (¬ v1 = (46 : Int32) → ((v1 = (120 : Int32) → Q (1 : Int32) m1) ∧ (¬ v1 = (120 : Int32) → cI d 195 [.int v1] w m1 (fun v2 m2 => ((v2 = ((-1) : Int32) → Q (0 : Int32) m2) ∧ (¬ v2 = ((-1) : Int32) → Q (1 : Int32) m2))))))))))) : cI (d + 1) 211 [.ref 261] w m Q := by
  refine cI_in rfl ?_
  refine mm_yrun (is := mm_k211) [] 400 rfl ?_
  refine And.intro (rfl) ?_
  refine cI_use (w := w) (m := m) rfl H ?_
  intro v1 m1 H
  refine And.intro (fun q => ?_) (fun q => ?_)
  · replace H := H.1 q
    refine And.intro (Or.inr rfl) ?_
    exact rI_mk (w := w) (m := m1) H
  · replace H := H.2 q
    refine And.intro (fun q => ?_) (fun q => ?_)
    · replace H := H.1 q
      refine And.intro (Or.inr rfl) ?_
      exact rI_mk (w := w) (m := m1) H
    · replace H := H.2 q
      refine And.intro (fun q => ?_) (fun q => ?_)
      · replace H := H.1 q
        refine And.intro (Or.inr rfl) ?_
        exact rI_mk (w := w) (m := m1) H
      · replace H := H.2 q
        refine And.intro (trivial) ?_
        refine cI_use (w := w) (m := m1) rfl H ?_
        intro v2 m2 H
        refine And.intro (fun q => ?_) (fun q => ?_)
        · replace H := H.1 q
          refine And.intro (Or.inl rfl) ?_
          exact rI_mk (w := w) (m := m2) H
        · replace H := H.2 q
          refine And.intro (Or.inr rfl) ?_
          exact rI_mk (w := w) (m := m2) H

def W_M_follows_2 (d : Nat) (l1 : Int32) (l2 : Int32) (l3 : Int32) (w : Nat × Nat × Nat) (m : zM) (Q : zM → Prop) : Prop := mm_W (d + 1) 212 2 [some (.ref 261), some (.int l1), some (.int l2), some (.int l3)] [] (zE w m) (rV w Q)
theorem S_M_follows {p0 : Int32} {p1 : Int32} {d : Nat} {w : Nat × Nat × Nat} {m : zM} {Q : zM → Prop} (H : W_M_follows_2 d p0 p1 (0 : Int32) w m Q) : cV (d + 1) 212 [.ref 261, .int p0, .int p1] w m Q := by
  refine cV_in rfl ?_
  refine mm_yrun (is := mm_k212) [2] 400 rfl ?_
  exact H
theorem S_M_follows_2 {l1 : Int32} {l2 : Int32} {l3 : Int32} {d : Nat} {w : Nat × Nat × Nat} {m : zM} {Q : zM → Prop} (H : (((m.1 261 15) ≤ l3 → Q m) ∧ (¬ (m.1 261 15) ≤ l3 → cI d 183 [.long (l1).toInt64, .int l3] w m (fun v1 m1 => ((v1 = 0 → W_M_follows_2 d l1 l2 (l3 + (1 : Int32)) w m1 Q) ∧ (¬ v1 = 0 → vp_in l3 12 ∧ (vp_in l3 12 ∧ (W_M_follows_2 d l1 l2 (l3 + (1 : Int32)) w (zI m1 267 (l3).toNatClampNeg ((m1.1 267 (l3).toNatClampNeg) ||| l2)) Q)))))))) : W_M_follows_2 d l1 l2 l3 w m Q := by
  refine mm_yrun (is := mm_k212) [2] 400 rfl ?_
  refine And.intro (rfl) ?_
  refine And.intro (fun q => ?_) (fun q => ?_)
  · replace H := H.1 q
    exact rV_mk (w := w) (m := m) H
  · replace H := H.2 q
    refine And.intro (trivial) ?_
    refine cI_use (w := w) (m := m) rfl H ?_
    intro v1 m1 H
    refine And.intro (fun q => ?_) (fun q => ?_)
    · replace H := H.1 q
      exact H
    · replace H := H.2 q
      refine And.intro (And.intro (rfl) (by decide : ¬ 267 = 0)) ?_
      refine And.intro (And.intro (rfl) H.1) ?_
      replace H := H.2
      refine And.intro (And.intro (rfl) H.1) ?_
      replace H := H.2
      exact H

def W_M_readItem_34 (d : Nat) (l1 : Int32) (w : Nat × Nat × Nat) (m : zM) (Q : Int32 → zM → Prop) : Prop := mm_W (d + 1) 213 34 [some (.ref 261), some (.int l1)] [] (zE w m) (rI w Q)
def W_M_readItem_41 (d : Nat)  (w : Nat × Nat × Nat) (m : zM) (Q : Int32 → zM → Prop) : Prop := ∀ o0 o1 : Option Value, mm_W (d + 1) 213 41 [o0, o1] [.ref 261] (zE w m) (rI w Q)
theorem S_M_readItem  {d : Nat} {w : Nat × Nat × Nat} {m : zM} {Q : Int32 → zM → Prop} (H : cI d 210 [.ref 261] w m (fun v1 m1 => ((¬ v1 = 0 → cI d 201 [.ref 261] w m1 (fun v2 m2 => ((v2 = (42 : Int32) → ((v2 = (63 : Int32) → W_M_readItem_34 d v2 w (zI m2 261 6 ((m2.1 261 6) + (1 : Int32))) Q) ∧ (¬ v2 = (63 : Int32) → cV d 212 [.ref 261, .int (m2.1 261 18), .int (m2.1 261 17)] w (zI m2 261 6 ((m2.1 261 6) + (1 : Int32))) (fun m3 => W_M_readItem_34 d v2 w m3 Q)))) ∧ (¬ v2 = (42 : Int32) → ((v2 = (43 : Int32) → ((v2 = (63 : Int32) → W_M_readItem_34 d v2 w (zI m2 261 6 ((m2.1 261 6) + (1 : Int32))) Q) ∧ (¬ v2 = (63 : Int32) → cV d 212 [.ref 261, .int (m2.1 261 18), .int (m2.1 261 17)] w (zI m2 261 6 ((m2.1 261 6) + (1 : Int32))) (fun m4 => W_M_readItem_34 d v2 w m4 Q)))) ∧ (¬ v2 = (43 : Int32) → ((v2 = (63 : Int32) → ((v2 = (63 : Int32) → W_M_readItem_34 d v2 w (zI m2 261 6 ((m2.1 261 6) + (1 : Int32))) Q) ∧ (¬ v2 = (63 : Int32) → cV d 212 [.ref 261, .int (m2.1 261 18), .int (m2.1 261 17)] w (zI m2 261 6 ((m2.1 261 6) + (1 : Int32))) (fun m5 => W_M_readItem_34 d v2 w m5 Q)))) ∧ (¬ v2 = (63 : Int32) → Q (1 : Int32) m2)))))))) ∧ (v1 = 0 → Q (0 : Int32) m1)))) : cI (d + 1) 213 [.ref 261] w m Q := by
  refine cI_in rfl ?_
  refine mm_yrun (is := mm_k213) [34, 41] 400 rfl ?_
  refine And.intro (rfl) ?_
  refine cI_use (w := w) (m := m) rfl H ?_
  intro v1 m1 H
  refine And.intro (fun q => ?_) (fun q => ?_)
  · replace H := H.1 q
    refine And.intro (rfl) ?_
    refine cI_use (w := w) (m := m1) rfl H ?_
    intro v2 m2 H
    refine And.intro (fun q => ?_) (fun q => ?_)
    · replace H := H.1 q
      refine And.intro (rfl) ?_
      refine And.intro (rfl) ?_
      refine And.intro (fun q => ?_) (fun q => ?_)
      · replace H := H.1 q
        exact H
      · replace H := H.2 q
        refine And.intro (rfl) ?_
        refine And.intro (rfl) ?_
        refine And.intro (rfl) ?_
        refine cV_use (w := w) (m := (zI m2 261 6 ((m2.1 261 6) + (1 : Int32)))) rfl H ?_
        intro m3 H
        exact H
    · replace H := H.2 q
      refine And.intro (fun q => ?_) (fun q => ?_)
      · replace H := H.1 q
        refine And.intro (rfl) ?_
        refine And.intro (rfl) ?_
        refine And.intro (fun q => ?_) (fun q => ?_)
        · replace H := H.1 q
          exact H
        · replace H := H.2 q
          refine And.intro (rfl) ?_
          refine And.intro (rfl) ?_
          refine And.intro (rfl) ?_
          refine cV_use (w := w) (m := (zI m2 261 6 ((m2.1 261 6) + (1 : Int32)))) rfl H ?_
          intro m4 H
          exact H
      · replace H := H.2 q
        refine And.intro (fun q => ?_) (fun q => ?_)
        · replace H := H.1 q
          refine And.intro (rfl) ?_
          refine And.intro (rfl) ?_
          refine And.intro (fun q => ?_) (fun q => ?_)
          · replace H := H.1 q
            exact H
          · replace H := H.2 q
            refine And.intro (rfl) ?_
            refine And.intro (rfl) ?_
            refine And.intro (rfl) ?_
            refine cV_use (w := w) (m := (zI m2 261 6 ((m2.1 261 6) + (1 : Int32)))) rfl H ?_
            intro m5 H
            exact H
        · replace H := H.2 q
          refine And.intro (Or.inr rfl) ?_
          exact rI_mk (w := w) (m := m2) H
  · replace H := H.2 (Classical.not_not.mp q)
    refine And.intro (Or.inl rfl) ?_
    exact rI_mk (w := w) (m := m1) H
theorem S_M_readItem_34 {l1 : Int32} {d : Nat} {w : Nat × Nat × Nat} {m : zM} {Q : Int32 → zM → Prop} (H : ((¬ (m.1 261 19) = 0 → W_M_readItem_41 d w m Q) ∧ ((m.1 261 19) = 0 → ((l1 = (43 : Int32) → Q (1 : Int32) (zI m 261 19 (0 : Int32))) ∧ (¬ l1 = (43 : Int32) → W_M_readItem_41 d w m Q))))) : W_M_readItem_34 d l1 w m Q := by
  refine mm_yrun (is := mm_k213) [34, 41] 400 rfl ?_
  refine And.intro (rfl) ?_
  refine And.intro (fun q => ?_) (fun q => ?_)
  · replace H := H.1 q
    exact H _ _
  · replace H := H.2 (Classical.not_not.mp q)
    refine And.intro (fun q => ?_) (fun q => ?_)
    · replace H := H.1 q
      refine And.intro (And.intro (rfl) (Or.inl rfl)) ?_
      refine And.intro (Or.inr rfl) ?_
      exact rI_mk (w := w) (m := (zI m 261 19 (0 : Int32))) H
    · replace H := H.2 q
      exact H _ _
theorem S_M_readItem_41  {d : Nat} {w : Nat × Nat × Nat} {m : zM} {Q : Int32 → zM → Prop} (H : Q (1 : Int32) (zI m 261 19 (1 : Int32))) : W_M_readItem_41 d w m Q := by
  intro o0 o1
  refine mm_yrun (is := mm_k213) [34, 41] 400 rfl ?_
  refine And.intro (And.intro (rfl) (Or.inr rfl)) ?_
  refine And.intro (Or.inr rfl) ?_
  exact rI_mk (w := w) (m := (zI m 261 19 (1 : Int32))) H

def W_M_readRow_6 (d : Nat) (l1 : Int32) (l2 : Int32) (l3 : Int32) (w : Nat × Nat × Nat) (m : zM) (Q : Int32 → zM → Prop) : Prop := mm_W (d + 1) 214 6 [some (.ref 261), some (.int l1), some (.int l2), some (.int l3)] [] (zE w m) (rI w Q)
def W_M_readRow_38 (d : Nat) (l1 : Int32) (l3 : Int32) (t0 : Int32) (w : Nat × Nat × Nat) (m : zM) (Q : Int32 → zM → Prop) : Prop := ∀ o2 : Option Value, mm_W (d + 1) 214 38 [some (.ref 261), some (.int l1), o2, some (.int l3)] [.int t0] (zE w m) (rI w Q)
def W_M_readRow_47 (d : Nat) (l1 : Int32) (l2 : Int32) (t0 : Int32) (w : Nat × Nat × Nat) (m : zM) (Q : Int32 → zM → Prop) : Prop := ∀ o3 : Option Value, mm_W (d + 1) 214 47 [some (.ref 261), some (.int l1), some (.int l2), o3] [.int t0] (zE w m) (rI w Q)
theorem S_M_readRow  {d : Nat} {w : Nat × Nat × Nat} {m : zM} {Q : Int32 → zM → Prop} (H : W_M_readRow_6 d (0 : Int32) (0 : Int32) (1 : Int32) w m Q) : cI (d + 1) 214 [.ref 261] w m Q := by
  refine cI_in rfl ?_
  refine mm_yrun (is := mm_k214) [6, 38, 47] 400 rfl ?_
  exact H
theorem S_M_readRow_6 {l1 : Int32} {l2 : Int32} {l3 : Int32} {d : Nat} {w : Nat × Nat × Nat} {m : zM} {Q : Int32 → zM → Prop} (H : cI d 211 [.ref 261] w m (fun v1 m1 => ((v1 = 0 → (l3 = 0 ∨ l3 = 1) ∧ (Q (1 : Int32) (zI (zI (zI m1 261 17 l1) 261 18 l2) 261 19 l3))) ∧ (¬ v1 = 0 → cI d 213 [.ref 261] w m1 (fun v2 m2 => ((¬ v2 = 0 → cV d 212 [.ref 261, .int l2, .int (m2.1 261 17)] w m2 (fun m3 => ((l3 = 0 → (((m3.1 261 19) = 0 → W_M_readRow_38 d l1 l3 (m3.1 261 18) w m3 Q) ∧ (¬ (m3.1 261 19) = 0 → W_M_readRow_38 d l1 l3 (l2 ||| (m3.1 261 18)) w m3 Q))) ∧ (¬ l3 = 0 → (((m3.1 261 19) = 0 → W_M_readRow_38 d (l1 ||| (m3.1 261 17)) l3 (m3.1 261 18) w m3 Q) ∧ (¬ (m3.1 261 19) = 0 → W_M_readRow_38 d (l1 ||| (m3.1 261 17)) l3 (l2 ||| (m3.1 261 18)) w m3 Q)))))) ∧ (v2 = 0 → Q (0 : Int32) m2))))))) : W_M_readRow_6 d l1 l2 l3 w m Q := by
  refine mm_yrun (is := mm_k214) [6, 38, 47] 400 rfl ?_
  refine And.intro (rfl) ?_
  refine cI_use (w := w) (m := m) rfl H ?_
  intro v1 m1 H
  refine And.intro (fun q => ?_) (fun q => ?_)
  · replace H := H.1 q
    refine And.intro (rfl) ?_
    refine And.intro (rfl) ?_
    refine And.intro (And.intro (rfl) H.1) ?_
    replace H := H.2
    refine And.intro (Or.inr rfl) ?_
    exact rI_mk (w := w) (m := (zI (zI (zI m1 261 17 l1) 261 18 l2) 261 19 l3)) H
  · replace H := H.2 q
    refine And.intro (rfl) ?_
    refine cI_use (w := w) (m := m1) rfl H ?_
    intro v2 m2 H
    refine And.intro (fun q => ?_) (fun q => ?_)
    · replace H := H.1 q
      refine And.intro (rfl) ?_
      refine And.intro (rfl) ?_
      refine cV_use (w := w) (m := m2) rfl H ?_
      intro m3 H
      refine And.intro (fun q => ?_) (fun q => ?_)
      · replace H := H.1 q
        refine And.intro (rfl) ?_
        refine And.intro (fun q => ?_) (fun q => ?_)
        · replace H := H.1 q
          refine And.intro (rfl) ?_
          exact H _
        · replace H := H.2 q
          refine And.intro (rfl) ?_
          exact H _
      · replace H := H.2 q
        refine And.intro (rfl) ?_
        refine And.intro (rfl) ?_
        refine And.intro (fun q => ?_) (fun q => ?_)
        · replace H := H.1 q
          refine And.intro (rfl) ?_
          exact H _
        · replace H := H.2 q
          refine And.intro (rfl) ?_
          exact H _
    · replace H := H.2 (Classical.not_not.mp q)
      refine And.intro (Or.inl rfl) ?_
      exact rI_mk (w := w) (m := m2) H
theorem S_M_readRow_38 {l1 : Int32} {l3 : Int32} {t0 : Int32} {d : Nat} {w : Nat × Nat × Nat} {m : zM} {Q : Int32 → zM → Prop} (H : ((l3 = 0 → W_M_readRow_47 d l1 t0 (0 : Int32) w m Q) ∧ (¬ l3 = 0 → (((m.1 261 19) = 0 → W_M_readRow_47 d l1 t0 (0 : Int32) w m Q) ∧ (¬ (m.1 261 19) = 0 → W_M_readRow_47 d l1 t0 (1 : Int32) w m Q))))) : W_M_readRow_38 d l1 l3 t0 w m Q := by
  intro o2
  refine mm_yrun (is := mm_k214) [6, 38, 47] 400 rfl ?_
  refine And.intro (fun q => ?_) (fun q => ?_)
  · replace H := H.1 q
    exact H _
  · replace H := H.2 q
    refine And.intro (rfl) ?_
    refine And.intro (fun q => ?_) (fun q => ?_)
    · replace H := H.1 q
      exact H _
    · replace H := H.2 q
      exact H _
theorem S_M_readRow_47 {l1 : Int32} {l2 : Int32} {t0 : Int32} {d : Nat} {w : Nat × Nat × Nat} {m : zM} {Q : Int32 → zM → Prop} (H : W_M_readRow_6 d l1 l2 t0 w m Q) : W_M_readRow_47 d l1 l2 t0 w m Q := by
  intro o3
  refine mm_yrun (is := mm_k214) [6, 38, 47] 400 rfl ?_
  exact H

def W_M_readAlt_5 (d : Nat)  (w : Nat × Nat × Nat) (m : zM) (Q : Int32 → zM → Prop) : Prop := ∀ o1 o2 o3 : Option Value, mm_W (d + 1) 215 5 [some (.ref 261), o1, o2, o3] [] (zE w m) (rI w Q)
theorem S_M_readAlt  {d : Nat} {w : Nat × Nat × Nat} {m : zM} {Q : Int32 → zM → Prop} (H : cI d 214 [.ref 261] w m (fun v1 m1 => ((¬ v1 = 0 → W_M_readAlt_5 d w m1 Q) ∧ (v1 = 0 → Q (0 : Int32) m1)))) : cI (d + 1) 215 [.ref 261] w m Q := by
  refine cI_in rfl ?_
  refine mm_yrun (is := mm_k215) [5] 400 rfl ?_
  refine And.intro (rfl) ?_
  refine cI_use (w := w) (m := m) rfl H ?_
  intro v1 m1 H
  refine And.intro (fun q => ?_) (fun q => ?_)
  · replace H := H.1 q
    exact H _ _ _
  · replace H := H.2 (Classical.not_not.mp q)
    refine And.intro (Or.inl rfl) ?_
    exact rI_mk (w := w) (m := m1) H
theorem S_M_readAlt_5  {d : Nat} {w : Nat × Nat × Nat} {m : zM} {Q : Int32 → zM → Prop} (H : cI d 201 [.ref 261] w m (fun v1 m1 => ((¬ v1 = (124 : Int32) → Q (1 : Int32) m1) ∧ (v1 = (124 : Int32) → cI d 214 [.ref 261] w (zI m1 261 6 ((m1.1 261 6) + (1 : Int32))) (fun v2 m2 => ((¬ v2 = 0 → ((¬ (m2.1 261 19) = 0 → W_M_readAlt_5 d w (zI (zI (zI m2 261 17 ((m2.1 261 17) ||| (m1.1 261 17))) 261 18 ((m2.1 261 18) ||| (m1.1 261 18))) 261 19 (1 : Int32)) Q) ∧ ((m2.1 261 19) = 0 → (((m1.1 261 19) = 0 → W_M_readAlt_5 d w (zI (zI (zI m2 261 17 ((m2.1 261 17) ||| (m1.1 261 17))) 261 18 ((m2.1 261 18) ||| (m1.1 261 18))) 261 19 (0 : Int32)) Q) ∧ (¬ (m1.1 261 19) = 0 → W_M_readAlt_5 d w (zI (zI (zI m2 261 17 ((m2.1 261 17) ||| (m1.1 261 17))) 261 18 ((m2.1 261 18) ||| (m1.1 261 18))) 261 19 (1 : Int32)) Q))))) ∧ (v2 = 0 → Q (0 : Int32) m2))))))) : W_M_readAlt_5 d w m Q := by
  intro o1 o2 o3
  refine mm_yrun (is := mm_k215) [5] 400 rfl ?_
  refine And.intro (rfl) ?_
  refine cI_use (w := w) (m := m) rfl H ?_
  intro v1 m1 H
  refine And.intro (fun q => ?_) (fun q => ?_)
  · replace H := H.1 q
    refine And.intro (Or.inr rfl) ?_
    exact rI_mk (w := w) (m := m1) H
  · replace H := H.2 (Classical.not_not.mp q)
    refine And.intro (rfl) ?_
    refine And.intro (rfl) ?_
    refine And.intro (rfl) ?_
    refine And.intro (rfl) ?_
    refine And.intro (rfl) ?_
    refine And.intro (rfl) ?_
    refine cI_use (w := w) (m := (zI m1 261 6 ((m1.1 261 6) + (1 : Int32)))) rfl H ?_
    intro v2 m2 H
    refine And.intro (fun q => ?_) (fun q => ?_)
    · replace H := H.1 q
      refine And.intro (rfl) ?_
      refine And.intro (rfl) ?_
      refine And.intro (rfl) ?_
      refine And.intro (rfl) ?_
      refine And.intro (rfl) ?_
      refine And.intro (fun q => ?_) (fun q => ?_)
      · replace H := H.1 q
        refine And.intro (And.intro (rfl) (Or.inr rfl)) ?_
        exact H _ _ _
      · replace H := H.2 (Classical.not_not.mp q)
        refine And.intro (fun q => ?_) (fun q => ?_)
        · replace H := H.1 q
          refine And.intro (And.intro (rfl) (Or.inl rfl)) ?_
          exact H _ _ _
        · replace H := H.2 q
          refine And.intro (And.intro (rfl) (Or.inr rfl)) ?_
          exact H _ _ _
    · replace H := H.2 (Classical.not_not.mp q)
      refine And.intro (Or.inl rfl) ?_
      exact rI_mk (w := w) (m := m2) H

theorem S_M_readPattern  {d : Nat} {w : Nat × Nat × Nat} {m : zM} {Q : Int32 → zM → Prop} (H : cI d 215 [.ref 261] w (zI (zI m 261 15 (0 : Int32)) 261 16 (0 : Int32)) (fun v1 m1 => ((v1 = 0 → Q (0 : Int32) m1) ∧ (¬ v1 = 0 → cI d 201 [.ref 261] w m1 (fun v2 m2 => ((v2 = ((-1) : Int32) → Q (1 : Int32) m2) ∧ (¬ v2 = ((-1) : Int32) → cI d 202 [.ref 261, .int (1 : Int32), .int (m2.1 261 6)] w m2 (fun v3 m3 => ((v3 = 0 → Q (0 : Int32) m3) ∧ (¬ v3 = 0 → Q (1 : Int32) m3)))))))))) : cI (d + 1) 216 [.ref 261] w m Q := by
  refine cI_in rfl ?_
  refine mm_yrun (is := mm_k216) [] 400 rfl ?_
  refine And.intro (rfl) ?_
  refine And.intro (rfl) ?_
  refine And.intro (rfl) ?_
  refine cI_use (w := w) (m := (zI (zI m 261 15 (0 : Int32)) 261 16 (0 : Int32))) rfl H ?_
  intro v1 m1 H
  refine And.intro (fun q => ?_) (fun q => ?_)
  · replace H := H.1 q
    refine And.intro (Or.inl rfl) ?_
    exact rI_mk (w := w) (m := m1) H
  · replace H := H.2 q
    refine And.intro (rfl) ?_
    refine cI_use (w := w) (m := m1) rfl H ?_
    intro v2 m2 H
    refine And.intro (fun q => ?_) (fun q => ?_)
    · replace H := H.1 q
      refine And.intro (Or.inr rfl) ?_
      exact rI_mk (w := w) (m := m2) H
    · replace H := H.2 q
      refine And.intro (rfl) ?_
      refine And.intro (rfl) ?_
      refine cI_use (w := w) (m := m2) rfl H ?_
      intro v3 m3 H
      refine And.intro (fun q => ?_) (fun q => ?_)
      · replace H := H.1 q
        refine And.intro (Or.inl rfl) ?_
        exact rI_mk (w := w) (m := m3) H
      · replace H := H.2 q
        refine And.intro (Or.inr rfl) ?_
        exact rI_mk (w := w) (m := m3) H

def W_M_keepsPattern_9 (d : Nat) (l1 : Int32) (w : Nat × Nat × Nat) (m : zM) (Q : zM → Prop) : Prop := mm_W (d + 1) 217 9 [some (.ref 261), some (.int l1)] [] (zE w m) (rV w Q)
theorem S_M_keepsPattern  {d : Nat} {w : Nat × Nat × Nat} {m : zM} {Q : zM → Prop} (H : vp_in (1870 : Int32) 1906 ∧ (W_M_keepsPattern_9 d (0 : Int32) w (zL m 262 ((1870 : Int32)).toNatClampNeg ((m.1 261 15)).toInt64) Q)) : cV (d + 1) 217 [.ref 261] w m Q := by
  refine cV_in rfl ?_
  refine mm_yrun (is := mm_k217) [9] 400 rfl ?_
  refine And.intro (And.intro (rfl) (by decide : ¬ 262 = 0)) ?_
  refine And.intro (rfl) ?_
  refine And.intro (And.intro (rfl) H.1) ?_
  replace H := H.2
  exact H
theorem S_M_keepsPattern_9 {l1 : Int32} {d : Nat} {w : Nat × Nat × Nat} {m : zM} {Q : zM → Prop} (H : (((m.1 261 15) ≤ l1 → vp_in (1895 : Int32) 1906 ∧ (vp_in (1896 : Int32) 1906 ∧ (cI d 182 [.int (m.1 261 19)] w (zL (zL m 262 ((1895 : Int32)).toNatClampNeg ((m.1 261 17)).toInt64) 262 ((1896 : Int32)).toNatClampNeg ((m.1 261 18)).toInt64) (fun v1 m1 => vp_in (1897 : Int32) 1906 ∧ (Q (zL m1 262 ((1897 : Int32)).toNatClampNeg (v1).toInt64)))))) ∧ (¬ (m.1 261 15) ≤ l1 → vp_in l1 12 ∧ (vp_in ((1871 : Int32) + l1) 1906 ∧ (vp_in l1 12 ∧ (vp_in ((1883 : Int32) + l1) 1906 ∧ (W_M_keepsPattern_9 d (l1 + (1 : Int32)) w (zL (zL m 262 (((1871 : Int32) + l1)).toNatClampNeg ((m.1 266 (l1).toNatClampNeg)).toInt64) 262 (((1883 : Int32) + l1)).toNatClampNeg ((m.1 267 (l1).toNatClampNeg)).toInt64) Q))))))) : W_M_keepsPattern_9 d l1 w m Q := by
  refine mm_yrun (is := mm_k217) [9] 400 rfl ?_
  refine And.intro (rfl) ?_
  refine And.intro (fun q => ?_) (fun q => ?_)
  · replace H := H.1 q
    refine And.intro (And.intro (rfl) (by decide : ¬ 262 = 0)) ?_
    refine And.intro (rfl) ?_
    refine And.intro (And.intro (rfl) H.1) ?_
    replace H := H.2
    refine And.intro (And.intro (rfl) (by decide : ¬ 262 = 0)) ?_
    refine And.intro (rfl) ?_
    refine And.intro (And.intro (rfl) H.1) ?_
    replace H := H.2
    refine And.intro (And.intro (rfl) (by decide : ¬ 262 = 0)) ?_
    refine And.intro (rfl) ?_
    refine And.intro (trivial) ?_
    refine cI_use (w := w) (m := (zL (zL m 262 ((1895 : Int32)).toNatClampNeg ((m.1 261 17)).toInt64) 262 ((1896 : Int32)).toNatClampNeg ((m.1 261 18)).toInt64)) rfl H ?_
    intro v1 m1 H
    refine And.intro (And.intro (rfl) H.1) ?_
    replace H := H.2
    exact rV_mk (w := w) (m := (zL m1 262 ((1897 : Int32)).toNatClampNeg (v1).toInt64)) H
  · replace H := H.2 q
    refine And.intro (And.intro (rfl) (by decide : ¬ 262 = 0)) ?_
    refine And.intro (And.intro (rfl) (by decide : ¬ 266 = 0)) ?_
    refine And.intro (And.intro (rfl) H.1) ?_
    replace H := H.2
    refine And.intro (And.intro (rfl) H.1) ?_
    replace H := H.2
    refine And.intro (And.intro (rfl) (by decide : ¬ 262 = 0)) ?_
    refine And.intro (And.intro (rfl) (by decide : ¬ 267 = 0)) ?_
    refine And.intro (And.intro (rfl) H.1) ?_
    replace H := H.2
    refine And.intro (And.intro (rfl) H.1) ?_
    replace H := H.2
    exact H

theorem S_M_readText {p0 : Int32} {d : Nat} {w : Nat × Nat × Nat} {m : zM} {Q : Int32 → zM → Prop} (H : ((¬ p0 = 0 → ((¬ p0 = (1 : Int32) → ((¬ p0 = (2 : Int32) → ((¬ p0 = (3 : Int32) → cI d 216 [.ref 261] w m (fun v1 m1 => ((¬ v1 = 0 → cV d 217 [.ref 261] w m1 (fun m2 => Q (1 : Int32) m2)) ∧ (v1 = 0 → Q (0 : Int32) m1)))) ∧ (p0 = (3 : Int32) → cI d 209 [.ref 261, .int (1070 : Int32), .int (1470 : Int32), .int (0 : Int32)] w m (fun v3 m3 => vp_in (1069 : Int32) 1906 ∧ (((v3 = ((-1) : Int32) → Q (0 : Int32) (zL m3 262 ((1069 : Int32)).toNatClampNeg (v3).toInt64)) ∧ (¬ v3 = ((-1) : Int32) → Q (1 : Int32) (zL m3 262 ((1069 : Int32)).toNatClampNeg (v3).toInt64)))))))) ∧ (p0 = (2 : Int32) → cI d 208 [.ref 261] w m (fun v4 m4 => (v4 = 0 ∨ v4 = 1) ∧ (Q v4 m4))))) ∧ (p0 = (1 : Int32) → cI d 207 [.ref 261] w m (fun v5 m5 => (v5 = 0 ∨ v5 = 1) ∧ (Q v5 m5))))) ∧ (p0 = 0 → cI d 206 [.ref 261] w m (fun v6 m6 => (v6 = 0 ∨ v6 = 1) ∧ (Q v6 m6))))) : cI (d + 1) 218 [.ref 261, .int p0] w m Q := by
  refine cI_in rfl ?_
  refine mm_yrun (is := mm_k218) [] 400 rfl ?_
  refine And.intro (fun q => ?_) (fun q => ?_)
  · replace H := H.1 q
    refine And.intro (fun q => ?_) (fun q => ?_)
    · replace H := H.1 q
      refine And.intro (fun q => ?_) (fun q => ?_)
      · replace H := H.1 q
        refine And.intro (fun q => ?_) (fun q => ?_)
        · replace H := H.1 q
          refine And.intro (rfl) ?_
          refine cI_use (w := w) (m := m) rfl H ?_
          intro v1 m1 H
          refine And.intro (fun q => ?_) (fun q => ?_)
          · replace H := H.1 q
            refine And.intro (rfl) ?_
            refine cV_use (w := w) (m := m1) rfl H ?_
            intro m2 H
            refine And.intro (Or.inr rfl) ?_
            exact rI_mk (w := w) (m := m2) H
          · replace H := H.2 (Classical.not_not.mp q)
            refine And.intro (Or.inl rfl) ?_
            exact rI_mk (w := w) (m := m1) H
        · replace H := H.2 (Classical.not_not.mp q)
          refine And.intro (rfl) ?_
          refine cI_use (w := w) (m := m) rfl H ?_
          intro v3 m3 H
          refine And.intro (And.intro (rfl) (by decide : ¬ 262 = 0)) ?_
          refine And.intro (And.intro (rfl) H.1) ?_
          replace H := H.2
          refine And.intro (fun q => ?_) (fun q => ?_)
          · replace H := H.1 q
            refine And.intro (Or.inl rfl) ?_
            exact rI_mk (w := w) (m := (zL m3 262 ((1069 : Int32)).toNatClampNeg (v3).toInt64)) H
          · replace H := H.2 q
            refine And.intro (Or.inr rfl) ?_
            exact rI_mk (w := w) (m := (zL m3 262 ((1069 : Int32)).toNatClampNeg (v3).toInt64)) H
      · replace H := H.2 (Classical.not_not.mp q)
        refine And.intro (rfl) ?_
        refine cI_use (w := w) (m := m) rfl H ?_
        intro v4 m4 H
        refine And.intro H.1 ?_
        replace H := H.2
        exact rI_mk (w := w) (m := m4) H
    · replace H := H.2 (Classical.not_not.mp q)
      refine And.intro (rfl) ?_
      refine cI_use (w := w) (m := m) rfl H ?_
      intro v5 m5 H
      refine And.intro H.1 ?_
      replace H := H.2
      exact rI_mk (w := w) (m := m5) H
  · replace H := H.2 (Classical.not_not.mp q)
    refine And.intro (rfl) ?_
    refine cI_use (w := w) (m := m) rfl H ?_
    intro v6 m6 H
    refine And.intro H.1 ?_
    replace H := H.2
    exact rI_mk (w := w) (m := m6) H

def W_M_tries_4 (d : Nat) (l1 : Int32) (w : Nat × Nat × Nat) (m : zM) (Q : zM → Prop) : Prop := mm_W (d + 1) 219 4 [some (.ref 261), some (.int l1)] [] (zE w m) (rV w Q)
theorem S_M_tries  {d : Nat} {w : Nat × Nat × Nat} {m : zM} {Q : zM → Prop} (H : cV d 200 [.ref 261] w m (fun m1 => W_M_tries_4 d (0 : Int32) w m1 Q)) : cV (d + 1) 219 [.ref 261] w m Q := by
  refine cV_in rfl ?_
  refine mm_yrun (is := mm_k219) [4] 400 rfl ?_
  refine And.intro (rfl) ?_
  refine cV_use (w := w) (m := m) rfl H ?_
  intro m1 H
  exact H
theorem S_M_tries_4 {l1 : Int32} {d : Nat} {w : Nat × Nat × Nat} {m : zM} {Q : zM → Prop} (H : (((1906 : Int32) ≤ l1 → Q m) ∧ (¬ (1906 : Int32) ≤ l1 → vp_in l1 1906 ∧ (vp_in l1 1906 ∧ (W_M_tries_4 d (l1 + (1 : Int32)) w (zL m 264 (l1).toNatClampNeg (m.2 262 (l1).toNatClampNeg)) Q))))) : W_M_tries_4 d l1 w m Q := by
  refine mm_yrun (is := mm_k219) [4] 400 rfl ?_
  refine And.intro (fun q => ?_) (fun q => ?_)
  · replace H := H.1 q
    exact rV_mk (w := w) (m := m) H
  · replace H := H.2 q
    refine And.intro (And.intro (rfl) (by decide : ¬ 264 = 0)) ?_
    refine And.intro (And.intro (rfl) (by decide : ¬ 262 = 0)) ?_
    refine And.intro (And.intro (rfl) H.1) ?_
    replace H := H.2
    refine And.intro (And.intro (rfl) H.1) ?_
    replace H := H.2
    exact H

def W_M_ends_15 (d : Nat) (l1 : Int32) (l2 : Int32) (w : Nat × Nat × Nat) (m : zM) (Q : Int32 → zM → Prop) : Prop := ∀ o3 o4 : Option Value, mm_W (d + 1) 220 15 [some (.ref 261), some (.int l1), some (.int l2), o3, o4] [] (zE w m) (rI w Q)
def W_M_ends_42 (d : Nat) (l1 : Int32) (l2 : Int32) (w : Nat × Nat × Nat) (m : zM) (Q : Int32 → zM → Prop) : Prop := ∀ o3 o4 : Option Value, mm_W (d + 1) 220 42 [some (.ref 261), some (.int l1), some (.int l2), o3, o4] [] (zE w m) (rI w Q)
theorem S_M_ends {p0 : Int32} {d : Nat} {w : Nat × Nat × Nat} {m : zM} {Q : Int32 → zM → Prop} (H : ((p0 = 0 → W_M_ends_42 d p0 (0 : Int32) w (zI (zI (zI m 261 5 (0 : Int32)) 261 9 (m.1 261 7)) 261 10 (m.1 261 8)) Q) ∧ (¬ p0 = 0 → W_M_ends_15 d p0 (0 : Int32) w (zI (zI (zI m 261 5 (0 : Int32)) 261 9 (m.1 261 7)) 261 10 (m.1 261 8)) Q))) : cI (d + 1) 220 [.ref 261, .int p0] w m Q := by
  refine cI_in rfl ?_
  refine mm_yrun (is := mm_k220) [15, 42] 400 rfl ?_
  refine And.intro (rfl) ?_
  refine And.intro (rfl) ?_
  refine And.intro (rfl) ?_
  refine And.intro (rfl) ?_
  refine And.intro (rfl) ?_
  refine And.intro (fun q => ?_) (fun q => ?_)
  · replace H := H.1 q
    exact H _ _
  · replace H := H.2 q
    exact H _ _
theorem S_M_ends_15 {l1 : Int32} {l2 : Int32} {d : Nat} {w : Nat × Nat × Nat} {m : zM} {Q : Int32 → zM → Prop} (H : (((1906 : Int32) ≤ l2 → cV d 185 [.ref 261] w m (fun m1 => W_M_ends_42 d l1 (0 : Int32) w m1 Q)) ∧ (¬ (1906 : Int32) ≤ l2 → vp_in l2 1906 ∧ (vp_in l2 1906 ∧ (vp_in l2 1906 ∧ (vp_in l2 1906 ∧ (W_M_ends_15 d l1 (l2 + (1 : Int32)) w (zL (zL m 262 (l2).toNatClampNeg (m.2 264 (l2).toNatClampNeg)) 264 (l2).toNatClampNeg (m.2 262 (l2).toNatClampNeg)) Q))))))) : W_M_ends_15 d l1 l2 w m Q := by
  intro o3 o4
  refine mm_yrun (is := mm_k220) [15, 42] 400 rfl ?_
  refine And.intro (fun q => ?_) (fun q => ?_)
  · replace H := H.1 q
    refine And.intro (rfl) ?_
    refine cV_use (w := w) (m := m) rfl H ?_
    intro m1 H
    exact H _ _
  · replace H := H.2 q
    refine And.intro (And.intro (rfl) (by decide : ¬ 262 = 0)) ?_
    refine And.intro (And.intro (rfl) H.1) ?_
    replace H := H.2
    refine And.intro (And.intro (rfl) (by decide : ¬ 262 = 0)) ?_
    refine And.intro (And.intro (rfl) (by decide : ¬ 264 = 0)) ?_
    refine And.intro (And.intro (rfl) H.1) ?_
    replace H := H.2
    refine And.intro (And.intro (rfl) H.1) ?_
    replace H := H.2
    refine And.intro (And.intro (rfl) (by decide : ¬ 264 = 0)) ?_
    refine And.intro (And.intro (rfl) H.1) ?_
    replace H := H.2
    exact H _ _
theorem S_M_ends_42 {l1 : Int32} {l2 : Int32} {d : Nat} {w : Nat × Nat × Nat} {m : zM} {Q : Int32 → zM → Prop} (H : (((1906 : Int32) ≤ l2 → (l1 = 0 ∨ l1 = 1) ∧ (Q l1 m)) ∧ (¬ (1906 : Int32) ≤ l2 → vp_in l2 1906 ∧ (vp_in l2 1906 ∧ (W_M_ends_42 d l1 (l2 + (1 : Int32)) w (zL m 262 (l2).toNatClampNeg (m.2 264 (l2).toNatClampNeg)) Q))))) : W_M_ends_42 d l1 l2 w m Q := by
  intro o3 o4
  refine mm_yrun (is := mm_k220) [15, 42] 400 rfl ?_
  refine And.intro (fun q => ?_) (fun q => ?_)
  · replace H := H.1 q
    refine And.intro H.1 ?_
    replace H := H.2
    exact rI_mk (w := w) (m := m) H
  · replace H := H.2 q
    refine And.intro (And.intro (rfl) (by decide : ¬ 262 = 0)) ?_
    refine And.intro (And.intro (rfl) (by decide : ¬ 264 = 0)) ?_
    refine And.intro (And.intro (rfl) H.1) ?_
    replace H := H.2
    refine And.intro (And.intro (rfl) H.1) ?_
    replace H := H.2
    exact H _ _

theorem S_M_refuses  {d : Nat} {w : Nat × Nat × Nat} {m : zM} {Q : Int32 → zM → Prop} (H : Q ((-2) : Int32) (zI (zI (zI m 261 5 (0 : Int32)) 261 9 (0 : Int32)) 261 10 ((-1) : Int32))) : cI d 221 [.ref 261] w m Q := by
  refine cI_in rfl ?_
  refine mm_yrun (is := mm_k221) [] 400 rfl ?_
  refine And.intro (rfl) ?_
  refine And.intro (rfl) ?_
  refine And.intro (rfl) ?_
  exact rI_mk (w := w) (m := (zI (zI (zI m 261 5 (0 : Int32)) 261 9 (0 : Int32)) 261 10 ((-1) : Int32))) H

theorem S_M_text {p0 : Int32} {d : Nat} {w : Nat × Nat × Nat} {m : zM} {Q : Int32 → zM → Prop} (H : cI d 181 [.long (p0).toInt64, .long (0 : Int64), .long (4 : Int64)] w m (fun v1 m1 => ((¬ v1 = 0 → cV d 219 [.ref 261] w m1 (fun m2 => cI d 218 [.ref 261, .int p0] w m2 (fun v3 m3 => cI d 220 [.ref 261, .int v3] w m3 (fun v4 m4 => ((¬ v4 = 0 → ((¬ p0 = 0 → ((¬ p0 = (1 : Int32) → ((¬ p0 = (2 : Int32) → ((¬ p0 = (3 : Int32) → vp_in (1870 : Int32) 1906 ∧ (Q ((m4.2 262 ((1870 : Int32)).toNatClampNeg)).toInt32 m4)) ∧ (p0 = (3 : Int32) → vp_in (1069 : Int32) 1906 ∧ (Q ((m4.2 262 ((1069 : Int32)).toNatClampNeg)).toInt32 m4)))) ∧ (p0 = (2 : Int32) → vp_in (178 : Int32) 1906 ∧ (Q ((m4.2 262 ((178 : Int32)).toNatClampNeg)).toInt32 m4)))) ∧ (p0 = (1 : Int32) → vp_in (161 : Int32) 1906 ∧ (Q ((m4.2 262 ((161 : Int32)).toNatClampNeg)).toInt32 m4)))) ∧ (p0 = 0 → vp_in (0 : Int32) 1906 ∧ (Q ((m4.2 262 ((0 : Int32)).toNatClampNeg)).toInt32 m4)))) ∧ (v4 = 0 → Q ((-1) : Int32) m4)))))) ∧ (v1 = 0 → cI d 221 [.ref 261] w m1 (fun v5 m5 => Q v5 m5))))) : cI (d + 1) 222 [.ref 261, .int p0] w m Q := by
  refine cI_in rfl ?_
  refine mm_yrun (is := mm_k222) [] 400 rfl ?_
  refine And.intro (trivial) ?_
  refine cI_use (w := w) (m := m) rfl H ?_
  intro v1 m1 H
  refine And.intro (fun q => ?_) (fun q => ?_)
  · replace H := H.1 q
    refine And.intro (rfl) ?_
    refine cV_use (w := w) (m := m1) rfl H ?_
    intro m2 H
    refine And.intro (rfl) ?_
    refine cI_use (w := w) (m := m2) rfl H ?_
    intro v3 m3 H
    refine And.intro (rfl) ?_
    refine cI_use (w := w) (m := m3) rfl H ?_
    intro v4 m4 H
    refine And.intro (fun q => ?_) (fun q => ?_)
    · replace H := H.1 q
      refine And.intro (And.intro (rfl) (by decide : ¬ 262 = 0)) ?_
      refine And.intro (fun q => ?_) (fun q => ?_)
      · replace H := H.1 q
        refine And.intro (fun q => ?_) (fun q => ?_)
        · replace H := H.1 q
          refine And.intro (fun q => ?_) (fun q => ?_)
          · replace H := H.1 q
            refine And.intro (fun q => ?_) (fun q => ?_)
            · replace H := H.1 q
              refine And.intro (And.intro (rfl) H.1) ?_
              replace H := H.2
              exact rI_mk (w := w) (m := m4) H
            · replace H := H.2 (Classical.not_not.mp q)
              refine And.intro (And.intro (rfl) H.1) ?_
              replace H := H.2
              exact rI_mk (w := w) (m := m4) H
          · replace H := H.2 (Classical.not_not.mp q)
            refine And.intro (And.intro (rfl) H.1) ?_
            replace H := H.2
            exact rI_mk (w := w) (m := m4) H
        · replace H := H.2 (Classical.not_not.mp q)
          refine And.intro (And.intro (rfl) H.1) ?_
          replace H := H.2
          exact rI_mk (w := w) (m := m4) H
      · replace H := H.2 (Classical.not_not.mp q)
        refine And.intro (And.intro (rfl) H.1) ?_
        replace H := H.2
        exact rI_mk (w := w) (m := m4) H
    · replace H := H.2 (Classical.not_not.mp q)
      exact rI_mk (w := w) (m := m4) H
  · replace H := H.2 (Classical.not_not.mp q)
    refine And.intro (rfl) ?_
    refine cI_use (w := w) (m := m1) rfl H ?_
    intro v5 m5 H
    exact rI_mk (w := w) (m := m5) H

theorem S_M_wordsOf  {d : Nat} {w : Nat × Nat × Nat} {m : zM} {Q : Int32 → zM → Prop} (H : vp_in (259 : Int32) 1906 ∧ (vp_in ((260 : Int32) + ((m.2 262 ((259 : Int32)).toNatClampNeg)).toInt32) 1906 ∧ (Q ((m.2 262 (((260 : Int32) + ((m.2 262 ((259 : Int32)).toNatClampNeg)).toInt32)).toNatClampNeg)).toInt32 m))) : cI d 223 [.ref 261] w m Q := by
  refine cI_in rfl ?_
  refine mm_yrun (is := mm_k223) [] 400 rfl ?_
  refine And.intro (And.intro (rfl) (by decide : ¬ 262 = 0)) ?_
  refine And.intro (And.intro (rfl) (by decide : ¬ 262 = 0)) ?_
  refine And.intro (And.intro (rfl) H.1) ?_
  replace H := H.2
  refine And.intro (And.intro (rfl) H.1) ?_
  replace H := H.2
  exact rI_mk (w := w) (m := m) H

theorem S_M_doc  {d : Nat} {w : Nat × Nat × Nat} {m : zM} {Q : Int32 → zM → Prop} (H : vp_in (259 : Int32) 1906 ∧ (((¬ (m.2 262 ((259 : Int32)).toNatClampNeg) = (8 : Int64) → cV d 219 [.ref 261] w m (fun m1 => cI d 223 [.ref 261] w m1 (fun v2 m2 => cI d 209 [.ref 261, .int (269 : Int32), .int (669 : Int32), .int v2] w m2 (fun v3 m3 => vp_in (259 : Int32) 1906 ∧ (vp_in (259 : Int32) 1906 ∧ (vp_in (259 : Int32) 1906 ∧ (vp_in ((260 : Int32) + (((zL m3 262 ((259 : Int32)).toNatClampNeg ((m3.2 262 ((259 : Int32)).toNatClampNeg) + (1 : Int64))).2 262 ((259 : Int32)).toNatClampNeg)).toInt32) 1906 ∧ (((v3 = ((-1) : Int32) → cI d 220 [.ref 261, .int (0 : Int32)] w (zL (zL m3 262 ((259 : Int32)).toNatClampNeg ((m3.2 262 ((259 : Int32)).toNatClampNeg) + (1 : Int64))) 262 (((260 : Int32) + (((zL m3 262 ((259 : Int32)).toNatClampNeg ((m3.2 262 ((259 : Int32)).toNatClampNeg) + (1 : Int64))).2 262 ((259 : Int32)).toNatClampNeg)).toInt32)).toNatClampNeg (v3).toInt64) (fun v4 m4 => ((¬ v4 = 0 → vp_in (259 : Int32) 1906 ∧ (Q (((m4.2 262 ((259 : Int32)).toNatClampNeg)).toInt32 - (1 : Int32)) m4)) ∧ (v4 = 0 → Q ((-1) : Int32) m4)))) ∧ (¬ v3 = ((-1) : Int32) → cI d 220 [.ref 261, .int (1 : Int32)] w (zL (zL m3 262 ((259 : Int32)).toNatClampNeg ((m3.2 262 ((259 : Int32)).toNatClampNeg) + (1 : Int64))) 262 (((260 : Int32) + (((zL m3 262 ((259 : Int32)).toNatClampNeg ((m3.2 262 ((259 : Int32)).toNatClampNeg) + (1 : Int64))).2 262 ((259 : Int32)).toNatClampNeg)).toInt32)).toNatClampNeg (v3).toInt64) (fun v5 m5 => ((¬ v5 = 0 → vp_in (259 : Int32) 1906 ∧ (Q (((m5.2 262 ((259 : Int32)).toNatClampNeg)).toInt32 - (1 : Int32)) m5)) ∧ (v5 = 0 → Q ((-1) : Int32) m5))))))))))))) ∧ ((m.2 262 ((259 : Int32)).toNatClampNeg) = (8 : Int64) → cI d 221 [.ref 261] w m (fun v6 m6 => Q v6 m6))))) : cI (d + 1) 224 [.ref 261] w m Q := by
  refine cI_in rfl ?_
  refine mm_yrun (is := mm_k224) [] 400 rfl ?_
  refine And.intro (And.intro (rfl) (by decide : ¬ 262 = 0)) ?_
  refine And.intro (And.intro (rfl) H.1) ?_
  replace H := H.2
  refine And.intro (fun q => ?_) (fun q => ?_)
  · replace H := H.1 q
    refine And.intro (rfl) ?_
    refine cV_use (w := w) (m := m) rfl H ?_
    intro m1 H
    refine And.intro (rfl) ?_
    refine cI_use (w := w) (m := m1) rfl H ?_
    intro v2 m2 H
    refine And.intro (rfl) ?_
    refine cI_use (w := w) (m := m2) rfl H ?_
    intro v3 m3 H
    refine And.intro (And.intro (rfl) (by decide : ¬ 262 = 0)) ?_
    refine And.intro (And.intro (rfl) H.1) ?_
    replace H := H.2
    refine And.intro (And.intro (rfl) H.1) ?_
    replace H := H.2
    refine And.intro (And.intro (rfl) (by decide : ¬ 262 = 0)) ?_
    refine And.intro (And.intro (rfl) (by decide : ¬ 262 = 0)) ?_
    refine And.intro (And.intro (rfl) H.1) ?_
    replace H := H.2
    refine And.intro (And.intro (rfl) H.1) ?_
    replace H := H.2
    refine And.intro (fun q => ?_) (fun q => ?_)
    · replace H := H.1 q
      refine And.intro (rfl) ?_
      refine cI_use (w := w) (m := (zL (zL m3 262 ((259 : Int32)).toNatClampNeg ((m3.2 262 ((259 : Int32)).toNatClampNeg) + (1 : Int64))) 262 (((260 : Int32) + (((zL m3 262 ((259 : Int32)).toNatClampNeg ((m3.2 262 ((259 : Int32)).toNatClampNeg) + (1 : Int64))).2 262 ((259 : Int32)).toNatClampNeg)).toInt32)).toNatClampNeg (v3).toInt64)) rfl H ?_
      intro v4 m4 H
      refine And.intro (fun q => ?_) (fun q => ?_)
      · replace H := H.1 q
        refine And.intro (And.intro (rfl) (by decide : ¬ 262 = 0)) ?_
        refine And.intro (And.intro (rfl) H.1) ?_
        replace H := H.2
        exact rI_mk (w := w) (m := m4) H
      · replace H := H.2 (Classical.not_not.mp q)
        exact rI_mk (w := w) (m := m4) H
    · replace H := H.2 q
      refine And.intro (rfl) ?_
      refine cI_use (w := w) (m := (zL (zL m3 262 ((259 : Int32)).toNatClampNeg ((m3.2 262 ((259 : Int32)).toNatClampNeg) + (1 : Int64))) 262 (((260 : Int32) + (((zL m3 262 ((259 : Int32)).toNatClampNeg ((m3.2 262 ((259 : Int32)).toNatClampNeg) + (1 : Int64))).2 262 ((259 : Int32)).toNatClampNeg)).toInt32)).toNatClampNeg (v3).toInt64)) rfl H ?_
      intro v5 m5 H
      refine And.intro (fun q => ?_) (fun q => ?_)
      · replace H := H.1 q
        refine And.intro (And.intro (rfl) (by decide : ¬ 262 = 0)) ?_
        refine And.intro (And.intro (rfl) H.1) ?_
        replace H := H.2
        exact rI_mk (w := w) (m := m5) H
      · replace H := H.2 (Classical.not_not.mp q)
        exact rI_mk (w := w) (m := m5) H
  · replace H := H.2 (Classical.not_not.mp q)
    refine And.intro (rfl) ?_
    refine cI_use (w := w) (m := m) rfl H ?_
    intro v6 m6 H
    exact rI_mk (w := w) (m := m6) H

theorem S_M_isDoc {p0 : Int32} {d : Nat} {w : Nat × Nat × Nat} {m : zM} {Q : Int32 → zM → Prop} (H : vp_in (259 : Int32) 1906 ∧ (cI d 181 [.long (p0).toInt64, .long (0 : Int64), .long ((m.2 262 ((259 : Int32)).toNatClampNeg) - (1 : Int64))] w m (fun v1 m1 => (v1 = 0 ∨ v1 = 1) ∧ (Q v1 m1)))) : cI (d + 1) 225 [.ref 261, .int p0] w m Q := by
  refine cI_in rfl ?_
  refine mm_yrun (is := mm_k225) [] 400 rfl ?_
  refine And.intro (And.intro (rfl) (by decide : ¬ 262 = 0)) ?_
  refine And.intro (And.intro (rfl) H.1) ?_
  replace H := H.2
  refine And.intro (trivial) ?_
  refine cI_use (w := w) (m := m) rfl H ?_
  intro v1 m1 H
  refine And.intro H.1 ?_
  replace H := H.2
  exact rI_mk (w := w) (m := m1) H

def W_M_drop_33 (d : Nat) (l1 : Int32) (l3 : Int32) (l4 : Int32) (l5 : Int32) (w : Nat × Nat × Nat) (m : zM) (Q : Int32 → zM → Prop) : Prop := ∀ o2 : Option Value, mm_W (d + 1) 226 33 [some (.ref 261), some (.int l1), o2, some (.int l3), some (.int l4), some (.int l5)] [] (zE w m) (rI w Q)
def W_M_drop_70 (d : Nat) (l3 : Int32) (l5 : Int32) (w : Nat × Nat × Nat) (m : zM) (Q : Int32 → zM → Prop) : Prop := ∀ o1 o2 o4 : Option Value, mm_W (d + 1) 226 70 [some (.ref 261), o1, o2, some (.int l3), o4, some (.int l5)] [] (zE w m) (rI w Q)
theorem S_M_drop {p0 : Int32} {d : Nat} {w : Nat × Nat × Nat} {m : zM} {Q : Int32 → zM → Prop} (H : cI d 225 [.ref 261, .int p0] w m (fun v1 m1 => ((¬ v1 = 0 → cV d 185 [.ref 261] w m1 (fun m2 => vp_in ((260 : Int32) + p0) 1906 ∧ (vp_in (((260 : Int32) + p0) + (1 : Int32)) 1906 ∧ (cI d 223 [.ref 261] w m2 (fun v3 m3 => W_M_drop_33 d p0 (((m2.2 262 ((((260 : Int32) + p0) + (1 : Int32))).toNatClampNeg)).toInt32 - ((m2.2 262 (((260 : Int32) + p0)).toNatClampNeg)).toInt32) v3 ((m2.2 262 (((260 : Int32) + p0)).toNatClampNeg)).toInt32 w m3 Q))))) ∧ (v1 = 0 → Q ((-1) : Int32) m1)))) : cI (d + 1) 226 [.ref 261, .int p0] w m Q := by
  refine cI_in rfl ?_
  refine mm_yrun (is := mm_k226) [33, 70] 400 rfl ?_
  refine And.intro (rfl) ?_
  refine cI_use (w := w) (m := m) rfl H ?_
  intro v1 m1 H
  refine And.intro (fun q => ?_) (fun q => ?_)
  · replace H := H.1 q
    refine And.intro (rfl) ?_
    refine cV_use (w := w) (m := m1) rfl H ?_
    intro m2 H
    refine And.intro (And.intro (rfl) (by decide : ¬ 262 = 0)) ?_
    refine And.intro (And.intro (rfl) H.1) ?_
    replace H := H.2
    refine And.intro (And.intro (rfl) (by decide : ¬ 262 = 0)) ?_
    refine And.intro (And.intro (rfl) H.1) ?_
    replace H := H.2
    refine And.intro (rfl) ?_
    refine cI_use (w := w) (m := m2) rfl H ?_
    intro v3 m3 H
    exact H _
  · replace H := H.2 (Classical.not_not.mp q)
    exact rI_mk (w := w) (m := m1) H
theorem S_M_drop_33 {l1 : Int32} {l3 : Int32} {l4 : Int32} {l5 : Int32} {d : Nat} {w : Nat × Nat × Nat} {m : zM} {Q : Int32 → zM → Prop} (H : ((l4 ≤ (l5 + l3) → W_M_drop_70 d l3 l1 w m Q) ∧ (¬ l4 ≤ (l5 + l3) → vp_in (((269 : Int32) + l5) + l3) 1906 ∧ (vp_in ((269 : Int32) + l5) 1906 ∧ (vp_in (((669 : Int32) + l5) + l3) 1906 ∧ (vp_in ((669 : Int32) + l5) 1906 ∧ (W_M_drop_33 d l1 l3 l4 (l5 + (1 : Int32)) w (zL (zL m 262 (((269 : Int32) + l5)).toNatClampNeg (m.2 262 ((((269 : Int32) + l5) + l3)).toNatClampNeg)) 262 (((669 : Int32) + l5)).toNatClampNeg ((zL m 262 (((269 : Int32) + l5)).toNatClampNeg (m.2 262 ((((269 : Int32) + l5) + l3)).toNatClampNeg)).2 262 ((((669 : Int32) + l5) + l3)).toNatClampNeg)) Q))))))) : W_M_drop_33 d l1 l3 l4 l5 w m Q := by
  intro o2
  refine mm_yrun (is := mm_k226) [33, 70] 400 rfl ?_
  refine And.intro (fun q => ?_) (fun q => ?_)
  · replace H := H.1 q
    exact H _ _ _
  · replace H := H.2 q
    refine And.intro (And.intro (rfl) (by decide : ¬ 262 = 0)) ?_
    refine And.intro (And.intro (rfl) (by decide : ¬ 262 = 0)) ?_
    refine And.intro (And.intro (rfl) H.1) ?_
    replace H := H.2
    refine And.intro (And.intro (rfl) H.1) ?_
    replace H := H.2
    refine And.intro (And.intro (rfl) (by decide : ¬ 262 = 0)) ?_
    refine And.intro (And.intro (rfl) (by decide : ¬ 262 = 0)) ?_
    refine And.intro (And.intro (rfl) H.1) ?_
    replace H := H.2
    refine And.intro (And.intro (rfl) H.1) ?_
    replace H := H.2
    exact H _
theorem S_M_drop_70 {l3 : Int32} {l5 : Int32} {d : Nat} {w : Nat × Nat × Nat} {m : zM} {Q : Int32 → zM → Prop} (H : vp_in (259 : Int32) 1906 ∧ ((((m.2 262 ((259 : Int32)).toNatClampNeg) ≤ (l5).toInt64 → vp_in (259 : Int32) 1906 ∧ (vp_in (259 : Int32) 1906 ∧ (vp_in (259 : Int32) 1906 ∧ (Q (((zL m 262 ((259 : Int32)).toNatClampNeg ((m.2 262 ((259 : Int32)).toNatClampNeg) - (1 : Int64))).2 262 ((259 : Int32)).toNatClampNeg)).toInt32 (zL m 262 ((259 : Int32)).toNatClampNeg ((m.2 262 ((259 : Int32)).toNatClampNeg) - (1 : Int64))))))) ∧ (¬ (m.2 262 ((259 : Int32)).toNatClampNeg) ≤ (l5).toInt64 → vp_in (259 : Int32) 1906 ∧ ((((m.2 262 ((259 : Int32)).toNatClampNeg) < ((l5 + (1 : Int32))).toInt64 → vp_in ((260 : Int32) + l5) 1906 ∧ (W_M_drop_70 d l3 (l5 + (1 : Int32)) w (zL m 262 (((260 : Int32) + l5)).toNatClampNeg (0 : Int64)) Q)) ∧ (¬ (m.2 262 ((259 : Int32)).toNatClampNeg) < ((l5 + (1 : Int32))).toInt64 → vp_in (((260 : Int32) + l5) + (1 : Int32)) 1906 ∧ (vp_in ((260 : Int32) + l5) 1906 ∧ (W_M_drop_70 d l3 (l5 + (1 : Int32)) w (zL m 262 (((260 : Int32) + l5)).toNatClampNeg ((m.2 262 ((((260 : Int32) + l5) + (1 : Int32))).toNatClampNeg) - (l3).toInt64)) Q))))))))) : W_M_drop_70 d l3 l5 w m Q := by
  intro o1 o2 o4
  refine mm_yrun (is := mm_k226) [33, 70] 400 rfl ?_
  refine And.intro (And.intro (rfl) (by decide : ¬ 262 = 0)) ?_
  refine And.intro (And.intro (rfl) H.1) ?_
  replace H := H.2
  refine And.intro (fun q => ?_) (fun q => ?_)
  · replace H := H.1 q
    refine And.intro (And.intro (rfl) (by decide : ¬ 262 = 0)) ?_
    refine And.intro (And.intro (rfl) H.1) ?_
    replace H := H.2
    refine And.intro (And.intro (rfl) H.1) ?_
    replace H := H.2
    refine And.intro (And.intro (rfl) (by decide : ¬ 262 = 0)) ?_
    refine And.intro (And.intro (rfl) H.1) ?_
    replace H := H.2
    exact rI_mk (w := w) (m := (zL m 262 ((259 : Int32)).toNatClampNeg ((m.2 262 ((259 : Int32)).toNatClampNeg) - (1 : Int64)))) H
  · replace H := H.2 q
    refine And.intro (And.intro (rfl) (by decide : ¬ 262 = 0)) ?_
    refine And.intro (And.intro (rfl) (by decide : ¬ 262 = 0)) ?_
    refine And.intro (And.intro (rfl) H.1) ?_
    replace H := H.2
    refine And.intro (fun q => ?_) (fun q => ?_)
    · replace H := H.1 q
      refine And.intro (And.intro (rfl) H.1) ?_
      replace H := H.2
      exact H _ _ _
    · replace H := H.2 q
      refine And.intro (And.intro (rfl) (by decide : ¬ 262 = 0)) ?_
      refine And.intro (And.intro (rfl) H.1) ?_
      replace H := H.2
      refine And.intro (And.intro (rfl) H.1) ?_
      replace H := H.2
      exact H _ _ _

theorem S_M_fault {p0 : Int32} {d : Nat} {w : Nat × Nat × Nat} {m : zM} {Q : Int32 → zM → Prop} (H : ((¬ p0 = 0 → ((¬ p0 = (1 : Int32) → Q ((-1) : Int32) m) ∧ (p0 = (1 : Int32) → Q (m.1 261 10) m))) ∧ (p0 = 0 → Q (m.1 261 9) m))) : cI d 227 [.ref 261, .int p0] w m Q := by
  refine cI_in rfl ?_
  refine mm_yrun (is := mm_k227) [] 400 rfl ?_
  refine And.intro (fun q => ?_) (fun q => ?_)
  · replace H := H.1 q
    refine And.intro (fun q => ?_) (fun q => ?_)
    · replace H := H.1 q
      exact rI_mk (w := w) (m := m) H
    · replace H := H.2 (Classical.not_not.mp q)
      refine And.intro (rfl) ?_
      exact rI_mk (w := w) (m := m) H
  · replace H := H.2 (Classical.not_not.mp q)
    refine And.intro (rfl) ?_
    exact rI_mk (w := w) (m := m) H

theorem S_M_lengths {p0 : Int32} {p1 : Int32} {d : Nat} {w : Nat × Nat × Nat} {m : zM} {Q : Int32 → zM → Prop} (H : cI d 181 [.long (p0).toInt64, .long (1 : Int64), .long (5 : Int64)] w m (fun v1 m1 => ((v1 = 0 → Q (0 : Int32) m1) ∧ (¬ v1 = 0 → cI d 181 [.long (p1).toInt64, .long (p0).toInt64, .long (5 : Int64)] w m1 (fun v2 m2 => ((v2 = 0 → Q (0 : Int32) m2) ∧ (¬ v2 = 0 → vp_in (1898 : Int32) 1906 ∧ (((¬ (m2.2 262 ((1898 : Int32)).toNatClampNeg) = (p0).toInt64 → cV d 185 [.ref 261] w m2 (fun m3 => vp_in (1898 : Int32) 1906 ∧ (vp_in (1899 : Int32) 1906 ∧ (Q (1 : Int32) (zL (zL m3 262 ((1898 : Int32)).toNatClampNeg (p0).toInt64) 262 ((1899 : Int32)).toNatClampNeg (p1).toInt64))))) ∧ ((m2.2 262 ((1898 : Int32)).toNatClampNeg) = (p0).toInt64 → vp_in (1899 : Int32) 1906 ∧ (((¬ (m2.2 262 ((1899 : Int32)).toNatClampNeg) = (p1).toInt64 → cV d 185 [.ref 261] w m2 (fun m4 => vp_in (1898 : Int32) 1906 ∧ (vp_in (1899 : Int32) 1906 ∧ (Q (1 : Int32) (zL (zL m4 262 ((1898 : Int32)).toNatClampNeg (p0).toInt64) 262 ((1899 : Int32)).toNatClampNeg (p1).toInt64))))) ∧ ((m2.2 262 ((1899 : Int32)).toNatClampNeg) = (p1).toInt64 → Q (0 : Int32) m2))))))))))))) : cI (d + 1) 228 [.ref 261, .int p0, .int p1] w m Q := by
  refine cI_in rfl ?_
  refine mm_yrun (is := mm_k228) [] 400 rfl ?_
  refine And.intro (trivial) ?_
  refine cI_use (w := w) (m := m) rfl H ?_
  intro v1 m1 H
  refine And.intro (fun q => ?_) (fun q => ?_)
  · replace H := H.1 q
    refine And.intro (Or.inl rfl) ?_
    exact rI_mk (w := w) (m := m1) H
  · replace H := H.2 q
    refine And.intro (trivial) ?_
    refine cI_use (w := w) (m := m1) rfl H ?_
    intro v2 m2 H
    refine And.intro (fun q => ?_) (fun q => ?_)
    · replace H := H.1 q
      refine And.intro (Or.inl rfl) ?_
      exact rI_mk (w := w) (m := m2) H
    · replace H := H.2 q
      refine And.intro (And.intro (rfl) (by decide : ¬ 262 = 0)) ?_
      refine And.intro (And.intro (rfl) H.1) ?_
      replace H := H.2
      refine And.intro (fun q => ?_) (fun q => ?_)
      · replace H := H.1 q
        refine And.intro (rfl) ?_
        refine cV_use (w := w) (m := m2) rfl H ?_
        intro m3 H
        refine And.intro (And.intro (rfl) (by decide : ¬ 262 = 0)) ?_
        refine And.intro (And.intro (rfl) H.1) ?_
        replace H := H.2
        refine And.intro (And.intro (rfl) (by decide : ¬ 262 = 0)) ?_
        refine And.intro (And.intro (rfl) H.1) ?_
        replace H := H.2
        refine And.intro (Or.inr rfl) ?_
        exact rI_mk (w := w) (m := (zL (zL m3 262 ((1898 : Int32)).toNatClampNeg (p0).toInt64) 262 ((1899 : Int32)).toNatClampNeg (p1).toInt64)) H
      · replace H := H.2 (Classical.not_not.mp q)
        refine And.intro (And.intro (rfl) (by decide : ¬ 262 = 0)) ?_
        refine And.intro (And.intro (rfl) H.1) ?_
        replace H := H.2
        refine And.intro (fun q => ?_) (fun q => ?_)
        · replace H := H.1 q
          refine And.intro (rfl) ?_
          refine cV_use (w := w) (m := m2) rfl H ?_
          intro m4 H
          refine And.intro (And.intro (rfl) (by decide : ¬ 262 = 0)) ?_
          refine And.intro (And.intro (rfl) H.1) ?_
          replace H := H.2
          refine And.intro (And.intro (rfl) (by decide : ¬ 262 = 0)) ?_
          refine And.intro (And.intro (rfl) H.1) ?_
          replace H := H.2
          refine And.intro (Or.inr rfl) ?_
          exact rI_mk (w := w) (m := (zL (zL m4 262 ((1898 : Int32)).toNatClampNeg (p0).toInt64) 262 ((1899 : Int32)).toNatClampNeg (p1).toInt64)) H
        · replace H := H.2 (Classical.not_not.mp q)
          refine And.intro (Or.inl rfl) ?_
          exact rI_mk (w := w) (m := m2) H

theorem S_M_weight {p0 : Int32} {p1 : Int32} {d : Nat} {w : Nat × Nat × Nat} {m : zM} {Q : Int32 → zM → Prop} (H : cI d 181 [.long (p0).toInt64, .long (1 : Int64), .long (5 : Int64)] w m (fun v1 m1 => ((v1 = 0 → Q (0 : Int32) m1) ∧ (¬ v1 = 0 → cI d 181 [.long (p1).toInt64, .long (0 : Int64), .long (9 : Int64)] w m1 (fun v2 m2 => ((v2 = 0 → Q (0 : Int32) m2) ∧ (¬ v2 = 0 → vp_in ((1900 : Int32) + p0) 1906 ∧ (((¬ (m2.2 262 (((1900 : Int32) + p0)).toNatClampNeg) = (p1).toInt64 → cV d 185 [.ref 261] w m2 (fun m3 => vp_in ((1900 : Int32) + p0) 1906 ∧ (Q (1 : Int32) (zL m3 262 (((1900 : Int32) + p0)).toNatClampNeg (p1).toInt64)))) ∧ ((m2.2 262 (((1900 : Int32) + p0)).toNatClampNeg) = (p1).toInt64 → Q (0 : Int32) m2)))))))))) : cI (d + 1) 229 [.ref 261, .int p0, .int p1] w m Q := by
  refine cI_in rfl ?_
  refine mm_yrun (is := mm_k229) [] 400 rfl ?_
  refine And.intro (trivial) ?_
  refine cI_use (w := w) (m := m) rfl H ?_
  intro v1 m1 H
  refine And.intro (fun q => ?_) (fun q => ?_)
  · replace H := H.1 q
    refine And.intro (Or.inl rfl) ?_
    exact rI_mk (w := w) (m := m1) H
  · replace H := H.2 q
    refine And.intro (trivial) ?_
    refine cI_use (w := w) (m := m1) rfl H ?_
    intro v2 m2 H
    refine And.intro (fun q => ?_) (fun q => ?_)
    · replace H := H.1 q
      refine And.intro (Or.inl rfl) ?_
      exact rI_mk (w := w) (m := m2) H
    · replace H := H.2 q
      refine And.intro (And.intro (rfl) (by decide : ¬ 262 = 0)) ?_
      refine And.intro (And.intro (rfl) H.1) ?_
      replace H := H.2
      refine And.intro (fun q => ?_) (fun q => ?_)
      · replace H := H.1 q
        refine And.intro (rfl) ?_
        refine cV_use (w := w) (m := m2) rfl H ?_
        intro m3 H
        refine And.intro (And.intro (rfl) (by decide : ¬ 262 = 0)) ?_
        refine And.intro (And.intro (rfl) H.1) ?_
        replace H := H.2
        refine And.intro (Or.inr rfl) ?_
        exact rI_mk (w := w) (m := (zL m3 262 (((1900 : Int32) + p0)).toNatClampNeg (p1).toInt64)) H
      · replace H := H.2 (Classical.not_not.mp q)
        refine And.intro (Or.inl rfl) ?_
        exact rI_mk (w := w) (m := m2) H

theorem S_M_wide {p0 : Int32} {d : Nat} {w : Nat × Nat × Nat} {m : zM} {Q : Int32 → zM → Prop} (H : cI d 181 [.long (p0).toInt64, .long (0 : Int64), .long (3 : Int64)] w m (fun v1 m1 => ((v1 = 0 → Q (0 : Int32) m1) ∧ (¬ v1 = 0 → vp_in (1900 : Int32) 1906 ∧ (((¬ (m1.2 262 ((1900 : Int32)).toNatClampNeg) = (p0).toInt64 → cV d 185 [.ref 261] w m1 (fun m2 => vp_in (1900 : Int32) 1906 ∧ (Q (1 : Int32) (zL m2 262 ((1900 : Int32)).toNatClampNeg (p0).toInt64)))) ∧ ((m1.2 262 ((1900 : Int32)).toNatClampNeg) = (p0).toInt64 → Q (0 : Int32) m1))))))) : cI (d + 1) 230 [.ref 261, .int p0] w m Q := by
  refine cI_in rfl ?_
  refine mm_yrun (is := mm_k230) [] 400 rfl ?_
  refine And.intro (trivial) ?_
  refine cI_use (w := w) (m := m) rfl H ?_
  intro v1 m1 H
  refine And.intro (fun q => ?_) (fun q => ?_)
  · replace H := H.1 q
    refine And.intro (Or.inl rfl) ?_
    exact rI_mk (w := w) (m := m1) H
  · replace H := H.2 q
    refine And.intro (And.intro (rfl) (by decide : ¬ 262 = 0)) ?_
    refine And.intro (And.intro (rfl) H.1) ?_
    replace H := H.2
    refine And.intro (fun q => ?_) (fun q => ?_)
    · replace H := H.1 q
      refine And.intro (rfl) ?_
      refine cV_use (w := w) (m := m1) rfl H ?_
      intro m2 H
      refine And.intro (And.intro (rfl) (by decide : ¬ 262 = 0)) ?_
      refine And.intro (And.intro (rfl) H.1) ?_
      replace H := H.2
      refine And.intro (Or.inr rfl) ?_
      exact rI_mk (w := w) (m := (zL m2 262 ((1900 : Int32)).toNatClampNeg (p0).toInt64)) H
    · replace H := H.2 (Classical.not_not.mp q)
      refine And.intro (Or.inl rfl) ?_
      exact rI_mk (w := w) (m := m1) H

theorem S_M_isSentence {p0 : Int32} {p1 : Int32} {d : Nat} {w : Nat × Nat × Nat} {m : zM} {Q : Int32 → zM → Prop} (H : vp_in p0 400 ∧ (vp_in p1 400 ∧ (((¬ (m.1 270 (p0).toNatClampNeg) = (m.1 270 (p1).toNatClampNeg) → Q (0 : Int32) m) ∧ ((m.1 270 (p0).toNatClampNeg) = (m.1 270 (p1).toNatClampNeg) → vp_in ((669 : Int32) + p0) 1906 ∧ (vp_in ((669 : Int32) + p1) 1906 ∧ (((¬ (m.2 262 (((669 : Int32) + p0)).toNatClampNeg) = (m.2 262 (((669 : Int32) + p1)).toNatClampNeg) → Q (0 : Int32) m) ∧ ((m.2 262 (((669 : Int32) + p0)).toNatClampNeg) = (m.2 262 (((669 : Int32) + p1)).toNatClampNeg) → Q (1 : Int32) m))))))))) : cI d 231 [.ref 261, .int p0, .int p1] w m Q := by
  refine cI_in rfl ?_
  refine mm_yrun (is := mm_k231) [] 400 rfl ?_
  refine And.intro (And.intro (rfl) (by decide : ¬ 270 = 0)) ?_
  refine And.intro (And.intro (rfl) H.1) ?_
  replace H := H.2
  refine And.intro (And.intro (rfl) (by decide : ¬ 270 = 0)) ?_
  refine And.intro (And.intro (rfl) H.1) ?_
  replace H := H.2
  refine And.intro (fun q => ?_) (fun q => ?_)
  · replace H := H.1 q
    refine And.intro (Or.inl rfl) ?_
    exact rI_mk (w := w) (m := m) H
  · replace H := H.2 (Classical.not_not.mp q)
    refine And.intro (And.intro (rfl) (by decide : ¬ 262 = 0)) ?_
    refine And.intro (And.intro (rfl) H.1) ?_
    replace H := H.2
    refine And.intro (And.intro (rfl) (by decide : ¬ 262 = 0)) ?_
    refine And.intro (And.intro (rfl) H.1) ?_
    replace H := H.2
    refine And.intro (fun q => ?_) (fun q => ?_)
    · replace H := H.1 q
      refine And.intro (Or.inl rfl) ?_
      exact rI_mk (w := w) (m := m) H
    · replace H := H.2 (Classical.not_not.mp q)
      refine And.intro (Or.inr rfl) ?_
      exact rI_mk (w := w) (m := m) H

def W_M_isPattern_9 (d : Nat) (l1 : Int32) (l2 : Int32) (l3 : Int64) (l5 : Int64) (l7 : Int32) (w : Nat × Nat × Nat) (m : zM) (Q : Int32 → zM → Prop) : Prop := ∀ o8 : Option Value, mm_W (d + 1) 232 9 [some (.ref 261), some (.int l1), some (.int l2), some (.long l3), none, some (.long l5), none, some (.int l7), o8] [] (zE w m) (rI w Q)
def W_M_isPattern_16 (d : Nat) (l1 : Int32) (l2 : Int32) (l3 : Int64) (l5 : Int64) (l7 : Int32) (l8 : Int32) (w : Nat × Nat × Nat) (m : zM) (Q : Int32 → zM → Prop) : Prop := mm_W (d + 1) 232 16 [some (.ref 261), some (.int l1), some (.int l2), some (.long l3), none, some (.long l5), none, some (.int l7), some (.int l8)] [] (zE w m) (rI w Q)
def W_M_isPattern_61 (d : Nat) (l1 : Int32) (l2 : Int32) (l3 : Int64) (l5 : Int64) (l7 : Int32) (l8 : Int32) (w : Nat × Nat × Nat) (m : zM) (Q : Int32 → zM → Prop) : Prop := mm_W (d + 1) 232 61 [some (.ref 261), some (.int l1), some (.int l2), some (.long l3), none, some (.long l5), none, some (.int l7), some (.int l8)] [] (zE w m) (rI w Q)
theorem S_M_isPattern {p0 : Int32} {p1 : Int32} {d : Nat} {w : Nat × Nat × Nat} {m : zM} {Q : Int32 → zM → Prop} (H : vp_in (1895 : Int32) 1906 ∧ (W_M_isPattern_9 d p0 p1 (m.2 262 ((1895 : Int32)).toNatClampNeg) (0 : Int64) (0 : Int32) w m Q)) : cI (d + 1) 232 [.ref 261, .int p0, .int p1] w m Q := by
  refine cI_in rfl ?_
  refine mm_yrun (is := mm_k232) [9, 16, 61] 400 rfl ?_
  refine And.intro (And.intro (rfl) (by decide : ¬ 262 = 0)) ?_
  refine And.intro (And.intro (rfl) H.1) ?_
  replace H := H.2
  exact H _
theorem S_M_isPattern_9 {l1 : Int32} {l2 : Int32} {l3 : Int64} {l5 : Int64} {l7 : Int32} {d : Nat} {w : Nat × Nat × Nat} {m : zM} {Q : Int32 → zM → Prop} (H : ((l2 ≤ l7 → vp_in (1896 : Int32) 1906 ∧ ((((l5 &&& (m.2 262 ((1896 : Int32)).toNatClampNeg)) = (0 : Int64) → Q (0 : Int32) m) ∧ (¬ (l5 &&& (m.2 262 ((1896 : Int32)).toNatClampNeg)) = (0 : Int64) → Q (1 : Int32) m)))) ∧ (¬ l2 ≤ l7 → W_M_isPattern_16 d l1 l2 l3 (0 : Int64) l7 (0 : Int32) w m Q))) : W_M_isPattern_9 d l1 l2 l3 l5 l7 w m Q := by
  intro o8
  refine mm_yrun (is := mm_k232) [9, 16, 61] 400 rfl ?_
  refine And.intro (fun q => ?_) (fun q => ?_)
  · replace H := H.1 q
    refine And.intro (And.intro (rfl) (by decide : ¬ 262 = 0)) ?_
    refine And.intro (And.intro (rfl) H.1) ?_
    replace H := H.2
    refine And.intro (fun q => ?_) (fun q => ?_)
    · replace H := H.1 q
      refine And.intro (Or.inl rfl) ?_
      exact rI_mk (w := w) (m := m) H
    · replace H := H.2 q
      refine And.intro (Or.inr rfl) ?_
      exact rI_mk (w := w) (m := m) H
  · replace H := H.2 q
    exact H
theorem S_M_isPattern_16 {l1 : Int32} {l2 : Int32} {l3 : Int64} {l5 : Int64} {l7 : Int32} {l8 : Int32} {d : Nat} {w : Nat × Nat × Nat} {m : zM} {Q : Int32 → zM → Prop} (H : vp_in (1870 : Int32) 1906 ∧ ((((m.2 262 ((1870 : Int32)).toNatClampNeg) ≤ (l8).toInt64 → W_M_isPattern_61 d l1 l2 (0 : Int64) l5 l7 (0 : Int32) w m Q) ∧ (¬ (m.2 262 ((1870 : Int32)).toNatClampNeg) ≤ (l8).toInt64 → cI d 183 [.long l3, .int l8] w m (fun v1 m1 => ((v1 = 0 → W_M_isPattern_16 d l1 l2 l3 l5 l7 (l8 + (1 : Int32)) w m1 Q) ∧ (¬ v1 = 0 → vp_in ((1871 : Int32) + l8) 1906 ∧ ((((m1.2 262 (((1871 : Int32) + l8)).toNatClampNeg) = (7 : Int64) → W_M_isPattern_16 d l1 l2 l3 (l5 ||| ((1 : Int64) <<< ((l8).toInt64 &&& 63))) l7 (l8 + (1 : Int32)) w m1 Q) ∧ (¬ (m1.2 262 (((1871 : Int32) + l8)).toNatClampNeg) = (7 : Int64) → vp_in ((1871 : Int32) + l8) 1906 ∧ (vp_in (l1 + l7) 400 ∧ (((¬ (m1.2 262 (((1871 : Int32) + l8)).toNatClampNeg) = ((m1.1 269 ((l1 + l7)).toNatClampNeg)).toInt64 → W_M_isPattern_16 d l1 l2 l3 l5 l7 (l8 + (1 : Int32)) w m1 Q) ∧ ((m1.2 262 (((1871 : Int32) + l8)).toNatClampNeg) = ((m1.1 269 ((l1 + l7)).toNatClampNeg)).toInt64 → W_M_isPattern_16 d l1 l2 l3 (l5 ||| ((1 : Int64) <<< ((l8).toInt64 &&& 63))) l7 (l8 + (1 : Int32)) w m1 Q)))))))))))))) : W_M_isPattern_16 d l1 l2 l3 l5 l7 l8 w m Q := by
  refine mm_yrun (is := mm_k232) [9, 16, 61] 400 rfl ?_
  refine And.intro (And.intro (rfl) (by decide : ¬ 262 = 0)) ?_
  refine And.intro (And.intro (rfl) H.1) ?_
  replace H := H.2
  refine And.intro (fun q => ?_) (fun q => ?_)
  · replace H := H.1 q
    exact H
  · replace H := H.2 q
    refine And.intro (trivial) ?_
    refine cI_use (w := w) (m := m) rfl H ?_
    intro v1 m1 H
    refine And.intro (fun q => ?_) (fun q => ?_)
    · replace H := H.1 q
      exact H
    · replace H := H.2 q
      refine And.intro (And.intro (rfl) (by decide : ¬ 262 = 0)) ?_
      refine And.intro (And.intro (rfl) H.1) ?_
      replace H := H.2
      refine And.intro (fun q => ?_) (fun q => ?_)
      · replace H := H.1 q
        exact H
      · replace H := H.2 q
        refine And.intro (And.intro (rfl) (by decide : ¬ 262 = 0)) ?_
        refine And.intro (And.intro (rfl) H.1) ?_
        replace H := H.2
        refine And.intro (And.intro (rfl) (by decide : ¬ 269 = 0)) ?_
        refine And.intro (And.intro (rfl) H.1) ?_
        replace H := H.2
        refine And.intro (fun q => ?_) (fun q => ?_)
        · replace H := H.1 q
          exact H
        · replace H := H.2 (Classical.not_not.mp q)
          exact H
theorem S_M_isPattern_61 {l1 : Int32} {l2 : Int32} {l3 : Int64} {l5 : Int64} {l7 : Int32} {l8 : Int32} {d : Nat} {w : Nat × Nat × Nat} {m : zM} {Q : Int32 → zM → Prop} (H : vp_in (1870 : Int32) 1906 ∧ ((((m.2 262 ((1870 : Int32)).toNatClampNeg) ≤ (l8).toInt64 → W_M_isPattern_9 d l1 l2 l3 l5 (l7 + (1 : Int32)) w m Q) ∧ (¬ (m.2 262 ((1870 : Int32)).toNatClampNeg) ≤ (l8).toInt64 → cI d 183 [.long l5, .int l8] w m (fun v1 m1 => ((v1 = 0 → W_M_isPattern_61 d l1 l2 l3 l5 l7 (l8 + (1 : Int32)) w m1 Q) ∧ (¬ v1 = 0 → vp_in ((1883 : Int32) + l8) 1906 ∧ (W_M_isPattern_61 d l1 l2 (l3 ||| (m1.2 262 (((1883 : Int32) + l8)).toNatClampNeg)) l5 l7 (l8 + (1 : Int32)) w m1 Q)))))))) : W_M_isPattern_61 d l1 l2 l3 l5 l7 l8 w m Q := by
  refine mm_yrun (is := mm_k232) [9, 16, 61] 400 rfl ?_
  refine And.intro (And.intro (rfl) (by decide : ¬ 262 = 0)) ?_
  refine And.intro (And.intro (rfl) H.1) ?_
  replace H := H.2
  refine And.intro (fun q => ?_) (fun q => ?_)
  · replace H := H.1 q
    exact H _
  · replace H := H.2 q
    refine And.intro (trivial) ?_
    refine cI_use (w := w) (m := m) rfl H ?_
    intro v1 m1 H
    refine And.intro (fun q => ?_) (fun q => ?_)
    · replace H := H.1 q
      exact H
    · replace H := H.2 q
      refine And.intro (And.intro (rfl) (by decide : ¬ 262 = 0)) ?_
      refine And.intro (And.intro (rfl) H.1) ?_
      replace H := H.2
      exact H

def W_M_beside_2 (d : Nat) (p0 : Nat) (l2 : Int32) (l3 : Int32) (l4 : Int32) (l5 : Int32) (w : Nat × Nat × Nat) (m : zM) (Q : Int32 → zM → Prop) : Prop := ∀ o6 o7 : Option Value, mm_W d 233 2 [some (.ref 261), some (.ref p0), some (.int l2), some (.int l3), some (.int l4), some (.int l5), o6, o7] [] (zE w m) (rI w Q)
theorem S_M_beside {p0 : Nat} {p1 : Int32} {p2 : Int32} {p3 : Int32} {d : Nat} {w : Nat × Nat × Nat} {m : zM} {Q : Int32 → zM → Prop} (H : W_M_beside_2 d p0 p1 p2 p3 (0 : Int32) w m Q) : cI d 233 [.ref 261, .ref p0, .int p1, .int p2, .int p3] w m Q := by
  refine cI_in rfl ?_
  refine mm_yrun (is := mm_k233) [2] 400 rfl ?_
  exact H _ _
theorem R_M_beside_2 {p0 : Nat} {l2 : Int32} {l3 : Int32} {l4 : Int32} {l5 : Int32} {nl_p0 : Nat} {d : Nat} {w : Nat × Nat × Nat} {m : zM} {Q : Int32 → zM → Prop} (hk_p0 : (zK w.1 p0).1 = 13) (hl_p0 : (zK w.1 p0).2 = nl_p0) (H : ((l3 ≤ l5 → vp_in l4 2000 ∧ (Q (l3 - (m.1 278 (l4).toNatClampNeg)) m)) ∧ (¬ l3 ≤ l5 → vp_in l4 2000 ∧ ((((m.1 278 (l4).toNatClampNeg) ≤ l5 → vp_in l4 2000 ∧ (Q (l3 - (m.1 278 (l4).toNatClampNeg)) m)) ∧ (¬ (m.1 278 (l4).toNatClampNeg) ≤ l5 → vp_in (l2 + l5) nl_p0 ∧ (vp_in l4 2000 ∧ (vp_in ((m.1 277 (l4).toNatClampNeg) + l5) 400 ∧ (((((m.2 p0 ((l2 + l5)).toNatClampNeg) - (m.2 268 (((m.1 277 (l4).toNatClampNeg) + l5)).toNatClampNeg)) = (0 : Int64) → W_M_beside_2 d p0 l2 l3 l4 (l5 + (1 : Int32)) w m Q) ∧ (¬ ((m.2 p0 ((l2 + l5)).toNatClampNeg) - (m.2 268 (((m.1 277 (l4).toNatClampNeg) + l5)).toNatClampNeg)) = (0 : Int64) → (((0 : Int64) ≤ ((m.2 p0 ((l2 + l5)).toNatClampNeg) - (m.2 268 (((m.1 277 (l4).toNatClampNeg) + l5)).toNatClampNeg)) → Q (1 : Int32) m) ∧ (¬ (0 : Int64) ≤ ((m.2 p0 ((l2 + l5)).toNatClampNeg) - (m.2 268 (((m.1 277 (l4).toNatClampNeg) + l5)).toNatClampNeg)) → Q ((-1) : Int32) m))))))))))))) : W_M_beside_2 d p0 l2 l3 l4 l5 w m Q := by
  subst hl_p0
  intro o6 o7
  refine mm_yrun (is := mm_k233) [2] 400 rfl ?_
  refine And.intro (fun q => ?_) (fun q => ?_)
  · replace H := H.1 q
    refine And.intro (And.intro (rfl) (by decide : ¬ 278 = 0)) ?_
    refine And.intro (And.intro (rfl) H.1) ?_
    replace H := H.2
    exact rI_mk (w := w) (m := m) H
  · replace H := H.2 q
    refine And.intro (And.intro (rfl) (by decide : ¬ 278 = 0)) ?_
    refine And.intro (And.intro (rfl) H.1) ?_
    replace H := H.2
    refine And.intro (fun q => ?_) (fun q => ?_)
    · replace H := H.1 q
      refine And.intro (And.intro (rfl) (by decide : ¬ 278 = 0)) ?_
      refine And.intro (And.intro (rfl) H.1) ?_
      replace H := H.2
      exact rI_mk (w := w) (m := m) H
    · replace H := H.2 q
      refine And.intro (And.intro (hk_p0) H.1) ?_
      replace H := H.2
      refine And.intro (And.intro (rfl) (by decide : ¬ 268 = 0)) ?_
      refine And.intro (And.intro (rfl) (by decide : ¬ 277 = 0)) ?_
      refine And.intro (And.intro (rfl) H.1) ?_
      replace H := H.2
      refine And.intro (And.intro (rfl) H.1) ?_
      replace H := H.2
      refine And.intro (fun q => ?_) (fun q => ?_)
      · replace H := H.1 q
        exact H _ _
      · replace H := H.2 q
        refine And.intro (fun q => ?_) (fun q => ?_)
        · replace H := H.1 q
          exact rI_mk (w := w) (m := m) H
        · replace H := H.2 q
          exact rI_mk (w := w) (m := m) H
theorem S_M_beside_2 {p0 : Nat} {l2 : Int32} {l3 : Int32} {l4 : Int32} {l5 : Int32} {n_p0 : Nat} {d : Nat} {w : Nat × Nat × Nat} {m : zM} {Q : Int32 → zM → Prop} (hp_p0 : zAr w p0 13 n_p0) (H : ((l3 ≤ l5 → vp_in l4 2000 ∧ (Q (l3 - (m.1 278 (l4).toNatClampNeg)) m)) ∧ (¬ l3 ≤ l5 → vp_in l4 2000 ∧ ((((m.1 278 (l4).toNatClampNeg) ≤ l5 → vp_in l4 2000 ∧ (Q (l3 - (m.1 278 (l4).toNatClampNeg)) m)) ∧ (¬ (m.1 278 (l4).toNatClampNeg) ≤ l5 → vp_in (l2 + l5) n_p0 ∧ (vp_in l4 2000 ∧ (vp_in ((m.1 277 (l4).toNatClampNeg) + l5) 400 ∧ (((((m.2 p0 ((l2 + l5)).toNatClampNeg) - (m.2 268 (((m.1 277 (l4).toNatClampNeg) + l5)).toNatClampNeg)) = (0 : Int64) → W_M_beside_2 d p0 l2 l3 l4 (l5 + (1 : Int32)) w m Q) ∧ (¬ ((m.2 p0 ((l2 + l5)).toNatClampNeg) - (m.2 268 (((m.1 277 (l4).toNatClampNeg) + l5)).toNatClampNeg)) = (0 : Int64) → (((0 : Int64) ≤ ((m.2 p0 ((l2 + l5)).toNatClampNeg) - (m.2 268 (((m.1 277 (l4).toNatClampNeg) + l5)).toNatClampNeg)) → Q (1 : Int32) m) ∧ (¬ (0 : Int64) ≤ ((m.2 p0 ((l2 + l5)).toNatClampNeg) - (m.2 268 (((m.1 277 (l4).toNatClampNeg) + l5)).toNatClampNeg)) → Q ((-1) : Int32) m))))))))))))) : W_M_beside_2 d p0 l2 l3 l4 l5 w m Q := R_M_beside_2 (zAr_k hp_p0) (zAr_l hp_p0) H

def W_M_placeOf_5 (d : Nat) (p0 : Nat) (l2 : Int32) (l3 : Int32) (l4 : Int32) (l5 : Int32) (w : Nat × Nat × Nat) (m : zM) (Q : Int32 → zM → Prop) : Prop := ∀ o6 : Option Value, mm_W (d + 1) 234 5 [some (.ref 261), some (.ref p0), some (.int l2), some (.int l3), some (.int l4), some (.int l5), o6] [] (zE w m) (rI w Q)
theorem S_M_placeOf {p0 : Nat} {p1 : Int32} {p2 : Int32} {d : Nat} {w : Nat × Nat × Nat} {m : zM} {Q : Int32 → zM → Prop} (H : W_M_placeOf_5 d p0 p1 p2 (0 : Int32) (m.1 261 32) w m Q) : cI (d + 1) 234 [.ref 261, .ref p0, .int p1, .int p2] w m Q := by
  refine cI_in rfl ?_
  refine mm_yrun (is := mm_k234) [5] 400 rfl ?_
  refine And.intro (rfl) ?_
  exact H _
theorem S_M_placeOf_5 {p0 : Nat} {l2 : Int32} {l3 : Int32} {l4 : Int32} {l5 : Int32} {d : Nat} {w : Nat × Nat × Nat} {m : zM} {Q : Int32 → zM → Prop} (H : ((l5 ≤ l4 → Q l4 m) ∧ (¬ l5 ≤ l4 → cI d 233 [.ref 261, .ref p0, .int l2, .int l3, .int ((l4 + l5) >>> ((1 : Int32) &&& 31))] w m (fun v1 m1 => ((v1 ≤ 0 → W_M_placeOf_5 d p0 l2 l3 l4 ((l4 + l5) >>> ((1 : Int32) &&& 31)) w m1 Q) ∧ (¬ v1 ≤ 0 → W_M_placeOf_5 d p0 l2 l3 (((l4 + l5) >>> ((1 : Int32) &&& 31)) + (1 : Int32)) l5 w m1 Q)))))) : W_M_placeOf_5 d p0 l2 l3 l4 l5 w m Q := by
  intro o6
  refine mm_yrun (is := mm_k234) [5] 400 rfl ?_
  refine And.intro (fun q => ?_) (fun q => ?_)
  · replace H := H.1 q
    exact rI_mk (w := w) (m := m) H
  · replace H := H.2 q
    refine And.intro (rfl) ?_
    refine cI_use (w := w) (m := m) rfl H ?_
    intro v1 m1 H
    refine And.intro (fun q => ?_) (fun q => ?_)
    · replace H := H.1 q
      exact H _
    · replace H := H.2 q
      exact H _

def W_M_comes_22 (d : Nat) (l1 : Int32) (l2 : Int32) (l3 : Int32) (l4 : Int32) (w : Nat × Nat × Nat) (m : zM) (Q : zM → Prop) : Prop := mm_W (d + 1) 235 22 [some (.ref 261), some (.int l1), some (.int l2), some (.int l3), some (.int l4)] [] (zE w m) (rV w Q)
theorem S_M_comes {p0 : Int32} {p1 : Int32} {d : Nat} {w : Nat × Nat × Nat} {m : zM} {Q : zM → Prop} (H : cI d 234 [.ref 261, .ref 268, .int p0, .int p1] w m (fun v1 m1 => ((v1 = (m1.1 261 32) → W_M_comes_22 d p0 p1 v1 (m1.1 261 32) w m1 Q) ∧ (¬ v1 = (m1.1 261 32) → cI d 233 [.ref 261, .ref 268, .int p0, .int p1, .int v1] w m1 (fun v2 m2 => ((v2 = 0 → vp_in (m2.1 261 26) 2000 ∧ (vp_in (m2.1 261 26) 2000 ∧ (vp_in (((6 : Int32) * p0) + p1) 2400 ∧ (Q (zI (zI (zI (zI m2 272 ((m2.1 261 26)).toNatClampNeg p0) 273 ((m2.1 261 26)).toNatClampNeg p1) 276 ((((6 : Int32) * p0) + p1)).toNatClampNeg (1 : Int32)) 261 26 ((m2.1 261 26) + (1 : Int32))))))) ∧ (¬ v2 = 0 → W_M_comes_22 d p0 p1 v1 (m2.1 261 32) w m2 Q))))))) : cV (d + 1) 235 [.ref 261, .int p0, .int p1] w m Q := by
  refine cV_in rfl ?_
  refine mm_yrun (is := mm_k235) [22] 400 rfl ?_
  refine And.intro (And.intro (rfl) (by decide : ¬ 268 = 0)) ?_
  refine And.intro (rfl) ?_
  refine cI_use (w := w) (m := m) rfl H ?_
  intro v1 m1 H
  refine And.intro (rfl) ?_
  refine And.intro (fun q => ?_) (fun q => ?_)
  · replace H := H.1 q
    refine And.intro (rfl) ?_
    exact H
  · replace H := H.2 q
    refine And.intro (And.intro (rfl) (by decide : ¬ 268 = 0)) ?_
    refine And.intro (rfl) ?_
    refine cI_use (w := w) (m := m1) rfl H ?_
    intro v2 m2 H
    refine And.intro (fun q => ?_) (fun q => ?_)
    · replace H := H.1 q
      refine And.intro (And.intro (rfl) (by decide : ¬ 272 = 0)) ?_
      refine And.intro (rfl) ?_
      refine And.intro (And.intro (rfl) H.1) ?_
      replace H := H.2
      refine And.intro (And.intro (rfl) (by decide : ¬ 273 = 0)) ?_
      refine And.intro (rfl) ?_
      refine And.intro (And.intro (rfl) H.1) ?_
      replace H := H.2
      refine And.intro (And.intro (rfl) (by decide : ¬ 276 = 0)) ?_
      refine And.intro (And.intro (And.intro (rfl) H.1) (Or.inr rfl)) ?_
      replace H := H.2
      refine And.intro (rfl) ?_
      refine And.intro (rfl) ?_
      exact rV_mk (w := w) (m := (zI (zI (zI (zI m2 272 ((m2.1 261 26)).toNatClampNeg p0) 273 ((m2.1 261 26)).toNatClampNeg p1) 276 ((((6 : Int32) * p0) + p1)).toNatClampNeg (1 : Int32)) 261 26 ((m2.1 261 26) + (1 : Int32)))) H
    · replace H := H.2 q
      refine And.intro (rfl) ?_
      exact H
theorem S_M_comes_22 {l1 : Int32} {l2 : Int32} {l3 : Int32} {l4 : Int32} {d : Nat} {w : Nat × Nat × Nat} {m : zM} {Q : zM → Prop} (H : ((l4 ≤ l3 → vp_in l3 2000 ∧ (vp_in l3 2000 ∧ (vp_in (m.1 261 26) 2000 ∧ (vp_in (m.1 261 26) 2000 ∧ (vp_in (((6 : Int32) * l1) + l2) 2400 ∧ (Q (zI (zI (zI (zI (zI (zI (zI m 277 (l3).toNatClampNeg l1) 278 (l3).toNatClampNeg l2) 261 32 ((m.1 261 32) + (1 : Int32))) 272 ((m.1 261 26)).toNatClampNeg l1) 273 ((m.1 261 26)).toNatClampNeg l2) 276 ((((6 : Int32) * l1) + l2)).toNatClampNeg (1 : Int32)) 261 26 ((m.1 261 26) + (1 : Int32))))))))) ∧ (¬ l4 ≤ l3 → vp_in (l4 - (1 : Int32)) 2000 ∧ (vp_in l4 2000 ∧ (vp_in (l4 - (1 : Int32)) 2000 ∧ (vp_in l4 2000 ∧ (W_M_comes_22 d l1 l2 l3 (l4 + ((-1) : Int32)) w (zI (zI m 277 (l4).toNatClampNeg (m.1 277 ((l4 - (1 : Int32))).toNatClampNeg)) 278 (l4).toNatClampNeg (m.1 278 ((l4 - (1 : Int32))).toNatClampNeg)) Q))))))) : W_M_comes_22 d l1 l2 l3 l4 w m Q := by
  refine mm_yrun (is := mm_k235) [22] 400 rfl ?_
  refine And.intro (fun q => ?_) (fun q => ?_)
  · replace H := H.1 q
    refine And.intro (And.intro (rfl) (by decide : ¬ 277 = 0)) ?_
    refine And.intro (And.intro (rfl) H.1) ?_
    replace H := H.2
    refine And.intro (And.intro (rfl) (by decide : ¬ 278 = 0)) ?_
    refine And.intro (And.intro (rfl) H.1) ?_
    replace H := H.2
    refine And.intro (rfl) ?_
    refine And.intro (rfl) ?_
    refine And.intro (And.intro (rfl) (by decide : ¬ 272 = 0)) ?_
    refine And.intro (rfl) ?_
    refine And.intro (And.intro (rfl) H.1) ?_
    replace H := H.2
    refine And.intro (And.intro (rfl) (by decide : ¬ 273 = 0)) ?_
    refine And.intro (rfl) ?_
    refine And.intro (And.intro (rfl) H.1) ?_
    replace H := H.2
    refine And.intro (And.intro (rfl) (by decide : ¬ 276 = 0)) ?_
    refine And.intro (And.intro (And.intro (rfl) H.1) (Or.inr rfl)) ?_
    replace H := H.2
    refine And.intro (rfl) ?_
    refine And.intro (rfl) ?_
    exact rV_mk (w := w) (m := (zI (zI (zI (zI (zI (zI (zI m 277 (l3).toNatClampNeg l1) 278 (l3).toNatClampNeg l2) 261 32 ((m.1 261 32) + (1 : Int32))) 272 ((m.1 261 26)).toNatClampNeg l1) 273 ((m.1 261 26)).toNatClampNeg l2) 276 ((((6 : Int32) * l1) + l2)).toNatClampNeg (1 : Int32)) 261 26 ((m.1 261 26) + (1 : Int32)))) H
  · replace H := H.2 q
    refine And.intro (And.intro (rfl) (by decide : ¬ 277 = 0)) ?_
    refine And.intro (And.intro (rfl) (by decide : ¬ 277 = 0)) ?_
    refine And.intro (And.intro (rfl) H.1) ?_
    replace H := H.2
    refine And.intro (And.intro (rfl) H.1) ?_
    replace H := H.2
    refine And.intro (And.intro (rfl) (by decide : ¬ 278 = 0)) ?_
    refine And.intro (And.intro (rfl) (by decide : ¬ 278 = 0)) ?_
    refine And.intro (And.intro (rfl) H.1) ?_
    replace H := H.2
    refine And.intro (And.intro (rfl) H.1) ?_
    replace H := H.2
    exact H

def W_M_isInLonger_4 (d : Nat) (l1 : Int32) (l2 : Int32) (l3 : Int32) (w : Nat × Nat × Nat) (m : zM) (Q : Int32 → zM → Prop) : Prop := ∀ o4 : Option Value, mm_W (d + 1) 236 4 [some (.ref 261), some (.int l1), some (.int l2), some (.int l3), o4] [] (zE w m) (rI w Q)
def W_M_isInLonger_15 (d : Nat) (l1 : Int32) (l2 : Int32) (l3 : Int32) (l4 : Int32) (w : Nat × Nat × Nat) (m : zM) (Q : Int32 → zM → Prop) : Prop := mm_W (d + 1) 236 15 [some (.ref 261), some (.int l1), some (.int l2), some (.int l3), some (.int l4)] [] (zE w m) (rI w Q)
theorem S_M_isInLonger {p0 : Int32} {p1 : Int32} {d : Nat} {w : Nat × Nat × Nat} {m : zM} {Q : Int32 → zM → Prop} (H : W_M_isInLonger_4 d p0 p1 (p1 + (1 : Int32)) w m Q) : cI (d + 1) 236 [.ref 261, .int p0, .int p1] w m Q := by
  refine cI_in rfl ?_
  refine mm_yrun (is := mm_k236) [4, 15] 400 rfl ?_
  exact H _
theorem S_M_isInLonger_4 {l1 : Int32} {l2 : Int32} {l3 : Int32} {d : Nat} {w : Nat × Nat × Nat} {m : zM} {Q : Int32 → zM → Prop} (H : (((5 : Int32) < l3 → Q (0 : Int32) m) ∧ (¬ (5 : Int32) < l3 → cI d 291 [.int (0 : Int32), .int ((l1 + l2) - l3)] w m (fun v1 m1 => W_M_isInLonger_15 d l1 l2 l3 v1 w m1 Q)))) : W_M_isInLonger_4 d l1 l2 l3 w m Q := by
  intro o4
  refine mm_yrun (is := mm_k236) [4, 15] 400 rfl ?_
  refine And.intro (fun q => ?_) (fun q => ?_)
  · replace H := H.1 q
    refine And.intro (Or.inl rfl) ?_
    exact rI_mk (w := w) (m := m) H
  · replace H := H.2 q
    refine And.intro (trivial) ?_
    refine cI_use (w := w) (m := m) rfl H ?_
    intro v1 m1 H
    exact H
theorem S_M_isInLonger_15 {l1 : Int32} {l2 : Int32} {l3 : Int32} {l4 : Int32} {d : Nat} {w : Nat × Nat × Nat} {m : zM} {Q : Int32 → zM → Prop} (H : ((l1 < l4 → W_M_isInLonger_4 d l1 l2 (l3 + (1 : Int32)) w m Q) ∧ (¬ l1 < l4 → vp_in (((6 : Int32) * l4) + l3) 2400 ∧ ((((m.1 276 ((((6 : Int32) * l4) + l3)).toNatClampNeg) = 0 → W_M_isInLonger_15 d l1 l2 l3 (l4 + (1 : Int32)) w m Q) ∧ (¬ (m.1 276 ((((6 : Int32) * l4) + l3)).toNatClampNeg) = 0 → Q (1 : Int32) m)))))) : W_M_isInLonger_15 d l1 l2 l3 l4 w m Q := by
  refine mm_yrun (is := mm_k236) [4, 15] 400 rfl ?_
  refine And.intro (fun q => ?_) (fun q => ?_)
  · replace H := H.1 q
    exact H _
  · replace H := H.2 q
    refine And.intro (And.intro (rfl) (by decide : ¬ 276 = 0)) ?_
    refine And.intro (And.intro (rfl) H.1) ?_
    replace H := H.2
    refine And.intro (fun q => ?_) (fun q => ?_)
    · replace H := H.1 q
      exact H
    · replace H := H.2 q
      refine And.intro (Or.inr rfl) ?_
      exact rI_mk (w := w) (m := m) H

def W_M_layWords_6 (d : Nat) (l1 : Int32) (w : Nat × Nat × Nat) (m : zM) (Q : zM → Prop) : Prop := ∀ o2 o3 : Option Value, mm_W (d + 1) 237 6 [some (.ref 261), some (.int l1), o2, o3] [] (zE w m) (rV w Q)
def W_M_layWords_21 (d : Nat) (l1 : Int32) (l2 : Int32) (w : Nat × Nat × Nat) (m : zM) (Q : zM → Prop) : Prop := ∀ o3 : Option Value, mm_W (d + 1) 237 21 [some (.ref 261), some (.int l1), some (.int l2), o3] [] (zE w m) (rV w Q)
def W_M_layWords_67 (d : Nat) (l1 : Int32) (w : Nat × Nat × Nat) (m : zM) (Q : zM → Prop) : Prop := ∀ o2 o3 : Option Value, mm_W (d + 1) 237 67 [some (.ref 261), some (.int l1), o2, o3] [] (zE w m) (rV w Q)
def W_M_layWords_93 (d : Nat) (l1 : Int32) (w : Nat × Nat × Nat) (m : zM) (Q : zM → Prop) : Prop := ∀ o2 o3 : Option Value, mm_W (d + 1) 237 93 [some (.ref 261), some (.int l1), o2, o3] [] (zE w m) (rV w Q)
def W_M_layWords_121 (d : Nat) (l1 : Int32) (l2 : Int32) (l3 : Int32) (w : Nat × Nat × Nat) (m : zM) (Q : zM → Prop) : Prop := mm_W (d + 1) 237 121 [some (.ref 261), some (.int l1), some (.int l2), some (.int l3)] [] (zE w m) (rV w Q)
def W_M_layWords_154 (d : Nat) (l1 : Int32) (w : Nat × Nat × Nat) (m : zM) (Q : zM → Prop) : Prop := ∀ o2 o3 : Option Value, mm_W (d + 1) 237 154 [some (.ref 261), some (.int l1), o2, o3] [] (zE w m) (rV w Q)
theorem S_M_layWords  {d : Nat} {w : Nat × Nat × Nat} {m : zM} {Q : zM → Prop} (H : cI d 223 [.ref 261] w m (fun v1 m1 => W_M_layWords_6 d (0 : Int32) w (zI m1 261 21 v1) Q)) : cV (d + 1) 237 [.ref 261] w m Q := by
  refine cV_in rfl ?_
  refine mm_yrun (is := mm_k237) [6, 21, 67, 93, 121, 154] 400 rfl ?_
  refine And.intro (rfl) ?_
  refine cI_use (w := w) (m := m) rfl H ?_
  intro v1 m1 H
  refine And.intro (rfl) ?_
  exact H _ _
theorem S_M_layWords_6 {l1 : Int32} {d : Nat} {w : Nat × Nat × Nat} {m : zM} {Q : zM → Prop} (H : vp_in (259 : Int32) 1906 ∧ ((((m.2 262 ((259 : Int32)).toNatClampNeg) ≤ (l1).toInt64 → W_M_layWords_67 d (0 : Int32) w m Q) ∧ (¬ (m.2 262 ((259 : Int32)).toNatClampNeg) ≤ (l1).toInt64 → vp_in ((260 : Int32) + l1) 1906 ∧ (W_M_layWords_21 d l1 ((m.2 262 (((260 : Int32) + l1)).toNatClampNeg)).toInt32 w m Q))))) : W_M_layWords_6 d l1 w m Q := by
  intro o2 o3
  refine mm_yrun (is := mm_k237) [6, 21, 67, 93, 121, 154] 400 rfl ?_
  refine And.intro (And.intro (rfl) (by decide : ¬ 262 = 0)) ?_
  refine And.intro (And.intro (rfl) H.1) ?_
  replace H := H.2
  refine And.intro (fun q => ?_) (fun q => ?_)
  · replace H := H.1 q
    exact H _ _
  · replace H := H.2 q
    refine And.intro (And.intro (rfl) (by decide : ¬ 262 = 0)) ?_
    refine And.intro (And.intro (rfl) H.1) ?_
    replace H := H.2
    exact H _
theorem S_M_layWords_21 {l1 : Int32} {l2 : Int32} {d : Nat} {w : Nat × Nat × Nat} {m : zM} {Q : zM → Prop} (H : vp_in (((260 : Int32) + l1) + (1 : Int32)) 1906 ∧ ((((m.2 262 ((((260 : Int32) + l1) + (1 : Int32))).toNatClampNeg) ≤ (l2).toInt64 → W_M_layWords_6 d (l1 + (1 : Int32)) w m Q) ∧ (¬ (m.2 262 ((((260 : Int32) + l1) + (1 : Int32))).toNatClampNeg) ≤ (l2).toInt64 → vp_in l2 400 ∧ (vp_in ((269 : Int32) + l2) 1906 ∧ (cL d 193 [.ref 261, .long (m.2 262 (((269 : Int32) + l2)).toNatClampNeg)] w (zI m 270 (l2).toNatClampNeg l1) (fun v1 m1 => vp_in l2 400 ∧ (vp_in ((269 : Int32) + l2) 1906 ∧ (cI d 194 [.ref 261, .long (m1.2 262 (((269 : Int32) + l2)).toNatClampNeg)] w (zL m1 268 (l2).toNatClampNeg v1) (fun v2 m2 => vp_in l2 400 ∧ (W_M_layWords_21 d l1 (l2 + (1 : Int32)) w (zI m2 269 (l2).toNatClampNeg v2) Q))))))))))) : W_M_layWords_21 d l1 l2 w m Q := by
  intro o3
  refine mm_yrun (is := mm_k237) [6, 21, 67, 93, 121, 154] 400 rfl ?_
  refine And.intro (And.intro (rfl) (by decide : ¬ 262 = 0)) ?_
  refine And.intro (And.intro (rfl) H.1) ?_
  replace H := H.2
  refine And.intro (fun q => ?_) (fun q => ?_)
  · replace H := H.1 q
    exact H _ _
  · replace H := H.2 q
    refine And.intro (And.intro (rfl) (by decide : ¬ 270 = 0)) ?_
    refine And.intro (And.intro (rfl) H.1) ?_
    replace H := H.2
    refine And.intro (And.intro (rfl) (by decide : ¬ 268 = 0)) ?_
    refine And.intro (And.intro (rfl) (by decide : ¬ 262 = 0)) ?_
    refine And.intro (And.intro (rfl) H.1) ?_
    replace H := H.2
    refine And.intro (rfl) ?_
    refine cL_use (w := w) (m := (zI m 270 (l2).toNatClampNeg l1)) rfl H ?_
    intro v1 m1 H
    refine And.intro (And.intro (rfl) H.1) ?_
    replace H := H.2
    refine And.intro (And.intro (rfl) (by decide : ¬ 269 = 0)) ?_
    refine And.intro (And.intro (rfl) (by decide : ¬ 262 = 0)) ?_
    refine And.intro (And.intro (rfl) H.1) ?_
    replace H := H.2
    refine And.intro (rfl) ?_
    refine cI_use (w := w) (m := (zL m1 268 (l2).toNatClampNeg v1)) rfl H ?_
    intro v2 m2 H
    refine And.intro (And.intro (rfl) H.1) ?_
    replace H := H.2
    exact H _
theorem S_M_layWords_67 {l1 : Int32} {d : Nat} {w : Nat × Nat × Nat} {m : zM} {Q : zM → Prop} (H : vp_in (1069 : Int32) 1906 ∧ ((((m.2 262 ((1069 : Int32)).toNatClampNeg) ≤ (l1).toInt64 → W_M_layWords_93 d (0 : Int32) w (zI m 261 43 (0 : Int32)) Q) ∧ (¬ (m.2 262 ((1069 : Int32)).toNatClampNeg) ≤ (l1).toInt64 → vp_in ((1070 : Int32) + l1) 1906 ∧ (cL d 193 [.ref 261, .long (m.2 262 (((1070 : Int32) + l1)).toNatClampNeg)] w m (fun v1 m1 => vp_in l1 400 ∧ (W_M_layWords_67 d (l1 + (1 : Int32)) w (zL m1 271 (l1).toNatClampNeg v1) Q))))))) : W_M_layWords_67 d l1 w m Q := by
  intro o2 o3
  refine mm_yrun (is := mm_k237) [6, 21, 67, 93, 121, 154] 400 rfl ?_
  refine And.intro (And.intro (rfl) (by decide : ¬ 262 = 0)) ?_
  refine And.intro (And.intro (rfl) H.1) ?_
  replace H := H.2
  refine And.intro (fun q => ?_) (fun q => ?_)
  · replace H := H.1 q
    refine And.intro (rfl) ?_
    exact H _ _
  · replace H := H.2 q
    refine And.intro (And.intro (rfl) (by decide : ¬ 271 = 0)) ?_
    refine And.intro (And.intro (rfl) (by decide : ¬ 262 = 0)) ?_
    refine And.intro (And.intro (rfl) H.1) ?_
    replace H := H.2
    refine And.intro (rfl) ?_
    refine cL_use (w := w) (m := m) rfl H ?_
    intro v1 m1 H
    refine And.intro (And.intro (rfl) H.1) ?_
    replace H := H.2
    exact H _ _
theorem S_M_layWords_93 {l1 : Int32} {d : Nat} {w : Nat × Nat × Nat} {m : zM} {Q : zM → Prop} (H : (((m.1 261 21) ≤ l1 → W_M_layWords_154 d (0 : Int32) w m Q) ∧ (¬ (m.1 261 21) ≤ l1 → vp_in l1 400 ∧ (cI d 238 [.ref 261, .long (m.2 268 (l1).toNatClampNeg)] w m (fun v1 m1 => (((m1.1 261 43) ≤ v1 → W_M_layWords_121 d l1 v1 (m1.1 261 43) w m1 Q) ∧ (¬ (m1.1 261 43) ≤ v1 → vp_in v1 400 ∧ (vp_in l1 400 ∧ (((¬ (m1.2 286 (v1).toNatClampNeg) = (m1.2 268 (l1).toNatClampNeg) → W_M_layWords_121 d l1 v1 (m1.1 261 43) w m1 Q) ∧ ((m1.2 286 (v1).toNatClampNeg) = (m1.2 268 (l1).toNatClampNeg) → W_M_layWords_93 d (l1 + (1 : Int32)) w m1 Q))))))))))) : W_M_layWords_93 d l1 w m Q := by
  intro o2 o3
  refine mm_yrun (is := mm_k237) [6, 21, 67, 93, 121, 154] 400 rfl ?_
  refine And.intro (rfl) ?_
  refine And.intro (fun q => ?_) (fun q => ?_)
  · replace H := H.1 q
    exact H _ _
  · replace H := H.2 q
    refine And.intro (And.intro (rfl) (by decide : ¬ 268 = 0)) ?_
    refine And.intro (And.intro (rfl) H.1) ?_
    replace H := H.2
    refine And.intro (rfl) ?_
    refine cI_use (w := w) (m := m) rfl H ?_
    intro v1 m1 H
    refine And.intro (rfl) ?_
    refine And.intro (fun q => ?_) (fun q => ?_)
    · replace H := H.1 q
      refine And.intro (rfl) ?_
      exact H
    · replace H := H.2 q
      refine And.intro (And.intro (rfl) (by decide : ¬ 286 = 0)) ?_
      refine And.intro (And.intro (rfl) H.1) ?_
      replace H := H.2
      refine And.intro (And.intro (rfl) (by decide : ¬ 268 = 0)) ?_
      refine And.intro (And.intro (rfl) H.1) ?_
      replace H := H.2
      refine And.intro (fun q => ?_) (fun q => ?_)
      · replace H := H.1 q
        refine And.intro (rfl) ?_
        exact H
      · replace H := H.2 (Classical.not_not.mp q)
        exact H _ _
theorem S_M_layWords_121 {l1 : Int32} {l2 : Int32} {l3 : Int32} {d : Nat} {w : Nat × Nat × Nat} {m : zM} {Q : zM → Prop} (H : ((l3 ≤ l2 → vp_in l1 400 ∧ (vp_in l2 400 ∧ (W_M_layWords_93 d (l1 + (1 : Int32)) w (zI (zL m 286 (l2).toNatClampNeg (m.2 268 (l1).toNatClampNeg)) 261 43 ((m.1 261 43) + (1 : Int32))) Q))) ∧ (¬ l3 ≤ l2 → vp_in (l3 - (1 : Int32)) 400 ∧ (vp_in l3 400 ∧ (W_M_layWords_121 d l1 l2 (l3 + ((-1) : Int32)) w (zL m 286 (l3).toNatClampNeg (m.2 286 ((l3 - (1 : Int32))).toNatClampNeg)) Q))))) : W_M_layWords_121 d l1 l2 l3 w m Q := by
  refine mm_yrun (is := mm_k237) [6, 21, 67, 93, 121, 154] 400 rfl ?_
  refine And.intro (fun q => ?_) (fun q => ?_)
  · replace H := H.1 q
    refine And.intro (And.intro (rfl) (by decide : ¬ 286 = 0)) ?_
    refine And.intro (And.intro (rfl) (by decide : ¬ 268 = 0)) ?_
    refine And.intro (And.intro (rfl) H.1) ?_
    replace H := H.2
    refine And.intro (And.intro (rfl) H.1) ?_
    replace H := H.2
    refine And.intro (rfl) ?_
    refine And.intro (rfl) ?_
    exact H _ _
  · replace H := H.2 q
    refine And.intro (And.intro (rfl) (by decide : ¬ 286 = 0)) ?_
    refine And.intro (And.intro (rfl) (by decide : ¬ 286 = 0)) ?_
    refine And.intro (And.intro (rfl) H.1) ?_
    replace H := H.2
    refine And.intro (And.intro (rfl) H.1) ?_
    replace H := H.2
    exact H
theorem S_M_layWords_154 {l1 : Int32} {d : Nat} {w : Nat × Nat × Nat} {m : zM} {Q : zM → Prop} (H : (((m.1 261 21) ≤ l1 → Q m) ∧ (¬ (m.1 261 21) ≤ l1 → vp_in l1 400 ∧ (cI d 238 [.ref 261, .long (m.2 268 (l1).toNatClampNeg)] w m (fun v1 m1 => vp_in l1 400 ∧ (W_M_layWords_154 d (l1 + (1 : Int32)) w (zI m1 287 (l1).toNatClampNeg v1) Q)))))) : W_M_layWords_154 d l1 w m Q := by
  intro o2 o3
  refine mm_yrun (is := mm_k237) [6, 21, 67, 93, 121, 154] 400 rfl ?_
  refine And.intro (rfl) ?_
  refine And.intro (fun q => ?_) (fun q => ?_)
  · replace H := H.1 q
    exact rV_mk (w := w) (m := m) H
  · replace H := H.2 q
    refine And.intro (And.intro (rfl) (by decide : ¬ 287 = 0)) ?_
    refine And.intro (And.intro (rfl) (by decide : ¬ 268 = 0)) ?_
    refine And.intro (And.intro (rfl) H.1) ?_
    replace H := H.2
    refine And.intro (rfl) ?_
    refine cI_use (w := w) (m := m) rfl H ?_
    intro v1 m1 H
    refine And.intro (And.intro (rfl) H.1) ?_
    replace H := H.2
    exact H _ _

def W_M_basePlace_5 (d : Nat) (l1 : Int64) (l3 : Int32) (l4 : Int32) (w : Nat × Nat × Nat) (m : zM) (Q : Int32 → zM → Prop) : Prop := ∀ o5 : Option Value, mm_W d 238 5 [some (.ref 261), some (.long l1), none, some (.int l3), some (.int l4), o5] [] (zE w m) (rI w Q)
theorem S_M_basePlace {p0 : Int64} {d : Nat} {w : Nat × Nat × Nat} {m : zM} {Q : Int32 → zM → Prop} (H : W_M_basePlace_5 d p0 (0 : Int32) (m.1 261 43) w m Q) : cI d 238 [.ref 261, .long p0] w m Q := by
  refine cI_in rfl ?_
  refine mm_yrun (is := mm_k238) [5] 400 rfl ?_
  refine And.intro (rfl) ?_
  exact H _
theorem S_M_basePlace_5 {l1 : Int64} {l3 : Int32} {l4 : Int32} {d : Nat} {w : Nat × Nat × Nat} {m : zM} {Q : Int32 → zM → Prop} (H : ((l4 ≤ l3 → Q l3 m) ∧ (¬ l4 ≤ l3 → vp_in ((l3 + l4) >>> ((1 : Int32) &&& 31)) 400 ∧ (((l1 ≤ (m.2 286 (((l3 + l4) >>> ((1 : Int32) &&& 31))).toNatClampNeg) → W_M_basePlace_5 d l1 l3 ((l3 + l4) >>> ((1 : Int32) &&& 31)) w m Q) ∧ (¬ l1 ≤ (m.2 286 (((l3 + l4) >>> ((1 : Int32) &&& 31))).toNatClampNeg) → W_M_basePlace_5 d l1 (((l3 + l4) >>> ((1 : Int32) &&& 31)) + (1 : Int32)) l4 w m Q)))))) : W_M_basePlace_5 d l1 l3 l4 w m Q := by
  intro o5
  refine mm_yrun (is := mm_k238) [5] 400 rfl ?_
  refine And.intro (fun q => ?_) (fun q => ?_)
  · replace H := H.1 q
    exact rI_mk (w := w) (m := m) H
  · replace H := H.2 q
    refine And.intro (And.intro (rfl) (by decide : ¬ 286 = 0)) ?_
    refine And.intro (And.intro (rfl) H.1) ?_
    replace H := H.2
    refine And.intro (fun q => ?_) (fun q => ?_)
    · replace H := H.1 q
      exact H _
    · replace H := H.2 q
      exact H _

def W_M_lays_17 (d : Nat) (l1 : Int32) (w : Nat × Nat × Nat) (m : zM) (Q : zM → Prop) : Prop := ∀ o2 : Option Value, mm_W (d + 1) 239 17 [some (.ref 261), some (.int l1), o2] [] (zE w m) (rV w Q)
def W_M_lays_29 (d : Nat) (l1 : Int32) (w : Nat × Nat × Nat) (m : zM) (Q : zM → Prop) : Prop := ∀ o2 : Option Value, mm_W (d + 1) 239 29 [some (.ref 261), some (.int l1), o2] [] (zE w m) (rV w Q)
def W_M_lays_35 (d : Nat) (l1 : Int32) (l2 : Int32) (w : Nat × Nat × Nat) (m : zM) (Q : zM → Prop) : Prop := mm_W (d + 1) 239 35 [some (.ref 261), some (.int l1), some (.int l2)] [] (zE w m) (rV w Q)
def W_M_lays_79 (d : Nat) (l1 : Int32) (w : Nat × Nat × Nat) (m : zM) (Q : zM → Prop) : Prop := ∀ o2 : Option Value, mm_W (d + 1) 239 79 [some (.ref 261), some (.int l1), o2] [] (zE w m) (rV w Q)
def W_M_lays_102 (d : Nat) (l1 : Int32) (w : Nat × Nat × Nat) (m : zM) (Q : zM → Prop) : Prop := ∀ o2 : Option Value, mm_W (d + 1) 239 102 [some (.ref 261), some (.int l1), o2] [] (zE w m) (rV w Q)
def W_M_lays_192 (d : Nat) (l1 : Int32) (w : Nat × Nat × Nat) (m : zM) (Q : zM → Prop) : Prop := ∀ o2 : Option Value, mm_W (d + 1) 239 192 [some (.ref 261), some (.int l1), o2] [] (zE w m) (rV w Q)
def W_M_lays_75 (d : Nat) (l1 : Int32) (w : Nat × Nat × Nat) (m : zM) (Q : zM → Prop) : Prop := ∀ o2 : Option Value, mm_W (d + 1) 239 75 [some (.ref 261), some (.int l1), o2] [] (zE w m) (rV w Q)
def W_M_lays_148 (d : Nat) (l1 : Int32) (l2 : Int32) (w : Nat × Nat × Nat) (m : zM) (Q : zM → Prop) : Prop := mm_W (d + 1) 239 148 [some (.ref 261), some (.int l1), some (.int l2)] [] (zE w m) (rV w Q)
theorem S_M_lays  {d : Nat} {w : Nat × Nat × Nat} {m : zM} {Q : zM → Prop} (H : (((m.1 261 20) = 0 → cV d 237 [.ref 261] w (zI m 261 20 (1 : Int32)) (fun m1 => W_M_lays_17 d (0 : Int32) w (zI (zI m1 261 26 (0 : Int32)) 261 32 (0 : Int32)) Q)) ∧ (¬ (m.1 261 20) = 0 → Q m))) : cV (d + 1) 239 [.ref 261] w m Q := by
  refine cV_in rfl ?_
  refine mm_yrun (is := mm_k239) [17, 29, 35, 75, 79, 102, 148, 192] 400 rfl ?_
  refine And.intro (rfl) ?_
  refine And.intro (fun q => ?_) (fun q => ?_)
  · replace H := H.1 q
    refine And.intro (And.intro (rfl) (Or.inr rfl)) ?_
    refine And.intro (rfl) ?_
    refine cV_use (w := w) (m := (zI m 261 20 (1 : Int32))) rfl H ?_
    intro m1 H
    refine And.intro (rfl) ?_
    refine And.intro (rfl) ?_
    exact H _
  · replace H := H.2 q
    exact rV_mk (w := w) (m := m) H
theorem S_M_lays_17 {l1 : Int32} {d : Nat} {w : Nat × Nat × Nat} {m : zM} {Q : zM → Prop} (H : (((2400 : Int32) ≤ l1 → W_M_lays_29 d (0 : Int32) w m Q) ∧ (¬ (2400 : Int32) ≤ l1 → vp_in l1 2400 ∧ (W_M_lays_17 d (l1 + (1 : Int32)) w (zI m 276 (l1).toNatClampNeg (0 : Int32)) Q)))) : W_M_lays_17 d l1 w m Q := by
  intro o2
  refine mm_yrun (is := mm_k239) [17, 29, 35, 75, 79, 102, 148, 192] 400 rfl ?_
  refine And.intro (fun q => ?_) (fun q => ?_)
  · replace H := H.1 q
    exact H _
  · replace H := H.2 q
    refine And.intro (And.intro (rfl) (by decide : ¬ 276 = 0)) ?_
    refine And.intro (And.intro (And.intro (rfl) H.1) (Or.inl rfl)) ?_
    replace H := H.2
    exact H _
theorem S_M_lays_29 {l1 : Int32} {d : Nat} {w : Nat × Nat × Nat} {m : zM} {Q : zM → Prop} (H : (((m.1 261 21) ≤ l1 → W_M_lays_79 d (0 : Int32) w m Q) ∧ (¬ (m.1 261 21) ≤ l1 → W_M_lays_35 d l1 (1 : Int32) w m Q))) : W_M_lays_29 d l1 w m Q := by
  intro o2
  refine mm_yrun (is := mm_k239) [17, 29, 35, 75, 79, 102, 148, 192] 400 rfl ?_
  refine And.intro (rfl) ?_
  refine And.intro (fun q => ?_) (fun q => ?_)
  · replace H := H.1 q
    exact H _
  · replace H := H.2 q
    exact H
theorem S_M_lays_35 {l1 : Int32} {l2 : Int32} {d : Nat} {w : Nat × Nat × Nat} {m : zM} {Q : zM → Prop} (H : vp_in (1899 : Int32) 1906 ∧ ((((m.2 262 ((1899 : Int32)).toNatClampNeg) < (l2).toInt64 → W_M_lays_75 d l1 w m Q) ∧ (¬ (m.2 262 ((1899 : Int32)).toNatClampNeg) < (l2).toInt64 → (((m.1 261 21) < (l1 + l2) → W_M_lays_75 d l1 w m Q) ∧ (¬ (m.1 261 21) < (l1 + l2) → cI d 231 [.ref 261, .int l1, .int ((l1 + l2) - (1 : Int32))] w m (fun v1 m1 => ((v1 = 0 → W_M_lays_75 d l1 w m1 Q) ∧ (¬ v1 = 0 → vp_in (1898 : Int32) 1906 ∧ ((((l2).toInt64 < (m1.2 262 ((1898 : Int32)).toNatClampNeg) → W_M_lays_35 d l1 (l2 + (1 : Int32)) w m1 Q) ∧ (¬ (l2).toInt64 < (m1.2 262 ((1898 : Int32)).toNatClampNeg) → cI d 232 [.ref 261, .int l1, .int l2] w m1 (fun v2 m2 => ((v2 = 0 → W_M_lays_35 d l1 (l2 + (1 : Int32)) w m2 Q) ∧ (¬ v2 = 0 → cV d 235 [.ref 261, .int l1, .int l2] w m2 (fun m3 => W_M_lays_35 d l1 (l2 + (1 : Int32)) w m3 Q)))))))))))))))) : W_M_lays_35 d l1 l2 w m Q := by
  refine mm_yrun (is := mm_k239) [17, 29, 35, 75, 79, 102, 148, 192] 400 rfl ?_
  refine And.intro (And.intro (rfl) (by decide : ¬ 262 = 0)) ?_
  refine And.intro (And.intro (rfl) H.1) ?_
  replace H := H.2
  refine And.intro (fun q => ?_) (fun q => ?_)
  · replace H := H.1 q
    exact H _
  · replace H := H.2 q
    refine And.intro (rfl) ?_
    refine And.intro (fun q => ?_) (fun q => ?_)
    · replace H := H.1 q
      exact H _
    · replace H := H.2 q
      refine And.intro (rfl) ?_
      refine cI_use (w := w) (m := m) rfl H ?_
      intro v1 m1 H
      refine And.intro (fun q => ?_) (fun q => ?_)
      · replace H := H.1 q
        exact H _
      · replace H := H.2 q
        refine And.intro (And.intro (rfl) (by decide : ¬ 262 = 0)) ?_
        refine And.intro (And.intro (rfl) H.1) ?_
        replace H := H.2
        refine And.intro (fun q => ?_) (fun q => ?_)
        · replace H := H.1 q
          exact H
        · replace H := H.2 q
          refine And.intro (rfl) ?_
          refine cI_use (w := w) (m := m1) rfl H ?_
          intro v2 m2 H
          refine And.intro (fun q => ?_) (fun q => ?_)
          · replace H := H.1 q
            exact H
          · replace H := H.2 q
            refine And.intro (rfl) ?_
            refine cV_use (w := w) (m := m2) rfl H ?_
            intro m3 H
            exact H
theorem S_M_lays_79 {l1 : Int32} {d : Nat} {w : Nat × Nat × Nat} {m : zM} {Q : zM → Prop} (H : (((m.1 261 32) ≤ l1 → W_M_lays_102 d (0 : Int32) w m Q) ∧ (¬ (m.1 261 32) ≤ l1 → vp_in l1 2000 ∧ (vp_in l1 2000 ∧ (vp_in l1 2000 ∧ (W_M_lays_79 d (l1 + (1 : Int32)) w (zI (zI (zI m 279 (l1).toNatClampNeg (0 : Int32)) 280 (l1).toNatClampNeg (0 : Int32)) 282 (l1).toNatClampNeg (0 : Int32)) Q)))))) : W_M_lays_79 d l1 w m Q := by
  intro o2
  refine mm_yrun (is := mm_k239) [17, 29, 35, 75, 79, 102, 148, 192] 400 rfl ?_
  refine And.intro (rfl) ?_
  refine And.intro (fun q => ?_) (fun q => ?_)
  · replace H := H.1 q
    exact H _
  · replace H := H.2 q
    refine And.intro (And.intro (rfl) (by decide : ¬ 279 = 0)) ?_
    refine And.intro (And.intro (rfl) H.1) ?_
    replace H := H.2
    refine And.intro (And.intro (rfl) (by decide : ¬ 280 = 0)) ?_
    refine And.intro (And.intro (rfl) H.1) ?_
    replace H := H.2
    refine And.intro (And.intro (rfl) (by decide : ¬ 282 = 0)) ?_
    refine And.intro (And.intro (rfl) H.1) ?_
    replace H := H.2
    exact H _
theorem S_M_lays_102 {l1 : Int32} {d : Nat} {w : Nat × Nat × Nat} {m : zM} {Q : zM → Prop} (H : (((m.1 261 26) ≤ l1 → W_M_lays_192 d (0 : Int32) w m Q) ∧ (¬ (m.1 261 26) ≤ l1 → vp_in l1 2000 ∧ (vp_in l1 2000 ∧ (cI d 234 [.ref 261, .ref 268, .int (m.1 272 (l1).toNatClampNeg), .int (m.1 273 (l1).toNatClampNeg)] w m (fun v1 m1 => vp_in l1 2000 ∧ (vp_in l1 2000 ∧ (vp_in l1 2000 ∧ (cI d 236 [.ref 261, .int (m1.1 272 (l1).toNatClampNeg), .int (m1.1 273 (l1).toNatClampNeg)] w (zI m1 274 (l1).toNatClampNeg v1) (fun v2 m2 => (vp_in l1 2000 ∧ (v2 = 0 ∨ v2 = 1)) ∧ (vp_in v1 2000 ∧ (((¬ (m2.1 279 (v1).toNatClampNeg) = 0 → W_M_lays_148 d l1 v1 w (zI m2 275 (l1).toNatClampNeg v2) Q) ∧ ((m2.1 279 (v1).toNatClampNeg) = 0 → vp_in v1 2000 ∧ (W_M_lays_148 d l1 v1 w (zI (zI m2 275 (l1).toNatClampNeg v2) 281 (v1).toNatClampNeg l1) Q))))))))))))))) : W_M_lays_102 d l1 w m Q := by
  intro o2
  refine mm_yrun (is := mm_k239) [17, 29, 35, 75, 79, 102, 148, 192] 400 rfl ?_
  refine And.intro (rfl) ?_
  refine And.intro (fun q => ?_) (fun q => ?_)
  · replace H := H.1 q
    exact H _
  · replace H := H.2 q
    refine And.intro (And.intro (rfl) (by decide : ¬ 268 = 0)) ?_
    refine And.intro (And.intro (rfl) (by decide : ¬ 272 = 0)) ?_
    refine And.intro (And.intro (rfl) H.1) ?_
    replace H := H.2
    refine And.intro (And.intro (rfl) (by decide : ¬ 273 = 0)) ?_
    refine And.intro (And.intro (rfl) H.1) ?_
    replace H := H.2
    refine And.intro (rfl) ?_
    refine cI_use (w := w) (m := m) rfl H ?_
    intro v1 m1 H
    refine And.intro (And.intro (rfl) (by decide : ¬ 274 = 0)) ?_
    refine And.intro (And.intro (rfl) H.1) ?_
    replace H := H.2
    refine And.intro (And.intro (rfl) (by decide : ¬ 275 = 0)) ?_
    refine And.intro (And.intro (rfl) (by decide : ¬ 272 = 0)) ?_
    refine And.intro (And.intro (rfl) H.1) ?_
    replace H := H.2
    refine And.intro (And.intro (rfl) (by decide : ¬ 273 = 0)) ?_
    refine And.intro (And.intro (rfl) H.1) ?_
    replace H := H.2
    refine And.intro (rfl) ?_
    refine cI_use (w := w) (m := (zI m1 274 (l1).toNatClampNeg v1)) rfl H ?_
    intro v2 m2 H
    refine And.intro (And.intro (And.intro (rfl) H.1.1) H.1.2) ?_
    replace H := H.2
    refine And.intro (And.intro (rfl) (by decide : ¬ 279 = 0)) ?_
    refine And.intro (And.intro (rfl) H.1) ?_
    replace H := H.2
    refine And.intro (fun q => ?_) (fun q => ?_)
    · replace H := H.1 q
      exact H
    · replace H := H.2 (Classical.not_not.mp q)
      refine And.intro (And.intro (rfl) (by decide : ¬ 281 = 0)) ?_
      refine And.intro (And.intro (rfl) H.1) ?_
      replace H := H.2
      exact H
theorem S_M_lays_192 {l1 : Int32} {d : Nat} {w : Nat × Nat × Nat} {m : zM} {Q : zM → Prop} (H : (((m.1 261 32) ≤ l1 → cV d 244 [.ref 261] w m (fun m1 => Q m1)) ∧ (¬ (m.1 261 32) ≤ l1 → cV d 242 [.ref 261, .int l1] w m (fun m2 => W_M_lays_192 d (l1 + (1 : Int32)) w m2 Q)))) : W_M_lays_192 d l1 w m Q := by
  intro o2
  refine mm_yrun (is := mm_k239) [17, 29, 35, 75, 79, 102, 148, 192] 400 rfl ?_
  refine And.intro (rfl) ?_
  refine And.intro (fun q => ?_) (fun q => ?_)
  · replace H := H.1 q
    refine And.intro (rfl) ?_
    refine cV_use (w := w) (m := m) rfl H ?_
    intro m1 H
    exact rV_mk (w := w) (m := m1) H
  · replace H := H.2 q
    refine And.intro (rfl) ?_
    refine cV_use (w := w) (m := m) rfl H ?_
    intro m2 H
    exact H _
theorem S_M_lays_75 {l1 : Int32} {d : Nat} {w : Nat × Nat × Nat} {m : zM} {Q : zM → Prop} (H : W_M_lays_29 d (l1 + (1 : Int32)) w m Q) : W_M_lays_75 d l1 w m Q := by
  intro o2
  refine mm_yrun (is := mm_k239) [17, 29, 35, 75, 79, 102, 148, 192] 400 rfl ?_
  exact H _
theorem S_M_lays_148 {l1 : Int32} {l2 : Int32} {d : Nat} {w : Nat × Nat × Nat} {m : zM} {Q : zM → Prop} (H : vp_in l2 2000 ∧ (vp_in l2 2000 ∧ (vp_in l2 2000 ∧ (vp_in l1 2000 ∧ (((¬ (m.1 275 (l1).toNatClampNeg) = 0 → cI d 182 [.int (0 : Int32)] w (zI m 279 (l2).toNatClampNeg ((m.1 279 (l2).toNatClampNeg) + (1 : Int32))) (fun v1 m1 => vp_in l2 2000 ∧ (vp_in l2 2000 ∧ (vp_in l1 2000 ∧ (vp_in (m1.1 272 (l1).toNatClampNeg) 400 ∧ (vp_in l2 2000 ∧ (W_M_lays_102 d (l1 + (1 : Int32)) w (zI (zI m1 280 (l2).toNatClampNeg ((m.1 280 (l2).toNatClampNeg) + v1)) 282 (l2).toNatClampNeg ((m1.1 282 (l2).toNatClampNeg) ||| ((1 : Int32) <<< ((m1.1 270 ((m1.1 272 (l1).toNatClampNeg)).toNatClampNeg) &&& 31)))) Q))))))) ∧ ((m.1 275 (l1).toNatClampNeg) = 0 → cI d 182 [.int (1 : Int32)] w (zI m 279 (l2).toNatClampNeg ((m.1 279 (l2).toNatClampNeg) + (1 : Int32))) (fun v2 m2 => vp_in l2 2000 ∧ (vp_in l2 2000 ∧ (vp_in l1 2000 ∧ (vp_in (m2.1 272 (l1).toNatClampNeg) 400 ∧ (vp_in l2 2000 ∧ (W_M_lays_102 d (l1 + (1 : Int32)) w (zI (zI m2 280 (l2).toNatClampNeg ((m.1 280 (l2).toNatClampNeg) + v2)) 282 (l2).toNatClampNeg ((m2.1 282 (l2).toNatClampNeg) ||| ((1 : Int32) <<< ((m2.1 270 ((m2.1 272 (l1).toNatClampNeg)).toNatClampNeg) &&& 31)))) Q))))))))))))) : W_M_lays_148 d l1 l2 w m Q := by
  refine mm_yrun (is := mm_k239) [17, 29, 35, 75, 79, 102, 148, 192] 400 rfl ?_
  refine And.intro (And.intro (rfl) (by decide : ¬ 279 = 0)) ?_
  refine And.intro (And.intro (rfl) H.1) ?_
  replace H := H.2
  refine And.intro (And.intro (rfl) H.1) ?_
  replace H := H.2
  refine And.intro (And.intro (rfl) (by decide : ¬ 280 = 0)) ?_
  refine And.intro (And.intro (rfl) H.1) ?_
  replace H := H.2
  refine And.intro (And.intro (rfl) (by decide : ¬ 275 = 0)) ?_
  refine And.intro (And.intro (rfl) H.1) ?_
  replace H := H.2
  refine And.intro (fun q => ?_) (fun q => ?_)
  · replace H := H.1 q
    refine And.intro (trivial) ?_
    refine cI_use (w := w) (m := (zI m 279 (l2).toNatClampNeg ((m.1 279 (l2).toNatClampNeg) + (1 : Int32)))) rfl H ?_
    intro v1 m1 H
    refine And.intro (And.intro (rfl) H.1) ?_
    replace H := H.2
    refine And.intro (And.intro (rfl) (by decide : ¬ 282 = 0)) ?_
    refine And.intro (And.intro (rfl) H.1) ?_
    replace H := H.2
    refine And.intro (And.intro (rfl) (by decide : ¬ 270 = 0)) ?_
    refine And.intro (And.intro (rfl) (by decide : ¬ 272 = 0)) ?_
    refine And.intro (And.intro (rfl) H.1) ?_
    replace H := H.2
    refine And.intro (And.intro (rfl) H.1) ?_
    replace H := H.2
    refine And.intro (And.intro (rfl) H.1) ?_
    replace H := H.2
    exact H _
  · replace H := H.2 (Classical.not_not.mp q)
    refine And.intro (trivial) ?_
    refine cI_use (w := w) (m := (zI m 279 (l2).toNatClampNeg ((m.1 279 (l2).toNatClampNeg) + (1 : Int32)))) rfl H ?_
    intro v2 m2 H
    refine And.intro (And.intro (rfl) H.1) ?_
    replace H := H.2
    refine And.intro (And.intro (rfl) (by decide : ¬ 282 = 0)) ?_
    refine And.intro (And.intro (rfl) H.1) ?_
    replace H := H.2
    refine And.intro (And.intro (rfl) (by decide : ¬ 270 = 0)) ?_
    refine And.intro (And.intro (rfl) (by decide : ¬ 272 = 0)) ?_
    refine And.intro (And.intro (rfl) H.1) ?_
    replace H := H.2
    refine And.intro (And.intro (rfl) H.1) ?_
    replace H := H.2
    refine And.intro (And.intro (rfl) H.1) ?_
    replace H := H.2
    exact H _
