def W_M_term_14 (d : Nat) (l1 : Int32) (l2 : Int32) (l3 : Int32) (w : Nat × Nat × Nat) (m : zM) (Q : Int32 → zM → Prop) : Prop := mm_W (d + 1) 274 14 [some (.ref 261), some (.int l1), some (.int l2), some (.int l3)] [] (zE w m) (rI w Q)
theorem S_M_term {p0 : Int32} {p1 : Int32} {d : Nat} {w : Nat × Nat × Nat} {m : zM} {Q : Int32 → zM → Prop} (H : cI d 256 [.ref 261, .int p0] w m (fun v1 m1 => ((¬ v1 = 0 → cV d 273 [.ref 261, .int p0] w m1 (fun m2 => W_M_term_14 d p0 p1 (0 : Int32) w (zI m2 261 54 (0 : Int32)) Q)) ∧ (v1 = 0 → Q ((-1) : Int32) m1)))) : cI (d + 1) 274 [.ref 261, .int p0, .int p1] w m Q := by
  refine cI_in rfl ?_
  refine mm_yrun (is := mm_k274) [14] 400 rfl ?_
  refine And.intro (rfl) ?_
  refine cI_use (w := w) (m := m) rfl H ?_
  intro v1 m1 H
  refine And.intro (fun q => ?_) (fun q => ?_)
  · replace H := H.1 q
    refine And.intro (rfl) ?_
    refine cV_use (w := w) (m := m1) rfl H ?_
    intro m2 H
    refine And.intro (rfl) ?_
    exact H
  · replace H := H.2 (Classical.not_not.mp q)
    exact rI_mk (w := w) (m := m1) H
theorem S_M_term_14 {l1 : Int32} {l2 : Int32} {l3 : Int32} {d : Nat} {w : Nat × Nat × Nat} {m : zM} {Q : Int32 → zM → Prop} (H : vp_in l1 2000 ∧ ((((m.1 278 (l1).toNatClampNeg) ≤ l3 → Q (m.1 261 54) m) ∧ (¬ (m.1 278 (l1).toNatClampNeg) ≤ l3 → ((l3 ≤ 0 → ((l2 = 0 → vp_in l1 2000 ∧ (vp_in ((m.1 277 (l1).toNatClampNeg) + l3) 400 ∧ (cV d 264 [.ref 261, .long (m.2 268 (((m.1 277 (l1).toNatClampNeg) + l3)).toNatClampNeg)] w m (fun m1 => W_M_term_14 d l1 l2 (l3 + (1 : Int32)) w m1 Q)))) ∧ (¬ l2 = 0 → vp_in (m.1 261 56) 2000 ∧ (vp_in (((269 : Int32) + (m.1 272 ((m.1 261 56)).toNatClampNeg)) + l3) 1906 ∧ (cV d 264 [.ref 261, .long (m.2 262 ((((269 : Int32) + (m.1 272 ((m.1 261 56)).toNatClampNeg)) + l3)).toNatClampNeg)] w m (fun m2 => W_M_term_14 d l1 l2 (l3 + (1 : Int32)) w m2 Q)))))) ∧ (¬ l3 ≤ 0 → cV d 263 [.ref 261, .int (32 : Int32)] w m (fun m3 => ((l2 = 0 → vp_in l1 2000 ∧ (vp_in ((m3.1 277 (l1).toNatClampNeg) + l3) 400 ∧ (cV d 264 [.ref 261, .long (m3.2 268 (((m3.1 277 (l1).toNatClampNeg) + l3)).toNatClampNeg)] w m3 (fun m4 => W_M_term_14 d l1 l2 (l3 + (1 : Int32)) w m4 Q)))) ∧ (¬ l2 = 0 → vp_in (m3.1 261 56) 2000 ∧ (vp_in (((269 : Int32) + (m3.1 272 ((m3.1 261 56)).toNatClampNeg)) + l3) 1906 ∧ (cV d 264 [.ref 261, .long (m3.2 262 ((((269 : Int32) + (m3.1 272 ((m3.1 261 56)).toNatClampNeg)) + l3)).toNatClampNeg)] w m3 (fun m5 => W_M_term_14 d l1 l2 (l3 + (1 : Int32)) w m5 Q)))))))))))) : W_M_term_14 d l1 l2 l3 w m Q := by
  refine mm_yrun (is := mm_k274) [14] 400 rfl ?_
  refine And.intro (And.intro (rfl) (by decide : ¬ 278 = 0)) ?_
  refine And.intro (And.intro (rfl) H.1) ?_
  replace H := H.2
  refine And.intro (fun q => ?_) (fun q => ?_)
  · replace H := H.1 q
    refine And.intro (rfl) ?_
    exact rI_mk (w := w) (m := m) H
  · replace H := H.2 q
    refine And.intro (fun q => ?_) (fun q => ?_)
    · replace H := H.1 q
      refine And.intro (fun q => ?_) (fun q => ?_)
      · replace H := H.1 q
        refine And.intro (And.intro (rfl) (by decide : ¬ 268 = 0)) ?_
        refine And.intro (And.intro (rfl) (by decide : ¬ 277 = 0)) ?_
        refine And.intro (And.intro (rfl) H.1) ?_
        replace H := H.2
        refine And.intro (And.intro (rfl) H.1) ?_
        replace H := H.2
        refine And.intro (rfl) ?_
        refine cV_use (w := w) (m := m) rfl H ?_
        intro m1 H
        exact H
      · replace H := H.2 q
        refine And.intro (And.intro (rfl) (by decide : ¬ 262 = 0)) ?_
        refine And.intro (And.intro (rfl) (by decide : ¬ 272 = 0)) ?_
        refine And.intro (rfl) ?_
        refine And.intro (And.intro (rfl) H.1) ?_
        replace H := H.2
        refine And.intro (And.intro (rfl) H.1) ?_
        replace H := H.2
        refine And.intro (rfl) ?_
        refine cV_use (w := w) (m := m) rfl H ?_
        intro m2 H
        exact H
    · replace H := H.2 q
      refine And.intro (rfl) ?_
      refine cV_use (w := w) (m := m) rfl H ?_
      intro m3 H
      refine And.intro (fun q => ?_) (fun q => ?_)
      · replace H := H.1 q
        refine And.intro (And.intro (rfl) (by decide : ¬ 268 = 0)) ?_
        refine And.intro (And.intro (rfl) (by decide : ¬ 277 = 0)) ?_
        refine And.intro (And.intro (rfl) H.1) ?_
        replace H := H.2
        refine And.intro (And.intro (rfl) H.1) ?_
        replace H := H.2
        refine And.intro (rfl) ?_
        refine cV_use (w := w) (m := m3) rfl H ?_
        intro m4 H
        exact H
      · replace H := H.2 q
        refine And.intro (And.intro (rfl) (by decide : ¬ 262 = 0)) ?_
        refine And.intro (And.intro (rfl) (by decide : ¬ 272 = 0)) ?_
        refine And.intro (rfl) ?_
        refine And.intro (And.intro (rfl) H.1) ?_
        replace H := H.2
        refine And.intro (And.intro (rfl) H.1) ?_
        replace H := H.2
        refine And.intro (rfl) ?_
        refine cV_use (w := w) (m := m3) rfl H ?_
        intro m5 H
        exact H

def W_M_find_8 (d : Nat) (l1 : Int32) (l2 : Int32) (w : Nat × Nat × Nat) (m : zM) (Q : Int32 → zM → Prop) : Prop := ∀ o3 : Option Value, mm_W (d + 1) 275 8 [some (.ref 261), some (.int l1), some (.int l2), o3] [] (zE w m) (rI w Q)
theorem S_M_find  {d : Nat} {w : Nat × Nat × Nat} {m : zM} {Q : Int32 → zM → Prop} (H : cV d 239 [.ref 261] w m (fun m1 => cV d 200 [.ref 261] w m1 (fun m2 => W_M_find_8 d (0 : Int32) (1 : Int32) w m2 Q))) : cI (d + 1) 275 [.ref 261] w m Q := by
  refine cI_in rfl ?_
  refine mm_yrun (is := mm_k275) [8] 400 rfl ?_
  refine And.intro (rfl) ?_
  refine cV_use (w := w) (m := m) rfl H ?_
  intro m1 H
  refine And.intro (rfl) ?_
  refine cV_use (w := w) (m := m1) rfl H ?_
  intro m2 H
  exact H _
theorem S_M_find_8 {l1 : Int32} {l2 : Int32} {d : Nat} {w : Nat × Nat × Nat} {m : zM} {Q : Int32 → zM → Prop} (H : ((l2 = 0 → ((l2 = 0 → Q ((-1) : Int32) (zI m 261 5 (0 : Int32))) ∧ (¬ l2 = 0 → ((l1 = 0 → Q ((-1) : Int32) (zI m 261 5 (0 : Int32))) ∧ (¬ l1 = 0 → ((l1 ≤ (5 : Int32) → cI d 234 [.ref 261, .ref 297, .int (0 : Int32), .int l1] w (zI m 261 5 (0 : Int32)) (fun v1 m1 => (((m1.1 261 32) ≤ v1 → Q ((-1) : Int32) m1) ∧ (¬ (m1.1 261 32) ≤ v1 → cI d 233 [.ref 261, .ref 297, .int (0 : Int32), .int l1, .int v1] w m1 (fun v2 m2 => ((¬ v2 = 0 → Q ((-1) : Int32) m2) ∧ (v2 = 0 → Q v1 m2))))))) ∧ (¬ l1 ≤ (5 : Int32) → Q ((-1) : Int32) (zI m 261 5 (0 : Int32))))))))) ∧ (¬ l2 = 0 → cI d 201 [.ref 261] w m (fun v3 m3 => ((v3 = ((-1) : Int32) → ((l2 = 0 → Q ((-1) : Int32) (zI m3 261 5 (0 : Int32))) ∧ (¬ l2 = 0 → ((l1 = 0 → Q ((-1) : Int32) (zI m3 261 5 (0 : Int32))) ∧ (¬ l1 = 0 → ((l1 ≤ (5 : Int32) → cI d 234 [.ref 261, .ref 297, .int (0 : Int32), .int l1] w (zI m3 261 5 (0 : Int32)) (fun v4 m4 => (((m4.1 261 32) ≤ v4 → Q ((-1) : Int32) m4) ∧ (¬ (m4.1 261 32) ≤ v4 → cI d 233 [.ref 261, .ref 297, .int (0 : Int32), .int l1, .int v4] w m4 (fun v5 m5 => ((¬ v5 = 0 → Q ((-1) : Int32) m5) ∧ (v5 = 0 → Q v4 m5))))))) ∧ (¬ l1 ≤ (5 : Int32) → Q ((-1) : Int32) (zI m3 261 5 (0 : Int32))))))))) ∧ (¬ v3 = ((-1) : Int32) → cI d 204 [.ref 261] w m3 (fun v6 m6 => ((v6 = 0 → W_M_find_8 d l1 v6 w m6 Q) ∧ (¬ v6 = 0 → (((6 : Int32) ≤ l1 → W_M_find_8 d l1 v6 w m6 Q) ∧ (¬ (6 : Int32) ≤ l1 → cL d 193 [.ref 261, .long (m6.2 261 11)] w m6 (fun v7 m7 => vp_in l1 6 ∧ (W_M_find_8 d (l1 + (1 : Int32)) v6 w (zL m7 297 (l1).toNatClampNeg v7) Q))))))))))))) : W_M_find_8 d l1 l2 w m Q := by
  intro o3
  refine mm_yrun (is := mm_k275) [8] 400 rfl ?_
  refine And.intro (fun q => ?_) (fun q => ?_)
  · replace H := H.1 q
    refine And.intro (rfl) ?_
    refine And.intro (fun q => ?_) (fun q => ?_)
    · replace H := H.1 q
      exact rI_mk (w := w) (m := (zI m 261 5 (0 : Int32))) H
    · replace H := H.2 q
      refine And.intro (fun q => ?_) (fun q => ?_)
      · replace H := H.1 q
        exact rI_mk (w := w) (m := (zI m 261 5 (0 : Int32))) H
      · replace H := H.2 q
        refine And.intro (fun q => ?_) (fun q => ?_)
        · replace H := H.1 q
          refine And.intro (And.intro (rfl) (by decide : ¬ 297 = 0)) ?_
          refine And.intro (rfl) ?_
          refine cI_use (w := w) (m := (zI m 261 5 (0 : Int32))) rfl H ?_
          intro v1 m1 H
          refine And.intro (rfl) ?_
          refine And.intro (fun q => ?_) (fun q => ?_)
          · replace H := H.1 q
            exact rI_mk (w := w) (m := m1) H
          · replace H := H.2 q
            refine And.intro (And.intro (rfl) (by decide : ¬ 297 = 0)) ?_
            refine And.intro (rfl) ?_
            refine cI_use (w := w) (m := m1) rfl H ?_
            intro v2 m2 H
            refine And.intro (fun q => ?_) (fun q => ?_)
            · replace H := H.1 q
              exact rI_mk (w := w) (m := m2) H
            · replace H := H.2 (Classical.not_not.mp q)
              exact rI_mk (w := w) (m := m2) H
        · replace H := H.2 q
          exact rI_mk (w := w) (m := (zI m 261 5 (0 : Int32))) H
  · replace H := H.2 q
    refine And.intro (rfl) ?_
    refine cI_use (w := w) (m := m) rfl H ?_
    intro v3 m3 H
    refine And.intro (fun q => ?_) (fun q => ?_)
    · replace H := H.1 q
      refine And.intro (rfl) ?_
      refine And.intro (fun q => ?_) (fun q => ?_)
      · replace H := H.1 q
        exact rI_mk (w := w) (m := (zI m3 261 5 (0 : Int32))) H
      · replace H := H.2 q
        refine And.intro (fun q => ?_) (fun q => ?_)
        · replace H := H.1 q
          exact rI_mk (w := w) (m := (zI m3 261 5 (0 : Int32))) H
        · replace H := H.2 q
          refine And.intro (fun q => ?_) (fun q => ?_)
          · replace H := H.1 q
            refine And.intro (And.intro (rfl) (by decide : ¬ 297 = 0)) ?_
            refine And.intro (rfl) ?_
            refine cI_use (w := w) (m := (zI m3 261 5 (0 : Int32))) rfl H ?_
            intro v4 m4 H
            refine And.intro (rfl) ?_
            refine And.intro (fun q => ?_) (fun q => ?_)
            · replace H := H.1 q
              exact rI_mk (w := w) (m := m4) H
            · replace H := H.2 q
              refine And.intro (And.intro (rfl) (by decide : ¬ 297 = 0)) ?_
              refine And.intro (rfl) ?_
              refine cI_use (w := w) (m := m4) rfl H ?_
              intro v5 m5 H
              refine And.intro (fun q => ?_) (fun q => ?_)
              · replace H := H.1 q
                exact rI_mk (w := w) (m := m5) H
              · replace H := H.2 (Classical.not_not.mp q)
                exact rI_mk (w := w) (m := m5) H
          · replace H := H.2 q
            exact rI_mk (w := w) (m := (zI m3 261 5 (0 : Int32))) H
    · replace H := H.2 q
      refine And.intro (rfl) ?_
      refine cI_use (w := w) (m := m3) rfl H ?_
      intro v6 m6 H
      refine And.intro (fun q => ?_) (fun q => ?_)
      · replace H := H.1 q
        exact H _
      · replace H := H.2 q
        refine And.intro (fun q => ?_) (fun q => ?_)
        · replace H := H.1 q
          exact H _
        · replace H := H.2 q
          refine And.intro (And.intro (rfl) (by decide : ¬ 297 = 0)) ?_
          refine And.intro (rfl) ?_
          refine And.intro (rfl) ?_
          refine cL_use (w := w) (m := m6) rfl H ?_
          intro v7 m7 H
          refine And.intro (And.intro (rfl) H.1) ?_
          replace H := H.2
          exact H _

def W_M_aroundOf_7 (d : Nat) (l2 : Int32) (l3 : Int32) (w : Nat × Nat × Nat) (m : zM) (Q : Int32 → zM → Prop) : Prop := ∀ o1 : Option Value, mm_W (d + 1) 276 7 [some (.ref 261), o1, some (.int l2), some (.int l3)] [] (zE w m) (rI w Q)
theorem S_M_aroundOf {p0 : Int32} {d : Nat} {w : Nat × Nat × Nat} {m : zM} {Q : Int32 → zM → Prop} (H : cV d 243 [.ref 261, .int p0] w m (fun m1 => W_M_aroundOf_7 d (0 : Int32) (0 : Int32) w m1 Q)) : cI (d + 1) 276 [.ref 261, .int p0] w m Q := by
  refine cI_in rfl ?_
  refine mm_yrun (is := mm_k276) [7] 400 rfl ?_
  refine And.intro (rfl) ?_
  refine cV_use (w := w) (m := m) rfl H ?_
  intro m1 H
  exact H _
theorem S_M_aroundOf_7 {l2 : Int32} {l3 : Int32} {d : Nat} {w : Nat × Nat × Nat} {m : zM} {Q : Int32 → zM → Prop} (H : (((m.1 261 43) ≤ l3 → Q l2 m) ∧ (¬ (m.1 261 43) ≤ l3 → vp_in l3 400 ∧ ((((m.1 289 (l3).toNatClampNeg) ≤ 0 → cI d 182 [.int (0 : Int32)] w m (fun v1 m1 => W_M_aroundOf_7 d (l2 + v1) (l3 + (1 : Int32)) w m1 Q)) ∧ (¬ (m.1 289 (l3).toNatClampNeg) ≤ 0 → cI d 182 [.int (1 : Int32)] w m (fun v2 m2 => W_M_aroundOf_7 d (l2 + v2) (l3 + (1 : Int32)) w m2 Q))))))) : W_M_aroundOf_7 d l2 l3 w m Q := by
  intro o1
  refine mm_yrun (is := mm_k276) [7] 400 rfl ?_
  refine And.intro (rfl) ?_
  refine And.intro (fun q => ?_) (fun q => ?_)
  · replace H := H.1 q
    exact rI_mk (w := w) (m := m) H
  · replace H := H.2 q
    refine And.intro (And.intro (rfl) (by decide : ¬ 289 = 0)) ?_
    refine And.intro (And.intro (rfl) H.1) ?_
    replace H := H.2
    refine And.intro (fun q => ?_) (fun q => ?_)
    · replace H := H.1 q
      refine And.intro (trivial) ?_
      refine cI_use (w := w) (m := m) rfl H ?_
      intro v1 m1 H
      exact H _
    · replace H := H.2 q
      refine And.intro (trivial) ?_
      refine cI_use (w := w) (m := m) rfl H ?_
      intro v2 m2 H
      exact H _

theorem S_M_told {p0 : Int32} {p1 : Int32} {d : Nat} {w : Nat × Nat × Nat} {m : zM} {Q : Int32 → zM → Prop} (H : cV d 239 [.ref 261] w m (fun m1 => ((¬ p0 = ((-1) : Int32) → cI d 256 [.ref 261, .int p0] w m1 (fun v2 m2 => ((¬ v2 = 0 → ((p1 = (0 : Int32) → vp_in p0 2000 ∧ (Q (m2.1 279 (p0).toNatClampNeg) m2)) ∧ (¬ p1 = (0 : Int32) → ((p1 = (1 : Int32) → vp_in p0 2000 ∧ (Q (m2.1 280 (p0).toNatClampNeg) m2)) ∧ (¬ p1 = (1 : Int32) → ((p1 = (2 : Int32) → vp_in p0 2000 ∧ (Q (m2.1 283 (p0).toNatClampNeg) m2)) ∧ (¬ p1 = (2 : Int32) → ((p1 = (3 : Int32) → vp_in p0 2000 ∧ (Q (m2.1 284 (p0).toNatClampNeg) m2)) ∧ (¬ p1 = (3 : Int32) → ((p1 = (4 : Int32) → cV d 273 [.ref 261, .int p0] w m2 (fun m3 => Q (m3.1 261 55) m3)) ∧ (¬ p1 = (4 : Int32) → ((p1 = (5 : Int32) → vp_in p0 2000 ∧ (Q (m2.1 285 (p0).toNatClampNeg) m2)) ∧ (¬ p1 = (5 : Int32) → ((p1 = (6 : Int32) → vp_in p0 2000 ∧ (Q (m2.1 278 (p0).toNatClampNeg) m2)) ∧ (¬ p1 = (6 : Int32) → ((p1 = (7 : Int32) → vp_in p0 2000 ∧ (Q (m2.1 282 (p0).toNatClampNeg) m2)) ∧ (¬ p1 = (7 : Int32) → ((p1 = (8 : Int32) → cI d 276 [.ref 261, .int p0] w m2 (fun v4 m4 => Q v4 m4)) ∧ (¬ p1 = (8 : Int32) → ((p1 = (9 : Int32) → vp_in p0 2000 ∧ (Q (m2.1 281 (p0).toNatClampNeg) m2)) ∧ (¬ p1 = (9 : Int32) → Q ((-1) : Int32) m2))))))))))))))))))))) ∧ (v2 = 0 → Q ((-1) : Int32) m2)))) ∧ (p0 = ((-1) : Int32) → Q (m1.1 261 32) m1)))) : cI (d + 1) 277 [.ref 261, .int p0, .int p1] w m Q := by
  refine cI_in rfl ?_
  refine mm_yrun (is := mm_k277) [] 400 rfl ?_
  refine And.intro (rfl) ?_
  refine cV_use (w := w) (m := m) rfl H ?_
  intro m1 H
  refine And.intro (fun q => ?_) (fun q => ?_)
  · replace H := H.1 q
    refine And.intro (rfl) ?_
    refine cI_use (w := w) (m := m1) rfl H ?_
    intro v2 m2 H
    refine And.intro (fun q => ?_) (fun q => ?_)
    · replace H := H.1 q
      refine And.intro (fun q => ?_) (fun q => ?_)
      · replace H := H.1 q
        refine And.intro (And.intro (rfl) (by decide : ¬ 279 = 0)) ?_
        refine And.intro (And.intro (rfl) H.1) ?_
        replace H := H.2
        exact rI_mk (w := w) (m := m2) H
      · replace H := H.2 q
        refine And.intro (fun q => ?_) (fun q => ?_)
        · replace H := H.1 q
          refine And.intro (And.intro (rfl) (by decide : ¬ 280 = 0)) ?_
          refine And.intro (And.intro (rfl) H.1) ?_
          replace H := H.2
          exact rI_mk (w := w) (m := m2) H
        · replace H := H.2 q
          refine And.intro (fun q => ?_) (fun q => ?_)
          · replace H := H.1 q
            refine And.intro (And.intro (rfl) (by decide : ¬ 283 = 0)) ?_
            refine And.intro (And.intro (rfl) H.1) ?_
            replace H := H.2
            exact rI_mk (w := w) (m := m2) H
          · replace H := H.2 q
            refine And.intro (fun q => ?_) (fun q => ?_)
            · replace H := H.1 q
              refine And.intro (And.intro (rfl) (by decide : ¬ 284 = 0)) ?_
              refine And.intro (And.intro (rfl) H.1) ?_
              replace H := H.2
              exact rI_mk (w := w) (m := m2) H
            · replace H := H.2 q
              refine And.intro (fun q => ?_) (fun q => ?_)
              · replace H := H.1 q
                refine And.intro (rfl) ?_
                refine cV_use (w := w) (m := m2) rfl H ?_
                intro m3 H
                refine And.intro (rfl) ?_
                exact rI_mk (w := w) (m := m3) H
              · replace H := H.2 q
                refine And.intro (fun q => ?_) (fun q => ?_)
                · replace H := H.1 q
                  refine And.intro (And.intro (rfl) (by decide : ¬ 285 = 0)) ?_
                  refine And.intro (And.intro (rfl) H.1) ?_
                  replace H := H.2
                  exact rI_mk (w := w) (m := m2) H
                · replace H := H.2 q
                  refine And.intro (fun q => ?_) (fun q => ?_)
                  · replace H := H.1 q
                    refine And.intro (And.intro (rfl) (by decide : ¬ 278 = 0)) ?_
                    refine And.intro (And.intro (rfl) H.1) ?_
                    replace H := H.2
                    exact rI_mk (w := w) (m := m2) H
                  · replace H := H.2 q
                    refine And.intro (fun q => ?_) (fun q => ?_)
                    · replace H := H.1 q
                      refine And.intro (And.intro (rfl) (by decide : ¬ 282 = 0)) ?_
                      refine And.intro (And.intro (rfl) H.1) ?_
                      replace H := H.2
                      exact rI_mk (w := w) (m := m2) H
                    · replace H := H.2 q
                      refine And.intro (fun q => ?_) (fun q => ?_)
                      · replace H := H.1 q
                        refine And.intro (rfl) ?_
                        refine cI_use (w := w) (m := m2) rfl H ?_
                        intro v4 m4 H
                        exact rI_mk (w := w) (m := m4) H
                      · replace H := H.2 q
                        refine And.intro (fun q => ?_) (fun q => ?_)
                        · replace H := H.1 q
                          refine And.intro (And.intro (rfl) (by decide : ¬ 281 = 0)) ?_
                          refine And.intro (And.intro (rfl) H.1) ?_
                          replace H := H.2
                          exact rI_mk (w := w) (m := m2) H
                        · replace H := H.2 q
                          exact rI_mk (w := w) (m := m2) H
    · replace H := H.2 (Classical.not_not.mp q)
      exact rI_mk (w := w) (m := m2) H
  · replace H := H.2 (Classical.not_not.mp q)
    refine And.intro (rfl) ?_
    exact rI_mk (w := w) (m := m1) H

def W_M_longer_18 (d : Nat) (l1 : Int32) (l2 : Int32) (l3 : Int32) (l4 : Int32) (w : Nat × Nat × Nat) (m : zM) (Q : Int32 → zM → Prop) : Prop := mm_W (d + 1) 278 18 [some (.ref 261), some (.int l1), some (.int l2), some (.int l3), some (.int l4)] [] (zE w m) (rI w Q)
theorem S_M_longer {p0 : Int32} {p1 : Int32} {d : Nat} {w : Nat × Nat × Nat} {m : zM} {Q : Int32 → zM → Prop} (H : cI d 256 [.ref 261, .int p0] w m (fun v1 m1 => ((¬ v1 = 0 → ((¬ p1 = ((-1) : Int32) → W_M_longer_18 d p0 p1 p1 (0 : Int32) w m1 Q) ∧ (p1 = ((-1) : Int32) → vp_in p0 2000 ∧ (Q (m1.1 283 (p0).toNatClampNeg) m1)))) ∧ (v1 = 0 → Q ((-1) : Int32) m1)))) : cI (d + 1) 278 [.ref 261, .int p0, .int p1] w m Q := by
  refine cI_in rfl ?_
  refine mm_yrun (is := mm_k278) [18] 400 rfl ?_
  refine And.intro (rfl) ?_
  refine cI_use (w := w) (m := m) rfl H ?_
  intro v1 m1 H
  refine And.intro (fun q => ?_) (fun q => ?_)
  · replace H := H.1 q
    refine And.intro (fun q => ?_) (fun q => ?_)
    · replace H := H.1 q
      exact H
    · replace H := H.2 (Classical.not_not.mp q)
      refine And.intro (And.intro (rfl) (by decide : ¬ 283 = 0)) ?_
      refine And.intro (And.intro (rfl) H.1) ?_
      replace H := H.2
      exact rI_mk (w := w) (m := m1) H
  · replace H := H.2 (Classical.not_not.mp q)
    exact rI_mk (w := w) (m := m1) H
theorem S_M_longer_18 {l1 : Int32} {l2 : Int32} {l3 : Int32} {l4 : Int32} {d : Nat} {w : Nat × Nat × Nat} {m : zM} {Q : Int32 → zM → Prop} (H : (((m.1 261 32) ≤ l4 → Q ((-1) : Int32) m) ∧ (¬ (m.1 261 32) ≤ l4 → ((l2 < 0 → Q ((-1) : Int32) m) ∧ (¬ l2 < 0 → vp_in l4 2000 ∧ (vp_in l1 2000 ∧ ((((m.1 278 (l4).toNatClampNeg) ≤ (m.1 278 (l1).toNatClampNeg) → W_M_longer_18 d l1 l2 l3 (l4 + (1 : Int32)) w m Q) ∧ (¬ (m.1 278 (l4).toNatClampNeg) ≤ (m.1 278 (l1).toNatClampNeg) → cI d 240 [.ref 261, .int l1, .int l4] w m (fun v1 m1 => ((¬ v1 = 0 → ((¬ l3 = 0 → W_M_longer_18 d l1 l2 (l3 + ((-1) : Int32)) (l4 + (1 : Int32)) w m1 Q) ∧ (l3 = 0 → Q l4 m1))) ∧ (v1 = 0 → W_M_longer_18 d l1 l2 l3 (l4 + (1 : Int32)) w m1 Q)))))))))))) : W_M_longer_18 d l1 l2 l3 l4 w m Q := by
  refine mm_yrun (is := mm_k278) [18] 400 rfl ?_
  refine And.intro (rfl) ?_
  refine And.intro (fun q => ?_) (fun q => ?_)
  · replace H := H.1 q
    exact rI_mk (w := w) (m := m) H
  · replace H := H.2 q
    refine And.intro (fun q => ?_) (fun q => ?_)
    · replace H := H.1 q
      exact rI_mk (w := w) (m := m) H
    · replace H := H.2 q
      refine And.intro (And.intro (rfl) (by decide : ¬ 278 = 0)) ?_
      refine And.intro (And.intro (rfl) H.1) ?_
      replace H := H.2
      refine And.intro (And.intro (rfl) (by decide : ¬ 278 = 0)) ?_
      refine And.intro (And.intro (rfl) H.1) ?_
      replace H := H.2
      refine And.intro (fun q => ?_) (fun q => ?_)
      · replace H := H.1 q
        exact H
      · replace H := H.2 q
        refine And.intro (rfl) ?_
        refine cI_use (w := w) (m := m) rfl H ?_
        intro v1 m1 H
        refine And.intro (fun q => ?_) (fun q => ?_)
        · replace H := H.1 q
          refine And.intro (fun q => ?_) (fun q => ?_)
          · replace H := H.1 q
            exact H
          · replace H := H.2 (Classical.not_not.mp q)
            exact rI_mk (w := w) (m := m1) H
        · replace H := H.2 (Classical.not_not.mp q)
          exact H

def W_M_around_15 (d : Nat) (l3 : Int32) (l4 : Int32) (w : Nat × Nat × Nat) (m : zM) (Q : Int32 → zM → Prop) : Prop := ∀ o1 o2 : Option Value, mm_W (d + 1) 279 15 [some (.ref 261), o1, o2, some (.int l3), some (.int l4)] [] (zE w m) (rI w Q)
theorem S_M_around {p0 : Int32} {p1 : Int32} {d : Nat} {w : Nat × Nat × Nat} {m : zM} {Q : Int32 → zM → Prop} (H : cI d 256 [.ref 261, .int p0] w m (fun v1 m1 => ((v1 = 0 → Q ((-1) : Int32) m1) ∧ (¬ v1 = 0 → ((0 ≤ p1 → cV d 243 [.ref 261, .int p0] w m1 (fun m2 => W_M_around_15 d p1 (0 : Int32) w m2 Q)) ∧ (¬ 0 ≤ p1 → Q ((-1) : Int32) m1)))))) : cI (d + 1) 279 [.ref 261, .int p0, .int p1] w m Q := by
  refine cI_in rfl ?_
  refine mm_yrun (is := mm_k279) [15] 400 rfl ?_
  refine And.intro (rfl) ?_
  refine cI_use (w := w) (m := m) rfl H ?_
  intro v1 m1 H
  refine And.intro (fun q => ?_) (fun q => ?_)
  · replace H := H.1 q
    exact rI_mk (w := w) (m := m1) H
  · replace H := H.2 q
    refine And.intro (fun q => ?_) (fun q => ?_)
    · replace H := H.1 q
      refine And.intro (rfl) ?_
      refine cV_use (w := w) (m := m1) rfl H ?_
      intro m2 H
      exact H _ _
    · replace H := H.2 q
      exact rI_mk (w := w) (m := m1) H
theorem S_M_around_15 {l3 : Int32} {l4 : Int32} {d : Nat} {w : Nat × Nat × Nat} {m : zM} {Q : Int32 → zM → Prop} (H : (((m.1 261 43) ≤ l4 → Q ((-1) : Int32) m) ∧ (¬ (m.1 261 43) ≤ l4 → vp_in l4 400 ∧ (((¬ (m.1 289 (l4).toNatClampNeg) = 0 → ((¬ l3 = 0 → W_M_around_15 d (l3 + ((-1) : Int32)) (l4 + (1 : Int32)) w m Q) ∧ (l3 = 0 → vp_in l4 400 ∧ (cV d 264 [.ref 261, .long (m.2 286 (l4).toNatClampNeg)] w (zI m 261 54 (0 : Int32)) (fun m1 => vp_in l4 400 ∧ (Q (m1.1 289 (l4).toNatClampNeg) m1)))))) ∧ ((m.1 289 (l4).toNatClampNeg) = 0 → W_M_around_15 d l3 (l4 + (1 : Int32)) w m Q)))))) : W_M_around_15 d l3 l4 w m Q := by
  intro o1 o2
  refine mm_yrun (is := mm_k279) [15] 400 rfl ?_
  refine And.intro (rfl) ?_
  refine And.intro (fun q => ?_) (fun q => ?_)
  · replace H := H.1 q
    exact rI_mk (w := w) (m := m) H
  · replace H := H.2 q
    refine And.intro (And.intro (rfl) (by decide : ¬ 289 = 0)) ?_
    refine And.intro (And.intro (rfl) H.1) ?_
    replace H := H.2
    refine And.intro (fun q => ?_) (fun q => ?_)
    · replace H := H.1 q
      refine And.intro (fun q => ?_) (fun q => ?_)
      · replace H := H.1 q
        exact H _ _
      · replace H := H.2 (Classical.not_not.mp q)
        refine And.intro (rfl) ?_
        refine And.intro (And.intro (rfl) (by decide : ¬ 286 = 0)) ?_
        refine And.intro (And.intro (rfl) H.1) ?_
        replace H := H.2
        refine And.intro (rfl) ?_
        refine cV_use (w := w) (m := (zI m 261 54 (0 : Int32))) rfl H ?_
        intro m1 H
        refine And.intro (And.intro (rfl) (by decide : ¬ 289 = 0)) ?_
        refine And.intro (And.intro (rfl) H.1) ?_
        replace H := H.2
        exact rI_mk (w := w) (m := m1) H
    · replace H := H.2 (Classical.not_not.mp q)
      exact H _ _

def W_M_likely_16 (d : Nat) (l1 : Int32) (l2 : Int64) (l4 : Int64) (l6 : Int32) (w : Nat × Nat × Nat) (m : zM) (Q : Int64 → zM → Prop) : Prop := mm_W (d + 1) 280 16 [some (.ref 261), some (.int l1), some (.long l2), none, some (.long l4), none, some (.int l6)] [] (zE w m) (rL w Q)
theorem S_M_likely {p0 : Int32} {d : Nat} {w : Nat × Nat × Nat} {m : zM} {Q : Int64 → zM → Prop} (H : cI d 181 [.long ((m.1 261 54)).toInt64, .long (1 : Int64), .long (10 : Int64)] w m (fun v1 m1 => ((¬ v1 = 0 → cL d 187 [.int (9 : Int32)] w m1 (fun v2 m2 => W_M_likely_16 d p0 (0 : Int64) v2 (0 : Int32) w m2 Q)) ∧ (v1 = 0 → Q ((-1) : Int64) m1)))) : cL (d + 1) 280 [.ref 261, .int p0] w m Q := by
  refine cL_in rfl ?_
  refine mm_yrun (is := mm_k280) [16] 400 rfl ?_
  refine And.intro (rfl) ?_
  refine And.intro (trivial) ?_
  refine cI_use (w := w) (m := m) rfl H ?_
  intro v1 m1 H
  refine And.intro (fun q => ?_) (fun q => ?_)
  · replace H := H.1 q
    refine And.intro (trivial) ?_
    refine cL_use (w := w) (m := m1) rfl H ?_
    intro v2 m2 H
    exact H
  · replace H := H.2 (Classical.not_not.mp q)
    exact rL_mk (w := w) (m := m1) H
theorem S_M_likely_16 {l1 : Int32} {l2 : Int64} {l4 : Int64} {l6 : Int32} {d : Nat} {w : Nat × Nat × Nat} {m : zM} {Q : Int64 → zM → Prop} (H : (((m.1 261 54) ≤ l6 → cV d 239 [.ref 261] w m (fun m1 => cI d 238 [.ref 261, .long l2] w m1 (fun v2 m2 => (((m2.1 261 32) = 0 → ((l1 = 0 → Q (0 : Int64) m2) ∧ (¬ l1 = 0 → Q (1 : Int64) m2))) ∧ (¬ (m2.1 261 32) = 0 → ((v2 = (m2.1 261 43) → ((l1 = 0 → Q (0 : Int64) m2) ∧ (¬ l1 = 0 → Q (1 : Int64) m2))) ∧ (¬ v2 = (m2.1 261 43) → vp_in v2 400 ∧ (((¬ (m2.2 286 (v2).toNatClampNeg) = l2 → ((l1 = 0 → Q (0 : Int64) m2) ∧ (¬ l1 = 0 → Q (1 : Int64) m2))) ∧ ((m2.2 286 (v2).toNatClampNeg) = l2 → vp_in v2 400 ∧ (((¬ (m2.1 288 (v2).toNatClampNeg) = 0 → vp_in v2 400 ∧ (cV d 246 [.ref 261, .long ((m2.1 288 (v2).toNatClampNeg)).toInt64, .long ((m2.1 261 32)).toInt64] w m2 (fun m3 => ((l1 = 0 → Q (m3.2 261 47) m3) ∧ (¬ l1 = 0 → Q (m3.2 261 48) m3))))) ∧ ((m2.1 288 (v2).toNatClampNeg) = 0 → ((l1 = 0 → Q (0 : Int64) m2) ∧ (¬ l1 = 0 → Q (1 : Int64) m2))))))))))))))) ∧ (¬ (m.1 261 54) ≤ l6 → vp_in l6 64 ∧ (((¬ (m.1 294 (l6).toNatClampNeg) = (32 : Int32) → vp_in l6 64 ∧ ((¬ (27 : Int64) = 0) ∧ (W_M_likely_16 d l1 (l2 + ((((m.1 294 (l6).toNatClampNeg) - (96 : Int32))).toInt64 * l4)) (l4 / (27 : Int64)) (l6 + (1 : Int32)) w m Q))) ∧ ((m.1 294 (l6).toNatClampNeg) = (32 : Int32) → Q ((-1) : Int64) m)))))) : W_M_likely_16 d l1 l2 l4 l6 w m Q := by
  refine mm_yrun (is := mm_k280) [16] 400 rfl ?_
  refine And.intro (rfl) ?_
  refine And.intro (fun q => ?_) (fun q => ?_)
  · replace H := H.1 q
    refine And.intro (rfl) ?_
    refine cV_use (w := w) (m := m) rfl H ?_
    intro m1 H
    refine And.intro (rfl) ?_
    refine cI_use (w := w) (m := m1) rfl H ?_
    intro v2 m2 H
    refine And.intro (rfl) ?_
    refine And.intro (fun q => ?_) (fun q => ?_)
    · replace H := H.1 q
      refine And.intro (fun q => ?_) (fun q => ?_)
      · replace H := H.1 q
        exact rL_mk (w := w) (m := m2) H
      · replace H := H.2 q
        exact rL_mk (w := w) (m := m2) H
    · replace H := H.2 q
      refine And.intro (rfl) ?_
      refine And.intro (fun q => ?_) (fun q => ?_)
      · replace H := H.1 q
        refine And.intro (fun q => ?_) (fun q => ?_)
        · replace H := H.1 q
          exact rL_mk (w := w) (m := m2) H
        · replace H := H.2 q
          exact rL_mk (w := w) (m := m2) H
      · replace H := H.2 q
        refine And.intro (And.intro (rfl) (by decide : ¬ 286 = 0)) ?_
        refine And.intro (And.intro (rfl) H.1) ?_
        replace H := H.2
        refine And.intro (fun q => ?_) (fun q => ?_)
        · replace H := H.1 q
          refine And.intro (fun q => ?_) (fun q => ?_)
          · replace H := H.1 q
            exact rL_mk (w := w) (m := m2) H
          · replace H := H.2 q
            exact rL_mk (w := w) (m := m2) H
        · replace H := H.2 (Classical.not_not.mp q)
          refine And.intro (And.intro (rfl) (by decide : ¬ 288 = 0)) ?_
          refine And.intro (And.intro (rfl) H.1) ?_
          replace H := H.2
          refine And.intro (fun q => ?_) (fun q => ?_)
          · replace H := H.1 q
            refine And.intro (And.intro (rfl) (by decide : ¬ 288 = 0)) ?_
            refine And.intro (And.intro (rfl) H.1) ?_
            replace H := H.2
            refine And.intro (rfl) ?_
            refine And.intro (rfl) ?_
            refine cV_use (w := w) (m := m2) rfl H ?_
            intro m3 H
            refine And.intro (fun q => ?_) (fun q => ?_)
            · replace H := H.1 q
              refine And.intro (rfl) ?_
              exact rL_mk (w := w) (m := m3) H
            · replace H := H.2 q
              refine And.intro (rfl) ?_
              exact rL_mk (w := w) (m := m3) H
          · replace H := H.2 (Classical.not_not.mp q)
            refine And.intro (fun q => ?_) (fun q => ?_)
            · replace H := H.1 q
              exact rL_mk (w := w) (m := m2) H
            · replace H := H.2 q
              exact rL_mk (w := w) (m := m2) H
  · replace H := H.2 q
    refine And.intro (And.intro (rfl) (by decide : ¬ 294 = 0)) ?_
    refine And.intro (And.intro (rfl) H.1) ?_
    replace H := H.2
    refine And.intro (fun q => ?_) (fun q => ?_)
    · replace H := H.1 q
      refine And.intro (And.intro (rfl) (by decide : ¬ 294 = 0)) ?_
      refine And.intro (And.intro (rfl) H.1) ?_
      replace H := H.2
      refine And.intro H.1 ?_
      replace H := H.2
      exact H
    · replace H := H.2 (Classical.not_not.mp q)
      exact rL_mk (w := w) (m := m) H

def W_M_head__4 (d : Nat) (l1 : Int32) (l2 : Int32) (l3 : Int32) (w : Nat × Nat × Nat) (m : zM) (Q : Int32 → zM → Prop) : Prop := ∀ o4 : Option Value, mm_W (d + 1) 281 4 [some (.ref 261), some (.int l1), some (.int l2), some (.int l3), o4] [] (zE w m) (rI w Q)
def W_M_head__17 (d : Nat) (l1 : Int32) (l2 : Int32) (l3 : Int32) (w : Nat × Nat × Nat) (m : zM) (Q : Int32 → zM → Prop) : Prop := ∀ o4 : Option Value, mm_W (d + 1) 281 17 [some (.ref 261), some (.int l1), some (.int l2), some (.int l3), o4] [] (zE w m) (rI w Q)
def W_M_head__76 (d : Nat) (l1 : Int32) (l2 : Int32) (l3 : Int32) (l4 : Int32) (w : Nat × Nat × Nat) (m : zM) (Q : Int32 → zM → Prop) : Prop := mm_W (d + 1) 281 76 [some (.ref 261), some (.int l1), some (.int l2), some (.int l3), some (.int l4)] [] (zE w m) (rI w Q)
def W_M_head__51 (d : Nat) (l1 : Int32) (l2 : Int32) (l3 : Int32) (l4 : Int32) (w : Nat × Nat × Nat) (m : zM) (Q : Int32 → zM → Prop) : Prop := mm_W (d + 1) 281 51 [some (.ref 261), some (.int l1), some (.int l2), some (.int l3), some (.int l4)] [] (zE w m) (rI w Q)
theorem S_M_head_ {p0 : Int32} {p1 : Int32} {d : Nat} {w : Nat × Nat × Nat} {m : zM} {Q : Int32 → zM → Prop} (H : cV d 239 [.ref 261] w m (fun m1 => W_M_head__4 d p0 p1 (0 : Int32) w m1 Q)) : cI (d + 1) 281 [.ref 261, .int p0, .int p1] w m Q := by
  refine cI_in rfl ?_
  refine mm_yrun (is := mm_k281) [4, 17, 51, 76] 400 rfl ?_
  refine And.intro (rfl) ?_
  refine cV_use (w := w) (m := m) rfl H ?_
  intro m1 H
  exact H _
theorem S_M_head__4 {l1 : Int32} {l2 : Int32} {l3 : Int32} {d : Nat} {w : Nat × Nat × Nat} {m : zM} {Q : Int32 → zM → Prop} (H : (((m.1 261 43) ≤ l3 → W_M_head__17 d l1 l2 (0 : Int32) w m Q) ∧ (¬ (m.1 261 43) ≤ l3 → vp_in l3 400 ∧ (W_M_head__4 d l1 l2 (l3 + (1 : Int32)) w (zI m 298 (l3).toNatClampNeg (0 : Int32)) Q)))) : W_M_head__4 d l1 l2 l3 w m Q := by
  intro o4
  refine mm_yrun (is := mm_k281) [4, 17, 51, 76] 400 rfl ?_
  refine And.intro (rfl) ?_
  refine And.intro (fun q => ?_) (fun q => ?_)
  · replace H := H.1 q
    exact H _
  · replace H := H.2 q
    refine And.intro (And.intro (rfl) (by decide : ¬ 298 = 0)) ?_
    refine And.intro (And.intro (rfl) H.1) ?_
    replace H := H.2
    exact H _
theorem S_M_head__17 {l1 : Int32} {l2 : Int32} {l3 : Int32} {d : Nat} {w : Nat × Nat × Nat} {m : zM} {Q : Int32 → zM → Prop} (H : (((m.1 261 32) ≤ l3 → W_M_head__76 d l1 l2 (0 : Int32) (0 : Int32) w m Q) ∧ (¬ (m.1 261 32) ≤ l3 → vp_in l3 2000 ∧ (vp_in l3 2000 ∧ (vp_in (((m.1 277 (l3).toNatClampNeg) + (m.1 278 (l3).toNatClampNeg)) - (1 : Int32)) 400 ∧ (vp_in (m.1 287 ((((m.1 277 (l3).toNatClampNeg) + (m.1 278 (l3).toNatClampNeg)) - (1 : Int32))).toNatClampNeg) 400 ∧ (((¬ (m.1 298 ((m.1 287 ((((m.1 277 (l3).toNatClampNeg) + (m.1 278 (l3).toNatClampNeg)) - (1 : Int32))).toNatClampNeg)).toNatClampNeg) = 0 → W_M_head__51 d l1 l2 l3 (m.1 287 ((((m.1 277 (l3).toNatClampNeg) + (m.1 278 (l3).toNatClampNeg)) - (1 : Int32))).toNatClampNeg) w m Q) ∧ ((m.1 298 ((m.1 287 ((((m.1 277 (l3).toNatClampNeg) + (m.1 278 (l3).toNatClampNeg)) - (1 : Int32))).toNatClampNeg)).toNatClampNeg) = 0 → vp_in (m.1 287 ((((m.1 277 (l3).toNatClampNeg) + (m.1 278 (l3).toNatClampNeg)) - (1 : Int32))).toNatClampNeg) 400 ∧ (vp_in (m.1 287 ((((m.1 277 (l3).toNatClampNeg) + (m.1 278 (l3).toNatClampNeg)) - (1 : Int32))).toNatClampNeg) 400 ∧ (W_M_head__51 d l1 l2 l3 (m.1 287 ((((m.1 277 (l3).toNatClampNeg) + (m.1 278 (l3).toNatClampNeg)) - (1 : Int32))).toNatClampNeg) w (zI (zI m 299 ((m.1 287 ((((m.1 277 (l3).toNatClampNeg) + (m.1 278 (l3).toNatClampNeg)) - (1 : Int32))).toNatClampNeg)).toNatClampNeg (0 : Int32)) 300 ((m.1 287 ((((m.1 277 (l3).toNatClampNeg) + (m.1 278 (l3).toNatClampNeg)) - (1 : Int32))).toNatClampNeg)).toNatClampNeg l3) Q))))))))))) : W_M_head__17 d l1 l2 l3 w m Q := by
  intro o4
  refine mm_yrun (is := mm_k281) [4, 17, 51, 76] 400 rfl ?_
  refine And.intro (rfl) ?_
  refine And.intro (fun q => ?_) (fun q => ?_)
  · replace H := H.1 q
    exact H
  · replace H := H.2 q
    refine And.intro (And.intro (rfl) (by decide : ¬ 287 = 0)) ?_
    refine And.intro (And.intro (rfl) (by decide : ¬ 277 = 0)) ?_
    refine And.intro (And.intro (rfl) H.1) ?_
    replace H := H.2
    refine And.intro (And.intro (rfl) (by decide : ¬ 278 = 0)) ?_
    refine And.intro (And.intro (rfl) H.1) ?_
    replace H := H.2
    refine And.intro (And.intro (rfl) H.1) ?_
    replace H := H.2
    refine And.intro (And.intro (rfl) (by decide : ¬ 298 = 0)) ?_
    refine And.intro (And.intro (rfl) H.1) ?_
    replace H := H.2
    refine And.intro (fun q => ?_) (fun q => ?_)
    · replace H := H.1 q
      exact H
    · replace H := H.2 (Classical.not_not.mp q)
      refine And.intro (And.intro (rfl) (by decide : ¬ 299 = 0)) ?_
      refine And.intro (And.intro (rfl) H.1) ?_
      replace H := H.2
      refine And.intro (And.intro (rfl) (by decide : ¬ 300 = 0)) ?_
      refine And.intro (And.intro (rfl) H.1) ?_
      replace H := H.2
      exact H
theorem S_M_head__76 {l1 : Int32} {l2 : Int32} {l3 : Int32} {l4 : Int32} {d : Nat} {w : Nat × Nat × Nat} {m : zM} {Q : Int32 → zM → Prop} (H : (((m.1 261 43) ≤ l4 → ((¬ l1 = ((-1) : Int32) → Q ((-1) : Int32) m) ∧ (l1 = ((-1) : Int32) → Q l3 m))) ∧ (¬ (m.1 261 43) ≤ l4 → vp_in l4 400 ∧ (((¬ (m.1 298 (l4).toNatClampNeg) = 0 → ((¬ l3 = l1 → W_M_head__76 d l1 l2 (l3 + (1 : Int32)) (l4 + (1 : Int32)) w m Q) ∧ (l3 = l1 → ((¬ l2 = 0 → ((¬ l2 = (1 : Int32) → ((¬ l2 = (2 : Int32) → Q ((-1) : Int32) m) ∧ (l2 = (2 : Int32) → vp_in l4 400 ∧ (Q (m.1 300 (l4).toNatClampNeg) m)))) ∧ (l2 = (1 : Int32) → vp_in l4 400 ∧ (Q (m.1 299 (l4).toNatClampNeg) m)))) ∧ (l2 = 0 → vp_in l4 400 ∧ (Q (m.1 298 (l4).toNatClampNeg) m)))))) ∧ ((m.1 298 (l4).toNatClampNeg) = 0 → W_M_head__76 d l1 l2 l3 (l4 + (1 : Int32)) w m Q)))))) : W_M_head__76 d l1 l2 l3 l4 w m Q := by
  refine mm_yrun (is := mm_k281) [4, 17, 51, 76] 400 rfl ?_
  refine And.intro (rfl) ?_
  refine And.intro (fun q => ?_) (fun q => ?_)
  · replace H := H.1 q
    refine And.intro (fun q => ?_) (fun q => ?_)
    · replace H := H.1 q
      exact rI_mk (w := w) (m := m) H
    · replace H := H.2 (Classical.not_not.mp q)
      exact rI_mk (w := w) (m := m) H
  · replace H := H.2 q
    refine And.intro (And.intro (rfl) (by decide : ¬ 298 = 0)) ?_
    refine And.intro (And.intro (rfl) H.1) ?_
    replace H := H.2
    refine And.intro (fun q => ?_) (fun q => ?_)
    · replace H := H.1 q
      refine And.intro (fun q => ?_) (fun q => ?_)
      · replace H := H.1 q
        exact H
      · replace H := H.2 (Classical.not_not.mp q)
        refine And.intro (fun q => ?_) (fun q => ?_)
        · replace H := H.1 q
          refine And.intro (fun q => ?_) (fun q => ?_)
          · replace H := H.1 q
            refine And.intro (fun q => ?_) (fun q => ?_)
            · replace H := H.1 q
              exact rI_mk (w := w) (m := m) H
            · replace H := H.2 (Classical.not_not.mp q)
              refine And.intro (And.intro (rfl) (by decide : ¬ 300 = 0)) ?_
              refine And.intro (And.intro (rfl) H.1) ?_
              replace H := H.2
              exact rI_mk (w := w) (m := m) H
          · replace H := H.2 (Classical.not_not.mp q)
            refine And.intro (And.intro (rfl) (by decide : ¬ 299 = 0)) ?_
            refine And.intro (And.intro (rfl) H.1) ?_
            replace H := H.2
            exact rI_mk (w := w) (m := m) H
        · replace H := H.2 (Classical.not_not.mp q)
          refine And.intro (And.intro (rfl) (by decide : ¬ 298 = 0)) ?_
          refine And.intro (And.intro (rfl) H.1) ?_
          replace H := H.2
          exact rI_mk (w := w) (m := m) H
    · replace H := H.2 (Classical.not_not.mp q)
      exact H
theorem S_M_head__51 {l1 : Int32} {l2 : Int32} {l3 : Int32} {l4 : Int32} {d : Nat} {w : Nat × Nat × Nat} {m : zM} {Q : Int32 → zM → Prop} (H : vp_in l4 400 ∧ (vp_in l4 400 ∧ (vp_in l4 400 ∧ (vp_in l3 2000 ∧ (vp_in l4 400 ∧ (W_M_head__17 d l1 l2 (l3 + (1 : Int32)) w (zI (zI m 298 (l4).toNatClampNeg ((m.1 298 (l4).toNatClampNeg) + (1 : Int32))) 299 (l4).toNatClampNeg ((m.1 299 (l4).toNatClampNeg) + (m.1 279 (l3).toNatClampNeg))) Q)))))) : W_M_head__51 d l1 l2 l3 l4 w m Q := by
  refine mm_yrun (is := mm_k281) [4, 17, 51, 76] 400 rfl ?_
  refine And.intro (And.intro (rfl) (by decide : ¬ 298 = 0)) ?_
  refine And.intro (And.intro (rfl) H.1) ?_
  replace H := H.2
  refine And.intro (And.intro (rfl) H.1) ?_
  replace H := H.2
  refine And.intro (And.intro (rfl) (by decide : ¬ 299 = 0)) ?_
  refine And.intro (And.intro (rfl) H.1) ?_
  replace H := H.2
  refine And.intro (And.intro (rfl) (by decide : ¬ 279 = 0)) ?_
  refine And.intro (And.intro (rfl) H.1) ?_
  replace H := H.2
  refine And.intro (And.intro (rfl) H.1) ?_
  replace H := H.2
  exact H _

def W_M_cover_21 (d : Nat) (l2 : Int32) (l3 : Int32) (w : Nat × Nat × Nat) (m : zM) (Q : Int32 → zM → Prop) : Prop := ∀ o1 o4 : Option Value, mm_W (d + 1) 282 21 [some (.ref 261), o1, some (.int l2), some (.int l3), o4] [] (zE w m) (rI w Q)
def W_M_cover_34 (d : Nat) (l2 : Int32) (l3 : Int32) (w : Nat × Nat × Nat) (m : zM) (Q : Int32 → zM → Prop) : Prop := ∀ o1 o4 : Option Value, mm_W (d + 1) 282 34 [some (.ref 261), o1, some (.int l2), some (.int l3), o4] [] (zE w m) (rI w Q)
def W_M_cover_49 (d : Nat) (l3 : Int32) (w : Nat × Nat × Nat) (m : zM) (Q : Int32 → zM → Prop) : Prop := ∀ o1 o2 o4 : Option Value, mm_W (d + 1) 282 49 [some (.ref 261), o1, o2, some (.int l3), o4] [] (zE w m) (rI w Q)
def W_M_cover_62 (d : Nat) (l3 : Int32) (w : Nat × Nat × Nat) (m : zM) (Q : Int32 → zM → Prop) : Prop := ∀ o1 o2 o4 : Option Value, mm_W (d + 1) 282 62 [some (.ref 261), o1, o2, some (.int l3), o4] [] (zE w m) (rI w Q)
def W_M_cover_68 (d : Nat) (l3 : Int32) (l4 : Int32) (w : Nat × Nat × Nat) (m : zM) (Q : Int32 → zM → Prop) : Prop := ∀ o1 o2 : Option Value, mm_W (d + 1) 282 68 [some (.ref 261), o1, o2, some (.int l3), some (.int l4)] [] (zE w m) (rI w Q)
def W_M_cover_100 (d : Nat) (l3 : Int32) (l4 : Int32) (w : Nat × Nat × Nat) (m : zM) (Q : Int32 → zM → Prop) : Prop := ∀ o1 o2 : Option Value, mm_W (d + 1) 282 100 [some (.ref 261), o1, o2, some (.int l3), some (.int l4)] [] (zE w m) (rI w Q)
theorem S_M_cover {p0 : Int32} {p1 : Int32} {d : Nat} {w : Nat × Nat × Nat} {m : zM} {Q : Int32 → zM → Prop} (H : cV d 239 [.ref 261] w m (fun m1 => cI d 257 [.ref 261, .int p0] w m1 (fun v2 m2 => ((v2 = 0 → Q ((-1) : Int32) m2) ∧ (¬ v2 = 0 → cI d 181 [.long (p1).toInt64, .long (0 : Int64), .long ((m2.1 261 32)).toInt64] w m2 (fun v3 m3 => ((¬ v3 = 0 → cV d 254 [.ref 261, .int p0] w m3 (fun m4 => W_M_cover_21 d p1 (0 : Int32) w m4 Q)) ∧ (v3 = 0 → Q ((-1) : Int32) m3)))))))) : cI (d + 1) 282 [.ref 261, .int p0, .int p1] w m Q := by
  refine cI_in rfl ?_
  refine mm_yrun (is := mm_k282) [21, 34, 49, 62, 68, 100] 400 rfl ?_
  refine And.intro (rfl) ?_
  refine cV_use (w := w) (m := m) rfl H ?_
  intro m1 H
  refine And.intro (rfl) ?_
  refine cI_use (w := w) (m := m1) rfl H ?_
  intro v2 m2 H
  refine And.intro (fun q => ?_) (fun q => ?_)
  · replace H := H.1 q
    exact rI_mk (w := w) (m := m2) H
  · replace H := H.2 q
    refine And.intro (rfl) ?_
    refine And.intro (trivial) ?_
    refine cI_use (w := w) (m := m2) rfl H ?_
    intro v3 m3 H
    refine And.intro (fun q => ?_) (fun q => ?_)
    · replace H := H.1 q
      refine And.intro (rfl) ?_
      refine cV_use (w := w) (m := m3) rfl H ?_
      intro m4 H
      exact H _ _
    · replace H := H.2 (Classical.not_not.mp q)
      exact rI_mk (w := w) (m := m3) H
theorem S_M_cover_21 {l2 : Int32} {l3 : Int32} {d : Nat} {w : Nat × Nat × Nat} {m : zM} {Q : Int32 → zM → Prop} (H : (((m.1 261 32) ≤ l3 → W_M_cover_34 d l2 (0 : Int32) w m Q) ∧ (¬ (m.1 261 32) ≤ l3 → vp_in l3 2000 ∧ (W_M_cover_21 d l2 (l3 + (1 : Int32)) w (zI m 302 (l3).toNatClampNeg (0 : Int32)) Q)))) : W_M_cover_21 d l2 l3 w m Q := by
  intro o1 o4
  refine mm_yrun (is := mm_k282) [21, 34, 49, 62, 68, 100] 400 rfl ?_
  refine And.intro (rfl) ?_
  refine And.intro (fun q => ?_) (fun q => ?_)
  · replace H := H.1 q
    exact H _ _
  · replace H := H.2 q
    refine And.intro (And.intro (rfl) (by decide : ¬ 302 = 0)) ?_
    refine And.intro (And.intro (And.intro (rfl) H.1) (Or.inl rfl)) ?_
    replace H := H.2
    exact H _ _
theorem S_M_cover_34 {l2 : Int32} {l3 : Int32} {d : Nat} {w : Nat × Nat × Nat} {m : zM} {Q : Int32 → zM → Prop} (H : ((l2 ≤ l3 → W_M_cover_49 d (0 : Int32) w m Q) ∧ (¬ l2 ≤ l3 → vp_in l3 2000 ∧ (vp_in (m.1 292 (l3).toNatClampNeg) 2000 ∧ (W_M_cover_34 d l2 (l3 + (1 : Int32)) w (zI m 302 ((m.1 292 (l3).toNatClampNeg)).toNatClampNeg (1 : Int32)) Q))))) : W_M_cover_34 d l2 l3 w m Q := by
  intro o1 o4
  refine mm_yrun (is := mm_k282) [21, 34, 49, 62, 68, 100] 400 rfl ?_
  refine And.intro (fun q => ?_) (fun q => ?_)
  · replace H := H.1 q
    exact H _ _ _
  · replace H := H.2 q
    refine And.intro (And.intro (rfl) (by decide : ¬ 302 = 0)) ?_
    refine And.intro (And.intro (rfl) (by decide : ¬ 292 = 0)) ?_
    refine And.intro (And.intro (rfl) H.1) ?_
    replace H := H.2
    refine And.intro (And.intro (And.intro (rfl) H.1) (Or.inr rfl)) ?_
    replace H := H.2
    exact H _ _
theorem S_M_cover_49 {l3 : Int32} {d : Nat} {w : Nat × Nat × Nat} {m : zM} {Q : Int32 → zM → Prop} (H : (((m.1 261 21) ≤ l3 → W_M_cover_62 d (0 : Int32) w m Q) ∧ (¬ (m.1 261 21) ≤ l3 → vp_in l3 400 ∧ (W_M_cover_49 d (l3 + (1 : Int32)) w (zI m 301 (l3).toNatClampNeg (0 : Int32)) Q)))) : W_M_cover_49 d l3 w m Q := by
  intro o1 o2 o4
  refine mm_yrun (is := mm_k282) [21, 34, 49, 62, 68, 100] 400 rfl ?_
  refine And.intro (rfl) ?_
  refine And.intro (fun q => ?_) (fun q => ?_)
  · replace H := H.1 q
    exact H _ _ _
  · replace H := H.2 q
    refine And.intro (And.intro (rfl) (by decide : ¬ 301 = 0)) ?_
    refine And.intro (And.intro (And.intro (rfl) H.1) (Or.inl rfl)) ?_
    replace H := H.2
    exact H _ _ _
theorem S_M_cover_62 {l3 : Int32} {d : Nat} {w : Nat × Nat × Nat} {m : zM} {Q : Int32 → zM → Prop} (H : (((m.1 261 26) ≤ l3 → W_M_cover_100 d (0 : Int32) (0 : Int32) w m Q) ∧ (¬ (m.1 261 26) ≤ l3 → W_M_cover_68 d l3 (0 : Int32) w m Q))) : W_M_cover_62 d l3 w m Q := by
  intro o1 o2 o4
  refine mm_yrun (is := mm_k282) [21, 34, 49, 62, 68, 100] 400 rfl ?_
  refine And.intro (rfl) ?_
  refine And.intro (fun q => ?_) (fun q => ?_)
  · replace H := H.1 q
    exact H _ _
  · replace H := H.2 q
    exact H _ _
theorem S_M_cover_68 {l3 : Int32} {l4 : Int32} {d : Nat} {w : Nat × Nat × Nat} {m : zM} {Q : Int32 → zM → Prop} (H : vp_in l3 2000 ∧ ((((m.1 273 (l3).toNatClampNeg) ≤ l4 → W_M_cover_62 d (l3 + (1 : Int32)) w m Q) ∧ (¬ (m.1 273 (l3).toNatClampNeg) ≤ l4 → vp_in l3 2000 ∧ (vp_in (m.1 274 (l3).toNatClampNeg) 2000 ∧ ((((m.1 302 ((m.1 274 (l3).toNatClampNeg)).toNatClampNeg) = 0 → W_M_cover_62 d (l3 + (1 : Int32)) w m Q) ∧ (¬ (m.1 302 ((m.1 274 (l3).toNatClampNeg)).toNatClampNeg) = 0 → vp_in l3 2000 ∧ (vp_in ((m.1 272 (l3).toNatClampNeg) + l4) 400 ∧ (W_M_cover_68 d l3 (l4 + (1 : Int32)) w (zI m 301 (((m.1 272 (l3).toNatClampNeg) + l4)).toNatClampNeg (1 : Int32)) Q)))))))))) : W_M_cover_68 d l3 l4 w m Q := by
  intro o1 o2
  refine mm_yrun (is := mm_k282) [21, 34, 49, 62, 68, 100] 400 rfl ?_
  refine And.intro (And.intro (rfl) (by decide : ¬ 273 = 0)) ?_
  refine And.intro (And.intro (rfl) H.1) ?_
  replace H := H.2
  refine And.intro (fun q => ?_) (fun q => ?_)
  · replace H := H.1 q
    exact H _ _ _
  · replace H := H.2 q
    refine And.intro (And.intro (rfl) (by decide : ¬ 302 = 0)) ?_
    refine And.intro (And.intro (rfl) (by decide : ¬ 274 = 0)) ?_
    refine And.intro (And.intro (rfl) H.1) ?_
    replace H := H.2
    refine And.intro (And.intro (rfl) H.1) ?_
    replace H := H.2
    refine And.intro (fun q => ?_) (fun q => ?_)
    · replace H := H.1 q
      exact H _ _ _
    · replace H := H.2 q
      refine And.intro (And.intro (rfl) (by decide : ¬ 301 = 0)) ?_
      refine And.intro (And.intro (rfl) (by decide : ¬ 272 = 0)) ?_
      refine And.intro (And.intro (rfl) H.1) ?_
      replace H := H.2
      refine And.intro (And.intro (And.intro (rfl) H.1) (Or.inr rfl)) ?_
      replace H := H.2
      exact H _ _
theorem S_M_cover_100 {l3 : Int32} {l4 : Int32} {d : Nat} {w : Nat × Nat × Nat} {m : zM} {Q : Int32 → zM → Prop} (H : (((m.1 261 21) ≤ l4 → Q l3 m) ∧ (¬ (m.1 261 21) ≤ l4 → vp_in l4 400 ∧ (cI d 182 [.int (m.1 301 (l4).toNatClampNeg)] w m (fun v1 m1 => W_M_cover_100 d (l3 + v1) (l4 + (1 : Int32)) w m1 Q))))) : W_M_cover_100 d l3 l4 w m Q := by
  intro o1 o2
  refine mm_yrun (is := mm_k282) [21, 34, 49, 62, 68, 100] 400 rfl ?_
  refine And.intro (rfl) ?_
  refine And.intro (fun q => ?_) (fun q => ?_)
  · replace H := H.1 q
    exact rI_mk (w := w) (m := m) H
  · replace H := H.2 q
    refine And.intro (And.intro (rfl) (by decide : ¬ 301 = 0)) ?_
    refine And.intro (And.intro (rfl) H.1) ?_
    replace H := H.2
    refine And.intro (trivial) ?_
    refine cI_use (w := w) (m := m) rfl H ?_
    intro v1 m1 H
    exact H _ _

theorem S_M_look {p0 : Int32} {d : Nat} {w : Nat × Nat × Nat} {m : zM} {Q : Int32 → zM → Prop} (H : ((p0 = (0 : Int32) → vp_in (0 : Int32) 1906 ∧ (Q ((m.2 262 ((0 : Int32)).toNatClampNeg)).toInt32 m)) ∧ (¬ p0 = (0 : Int32) → ((p0 = (1 : Int32) → vp_in (161 : Int32) 1906 ∧ (Q ((m.2 262 ((161 : Int32)).toNatClampNeg)).toInt32 m)) ∧ (¬ p0 = (1 : Int32) → ((p0 = (2 : Int32) → vp_in (178 : Int32) 1906 ∧ (Q ((m.2 262 ((178 : Int32)).toNatClampNeg)).toInt32 m)) ∧ (¬ p0 = (2 : Int32) → ((p0 = (3 : Int32) → vp_in (259 : Int32) 1906 ∧ (Q ((m.2 262 ((259 : Int32)).toNatClampNeg)).toInt32 m)) ∧ (¬ p0 = (3 : Int32) → ((p0 = (4 : Int32) → cI d 223 [.ref 261] w m (fun v1 m1 => Q v1 m1)) ∧ (¬ p0 = (4 : Int32) → ((p0 = (5 : Int32) → vp_in (1069 : Int32) 1906 ∧ (Q ((m.2 262 ((1069 : Int32)).toNatClampNeg)).toInt32 m)) ∧ (¬ p0 = (5 : Int32) → ((p0 = (6 : Int32) → vp_in (1898 : Int32) 1906 ∧ (Q ((m.2 262 ((1898 : Int32)).toNatClampNeg)).toInt32 m)) ∧ (¬ p0 = (6 : Int32) → ((p0 = (7 : Int32) → vp_in (1899 : Int32) 1906 ∧ (Q ((m.2 262 ((1899 : Int32)).toNatClampNeg)).toInt32 m)) ∧ (¬ p0 = (7 : Int32) → ((p0 = (8 : Int32) → vp_in (1900 : Int32) 1906 ∧ (Q ((m.2 262 ((1900 : Int32)).toNatClampNeg)).toInt32 m)) ∧ (¬ p0 = (8 : Int32) → ((p0 = (9 : Int32) → Q (m.1 261 2) m) ∧ (¬ p0 = (9 : Int32) → ((p0 = (10 : Int32) → Q (m.1 261 5) m) ∧ (¬ p0 = (10 : Int32) → Q ((-1) : Int32) m))))))))))))))))))))))) : cI (d + 1) 283 [.ref 261, .int p0] w m Q := by
  refine cI_in rfl ?_
  refine mm_yrun (is := mm_k283) [] 400 rfl ?_
  refine And.intro (fun q => ?_) (fun q => ?_)
  · replace H := H.1 q
    refine And.intro (And.intro (rfl) (by decide : ¬ 262 = 0)) ?_
    refine And.intro (And.intro (rfl) H.1) ?_
    replace H := H.2
    exact rI_mk (w := w) (m := m) H
  · replace H := H.2 q
    refine And.intro (fun q => ?_) (fun q => ?_)
    · replace H := H.1 q
      refine And.intro (And.intro (rfl) (by decide : ¬ 262 = 0)) ?_
      refine And.intro (And.intro (rfl) H.1) ?_
      replace H := H.2
      exact rI_mk (w := w) (m := m) H
    · replace H := H.2 q
      refine And.intro (fun q => ?_) (fun q => ?_)
      · replace H := H.1 q
        refine And.intro (And.intro (rfl) (by decide : ¬ 262 = 0)) ?_
        refine And.intro (And.intro (rfl) H.1) ?_
        replace H := H.2
        exact rI_mk (w := w) (m := m) H
      · replace H := H.2 q
        refine And.intro (fun q => ?_) (fun q => ?_)
        · replace H := H.1 q
          refine And.intro (And.intro (rfl) (by decide : ¬ 262 = 0)) ?_
          refine And.intro (And.intro (rfl) H.1) ?_
          replace H := H.2
          exact rI_mk (w := w) (m := m) H
        · replace H := H.2 q
          refine And.intro (fun q => ?_) (fun q => ?_)
          · replace H := H.1 q
            refine And.intro (rfl) ?_
            refine cI_use (w := w) (m := m) rfl H ?_
            intro v1 m1 H
            exact rI_mk (w := w) (m := m1) H
          · replace H := H.2 q
            refine And.intro (fun q => ?_) (fun q => ?_)
            · replace H := H.1 q
              refine And.intro (And.intro (rfl) (by decide : ¬ 262 = 0)) ?_
              refine And.intro (And.intro (rfl) H.1) ?_
              replace H := H.2
              exact rI_mk (w := w) (m := m) H
            · replace H := H.2 q
              refine And.intro (fun q => ?_) (fun q => ?_)
              · replace H := H.1 q
                refine And.intro (And.intro (rfl) (by decide : ¬ 262 = 0)) ?_
                refine And.intro (And.intro (rfl) H.1) ?_
                replace H := H.2
                exact rI_mk (w := w) (m := m) H
              · replace H := H.2 q
                refine And.intro (fun q => ?_) (fun q => ?_)
                · replace H := H.1 q
                  refine And.intro (And.intro (rfl) (by decide : ¬ 262 = 0)) ?_
                  refine And.intro (And.intro (rfl) H.1) ?_
                  replace H := H.2
                  exact rI_mk (w := w) (m := m) H
                · replace H := H.2 q
                  refine And.intro (fun q => ?_) (fun q => ?_)
                  · replace H := H.1 q
                    refine And.intro (And.intro (rfl) (by decide : ¬ 262 = 0)) ?_
                    refine And.intro (And.intro (rfl) H.1) ?_
                    replace H := H.2
                    exact rI_mk (w := w) (m := m) H
                  · replace H := H.2 q
                    refine And.intro (fun q => ?_) (fun q => ?_)
                    · replace H := H.1 q
                      refine And.intro (rfl) ?_
                      exact rI_mk (w := w) (m := m) H
                    · replace H := H.2 q
                      refine And.intro (fun q => ?_) (fun q => ?_)
                      · replace H := H.1 q
                        refine And.intro (rfl) ?_
                        exact rI_mk (w := w) (m := m) H
                      · replace H := H.2 q
                        exact rI_mk (w := w) (m := m) H

theorem S_JD_isNaN {p0 : UInt64} {d : Nat} {w : Nat × Nat × Nat} {m : zM} {Q : Int32 → zM → Prop} (H : (((Op.cmpValue (FP.dcmp p0 p0) .l) = 0 → Q (0 : Int32) m) ∧ (¬ (Op.cmpValue (FP.dcmp p0 p0) .l) = 0 → Q (1 : Int32) m))) : cI d 284 [.double p0] w m Q := by
  refine cI_in rfl ?_
  refine mm_yrun (is := mm_k284) [] 400 rfl ?_
  refine And.intro (fun q => ?_) (fun q => ?_)
  · replace H := H.1 q
    refine And.intro (Or.inl rfl) ?_
    exact rI_mk (w := w) (m := m) H
  · replace H := H.2 q
    refine And.intro (Or.inr rfl) ?_
    exact rI_mk (w := w) (m := m) H

theorem S_JD_doubleToLongBits {p0 : UInt64} {d : Nat} {w : Nat × Nat × Nat} {m : zM} {Q : Int64 → zM → Prop} (H : cI d 284 [.double p0] w m (fun v1 m1 => ((¬ v1 = 0 → Q (9221120237041090560 : Int64) m1) ∧ (v1 = 0 → Q (p0).toInt64 m1)))) : cL (d + 1) 285 [.double p0] w m Q := by
  refine cL_in rfl ?_
  refine mm_yrun (is := mm_k285) [] 400 rfl ?_
  refine And.intro (trivial) ?_
  refine cI_use (w := w) (m := m) rfl H ?_
  intro v1 m1 H
  refine And.intro (fun q => ?_) (fun q => ?_)
  · replace H := H.1 q
    exact rL_mk (w := w) (m := m1) H
  · replace H := H.2 (Classical.not_not.mp q)
    exact rL_mk (w := w) (m := m1) H

theorem S_JF_isNaN {p0 : UInt32} {d : Nat} {w : Nat × Nat × Nat} {m : zM} {Q : Int32 → zM → Prop} (H : (((Op.cmpValue (FP.fcmp p0 p0) .l) = 0 → Q (0 : Int32) m) ∧ (¬ (Op.cmpValue (FP.fcmp p0 p0) .l) = 0 → Q (1 : Int32) m))) : cI d 286 [.float p0] w m Q := by
  refine cI_in rfl ?_
  refine mm_yrun (is := mm_k286) [] 400 rfl ?_
  refine And.intro (fun q => ?_) (fun q => ?_)
  · replace H := H.1 q
    refine And.intro (Or.inl rfl) ?_
    exact rI_mk (w := w) (m := m) H
  · replace H := H.2 q
    refine And.intro (Or.inr rfl) ?_
    exact rI_mk (w := w) (m := m) H

theorem S_JF_floatToIntBits {p0 : UInt32} {d : Nat} {w : Nat × Nat × Nat} {m : zM} {Q : Int32 → zM → Prop} (H : cI d 286 [.float p0] w m (fun v1 m1 => ((¬ v1 = 0 → Q (2143289344 : Int32) m1) ∧ (v1 = 0 → Q (p0).toInt32 m1)))) : cI (d + 1) 287 [.float p0] w m Q := by
  refine cI_in rfl ?_
  refine mm_yrun (is := mm_k287) [] 400 rfl ?_
  refine And.intro (trivial) ?_
  refine cI_use (w := w) (m := m) rfl H ?_
  intro v1 m1 H
  refine And.intro (fun q => ?_) (fun q => ?_)
  · replace H := H.1 q
    exact rI_mk (w := w) (m := m1) H
  · replace H := H.2 (Classical.not_not.mp q)
    exact rI_mk (w := w) (m := m1) H

theorem S_JI_bitCount {p0 : Int32} {d : Nat} {w : Nat × Nat × Nat} {m : zM} {Q : Int32 → zM → Prop} (H : Q ((((((((p0 - (((p0).toUInt32 >>> (((1 : Int32)).toUInt32 &&& Int32.toUInt32 31)).toInt32 &&& (1431655765 : Int32))) &&& (858993459 : Int32)) + ((((p0 - (((p0).toUInt32 >>> (((1 : Int32)).toUInt32 &&& Int32.toUInt32 31)).toInt32 &&& (1431655765 : Int32)))).toUInt32 >>> (((2 : Int32)).toUInt32 &&& Int32.toUInt32 31)).toInt32 &&& (858993459 : Int32))) + (((((p0 - (((p0).toUInt32 >>> (((1 : Int32)).toUInt32 &&& Int32.toUInt32 31)).toInt32 &&& (1431655765 : Int32))) &&& (858993459 : Int32)) + ((((p0 - (((p0).toUInt32 >>> (((1 : Int32)).toUInt32 &&& Int32.toUInt32 31)).toInt32 &&& (1431655765 : Int32)))).toUInt32 >>> (((2 : Int32)).toUInt32 &&& Int32.toUInt32 31)).toInt32 &&& (858993459 : Int32)))).toUInt32 >>> (((4 : Int32)).toUInt32 &&& Int32.toUInt32 31)).toInt32) &&& (252645135 : Int32)) + (((((((p0 - (((p0).toUInt32 >>> (((1 : Int32)).toUInt32 &&& Int32.toUInt32 31)).toInt32 &&& (1431655765 : Int32))) &&& (858993459 : Int32)) + ((((p0 - (((p0).toUInt32 >>> (((1 : Int32)).toUInt32 &&& Int32.toUInt32 31)).toInt32 &&& (1431655765 : Int32)))).toUInt32 >>> (((2 : Int32)).toUInt32 &&& Int32.toUInt32 31)).toInt32 &&& (858993459 : Int32))) + (((((p0 - (((p0).toUInt32 >>> (((1 : Int32)).toUInt32 &&& Int32.toUInt32 31)).toInt32 &&& (1431655765 : Int32))) &&& (858993459 : Int32)) + ((((p0 - (((p0).toUInt32 >>> (((1 : Int32)).toUInt32 &&& Int32.toUInt32 31)).toInt32 &&& (1431655765 : Int32)))).toUInt32 >>> (((2 : Int32)).toUInt32 &&& Int32.toUInt32 31)).toInt32 &&& (858993459 : Int32)))).toUInt32 >>> (((4 : Int32)).toUInt32 &&& Int32.toUInt32 31)).toInt32) &&& (252645135 : Int32))).toUInt32 >>> (((8 : Int32)).toUInt32 &&& Int32.toUInt32 31)).toInt32) + ((((((((p0 - (((p0).toUInt32 >>> (((1 : Int32)).toUInt32 &&& Int32.toUInt32 31)).toInt32 &&& (1431655765 : Int32))) &&& (858993459 : Int32)) + ((((p0 - (((p0).toUInt32 >>> (((1 : Int32)).toUInt32 &&& Int32.toUInt32 31)).toInt32 &&& (1431655765 : Int32)))).toUInt32 >>> (((2 : Int32)).toUInt32 &&& Int32.toUInt32 31)).toInt32 &&& (858993459 : Int32))) + (((((p0 - (((p0).toUInt32 >>> (((1 : Int32)).toUInt32 &&& Int32.toUInt32 31)).toInt32 &&& (1431655765 : Int32))) &&& (858993459 : Int32)) + ((((p0 - (((p0).toUInt32 >>> (((1 : Int32)).toUInt32 &&& Int32.toUInt32 31)).toInt32 &&& (1431655765 : Int32)))).toUInt32 >>> (((2 : Int32)).toUInt32 &&& Int32.toUInt32 31)).toInt32 &&& (858993459 : Int32)))).toUInt32 >>> (((4 : Int32)).toUInt32 &&& Int32.toUInt32 31)).toInt32) &&& (252645135 : Int32)) + (((((((p0 - (((p0).toUInt32 >>> (((1 : Int32)).toUInt32 &&& Int32.toUInt32 31)).toInt32 &&& (1431655765 : Int32))) &&& (858993459 : Int32)) + ((((p0 - (((p0).toUInt32 >>> (((1 : Int32)).toUInt32 &&& Int32.toUInt32 31)).toInt32 &&& (1431655765 : Int32)))).toUInt32 >>> (((2 : Int32)).toUInt32 &&& Int32.toUInt32 31)).toInt32 &&& (858993459 : Int32))) + (((((p0 - (((p0).toUInt32 >>> (((1 : Int32)).toUInt32 &&& Int32.toUInt32 31)).toInt32 &&& (1431655765 : Int32))) &&& (858993459 : Int32)) + ((((p0 - (((p0).toUInt32 >>> (((1 : Int32)).toUInt32 &&& Int32.toUInt32 31)).toInt32 &&& (1431655765 : Int32)))).toUInt32 >>> (((2 : Int32)).toUInt32 &&& Int32.toUInt32 31)).toInt32 &&& (858993459 : Int32)))).toUInt32 >>> (((4 : Int32)).toUInt32 &&& Int32.toUInt32 31)).toInt32) &&& (252645135 : Int32))).toUInt32 >>> (((8 : Int32)).toUInt32 &&& Int32.toUInt32 31)).toInt32)).toUInt32 >>> (((16 : Int32)).toUInt32 &&& Int32.toUInt32 31)).toInt32) &&& (63 : Int32)) m) : cI d 288 [.int p0] w m Q := by
  refine cI_in rfl ?_
  refine mm_yrun (is := mm_k288) [] 400 rfl ?_
  exact rI_mk (w := w) (m := m) H

theorem S_JM_floorDiv {p0 : Int64} {p1 : Int64} {d : Nat} {w : Nat × Nat × Nat} {m : zM} {Q : Int64 → zM → Prop} (H : (¬ p1 = 0) ∧ ((((0 : Int64) ≤ (p0 ^^^ p1) → Q (p0 / p1) m) ∧ (¬ (0 : Int64) ≤ (p0 ^^^ p1) → ((((p0 / p1) * p1) = p0 → Q (p0 / p1) m) ∧ (¬ ((p0 / p1) * p1) = p0 → Q ((p0 / p1) - (1 : Int64)) m)))))) : cL d 289 [.long p0, .long p1] w m Q := by
  refine cL_in rfl ?_
  refine mm_yrun (is := mm_k289) [] 400 rfl ?_
  refine And.intro H.1 ?_
  replace H := H.2
  refine And.intro (fun q => ?_) (fun q => ?_)
  · replace H := H.1 q
    exact rL_mk (w := w) (m := m) H
  · replace H := H.2 q
    refine And.intro (fun q => ?_) (fun q => ?_)
    · replace H := H.1 q
      exact rL_mk (w := w) (m := m) H
    · replace H := H.2 q
      exact rL_mk (w := w) (m := m) H

theorem S_JM_abs {p0 : Int64} {d : Nat} {w : Nat × Nat × Nat} {m : zM} {Q : Int64 → zM → Prop} (H : (((0 : Int64) ≤ p0 → Q p0 m) ∧ (¬ (0 : Int64) ≤ p0 → Q (-p0) m))) : cL d 290 [.long p0] w m Q := by
  refine cL_in rfl ?_
  refine mm_yrun (is := mm_k290) [] 400 rfl ?_
  refine And.intro (fun q => ?_) (fun q => ?_)
  · replace H := H.1 q
    exact rL_mk (w := w) (m := m) H
  · replace H := H.2 q
    exact rL_mk (w := w) (m := m) H

theorem S_JM_max {p0 : Int32} {p1 : Int32} {d : Nat} {w : Nat × Nat × Nat} {m : zM} {Q : Int32 → zM → Prop} (H : ((p0 < p1 → Q p1 m) ∧ (¬ p0 < p1 → Q p0 m))) : cI d 291 [.int p0, .int p1] w m Q := by
  refine cI_in rfl ?_
  refine mm_yrun (is := mm_k291) [] 400 rfl ?_
  refine And.intro (fun q => ?_) (fun q => ?_)
  · replace H := H.1 q
    exact rI_mk (w := w) (m := m) H
  · replace H := H.2 q
    exact rI_mk (w := w) (m := m) H

theorem S_JM_min {p0 : Int32} {p1 : Int32} {d : Nat} {w : Nat × Nat × Nat} {m : zM} {Q : Int32 → zM → Prop} (H : ((p1 < p0 → Q p1 m) ∧ (¬ p1 < p0 → Q p0 m))) : cI d 292 [.int p0, .int p1] w m Q := by
  refine cI_in rfl ?_
  refine mm_yrun (is := mm_k292) [] 400 rfl ?_
  refine And.intro (fun q => ?_) (fun q => ?_)
  · replace H := H.1 q
    exact rI_mk (w := w) (m := m) H
  · replace H := H.2 q
    exact rI_mk (w := w) (m := m) H
