def W_M_isInRow_2 (d : Nat) (l1 : Int32) (l2 : Int32) (l3 : Int32) (w : Nat × Nat × Nat) (m : zM) (Q : Int32 → zM → Prop) : Prop := mm_W (d + 1) 240 2 [some (.ref 261), some (.int l1), some (.int l2), some (.int l3)] [] (zE w m) (rI w Q)
theorem S_M_isInRow {p0 : Int32} {p1 : Int32} {d : Nat} {w : Nat × Nat × Nat} {m : zM} {Q : Int32 → zM → Prop} (H : W_M_isInRow_2 d p0 p1 (0 : Int32) w m Q) : cI (d + 1) 240 [.ref 261, .int p0, .int p1] w m Q := by
  refine cI_in rfl ?_
  refine mm_yrun (is := mm_k240) [2] 400 rfl ?_
  exact H
theorem S_M_isInRow_2 {l1 : Int32} {l2 : Int32} {l3 : Int32} {d : Nat} {w : Nat × Nat × Nat} {m : zM} {Q : Int32 → zM → Prop} (H : vp_in l1 2000 ∧ (vp_in l2 2000 ∧ ((((m.1 278 (l2).toNatClampNeg) < (l3 + (m.1 278 (l1).toNatClampNeg)) → Q (0 : Int32) m) ∧ (¬ (m.1 278 (l2).toNatClampNeg) < (l3 + (m.1 278 (l1).toNatClampNeg)) → vp_in l2 2000 ∧ (cI d 241 [.ref 261, .ref 268, .int ((m.1 277 (l2).toNatClampNeg) + l3), .int l1] w m (fun v1 m1 => ((v1 = 0 → W_M_isInRow_2 d l1 l2 (l3 + (1 : Int32)) w m1 Q) ∧ (¬ v1 = 0 → Q (1 : Int32) m1))))))))) : W_M_isInRow_2 d l1 l2 l3 w m Q := by
  refine mm_yrun (is := mm_k240) [2] 400 rfl ?_
  refine And.intro (And.intro (rfl) (by decide : ¬ 278 = 0)) ?_
  refine And.intro (And.intro (rfl) H.1) ?_
  replace H := H.2
  refine And.intro (And.intro (rfl) (by decide : ¬ 278 = 0)) ?_
  refine And.intro (And.intro (rfl) H.1) ?_
  replace H := H.2
  refine And.intro (fun q => ?_) (fun q => ?_)
  · replace H := H.1 q
    refine And.intro (Or.inl rfl) ?_
    exact rI_mk (w := w) (m := m) H
  · replace H := H.2 q
    refine And.intro (And.intro (rfl) (by decide : ¬ 268 = 0)) ?_
    refine And.intro (And.intro (rfl) (by decide : ¬ 277 = 0)) ?_
    refine And.intro (And.intro (rfl) H.1) ?_
    replace H := H.2
    refine And.intro (rfl) ?_
    refine cI_use (w := w) (m := m) rfl H ?_
    intro v1 m1 H
    refine And.intro (fun q => ?_) (fun q => ?_)
    · replace H := H.1 q
      exact H
    · replace H := H.2 q
      refine And.intro (Or.inr rfl) ?_
      exact rI_mk (w := w) (m := m1) H

def W_M_isRow_2 (d : Nat) (p0 : Nat) (l2 : Int32) (l3 : Int32) (l4 : Int32) (w : Nat × Nat × Nat) (m : zM) (Q : Int32 → zM → Prop) : Prop := mm_W d 241 2 [some (.ref 261), some (.ref p0), some (.int l2), some (.int l3), some (.int l4)] [] (zE w m) (rI w Q)
theorem S_M_isRow {p0 : Nat} {p1 : Int32} {p2 : Int32} {d : Nat} {w : Nat × Nat × Nat} {m : zM} {Q : Int32 → zM → Prop} (H : W_M_isRow_2 d p0 p1 p2 (0 : Int32) w m Q) : cI d 241 [.ref 261, .ref p0, .int p1, .int p2] w m Q := by
  refine cI_in rfl ?_
  refine mm_yrun (is := mm_k241) [2] 400 rfl ?_
  exact H
theorem R_M_isRow_2 {p0 : Nat} {l2 : Int32} {l3 : Int32} {l4 : Int32} {nl_p0 : Nat} {d : Nat} {w : Nat × Nat × Nat} {m : zM} {Q : Int32 → zM → Prop} (hk_p0 : (zK w.1 p0).1 = 13) (hl_p0 : (zK w.1 p0).2 = nl_p0) (H : vp_in l3 2000 ∧ ((((m.1 278 (l3).toNatClampNeg) ≤ l4 → Q (1 : Int32) m) ∧ (¬ (m.1 278 (l3).toNatClampNeg) ≤ l4 → vp_in (l2 + l4) nl_p0 ∧ (vp_in l3 2000 ∧ (vp_in ((m.1 277 (l3).toNatClampNeg) + l4) 400 ∧ ((((m.2 p0 ((l2 + l4)).toNatClampNeg) = (m.2 268 (((m.1 277 (l3).toNatClampNeg) + l4)).toNatClampNeg) → W_M_isRow_2 d p0 l2 l3 (l4 + (1 : Int32)) w m Q) ∧ (¬ (m.2 p0 ((l2 + l4)).toNatClampNeg) = (m.2 268 (((m.1 277 (l3).toNatClampNeg) + l4)).toNatClampNeg) → Q (0 : Int32) m))))))))) : W_M_isRow_2 d p0 l2 l3 l4 w m Q := by
  subst hl_p0
  refine mm_yrun (is := mm_k241) [2] 400 rfl ?_
  refine And.intro (And.intro (rfl) (by decide : ¬ 278 = 0)) ?_
  refine And.intro (And.intro (rfl) H.1) ?_
  replace H := H.2
  refine And.intro (fun q => ?_) (fun q => ?_)
  · replace H := H.1 q
    refine And.intro (Or.inr rfl) ?_
    exact rI_mk (w := w) (m := m) H
  · replace H := H.2 q
    refine And.intro (And.intro (hk_p0) H.1) ?_
    replace H := H.2
    refine And.intro (And.intro (rfl) (by decide : ¬ 268 = 0)) ?_
    refine And.intro (And.intro (rfl) (by decide : ¬ 277 = 0)) ?_
    refine And.intro (And.intro (rfl) H.1) ?_
    replace H := H.2
    refine And.intro (And.intro (rfl) H.1) ?_
    replace H := H.2
    refine And.intro (fun q => ?_) (fun q => ?_)
    · replace H := H.1 q
      exact H
    · replace H := H.2 q
      refine And.intro (Or.inl rfl) ?_
      exact rI_mk (w := w) (m := m) H
theorem S_M_isRow_2 {p0 : Nat} {l2 : Int32} {l3 : Int32} {l4 : Int32} {n_p0 : Nat} {d : Nat} {w : Nat × Nat × Nat} {m : zM} {Q : Int32 → zM → Prop} (hp_p0 : zAr w p0 13 n_p0) (H : vp_in l3 2000 ∧ ((((m.1 278 (l3).toNatClampNeg) ≤ l4 → Q (1 : Int32) m) ∧ (¬ (m.1 278 (l3).toNatClampNeg) ≤ l4 → vp_in (l2 + l4) n_p0 ∧ (vp_in l3 2000 ∧ (vp_in ((m.1 277 (l3).toNatClampNeg) + l4) 400 ∧ ((((m.2 p0 ((l2 + l4)).toNatClampNeg) = (m.2 268 (((m.1 277 (l3).toNatClampNeg) + l4)).toNatClampNeg) → W_M_isRow_2 d p0 l2 l3 (l4 + (1 : Int32)) w m Q) ∧ (¬ (m.2 p0 ((l2 + l4)).toNatClampNeg) = (m.2 268 (((m.1 277 (l3).toNatClampNeg) + l4)).toNatClampNeg) → Q (0 : Int32) m))))))))) : W_M_isRow_2 d p0 l2 l3 l4 w m Q := R_M_isRow_2 (zAr_k hp_p0) (zAr_l hp_p0) H

def W_M_layTerm_12 (d : Nat) (l1 : Int32) (l2 : Int32) (w : Nat × Nat × Nat) (m : zM) (Q : zM → Prop) : Prop := mm_W (d + 1) 242 12 [some (.ref 261), some (.int l1), some (.int l2)] [] (zE w m) (rV w Q)
def W_M_layTerm_59 (d : Nat) (l1 : Int32) (l2 : Int32) (w : Nat × Nat × Nat) (m : zM) (Q : zM → Prop) : Prop := mm_W (d + 1) 242 59 [some (.ref 261), some (.int l1), some (.int l2)] [] (zE w m) (rV w Q)
theorem S_M_layTerm {p0 : Int32} {d : Nat} {w : Nat × Nat × Nat} {m : zM} {Q : zM → Prop} (H : vp_in p0 2000 ∧ (vp_in p0 2000 ∧ (W_M_layTerm_12 d p0 (0 : Int32) w (zI (zI m 283 (p0).toNatClampNeg (0 : Int32)) 284 (p0).toNatClampNeg (0 : Int32)) Q))) : cV (d + 1) 242 [.ref 261, .int p0] w m Q := by
  refine cV_in rfl ?_
  refine mm_yrun (is := mm_k242) [12, 59] 400 rfl ?_
  refine And.intro (And.intro (rfl) (by decide : ¬ 283 = 0)) ?_
  refine And.intro (And.intro (rfl) H.1) ?_
  replace H := H.2
  refine And.intro (And.intro (rfl) (by decide : ¬ 284 = 0)) ?_
  refine And.intro (And.intro (rfl) H.1) ?_
  replace H := H.2
  exact H
theorem S_M_layTerm_12 {l1 : Int32} {l2 : Int32} {d : Nat} {w : Nat × Nat × Nat} {m : zM} {Q : zM → Prop} (H : (((m.1 261 32) ≤ l2 → vp_in l1 2000 ∧ (W_M_layTerm_59 d l1 (0 : Int32) w (zI m 285 (l1).toNatClampNeg (0 : Int32)) Q)) ∧ (¬ (m.1 261 32) ≤ l2 → vp_in l2 2000 ∧ (vp_in l1 2000 ∧ ((((m.1 278 (l2).toNatClampNeg) ≤ (m.1 278 (l1).toNatClampNeg) → W_M_layTerm_12 d l1 (l2 + (1 : Int32)) w m Q) ∧ (¬ (m.1 278 (l2).toNatClampNeg) ≤ (m.1 278 (l1).toNatClampNeg) → cI d 240 [.ref 261, .int l1, .int l2] w m (fun v1 m1 => ((¬ v1 = 0 → vp_in l1 2000 ∧ (vp_in l1 2000 ∧ (vp_in l1 2000 ∧ (vp_in l2 2000 ∧ (vp_in l1 2000 ∧ (W_M_layTerm_12 d l1 (l2 + (1 : Int32)) w (zI (zI m1 283 (l1).toNatClampNeg ((m1.1 283 (l1).toNatClampNeg) + (1 : Int32))) 284 (l1).toNatClampNeg ((m1.1 284 (l1).toNatClampNeg) + (m1.1 279 (l2).toNatClampNeg))) Q)))))) ∧ (v1 = 0 → W_M_layTerm_12 d l1 (l2 + (1 : Int32)) w m1 Q)))))))))) : W_M_layTerm_12 d l1 l2 w m Q := by
  refine mm_yrun (is := mm_k242) [12, 59] 400 rfl ?_
  refine And.intro (rfl) ?_
  refine And.intro (fun q => ?_) (fun q => ?_)
  · replace H := H.1 q
    refine And.intro (And.intro (rfl) (by decide : ¬ 285 = 0)) ?_
    refine And.intro (And.intro (rfl) H.1) ?_
    replace H := H.2
    exact H
  · replace H := H.2 q
    refine And.intro (And.intro (rfl) (by decide : ¬ 278 = 0)) ?_
    refine And.intro (And.intro (rfl) H.1) ?_
    replace H := H.2
    refine And.intro (And.intro (rfl) (by decide : ¬ 278 = 0)) ?_
    refine And.intro (And.intro (rfl) H.1) ?_
    replace H := H.2
    refine And.intro (fun q => ?_) (fun q => ?_)
    · replace H := H.1 q
      exact H
    · replace H := H.2 q
      refine And.intro (rfl) ?_
      refine cI_use (w := w) (m := m) rfl H ?_
      intro v1 m1 H
      refine And.intro (fun q => ?_) (fun q => ?_)
      · replace H := H.1 q
        refine And.intro (And.intro (rfl) (by decide : ¬ 283 = 0)) ?_
        refine And.intro (And.intro (rfl) H.1) ?_
        replace H := H.2
        refine And.intro (And.intro (rfl) H.1) ?_
        replace H := H.2
        refine And.intro (And.intro (rfl) (by decide : ¬ 284 = 0)) ?_
        refine And.intro (And.intro (rfl) H.1) ?_
        replace H := H.2
        refine And.intro (And.intro (rfl) (by decide : ¬ 279 = 0)) ?_
        refine And.intro (And.intro (rfl) H.1) ?_
        replace H := H.2
        refine And.intro (And.intro (rfl) H.1) ?_
        replace H := H.2
        exact H
      · replace H := H.2 (Classical.not_not.mp q)
        exact H
theorem S_M_layTerm_59 {l1 : Int32} {l2 : Int32} {d : Nat} {w : Nat × Nat × Nat} {m : zM} {Q : zM → Prop} (H : vp_in l1 2000 ∧ (vp_in (1069 : Int32) 1906 ∧ ((((m.2 262 ((1069 : Int32)).toNatClampNeg) < ((l2 + (m.1 278 (l1).toNatClampNeg))).toInt64 → Q m) ∧ (¬ (m.2 262 ((1069 : Int32)).toNatClampNeg) < ((l2 + (m.1 278 (l1).toNatClampNeg))).toInt64 → vp_in l1 2000 ∧ (vp_in ((1470 : Int32) + l2) 1906 ∧ (vp_in l1 2000 ∧ (vp_in ((((1470 : Int32) + l2) + (m.1 278 (l1).toNatClampNeg)) - (1 : Int32)) 1906 ∧ (((¬ (m.2 262 (((1470 : Int32) + l2)).toNatClampNeg) = (m.2 262 (((((1470 : Int32) + l2) + (m.1 278 (l1).toNatClampNeg)) - (1 : Int32))).toNatClampNeg) → cI d 182 [.int (0 : Int32)] w m (fun v1 m1 => vp_in l1 2000 ∧ (W_M_layTerm_59 d l1 (l2 + (1 : Int32)) w (zI m1 285 (l1).toNatClampNeg ((m.1 285 (l1).toNatClampNeg) + v1)) Q))) ∧ ((m.2 262 (((1470 : Int32) + l2)).toNatClampNeg) = (m.2 262 (((((1470 : Int32) + l2) + (m.1 278 (l1).toNatClampNeg)) - (1 : Int32))).toNatClampNeg) → cI d 241 [.ref 261, .ref 271, .int l2, .int l1] w m (fun v2 m2 => ((v2 = 0 → cI d 182 [.int (0 : Int32)] w m2 (fun v3 m3 => vp_in l1 2000 ∧ (W_M_layTerm_59 d l1 (l2 + (1 : Int32)) w (zI m3 285 (l1).toNatClampNeg ((m.1 285 (l1).toNatClampNeg) + v3)) Q))) ∧ (¬ v2 = 0 → cI d 182 [.int (1 : Int32)] w m2 (fun v4 m4 => vp_in l1 2000 ∧ (W_M_layTerm_59 d l1 (l2 + (1 : Int32)) w (zI m4 285 (l1).toNatClampNeg ((m.1 285 (l1).toNatClampNeg) + v4)) Q)))))))))))))))) : W_M_layTerm_59 d l1 l2 w m Q := by
  refine mm_yrun (is := mm_k242) [12, 59] 400 rfl ?_
  refine And.intro (And.intro (rfl) (by decide : ¬ 278 = 0)) ?_
  refine And.intro (And.intro (rfl) H.1) ?_
  replace H := H.2
  refine And.intro (And.intro (rfl) (by decide : ¬ 262 = 0)) ?_
  refine And.intro (And.intro (rfl) H.1) ?_
  replace H := H.2
  refine And.intro (fun q => ?_) (fun q => ?_)
  · replace H := H.1 q
    exact rV_mk (w := w) (m := m) H
  · replace H := H.2 q
    refine And.intro (And.intro (rfl) (by decide : ¬ 285 = 0)) ?_
    refine And.intro (And.intro (rfl) H.1) ?_
    replace H := H.2
    refine And.intro (And.intro (rfl) (by decide : ¬ 262 = 0)) ?_
    refine And.intro (And.intro (rfl) H.1) ?_
    replace H := H.2
    refine And.intro (And.intro (rfl) (by decide : ¬ 262 = 0)) ?_
    refine And.intro (And.intro (rfl) (by decide : ¬ 278 = 0)) ?_
    refine And.intro (And.intro (rfl) H.1) ?_
    replace H := H.2
    refine And.intro (And.intro (rfl) H.1) ?_
    replace H := H.2
    refine And.intro (fun q => ?_) (fun q => ?_)
    · replace H := H.1 q
      refine And.intro (trivial) ?_
      refine cI_use (w := w) (m := m) rfl H ?_
      intro v1 m1 H
      refine And.intro (And.intro (rfl) H.1) ?_
      replace H := H.2
      exact H
    · replace H := H.2 (Classical.not_not.mp q)
      refine And.intro (And.intro (rfl) (by decide : ¬ 271 = 0)) ?_
      refine And.intro (rfl) ?_
      refine cI_use (w := w) (m := m) rfl H ?_
      intro v2 m2 H
      refine And.intro (fun q => ?_) (fun q => ?_)
      · replace H := H.1 q
        refine And.intro (trivial) ?_
        refine cI_use (w := w) (m := m2) rfl H ?_
        intro v3 m3 H
        refine And.intro (And.intro (rfl) H.1) ?_
        replace H := H.2
        exact H
      · replace H := H.2 q
        refine And.intro (trivial) ?_
        refine cI_use (w := w) (m := m2) rfl H ?_
        intro v4 m4 H
        refine And.intro (And.intro (rfl) H.1) ?_
        replace H := H.2
        exact H

def W_M_surrounds_2 (d : Nat) (l1 : Int32) (l2 : Int32) (w : Nat × Nat × Nat) (m : zM) (Q : zM → Prop) : Prop := ∀ o3 o4 o5 : Option Value, mm_W (d + 1) 243 2 [some (.ref 261), some (.int l1), some (.int l2), o3, o4, o5] [] (zE w m) (rV w Q)
def W_M_surrounds_18 (d : Nat) (l1 : Int32) (l2 : Int32) (w : Nat × Nat × Nat) (m : zM) (Q : zM → Prop) : Prop := ∀ o3 o4 o5 : Option Value, mm_W (d + 1) 243 18 [some (.ref 261), some (.int l1), some (.int l2), o3, o4, o5] [] (zE w m) (rV w Q)
def W_M_surrounds_31 (d : Nat) (l1 : Int32) (l2 : Int32) (l3 : Int32) (w : Nat × Nat × Nat) (m : zM) (Q : zM → Prop) : Prop := ∀ o4 o5 : Option Value, mm_W (d + 1) 243 31 [some (.ref 261), some (.int l1), some (.int l2), some (.int l3), o4, o5] [] (zE w m) (rV w Q)
def W_M_surrounds_80 (d : Nat) (l1 : Int32) (l2 : Int32) (l3 : Int32) (l5 : Int32) (w : Nat × Nat × Nat) (m : zM) (Q : zM → Prop) : Prop := ∀ o4 : Option Value, mm_W (d + 1) 243 80 [some (.ref 261), some (.int l1), some (.int l2), some (.int l3), o4, some (.int l5)] [] (zE w m) (rV w Q)
def W_M_surrounds_103 (d : Nat) (l1 : Int32) (l2 : Int32) (l3 : Int32) (w : Nat × Nat × Nat) (m : zM) (Q : zM → Prop) : Prop := ∀ o4 o5 : Option Value, mm_W (d + 1) 243 103 [some (.ref 261), some (.int l1), some (.int l2), some (.int l3), o4, o5] [] (zE w m) (rV w Q)
theorem S_M_surrounds {p0 : Int32} {d : Nat} {w : Nat × Nat × Nat} {m : zM} {Q : zM → Prop} (H : W_M_surrounds_2 d p0 (0 : Int32) w m Q) : cV (d + 1) 243 [.ref 261, .int p0] w m Q := by
  refine cV_in rfl ?_
  refine mm_yrun (is := mm_k243) [2, 18, 31, 80, 103] 400 rfl ?_
  exact H _ _ _
theorem S_M_surrounds_2 {l1 : Int32} {l2 : Int32} {d : Nat} {w : Nat × Nat × Nat} {m : zM} {Q : zM → Prop} (H : (((m.1 261 43) ≤ l2 → vp_in l1 2000 ∧ (W_M_surrounds_18 d l1 (m.1 281 (l1).toNatClampNeg) w m Q)) ∧ (¬ (m.1 261 43) ≤ l2 → vp_in l2 400 ∧ (W_M_surrounds_2 d l1 (l2 + (1 : Int32)) w (zI m 289 (l2).toNatClampNeg (0 : Int32)) Q)))) : W_M_surrounds_2 d l1 l2 w m Q := by
  intro o3 o4 o5
  refine mm_yrun (is := mm_k243) [2, 18, 31, 80, 103] 400 rfl ?_
  refine And.intro (rfl) ?_
  refine And.intro (fun q => ?_) (fun q => ?_)
  · replace H := H.1 q
    refine And.intro (And.intro (rfl) (by decide : ¬ 281 = 0)) ?_
    refine And.intro (And.intro (rfl) H.1) ?_
    replace H := H.2
    exact H _ _ _
  · replace H := H.2 q
    refine And.intro (And.intro (rfl) (by decide : ¬ 289 = 0)) ?_
    refine And.intro (And.intro (rfl) H.1) ?_
    replace H := H.2
    exact H _ _ _
theorem S_M_surrounds_18 {l1 : Int32} {l2 : Int32} {d : Nat} {w : Nat × Nat × Nat} {m : zM} {Q : zM → Prop} (H : (((m.1 261 26) ≤ l2 → Q m) ∧ (¬ (m.1 261 26) ≤ l2 → vp_in l2 2000 ∧ ((((m.1 274 (l2).toNatClampNeg) = l1 → W_M_surrounds_31 d l1 l2 (1 : Int32) w m Q) ∧ (¬ (m.1 274 (l2).toNatClampNeg) = l1 → W_M_surrounds_18 d l1 (l2 + (1 : Int32)) w m Q)))))) : W_M_surrounds_18 d l1 l2 w m Q := by
  intro o3 o4 o5
  refine mm_yrun (is := mm_k243) [2, 18, 31, 80, 103] 400 rfl ?_
  refine And.intro (rfl) ?_
  refine And.intro (fun q => ?_) (fun q => ?_)
  · replace H := H.1 q
    exact rV_mk (w := w) (m := m) H
  · replace H := H.2 q
    refine And.intro (And.intro (rfl) (by decide : ¬ 274 = 0)) ?_
    refine And.intro (And.intro (rfl) H.1) ?_
    replace H := H.2
    refine And.intro (fun q => ?_) (fun q => ?_)
    · replace H := H.1 q
      exact H _ _
    · replace H := H.2 q
      exact H _ _ _
theorem S_M_surrounds_31 {l1 : Int32} {l2 : Int32} {l3 : Int32} {d : Nat} {w : Nat × Nat × Nat} {m : zM} {Q : zM → Prop} (H : vp_in (1900 : Int32) 1906 ∧ ((((m.2 262 ((1900 : Int32)).toNatClampNeg) < (l3).toInt64 → W_M_surrounds_18 d l1 (l2 + (1 : Int32)) w m Q) ∧ (¬ (m.2 262 ((1900 : Int32)).toNatClampNeg) < (l3).toInt64 → vp_in l2 2000 ∧ (vp_in l2 2000 ∧ (vp_in l2 2000 ∧ (((((m.1 272 (l2).toNatClampNeg) - l3) < 0 → W_M_surrounds_80 d l1 l2 l3 ((((m.1 272 (l2).toNatClampNeg) + (m.1 273 (l2).toNatClampNeg)) - (1 : Int32)) + l3) w m Q) ∧ (¬ ((m.1 272 (l2).toNatClampNeg) - l3) < 0 → vp_in l2 2000 ∧ (cI d 231 [.ref 261, .int ((m.1 272 (l2).toNatClampNeg) - l3), .int (m.1 272 (l2).toNatClampNeg)] w m (fun v1 m1 => ((v1 = 0 → W_M_surrounds_80 d l1 l2 l3 ((((m.1 272 (l2).toNatClampNeg) + (m.1 273 (l2).toNatClampNeg)) - (1 : Int32)) + l3) w m1 Q) ∧ (¬ v1 = 0 → vp_in ((m.1 272 (l2).toNatClampNeg) - l3) 400 ∧ (vp_in (m1.1 287 (((m.1 272 (l2).toNatClampNeg) - l3)).toNatClampNeg) 400 ∧ (vp_in (m1.1 287 (((m.1 272 (l2).toNatClampNeg) - l3)).toNatClampNeg) 400 ∧ (W_M_surrounds_80 d l1 l2 l3 ((((m.1 272 (l2).toNatClampNeg) + (m.1 273 (l2).toNatClampNeg)) - (1 : Int32)) + l3) w (zI m1 289 ((m1.1 287 (((m.1 272 (l2).toNatClampNeg) - l3)).toNatClampNeg)).toNatClampNeg ((m1.1 289 ((m1.1 287 (((m.1 272 (l2).toNatClampNeg) - l3)).toNatClampNeg)).toNatClampNeg) + (1 : Int32))) Q)))))))))))))))) : W_M_surrounds_31 d l1 l2 l3 w m Q := by
  intro o4 o5
  refine mm_yrun (is := mm_k243) [2, 18, 31, 80, 103] 400 rfl ?_
  refine And.intro (And.intro (rfl) (by decide : ¬ 262 = 0)) ?_
  refine And.intro (And.intro (rfl) H.1) ?_
  replace H := H.2
  refine And.intro (fun q => ?_) (fun q => ?_)
  · replace H := H.1 q
    exact H _ _ _
  · replace H := H.2 q
    refine And.intro (And.intro (rfl) (by decide : ¬ 272 = 0)) ?_
    refine And.intro (And.intro (rfl) H.1) ?_
    replace H := H.2
    refine And.intro (And.intro (rfl) (by decide : ¬ 272 = 0)) ?_
    refine And.intro (And.intro (rfl) H.1) ?_
    replace H := H.2
    refine And.intro (And.intro (rfl) (by decide : ¬ 273 = 0)) ?_
    refine And.intro (And.intro (rfl) H.1) ?_
    replace H := H.2
    refine And.intro (fun q => ?_) (fun q => ?_)
    · replace H := H.1 q
      exact H _
    · replace H := H.2 q
      refine And.intro (And.intro (rfl) (by decide : ¬ 272 = 0)) ?_
      refine And.intro (And.intro (rfl) H.1) ?_
      replace H := H.2
      refine And.intro (rfl) ?_
      refine cI_use (w := w) (m := m) rfl H ?_
      intro v1 m1 H
      refine And.intro (fun q => ?_) (fun q => ?_)
      · replace H := H.1 q
        exact H _
      · replace H := H.2 q
        refine And.intro (And.intro (rfl) (by decide : ¬ 289 = 0)) ?_
        refine And.intro (And.intro (rfl) (by decide : ¬ 287 = 0)) ?_
        refine And.intro (And.intro (rfl) H.1) ?_
        replace H := H.2
        refine And.intro (And.intro (rfl) H.1) ?_
        replace H := H.2
        refine And.intro (And.intro (rfl) H.1) ?_
        replace H := H.2
        exact H _
theorem S_M_surrounds_80 {l1 : Int32} {l2 : Int32} {l3 : Int32} {l5 : Int32} {d : Nat} {w : Nat × Nat × Nat} {m : zM} {Q : zM → Prop} (H : (((m.1 261 21) ≤ l5 → W_M_surrounds_103 d l1 l2 l3 w m Q) ∧ (¬ (m.1 261 21) ≤ l5 → vp_in l2 2000 ∧ (cI d 231 [.ref 261, .int l5, .int (m.1 272 (l2).toNatClampNeg)] w m (fun v1 m1 => ((v1 = 0 → W_M_surrounds_103 d l1 l2 l3 w m1 Q) ∧ (¬ v1 = 0 → vp_in l5 400 ∧ (vp_in (m1.1 287 (l5).toNatClampNeg) 400 ∧ (vp_in (m1.1 287 (l5).toNatClampNeg) 400 ∧ (W_M_surrounds_103 d l1 l2 l3 w (zI m1 289 ((m1.1 287 (l5).toNatClampNeg)).toNatClampNeg ((m1.1 289 ((m1.1 287 (l5).toNatClampNeg)).toNatClampNeg) + (1 : Int32))) Q)))))))))) : W_M_surrounds_80 d l1 l2 l3 l5 w m Q := by
  intro o4
  refine mm_yrun (is := mm_k243) [2, 18, 31, 80, 103] 400 rfl ?_
  refine And.intro (rfl) ?_
  refine And.intro (fun q => ?_) (fun q => ?_)
  · replace H := H.1 q
    exact H _ _
  · replace H := H.2 q
    refine And.intro (And.intro (rfl) (by decide : ¬ 272 = 0)) ?_
    refine And.intro (And.intro (rfl) H.1) ?_
    replace H := H.2
    refine And.intro (rfl) ?_
    refine cI_use (w := w) (m := m) rfl H ?_
    intro v1 m1 H
    refine And.intro (fun q => ?_) (fun q => ?_)
    · replace H := H.1 q
      exact H _ _
    · replace H := H.2 q
      refine And.intro (And.intro (rfl) (by decide : ¬ 289 = 0)) ?_
      refine And.intro (And.intro (rfl) (by decide : ¬ 287 = 0)) ?_
      refine And.intro (And.intro (rfl) H.1) ?_
      replace H := H.2
      refine And.intro (And.intro (rfl) H.1) ?_
      replace H := H.2
      refine And.intro (And.intro (rfl) H.1) ?_
      replace H := H.2
      exact H _ _
theorem S_M_surrounds_103 {l1 : Int32} {l2 : Int32} {l3 : Int32} {d : Nat} {w : Nat × Nat × Nat} {m : zM} {Q : zM → Prop} (H : W_M_surrounds_31 d l1 l2 (l3 + (1 : Int32)) w m Q) : W_M_surrounds_103 d l1 l2 l3 w m Q := by
  intro o4 o5
  refine mm_yrun (is := mm_k243) [2, 18, 31, 80, 103] 400 rfl ?_
  exact H _ _

def W_M_layLikely_2 (d : Nat) (l1 : Int32) (w : Nat × Nat × Nat) (m : zM) (Q : zM → Prop) : Prop := ∀ o2 : Option Value, mm_W (d + 1) 244 2 [some (.ref 261), some (.int l1), o2] [] (zE w m) (rV w Q)
def W_M_layLikely_15 (d : Nat) (l1 : Int32) (w : Nat × Nat × Nat) (m : zM) (Q : zM → Prop) : Prop := ∀ o2 : Option Value, mm_W (d + 1) 244 15 [some (.ref 261), some (.int l1), o2] [] (zE w m) (rV w Q)
def W_M_layLikely_24 (d : Nat) (l1 : Int32) (l2 : Int32) (w : Nat × Nat × Nat) (m : zM) (Q : zM → Prop) : Prop := mm_W (d + 1) 244 24 [some (.ref 261), some (.int l1), some (.int l2)] [] (zE w m) (rV w Q)
theorem S_M_layLikely  {d : Nat} {w : Nat × Nat × Nat} {m : zM} {Q : zM → Prop} (H : W_M_layLikely_2 d (0 : Int32) w m Q) : cV (d + 1) 244 [.ref 261] w m Q := by
  refine cV_in rfl ?_
  refine mm_yrun (is := mm_k244) [2, 15, 24] 400 rfl ?_
  exact H _
theorem S_M_layLikely_2 {l1 : Int32} {d : Nat} {w : Nat × Nat × Nat} {m : zM} {Q : zM → Prop} (H : (((m.1 261 43) ≤ l1 → W_M_layLikely_15 d (0 : Int32) w m Q) ∧ (¬ (m.1 261 43) ≤ l1 → vp_in l1 400 ∧ (W_M_layLikely_2 d (l1 + (1 : Int32)) w (zI m 288 (l1).toNatClampNeg (0 : Int32)) Q)))) : W_M_layLikely_2 d l1 w m Q := by
  intro o2
  refine mm_yrun (is := mm_k244) [2, 15, 24] 400 rfl ?_
  refine And.intro (rfl) ?_
  refine And.intro (fun q => ?_) (fun q => ?_)
  · replace H := H.1 q
    exact H _
  · replace H := H.2 q
    refine And.intro (And.intro (rfl) (by decide : ¬ 288 = 0)) ?_
    refine And.intro (And.intro (rfl) H.1) ?_
    replace H := H.2
    exact H _
theorem S_M_layLikely_15 {l1 : Int32} {d : Nat} {w : Nat × Nat × Nat} {m : zM} {Q : zM → Prop} (H : (((m.1 261 32) ≤ l1 → Q m) ∧ (¬ (m.1 261 32) ≤ l1 → cV d 243 [.ref 261, .int l1] w m (fun m1 => W_M_layLikely_24 d l1 (0 : Int32) w m1 Q)))) : W_M_layLikely_15 d l1 w m Q := by
  intro o2
  refine mm_yrun (is := mm_k244) [2, 15, 24] 400 rfl ?_
  refine And.intro (rfl) ?_
  refine And.intro (fun q => ?_) (fun q => ?_)
  · replace H := H.1 q
    exact rV_mk (w := w) (m := m) H
  · replace H := H.2 q
    refine And.intro (rfl) ?_
    refine cV_use (w := w) (m := m) rfl H ?_
    intro m1 H
    exact H
theorem S_M_layLikely_24 {l1 : Int32} {l2 : Int32} {d : Nat} {w : Nat × Nat × Nat} {m : zM} {Q : zM → Prop} (H : (((m.1 261 43) ≤ l2 → W_M_layLikely_15 d (l1 + (1 : Int32)) w m Q) ∧ (¬ (m.1 261 43) ≤ l2 → vp_in l2 400 ∧ (vp_in l2 400 ∧ ((((m.1 289 (l2).toNatClampNeg) ≤ 0 → cI d 182 [.int (0 : Int32)] w m (fun v1 m1 => vp_in l2 400 ∧ (W_M_layLikely_24 d l1 (l2 + (1 : Int32)) w (zI m1 288 (l2).toNatClampNeg ((m.1 288 (l2).toNatClampNeg) + v1)) Q))) ∧ (¬ (m.1 289 (l2).toNatClampNeg) ≤ 0 → cI d 182 [.int (1 : Int32)] w m (fun v2 m2 => vp_in l2 400 ∧ (W_M_layLikely_24 d l1 (l2 + (1 : Int32)) w (zI m2 288 (l2).toNatClampNeg ((m.1 288 (l2).toNatClampNeg) + v2)) Q))))))))) : W_M_layLikely_24 d l1 l2 w m Q := by
  refine mm_yrun (is := mm_k244) [2, 15, 24] 400 rfl ?_
  refine And.intro (rfl) ?_
  refine And.intro (fun q => ?_) (fun q => ?_)
  · replace H := H.1 q
    exact H _
  · replace H := H.2 q
    refine And.intro (And.intro (rfl) (by decide : ¬ 288 = 0)) ?_
    refine And.intro (And.intro (rfl) H.1) ?_
    replace H := H.2
    refine And.intro (And.intro (rfl) (by decide : ¬ 289 = 0)) ?_
    refine And.intro (And.intro (rfl) H.1) ?_
    replace H := H.2
    refine And.intro (fun q => ?_) (fun q => ?_)
    · replace H := H.1 q
      refine And.intro (trivial) ?_
      refine cI_use (w := w) (m := m) rfl H ?_
      intro v1 m1 H
      refine And.intro (And.intro (rfl) H.1) ?_
      replace H := H.2
      exact H
    · replace H := H.2 q
      refine And.intro (trivial) ?_
      refine cI_use (w := w) (m := m) rfl H ?_
      intro v2 m2 H
      refine And.intro (And.intro (rfl) H.1) ?_
      replace H := H.2
      exact H

def W_M_gcd_10 (d : Nat) (l4 : Int64) (l6 : Int64) (w : Nat × Nat × Nat) (m : zM) (Q : Int64 → zM → Prop) : Prop := ∀ o0 o1 o2 o3 o8 o9 : Option Value, mm_W d 245 10 [o0, o1, o2, o3, some (.long l4), none, some (.long l6), none, o8, o9] [] (zE w m) (rL w Q)
theorem S_M_gcd {p0 : Int64} {p1 : Int64} {d : Nat} {w : Nat × Nat × Nat} {m : zM} {Q : Int64 → zM → Prop} (H : (((0 : Int64) ≤ p0 → W_M_gcd_10 d p0 p1 w m Q) ∧ (¬ (0 : Int64) ≤ p0 → W_M_gcd_10 d (-p0) p1 w m Q))) : cL d 245 [.long p0, .long p1] w m Q := by
  refine cL_in rfl ?_
  refine mm_yrun (is := mm_k245) [10] 400 rfl ?_
  refine And.intro (fun q => ?_) (fun q => ?_)
  · replace H := H.1 q
    exact H _ _ _ _ _ _
  · replace H := H.2 q
    exact H _ _ _ _ _ _
theorem S_M_gcd_10 {l4 : Int64} {l6 : Int64} {d : Nat} {w : Nat × Nat × Nat} {m : zM} {Q : Int64 → zM → Prop} (H : ((l6 = (0 : Int64) → Q l4 m) ∧ (¬ l6 = (0 : Int64) → (¬ l6 = 0) ∧ (W_M_gcd_10 d l6 (l4 - l4 / l6 * l6) w m Q)))) : W_M_gcd_10 d l4 l6 w m Q := by
  intro o0 o1 o2 o3 o8 o9
  refine mm_yrun (is := mm_k245) [10] 400 rfl ?_
  refine And.intro (fun q => ?_) (fun q => ?_)
  · replace H := H.1 q
    exact rL_mk (w := w) (m := m) H
  · replace H := H.2 q
    refine And.intro H.1 ?_
    replace H := H.2
    exact H _ _ _ _ _ _

theorem S_M_puts {p0 : Int64} {p1 : Int64} {d : Nat} {w : Nat × Nat × Nat} {m : zM} {Q : zM → Prop} (H : cL d 245 [.long p0, .long p1] w m (fun v1 m1 => (¬ v1 = 0) ∧ ((¬ v1 = 0) ∧ (Q (zL (zL m1 261 47 (p0 / v1)) 261 48 (p1 / v1)))))) : cV (d + 1) 246 [.ref 261, .long p0, .long p1] w m Q := by
  refine cV_in rfl ?_
  refine mm_yrun (is := mm_k246) [] 400 rfl ?_
  refine And.intro (trivial) ?_
  refine cL_use (w := w) (m := m) rfl H ?_
  intro v1 m1 H
  refine And.intro H.1 ?_
  replace H := H.2
  refine And.intro (rfl) ?_
  refine And.intro H.1 ?_
  replace H := H.2
  refine And.intro (rfl) ?_
  exact rV_mk (w := w) (m := (zL (zL m1 261 47 (p0 / v1)) 261 48 (p1 / v1))) H

theorem S_M_worth {p0 : Int32} {d : Nat} {w : Nat × Nat × Nat} {m : zM} {Q : zM → Prop} (H : vp_in p0 2000 ∧ (vp_in ((1900 : Int32) + (m.1 278 (p0).toNatClampNeg)) 1906 ∧ (vp_in p0 2000 ∧ (((¬ (m.1 283 (p0).toNatClampNeg) = 0 → vp_in p0 2000 ∧ (vp_in p0 2000 ∧ (vp_in p0 2000 ∧ (vp_in p0 2000 ∧ (cV d 246 [.ref 261, .long ((m.2 262 (((1900 : Int32) + (m.1 278 (p0).toNatClampNeg))).toNatClampNeg) * ((((m.1 279 (p0).toNatClampNeg)).toInt64 * ((m.1 283 (p0).toNatClampNeg)).toInt64) - ((m.1 284 (p0).toNatClampNeg)).toInt64)), .long ((m.1 283 (p0).toNatClampNeg)).toInt64] w m (fun m1 => Q m1)))))) ∧ ((m.1 283 (p0).toNatClampNeg) = 0 → vp_in p0 2000 ∧ (cV d 246 [.ref 261, .long ((m.2 262 (((1900 : Int32) + (m.1 278 (p0).toNatClampNeg))).toNatClampNeg) * ((m.1 279 (p0).toNatClampNeg)).toInt64), .long (1 : Int64)] w m (fun m2 => Q m2)))))))) : cV (d + 1) 247 [.ref 261, .int p0] w m Q := by
  refine cV_in rfl ?_
  refine mm_yrun (is := mm_k247) [] 400 rfl ?_
  refine And.intro (And.intro (rfl) (by decide : ¬ 262 = 0)) ?_
  refine And.intro (And.intro (rfl) (by decide : ¬ 278 = 0)) ?_
  refine And.intro (And.intro (rfl) H.1) ?_
  replace H := H.2
  refine And.intro (And.intro (rfl) H.1) ?_
  replace H := H.2
  refine And.intro (And.intro (rfl) (by decide : ¬ 283 = 0)) ?_
  refine And.intro (And.intro (rfl) H.1) ?_
  replace H := H.2
  refine And.intro (fun q => ?_) (fun q => ?_)
  · replace H := H.1 q
    refine And.intro (And.intro (rfl) (by decide : ¬ 279 = 0)) ?_
    refine And.intro (And.intro (rfl) H.1) ?_
    replace H := H.2
    refine And.intro (And.intro (rfl) (by decide : ¬ 283 = 0)) ?_
    refine And.intro (And.intro (rfl) H.1) ?_
    replace H := H.2
    refine And.intro (And.intro (rfl) (by decide : ¬ 284 = 0)) ?_
    refine And.intro (And.intro (rfl) H.1) ?_
    replace H := H.2
    refine And.intro (And.intro (rfl) (by decide : ¬ 283 = 0)) ?_
    refine And.intro (And.intro (rfl) H.1) ?_
    replace H := H.2
    refine And.intro (rfl) ?_
    refine cV_use (w := w) (m := m) rfl H ?_
    intro m1 H
    exact rV_mk (w := w) (m := m1) H
  · replace H := H.2 (Classical.not_not.mp q)
    refine And.intro (And.intro (rfl) (by decide : ¬ 279 = 0)) ?_
    refine And.intro (And.intro (rfl) H.1) ?_
    replace H := H.2
    refine And.intro (rfl) ?_
    refine cV_use (w := w) (m := m) rfl H ?_
    intro m2 H
    exact rV_mk (w := w) (m := m2) H

theorem S_M_odd {p0 : Int32} {d : Nat} {w : Nat × Nat × Nat} {m : zM} {Q : zM → Prop} (H : vp_in p0 2000 ∧ (vp_in (1069 : Int32) 1906 ∧ (vp_in p0 2000 ∧ (cV d 246 [.ref 261, .long (((m.1 279 (p0).toNatClampNeg)).toInt64 * ((m.2 262 ((1069 : Int32)).toNatClampNeg) + (1 : Int64))), .long ((((m.1 285 (p0).toNatClampNeg)).toInt64 + (1 : Int64)) * (((m.1 261 21)).toInt64 + (1 : Int64)))] w m (fun m1 => Q m1))))) : cV (d + 1) 248 [.ref 261, .int p0] w m Q := by
  refine cV_in rfl ?_
  refine mm_yrun (is := mm_k248) [] 400 rfl ?_
  refine And.intro (And.intro (rfl) (by decide : ¬ 279 = 0)) ?_
  refine And.intro (And.intro (rfl) H.1) ?_
  replace H := H.2
  refine And.intro (And.intro (rfl) (by decide : ¬ 262 = 0)) ?_
  refine And.intro (And.intro (rfl) H.1) ?_
  replace H := H.2
  refine And.intro (And.intro (rfl) (by decide : ¬ 285 = 0)) ?_
  refine And.intro (And.intro (rfl) H.1) ?_
  replace H := H.2
  refine And.intro (rfl) ?_
  refine And.intro (rfl) ?_
  refine cV_use (w := w) (m := m) rfl H ?_
  intro m1 H
  exact rV_mk (w := w) (m := m1) H

def W_M_near_7 (d : Nat) (l1 : Int32) (l2 : Int64) (l4 : Int32) (w : Nat × Nat × Nat) (m : zM) (Q : zM → Prop) : Prop := mm_W (d + 1) 249 7 [some (.ref 261), some (.int l1), some (.long l2), none, some (.int l4)] [] (zE w m) (rV w Q)
theorem S_M_near {p0 : Int32} {d : Nat} {w : Nat × Nat × Nat} {m : zM} {Q : zM → Prop} (H : cV d 243 [.ref 261, .int p0] w m (fun m1 => W_M_near_7 d p0 (0 : Int64) (0 : Int32) w m1 Q)) : cV (d + 1) 249 [.ref 261, .int p0] w m Q := by
  refine cV_in rfl ?_
  refine mm_yrun (is := mm_k249) [7] 400 rfl ?_
  refine And.intro (rfl) ?_
  refine cV_use (w := w) (m := m) rfl H ?_
  intro m1 H
  exact H
theorem S_M_near_7 {l1 : Int32} {l2 : Int64} {l4 : Int32} {d : Nat} {w : Nat × Nat × Nat} {m : zM} {Q : zM → Prop} (H : (((m.1 261 43) ≤ l4 → cV d 247 [.ref 261, .int l1] w m (fun m1 => cV d 246 [.ref 261, .long ((((4 : Int64) * (m1.2 261 47)) * ((m1.1 261 32)).toInt64) + (l2 * (m1.2 261 48))), .long (((5 : Int64) * (m1.2 261 48)) * ((m1.1 261 32)).toInt64)] w m1 (fun m2 => Q m2))) ∧ (¬ (m.1 261 43) ≤ l4 → vp_in l4 400 ∧ (vp_in l4 400 ∧ (W_M_near_7 d l1 (l2 + (((m.1 289 (l4).toNatClampNeg)).toInt64 * ((m.1 288 (l4).toNatClampNeg)).toInt64)) (l4 + (1 : Int32)) w m Q))))) : W_M_near_7 d l1 l2 l4 w m Q := by
  refine mm_yrun (is := mm_k249) [7] 400 rfl ?_
  refine And.intro (rfl) ?_
  refine And.intro (fun q => ?_) (fun q => ?_)
  · replace H := H.1 q
    refine And.intro (rfl) ?_
    refine cV_use (w := w) (m := m) rfl H ?_
    intro m1 H
    refine And.intro (rfl) ?_
    refine And.intro (rfl) ?_
    refine And.intro (rfl) ?_
    refine And.intro (rfl) ?_
    refine And.intro (rfl) ?_
    refine And.intro (rfl) ?_
    refine cV_use (w := w) (m := m1) rfl H ?_
    intro m2 H
    exact rV_mk (w := w) (m := m2) H
  · replace H := H.2 q
    refine And.intro (And.intro (rfl) (by decide : ¬ 289 = 0)) ?_
    refine And.intro (And.intro (rfl) H.1) ?_
    replace H := H.2
    refine And.intro (And.intro (rfl) (by decide : ¬ 288 = 0)) ?_
    refine And.intro (And.intro (rfl) H.1) ?_
    replace H := H.2
    exact H

theorem S_M_measures {p0 : Int32} {p1 : Int32} {d : Nat} {w : Nat × Nat × Nat} {m : zM} {Q : zM → Prop} (H : ((p1 = (0 : Int32) → vp_in p0 2000 ∧ (cV d 246 [.ref 261, .long ((m.1 279 (p0).toNatClampNeg)).toInt64, .long (1 : Int64)] w m (fun m1 => Q m1))) ∧ (¬ p1 = (0 : Int32) → ((p1 = (1 : Int32) → vp_in p0 2000 ∧ (cV d 246 [.ref 261, .long ((m.1 280 (p0).toNatClampNeg)).toInt64, .long (1 : Int64)] w m (fun m2 => Q m2))) ∧ (¬ p1 = (1 : Int32) → ((p1 = (2 : Int32) → cV d 247 [.ref 261, .int p0] w m (fun m3 => Q m3)) ∧ (¬ p1 = (2 : Int32) → ((p1 = (3 : Int32) → cV d 248 [.ref 261, .int p0] w m (fun m4 => Q m4)) ∧ (¬ p1 = (3 : Int32) → ((p1 = (4 : Int32) → cV d 247 [.ref 261, .int p0] w m (fun m5 => cV d 248 [.ref 261, .int p0] w m5 (fun m6 => cV d 246 [.ref 261, .long ((m5.2 261 47) * (m6.2 261 47)), .long ((m5.2 261 48) * (m6.2 261 48))] w m6 (fun m7 => Q m7)))) ∧ (¬ p1 = (4 : Int32) → ((p1 = (5 : Int32) → cV d 249 [.ref 261, .int p0] w m (fun m8 => Q m8)) ∧ (¬ p1 = (5 : Int32) → vp_in p0 2000 ∧ (cI d 251 [.int (m.1 282 (p0).toNatClampNeg)] w m (fun v9 m9 => cV d 246 [.ref 261, .long (v9).toInt64, .long (1 : Int64)] w m9 (fun m10 => Q m10)))))))))))))))) : cV (d + 1) 250 [.ref 261, .int p0, .int p1] w m Q := by
  refine cV_in rfl ?_
  refine mm_yrun (is := mm_k250) [] 400 rfl ?_
  refine And.intro (fun q => ?_) (fun q => ?_)
  · replace H := H.1 q
    refine And.intro (And.intro (rfl) (by decide : ¬ 279 = 0)) ?_
    refine And.intro (And.intro (rfl) H.1) ?_
    replace H := H.2
    refine And.intro (rfl) ?_
    refine cV_use (w := w) (m := m) rfl H ?_
    intro m1 H
    exact rV_mk (w := w) (m := m1) H
  · replace H := H.2 q
    refine And.intro (fun q => ?_) (fun q => ?_)
    · replace H := H.1 q
      refine And.intro (And.intro (rfl) (by decide : ¬ 280 = 0)) ?_
      refine And.intro (And.intro (rfl) H.1) ?_
      replace H := H.2
      refine And.intro (rfl) ?_
      refine cV_use (w := w) (m := m) rfl H ?_
      intro m2 H
      exact rV_mk (w := w) (m := m2) H
    · replace H := H.2 q
      refine And.intro (fun q => ?_) (fun q => ?_)
      · replace H := H.1 q
        refine And.intro (rfl) ?_
        refine cV_use (w := w) (m := m) rfl H ?_
        intro m3 H
        exact rV_mk (w := w) (m := m3) H
      · replace H := H.2 q
        refine And.intro (fun q => ?_) (fun q => ?_)
        · replace H := H.1 q
          refine And.intro (rfl) ?_
          refine cV_use (w := w) (m := m) rfl H ?_
          intro m4 H
          exact rV_mk (w := w) (m := m4) H
        · replace H := H.2 q
          refine And.intro (fun q => ?_) (fun q => ?_)
          · replace H := H.1 q
            refine And.intro (rfl) ?_
            refine cV_use (w := w) (m := m) rfl H ?_
            intro m5 H
            refine And.intro (rfl) ?_
            refine And.intro (rfl) ?_
            refine And.intro (rfl) ?_
            refine cV_use (w := w) (m := m5) rfl H ?_
            intro m6 H
            refine And.intro (rfl) ?_
            refine And.intro (rfl) ?_
            refine And.intro (rfl) ?_
            refine cV_use (w := w) (m := m6) rfl H ?_
            intro m7 H
            exact rV_mk (w := w) (m := m7) H
          · replace H := H.2 q
            refine And.intro (fun q => ?_) (fun q => ?_)
            · replace H := H.1 q
              refine And.intro (rfl) ?_
              refine cV_use (w := w) (m := m) rfl H ?_
              intro m8 H
              exact rV_mk (w := w) (m := m8) H
            · replace H := H.2 q
              refine And.intro (And.intro (rfl) (by decide : ¬ 282 = 0)) ?_
              refine And.intro (And.intro (rfl) H.1) ?_
              replace H := H.2
              refine And.intro (trivial) ?_
              refine cI_use (w := w) (m := m) rfl H ?_
              intro v9 m9 H
              refine And.intro (rfl) ?_
              refine cV_use (w := w) (m := m9) rfl H ?_
              intro m10 H
              exact rV_mk (w := w) (m := m10) H

def W_M_bitsOf_4 (d : Nat) (l0 : Int32) (l1 : Int32) (l2 : Int32) (w : Nat × Nat × Nat) (m : zM) (Q : Int32 → zM → Prop) : Prop := mm_W d 251 4 [some (.int l0), some (.int l1), some (.int l2)] [] (zE w m) (rI w Q)
theorem S_M_bitsOf {p0 : Int32} {d : Nat} {w : Nat × Nat × Nat} {m : zM} {Q : Int32 → zM → Prop} (H : W_M_bitsOf_4 d p0 (0 : Int32) (0 : Int32) w m Q) : cI d 251 [.int p0] w m Q := by
  refine cI_in rfl ?_
  refine mm_yrun (is := mm_k251) [4] 400 rfl ?_
  exact H
theorem S_M_bitsOf_4 {l0 : Int32} {l1 : Int32} {l2 : Int32} {d : Nat} {w : Nat × Nat × Nat} {m : zM} {Q : Int32 → zM → Prop} (H : (((8 : Int32) ≤ l2 → Q l1 m) ∧ (¬ (8 : Int32) ≤ l2 → W_M_bitsOf_4 d l0 (l1 + ((l0 >>> (l2 &&& 31)) &&& (1 : Int32))) (l2 + (1 : Int32)) w m Q))) : W_M_bitsOf_4 d l0 l1 l2 w m Q := by
  refine mm_yrun (is := mm_k251) [4] 400 rfl ?_
  refine And.intro (fun q => ?_) (fun q => ?_)
  · replace H := H.1 q
    exact rI_mk (w := w) (m := m) H
  · replace H := H.2 q
    exact H

def W_M_isLess_10 (d : Nat) (l8 : Int64) (l10 : Int64) (l12 : Int64) (l14 : Int64) (l16 : Int32) (w : Nat × Nat × Nat) (m : zM) (Q : Int32 → zM → Prop) : Prop := ∀ o0 o1 o2 o3 o4 o5 o6 o7 o17 o18 o19 o20 o21 o22 : Option Value, mm_W (d + 1) 252 10 [o0, o1, o2, o3, o4, o5, o6, o7, some (.long l8), none, some (.long l10), none, some (.long l12), none, some (.long l14), none, some (.int l16), o17, o18, o19, o20, o21, o22] [] (zE w m) (rI w Q)
def W_M_isLess_37 (d : Nat) (l8 : Int64) (l10 : Int64) (l12 : Int64) (l14 : Int64) (l16 : Int32) (l17 : Int64) (l19 : Int64) (w : Nat × Nat × Nat) (m : zM) (Q : Int32 → zM → Prop) : Prop := ∀ o0 o1 o2 o3 o4 o5 o6 o7 o21 o22 : Option Value, mm_W (d + 1) 252 37 [o0, o1, o2, o3, o4, o5, o6, o7, some (.long l8), none, some (.long l10), none, some (.long l12), none, some (.long l14), none, some (.int l16), some (.long l17), none, some (.long l19), none, o21, o22] [] (zE w m) (rI w Q)
def W_M_isLess_43 (d : Nat) (l8 : Int64) (l10 : Int64) (l12 : Int64) (l14 : Int64) (l16 : Int32) (l19 : Int64) (w : Nat × Nat × Nat) (m : zM) (Q : Int32 → zM → Prop) : Prop := ∀ o0 o1 o2 o3 o4 o5 o6 o7 o17 o18 o21 o22 : Option Value, mm_W (d + 1) 252 43 [o0, o1, o2, o3, o4, o5, o6, o7, some (.long l8), none, some (.long l10), none, some (.long l12), none, some (.long l14), none, some (.int l16), o17, o18, some (.long l19), none, o21, o22] [] (zE w m) (rI w Q)
def W_M_isLess_55 (d : Nat) (l8 : Int64) (l12 : Int64) (l16 : Int32) (w : Nat × Nat × Nat) (m : zM) (Q : Int32 → zM → Prop) : Prop := ∀ o0 o1 o2 o3 o4 o5 o6 o7 o10 o11 o14 o15 o17 o18 o19 o20 o21 o22 : Option Value, mm_W (d + 1) 252 55 [o0, o1, o2, o3, o4, o5, o6, o7, some (.long l8), none, o10, o11, some (.long l12), none, o14, o15, some (.int l16), o17, o18, o19, o20, o21, o22] [] (zE w m) (rI w Q)
def W_M_isLess_77 (d : Nat) (l8 : Int64) (l10 : Int64) (l12 : Int64) (l14 : Int64) (l16 : Int32) (w : Nat × Nat × Nat) (m : zM) (Q : Int32 → zM → Prop) : Prop := ∀ o0 o1 o2 o3 o4 o5 o6 o7 o17 o18 o19 o20 o21 o22 : Option Value, mm_W (d + 1) 252 77 [o0, o1, o2, o3, o4, o5, o6, o7, some (.long l8), none, some (.long l10), none, some (.long l12), none, some (.long l14), none, some (.int l16), o17, o18, o19, o20, o21, o22] [] (zE w m) (rI w Q)
def W_M_isLess_81 (d : Nat) (l8 : Int64) (l12 : Int64) (l14 : Int64) (l16 : Int32) (l21 : Int64) (w : Nat × Nat × Nat) (m : zM) (Q : Int32 → zM → Prop) : Prop := ∀ o0 o1 o2 o3 o4 o5 o6 o7 o10 o11 o17 o18 o19 o20 : Option Value, mm_W (d + 1) 252 81 [o0, o1, o2, o3, o4, o5, o6, o7, some (.long l8), none, o10, o11, some (.long l12), none, some (.long l14), none, some (.int l16), o17, o18, o19, o20, some (.long l21), none] [] (zE w m) (rI w Q)
def W_M_isLess_85 (d : Nat) (l8 : Int64) (l10 : Int64) (l14 : Int64) (l16 : Int32) (l21 : Int64) (w : Nat × Nat × Nat) (m : zM) (Q : Int32 → zM → Prop) : Prop := ∀ o0 o1 o2 o3 o4 o5 o6 o7 o12 o13 o17 o18 o19 o20 : Option Value, mm_W (d + 1) 252 85 [o0, o1, o2, o3, o4, o5, o6, o7, some (.long l8), none, some (.long l10), none, o12, o13, some (.long l14), none, some (.int l16), o17, o18, o19, o20, some (.long l21), none] [] (zE w m) (rI w Q)
def W_M_isLess_89 (d : Nat) (l8 : Int64) (l10 : Int64) (l12 : Int64) (l14 : Int64) (l16 : Int32) (w : Nat × Nat × Nat) (m : zM) (Q : Int32 → zM → Prop) : Prop := ∀ o0 o1 o2 o3 o4 o5 o6 o7 o17 o18 o19 o20 o21 o22 : Option Value, mm_W (d + 1) 252 89 [o0, o1, o2, o3, o4, o5, o6, o7, some (.long l8), none, some (.long l10), none, some (.long l12), none, some (.long l14), none, some (.int l16), o17, o18, o19, o20, o21, o22] [] (zE w m) (rI w Q)
theorem S_M_isLess {p0 : Int64} {p1 : Int64} {p2 : Int64} {p3 : Int64} {d : Nat} {w : Nat × Nat × Nat} {m : zM} {Q : Int32 → zM → Prop} (H : W_M_isLess_10 d p0 p1 p2 p3 (0 : Int32) w m Q) : cI (d + 1) 252 [.long p0, .long p1, .long p2, .long p3] w m Q := by
  refine cI_in rfl ?_
  refine mm_yrun (is := mm_k252) [10, 37, 43, 55, 77, 81, 85, 89] 400 rfl ?_
  exact H _ _ _ _ _ _ _ _ _ _ _ _ _ _
theorem S_M_isLess_10 {l8 : Int64} {l10 : Int64} {l12 : Int64} {l14 : Int64} {l16 : Int32} {d : Nat} {w : Nat × Nat × Nat} {m : zM} {Q : Int32 → zM → Prop} (H : cL d 289 [.long l8, .long l10] w m (fun v1 m1 => cL d 289 [.long l12, .long l14] w m1 (fun v2 m2 => ((v1 = v2 → W_M_isLess_37 d l8 l10 l12 l14 l16 v1 v2 w m2 Q) ∧ (¬ v1 = v2 → ((l16 = 0 → ((v2 ≤ v1 → Q (0 : Int32) m2) ∧ (¬ v2 ≤ v1 → Q (1 : Int32) m2))) ∧ (¬ l16 = 0 → ((v1 ≤ v2 → Q (0 : Int32) m2) ∧ (¬ v1 ≤ v2 → Q (1 : Int32) m2))))))))) : W_M_isLess_10 d l8 l10 l12 l14 l16 w m Q := by
  intro o0 o1 o2 o3 o4 o5 o6 o7 o17 o18 o19 o20 o21 o22
  refine mm_yrun (is := mm_k252) [10, 37, 43, 55, 77, 81, 85, 89] 400 rfl ?_
  refine And.intro (trivial) ?_
  refine cL_use (w := w) (m := m) rfl H ?_
  intro v1 m1 H
  refine And.intro (trivial) ?_
  refine cL_use (w := w) (m := m1) rfl H ?_
  intro v2 m2 H
  refine And.intro (fun q => ?_) (fun q => ?_)
  · replace H := H.1 q
    exact H _ _ _ _ _ _ _ _ _ _
  · replace H := H.2 q
    refine And.intro (fun q => ?_) (fun q => ?_)
    · replace H := H.1 q
      refine And.intro (fun q => ?_) (fun q => ?_)
      · replace H := H.1 q
        refine And.intro (Or.inl rfl) ?_
        exact rI_mk (w := w) (m := m2) H
      · replace H := H.2 q
        refine And.intro (Or.inr rfl) ?_
        exact rI_mk (w := w) (m := m2) H
    · replace H := H.2 q
      refine And.intro (fun q => ?_) (fun q => ?_)
      · replace H := H.1 q
        refine And.intro (Or.inl rfl) ?_
        exact rI_mk (w := w) (m := m2) H
      · replace H := H.2 q
        refine And.intro (Or.inr rfl) ?_
        exact rI_mk (w := w) (m := m2) H
theorem S_M_isLess_37 {l8 : Int64} {l10 : Int64} {l12 : Int64} {l14 : Int64} {l16 : Int32} {l17 : Int64} {l19 : Int64} {d : Nat} {w : Nat × Nat × Nat} {m : zM} {Q : Int32 → zM → Prop} (H : W_M_isLess_43 d (l8 - (l17 * l10)) l10 l12 l14 l16 l19 w m Q) : W_M_isLess_37 d l8 l10 l12 l14 l16 l17 l19 w m Q := by
  intro o0 o1 o2 o3 o4 o5 o6 o7 o21 o22
  refine mm_yrun (is := mm_k252) [10, 37, 43, 55, 77, 81, 85, 89] 400 rfl ?_
  exact H _ _ _ _ _ _ _ _ _ _ _ _
theorem S_M_isLess_43 {l8 : Int64} {l10 : Int64} {l12 : Int64} {l14 : Int64} {l16 : Int32} {l19 : Int64} {d : Nat} {w : Nat × Nat × Nat} {m : zM} {Q : Int32 → zM → Prop} (H : ((l8 = (0 : Int64) → W_M_isLess_55 d l8 (l12 - (l19 * l14)) l16 w m Q) ∧ (¬ l8 = (0 : Int64) → ((¬ (l12 - (l19 * l14)) = (0 : Int64) → W_M_isLess_77 d l8 l10 (l12 - (l19 * l14)) l14 l16 w m Q) ∧ ((l12 - (l19 * l14)) = (0 : Int64) → W_M_isLess_55 d l8 (l12 - (l19 * l14)) l16 w m Q))))) : W_M_isLess_43 d l8 l10 l12 l14 l16 l19 w m Q := by
  intro o0 o1 o2 o3 o4 o5 o6 o7 o17 o18 o21 o22
  refine mm_yrun (is := mm_k252) [10, 37, 43, 55, 77, 81, 85, 89] 400 rfl ?_
  refine And.intro (fun q => ?_) (fun q => ?_)
  · replace H := H.1 q
    exact H _ _ _ _ _ _ _ _ _ _ _ _ _ _ _ _ _ _
  · replace H := H.2 q
    refine And.intro (fun q => ?_) (fun q => ?_)
    · replace H := H.1 q
      exact H _ _ _ _ _ _ _ _ _ _ _ _ _ _
    · replace H := H.2 (Classical.not_not.mp q)
      exact H _ _ _ _ _ _ _ _ _ _ _ _ _ _ _ _ _ _
theorem S_M_isLess_55 {l8 : Int64} {l12 : Int64} {l16 : Int32} {d : Nat} {w : Nat × Nat × Nat} {m : zM} {Q : Int32 → zM → Prop} (H : ((l16 = 0 → ((¬ l8 = (0 : Int64) → Q (0 : Int32) m) ∧ (l8 = (0 : Int64) → ((l12 = (0 : Int64) → Q (0 : Int32) m) ∧ (¬ l12 = (0 : Int64) → Q (1 : Int32) m))))) ∧ (¬ l16 = 0 → ((l8 = (0 : Int64) → Q (0 : Int32) m) ∧ (¬ l8 = (0 : Int64) → ((¬ l12 = (0 : Int64) → Q (0 : Int32) m) ∧ (l12 = (0 : Int64) → Q (1 : Int32) m))))))) : W_M_isLess_55 d l8 l12 l16 w m Q := by
  intro o0 o1 o2 o3 o4 o5 o6 o7 o10 o11 o14 o15 o17 o18 o19 o20 o21 o22
  refine mm_yrun (is := mm_k252) [10, 37, 43, 55, 77, 81, 85, 89] 400 rfl ?_
  refine And.intro (fun q => ?_) (fun q => ?_)
  · replace H := H.1 q
    refine And.intro (fun q => ?_) (fun q => ?_)
    · replace H := H.1 q
      refine And.intro (Or.inl rfl) ?_
      exact rI_mk (w := w) (m := m) H
    · replace H := H.2 (Classical.not_not.mp q)
      refine And.intro (fun q => ?_) (fun q => ?_)
      · replace H := H.1 q
        refine And.intro (Or.inl rfl) ?_
        exact rI_mk (w := w) (m := m) H
      · replace H := H.2 q
        refine And.intro (Or.inr rfl) ?_
        exact rI_mk (w := w) (m := m) H
  · replace H := H.2 q
    refine And.intro (fun q => ?_) (fun q => ?_)
    · replace H := H.1 q
      refine And.intro (Or.inl rfl) ?_
      exact rI_mk (w := w) (m := m) H
    · replace H := H.2 q
      refine And.intro (fun q => ?_) (fun q => ?_)
      · replace H := H.1 q
        refine And.intro (Or.inl rfl) ?_
        exact rI_mk (w := w) (m := m) H
      · replace H := H.2 (Classical.not_not.mp q)
        refine And.intro (Or.inr rfl) ?_
        exact rI_mk (w := w) (m := m) H
theorem S_M_isLess_77 {l8 : Int64} {l10 : Int64} {l12 : Int64} {l14 : Int64} {l16 : Int32} {d : Nat} {w : Nat × Nat × Nat} {m : zM} {Q : Int32 → zM → Prop} (H : W_M_isLess_81 d l10 l12 l14 l16 l8 w m Q) : W_M_isLess_77 d l8 l10 l12 l14 l16 w m Q := by
  intro o0 o1 o2 o3 o4 o5 o6 o7 o17 o18 o19 o20 o21 o22
  refine mm_yrun (is := mm_k252) [10, 37, 43, 55, 77, 81, 85, 89] 400 rfl ?_
  exact H _ _ _ _ _ _ _ _ _ _ _ _ _ _
theorem S_M_isLess_81 {l8 : Int64} {l12 : Int64} {l14 : Int64} {l16 : Int32} {l21 : Int64} {d : Nat} {w : Nat × Nat × Nat} {m : zM} {Q : Int32 → zM → Prop} (H : W_M_isLess_85 d l8 l21 l14 l16 l12 w m Q) : W_M_isLess_81 d l8 l12 l14 l16 l21 w m Q := by
  intro o0 o1 o2 o3 o4 o5 o6 o7 o10 o11 o17 o18 o19 o20
  refine mm_yrun (is := mm_k252) [10, 37, 43, 55, 77, 81, 85, 89] 400 rfl ?_
  exact H _ _ _ _ _ _ _ _ _ _ _ _ _ _
theorem S_M_isLess_85 {l8 : Int64} {l10 : Int64} {l14 : Int64} {l16 : Int32} {l21 : Int64} {d : Nat} {w : Nat × Nat × Nat} {m : zM} {Q : Int32 → zM → Prop} (H : W_M_isLess_89 d l8 l10 l14 l21 l16 w m Q) : W_M_isLess_85 d l8 l10 l14 l16 l21 w m Q := by
  intro o0 o1 o2 o3 o4 o5 o6 o7 o12 o13 o17 o18 o19 o20
  refine mm_yrun (is := mm_k252) [10, 37, 43, 55, 77, 81, 85, 89] 400 rfl ?_
  exact H _ _ _ _ _ _ _ _ _ _ _ _ _ _
theorem S_M_isLess_89 {l8 : Int64} {l10 : Int64} {l12 : Int64} {l14 : Int64} {l16 : Int32} {d : Nat} {w : Nat × Nat × Nat} {m : zM} {Q : Int32 → zM → Prop} (H : ((¬ l16 = 0 → W_M_isLess_10 d l8 l10 l12 l14 (0 : Int32) w m Q) ∧ (l16 = 0 → W_M_isLess_10 d l8 l10 l12 l14 (1 : Int32) w m Q))) : W_M_isLess_89 d l8 l10 l12 l14 l16 w m Q := by
  intro o0 o1 o2 o3 o4 o5 o6 o7 o17 o18 o19 o20 o21 o22
  refine mm_yrun (is := mm_k252) [10, 37, 43, 55, 77, 81, 85, 89] 400 rfl ?_
  refine And.intro (fun q => ?_) (fun q => ?_)
  · replace H := H.1 q
    exact H _ _ _ _ _ _ _ _ _ _ _ _ _ _
  · replace H := H.2 (Classical.not_not.mp q)
    exact H _ _ _ _ _ _ _ _ _ _ _ _ _ _

theorem S_M_isAhead {p0 : Int32} {p1 : Int32} {d : Nat} {w : Nat × Nat × Nat} {m : zM} {Q : Int32 → zM → Prop} (H : vp_in p1 2000 ∧ (vp_in p1 2000 ∧ (vp_in p0 2000 ∧ (vp_in p0 2000 ∧ (cI d 252 [.long (m.2 290 (p1).toNatClampNeg), .long (m.2 291 (p1).toNatClampNeg), .long (m.2 290 (p0).toNatClampNeg), .long (m.2 291 (p0).toNatClampNeg)] w m (fun v1 m1 => ((v1 = 0 → vp_in p0 2000 ∧ (vp_in p0 2000 ∧ (vp_in p1 2000 ∧ (vp_in p1 2000 ∧ (cI d 252 [.long (m1.2 290 (p0).toNatClampNeg), .long (m1.2 291 (p0).toNatClampNeg), .long (m1.2 290 (p1).toNatClampNeg), .long (m1.2 291 (p1).toNatClampNeg)] w m1 (fun v2 m2 => ((v2 = 0 → vp_in p0 2000 ∧ (vp_in p1 2000 ∧ ((((m2.1 279 (p0).toNatClampNeg) = (m2.1 279 (p1).toNatClampNeg) → ((p1 ≤ p0 → Q (0 : Int32) m2) ∧ (¬ p1 ≤ p0 → Q (1 : Int32) m2))) ∧ (¬ (m2.1 279 (p0).toNatClampNeg) = (m2.1 279 (p1).toNatClampNeg) → vp_in p0 2000 ∧ (vp_in p1 2000 ∧ ((((m2.1 279 (p0).toNatClampNeg) ≤ (m2.1 279 (p1).toNatClampNeg) → Q (0 : Int32) m2) ∧ (¬ (m2.1 279 (p0).toNatClampNeg) ≤ (m2.1 279 (p1).toNatClampNeg) → Q (1 : Int32) m2))))))))) ∧ (¬ v2 = 0 → Q (0 : Int32) m2)))))))) ∧ (¬ v1 = 0 → Q (1 : Int32) m1)))))))) : cI (d + 1) 253 [.ref 261, .int p0, .int p1] w m Q := by
  refine cI_in rfl ?_
  refine mm_yrun (is := mm_k253) [] 400 rfl ?_
  refine And.intro (And.intro (rfl) (by decide : ¬ 290 = 0)) ?_
  refine And.intro (And.intro (rfl) H.1) ?_
  replace H := H.2
  refine And.intro (And.intro (rfl) (by decide : ¬ 291 = 0)) ?_
  refine And.intro (And.intro (rfl) H.1) ?_
  replace H := H.2
  refine And.intro (And.intro (rfl) (by decide : ¬ 290 = 0)) ?_
  refine And.intro (And.intro (rfl) H.1) ?_
  replace H := H.2
  refine And.intro (And.intro (rfl) (by decide : ¬ 291 = 0)) ?_
  refine And.intro (And.intro (rfl) H.1) ?_
  replace H := H.2
  refine And.intro (trivial) ?_
  refine cI_use (w := w) (m := m) rfl H ?_
  intro v1 m1 H
  refine And.intro (fun q => ?_) (fun q => ?_)
  · replace H := H.1 q
    refine And.intro (And.intro (rfl) (by decide : ¬ 290 = 0)) ?_
    refine And.intro (And.intro (rfl) H.1) ?_
    replace H := H.2
    refine And.intro (And.intro (rfl) (by decide : ¬ 291 = 0)) ?_
    refine And.intro (And.intro (rfl) H.1) ?_
    replace H := H.2
    refine And.intro (And.intro (rfl) (by decide : ¬ 290 = 0)) ?_
    refine And.intro (And.intro (rfl) H.1) ?_
    replace H := H.2
    refine And.intro (And.intro (rfl) (by decide : ¬ 291 = 0)) ?_
    refine And.intro (And.intro (rfl) H.1) ?_
    replace H := H.2
    refine And.intro (trivial) ?_
    refine cI_use (w := w) (m := m1) rfl H ?_
    intro v2 m2 H
    refine And.intro (fun q => ?_) (fun q => ?_)
    · replace H := H.1 q
      refine And.intro (And.intro (rfl) (by decide : ¬ 279 = 0)) ?_
      refine And.intro (And.intro (rfl) H.1) ?_
      replace H := H.2
      refine And.intro (And.intro (rfl) (by decide : ¬ 279 = 0)) ?_
      refine And.intro (And.intro (rfl) H.1) ?_
      replace H := H.2
      refine And.intro (fun q => ?_) (fun q => ?_)
      · replace H := H.1 q
        refine And.intro (fun q => ?_) (fun q => ?_)
        · replace H := H.1 q
          refine And.intro (Or.inl rfl) ?_
          exact rI_mk (w := w) (m := m2) H
        · replace H := H.2 q
          refine And.intro (Or.inr rfl) ?_
          exact rI_mk (w := w) (m := m2) H
      · replace H := H.2 q
        refine And.intro (And.intro (rfl) (by decide : ¬ 279 = 0)) ?_
        refine And.intro (And.intro (rfl) H.1) ?_
        replace H := H.2
        refine And.intro (And.intro (rfl) (by decide : ¬ 279 = 0)) ?_
        refine And.intro (And.intro (rfl) H.1) ?_
        replace H := H.2
        refine And.intro (fun q => ?_) (fun q => ?_)
        · replace H := H.1 q
          refine And.intro (Or.inl rfl) ?_
          exact rI_mk (w := w) (m := m2) H
        · replace H := H.2 q
          refine And.intro (Or.inr rfl) ?_
          exact rI_mk (w := w) (m := m2) H
    · replace H := H.2 q
      refine And.intro (Or.inl rfl) ?_
      exact rI_mk (w := w) (m := m2) H
  · replace H := H.2 q
    refine And.intro (Or.inr rfl) ?_
    exact rI_mk (w := w) (m := m1) H

def W_M_ranks_4 (d : Nat) (l1 : Int32) (l2 : Int32) (w : Nat × Nat × Nat) (m : zM) (Q : zM → Prop) : Prop := ∀ o3 : Option Value, mm_W (d + 1) 254 4 [some (.ref 261), some (.int l1), some (.int l2), o3] [] (zE w m) (rV w Q)
def W_M_ranks_33 (d : Nat) (l2 : Int32) (w : Nat × Nat × Nat) (m : zM) (Q : zM → Prop) : Prop := ∀ o1 o3 : Option Value, mm_W (d + 1) 254 33 [some (.ref 261), o1, some (.int l2), o3] [] (zE w m) (rV w Q)
def W_M_ranks_39 (d : Nat) (l2 : Int32) (l3 : Int32) (w : Nat × Nat × Nat) (m : zM) (Q : zM → Prop) : Prop := ∀ o1 : Option Value, mm_W (d + 1) 254 39 [some (.ref 261), o1, some (.int l2), some (.int l3)] [] (zE w m) (rV w Q)
def W_M_ranks_69 (d : Nat) (l2 : Int32) (l3 : Int32) (w : Nat × Nat × Nat) (m : zM) (Q : zM → Prop) : Prop := ∀ o1 : Option Value, mm_W (d + 1) 254 69 [some (.ref 261), o1, some (.int l2), some (.int l3)] [] (zE w m) (rV w Q)
theorem S_M_ranks {p0 : Int32} {d : Nat} {w : Nat × Nat × Nat} {m : zM} {Q : zM → Prop} (H : cV d 239 [.ref 261] w m (fun m1 => W_M_ranks_4 d p0 (0 : Int32) w m1 Q)) : cV (d + 1) 254 [.ref 261, .int p0] w m Q := by
  refine cV_in rfl ?_
  refine mm_yrun (is := mm_k254) [4, 33, 39, 69] 400 rfl ?_
  refine And.intro (rfl) ?_
  refine cV_use (w := w) (m := m) rfl H ?_
  intro m1 H
  exact H _
theorem S_M_ranks_4 {l1 : Int32} {l2 : Int32} {d : Nat} {w : Nat × Nat × Nat} {m : zM} {Q : zM → Prop} (H : (((m.1 261 32) ≤ l2 → W_M_ranks_33 d (1 : Int32) w m Q) ∧ (¬ (m.1 261 32) ≤ l2 → cV d 250 [.ref 261, .int l2, .int l1] w m (fun m1 => vp_in l2 2000 ∧ (vp_in l2 2000 ∧ (vp_in l2 2000 ∧ (W_M_ranks_4 d l1 (l2 + (1 : Int32)) w (zI (zL (zL m1 290 (l2).toNatClampNeg (m1.2 261 47)) 291 (l2).toNatClampNeg (m1.2 261 48)) 292 (l2).toNatClampNeg l2) Q))))))) : W_M_ranks_4 d l1 l2 w m Q := by
  intro o3
  refine mm_yrun (is := mm_k254) [4, 33, 39, 69] 400 rfl ?_
  refine And.intro (rfl) ?_
  refine And.intro (fun q => ?_) (fun q => ?_)
  · replace H := H.1 q
    exact H _ _
  · replace H := H.2 q
    refine And.intro (rfl) ?_
    refine cV_use (w := w) (m := m) rfl H ?_
    intro m1 H
    refine And.intro (And.intro (rfl) (by decide : ¬ 290 = 0)) ?_
    refine And.intro (rfl) ?_
    refine And.intro (And.intro (rfl) H.1) ?_
    replace H := H.2
    refine And.intro (And.intro (rfl) (by decide : ¬ 291 = 0)) ?_
    refine And.intro (rfl) ?_
    refine And.intro (And.intro (rfl) H.1) ?_
    replace H := H.2
    refine And.intro (And.intro (rfl) (by decide : ¬ 292 = 0)) ?_
    refine And.intro (And.intro (rfl) H.1) ?_
    replace H := H.2
    exact H _
theorem S_M_ranks_33 {l2 : Int32} {d : Nat} {w : Nat × Nat × Nat} {m : zM} {Q : zM → Prop} (H : (((m.1 261 32) ≤ l2 → Q m) ∧ (¬ (m.1 261 32) ≤ l2 → W_M_ranks_39 d l2 (0 : Int32) w m Q))) : W_M_ranks_33 d l2 w m Q := by
  intro o1 o3
  refine mm_yrun (is := mm_k254) [4, 33, 39, 69] 400 rfl ?_
  refine And.intro (rfl) ?_
  refine And.intro (fun q => ?_) (fun q => ?_)
  · replace H := H.1 q
    exact rV_mk (w := w) (m := m) H
  · replace H := H.2 q
    exact H _
theorem S_M_ranks_39 {l2 : Int32} {l3 : Int32} {d : Nat} {w : Nat × Nat × Nat} {m : zM} {Q : zM → Prop} (H : (((m.1 261 32) ≤ l3 → W_M_ranks_69 d l2 (0 : Int32) w m Q) ∧ (¬ (m.1 261 32) ≤ l3 → cI d 292 [.int (m.1 261 32), .int (l3 + l2)] w m (fun v1 m1 => cI d 292 [.int (m1.1 261 32), .int (l3 + ((2 : Int32) * l2))] w m1 (fun v2 m2 => cV d 255 [.ref 261, .int l3, .int v1, .int v2] w m2 (fun m3 => W_M_ranks_39 d l2 (l3 + ((2 : Int32) * l2)) w m3 Q)))))) : W_M_ranks_39 d l2 l3 w m Q := by
  intro o1
  refine mm_yrun (is := mm_k254) [4, 33, 39, 69] 400 rfl ?_
  refine And.intro (rfl) ?_
  refine And.intro (fun q => ?_) (fun q => ?_)
  · replace H := H.1 q
    exact H _
  · replace H := H.2 q
    refine And.intro (rfl) ?_
    refine And.intro (trivial) ?_
    refine cI_use (w := w) (m := m) rfl H ?_
    intro v1 m1 H
    refine And.intro (rfl) ?_
    refine And.intro (trivial) ?_
    refine cI_use (w := w) (m := m1) rfl H ?_
    intro v2 m2 H
    refine And.intro (rfl) ?_
    refine cV_use (w := w) (m := m2) rfl H ?_
    intro m3 H
    exact H _
theorem S_M_ranks_69 {l2 : Int32} {l3 : Int32} {d : Nat} {w : Nat × Nat × Nat} {m : zM} {Q : zM → Prop} (H : (((m.1 261 32) ≤ l3 → W_M_ranks_33 d (l2 * (2 : Int32)) w m Q) ∧ (¬ (m.1 261 32) ≤ l3 → vp_in l3 2000 ∧ (vp_in l3 2000 ∧ (W_M_ranks_69 d l2 (l3 + (1 : Int32)) w (zI m 292 (l3).toNatClampNeg (m.1 293 (l3).toNatClampNeg)) Q))))) : W_M_ranks_69 d l2 l3 w m Q := by
  intro o1
  refine mm_yrun (is := mm_k254) [4, 33, 39, 69] 400 rfl ?_
  refine And.intro (rfl) ?_
  refine And.intro (fun q => ?_) (fun q => ?_)
  · replace H := H.1 q
    exact H _ _
  · replace H := H.2 q
    refine And.intro (And.intro (rfl) (by decide : ¬ 292 = 0)) ?_
    refine And.intro (And.intro (rfl) (by decide : ¬ 293 = 0)) ?_
    refine And.intro (And.intro (rfl) H.1) ?_
    replace H := H.2
    refine And.intro (And.intro (rfl) H.1) ?_
    replace H := H.2
    exact H _

def W_M_merges_6 (d : Nat) (l2 : Int32) (l3 : Int32) (l4 : Int32) (l5 : Int32) (l6 : Int32) (w : Nat × Nat × Nat) (m : zM) (Q : zM → Prop) : Prop := ∀ o1 o7 : Option Value, mm_W (d + 1) 255 6 [some (.ref 261), o1, some (.int l2), some (.int l3), some (.int l4), some (.int l5), some (.int l6), o7] [] (zE w m) (rV w Q)
def W_M_merges_29 (d : Nat) (l2 : Int32) (l3 : Int32) (l4 : Int32) (l5 : Int32) (l6 : Int32) (t0 : Int32) (w : Nat × Nat × Nat) (m : zM) (Q : zM → Prop) : Prop := ∀ o1 o7 : Option Value, mm_W (d + 1) 255 29 [some (.ref 261), o1, some (.int l2), some (.int l3), some (.int l4), some (.int l5), some (.int l6), o7] [.int t0] (zE w m) (rV w Q)
def W_M_merges_40 (d : Nat) (l2 : Int32) (l3 : Int32) (l4 : Int32) (l5 : Int32) (l6 : Int32) (l7 : Int32) (t1 : Int32) (t3 : Int32) (w : Nat × Nat × Nat) (m : zM) (Q : zM → Prop) : Prop := ∀ o1 : Option Value, mm_W (d + 1) 255 40 [some (.ref 261), o1, some (.int l2), some (.int l3), some (.int l4), some (.int l5), some (.int l6), some (.int l7)] [.int t3, .ref 292, .int t1, .ref 293] (zE w m) (rV w Q)
theorem S_M_merges {p0 : Int32} {p1 : Int32} {p2 : Int32} {d : Nat} {w : Nat × Nat × Nat} {m : zM} {Q : zM → Prop} (H : W_M_merges_6 d p1 p2 p0 p1 p0 w m Q) : cV (d + 1) 255 [.ref 261, .int p0, .int p1, .int p2] w m Q := by
  refine cV_in rfl ?_
  refine mm_yrun (is := mm_k255) [6, 29, 40] 400 rfl ?_
  exact H _ _
theorem S_M_merges_6 {l2 : Int32} {l3 : Int32} {l4 : Int32} {l5 : Int32} {l6 : Int32} {d : Nat} {w : Nat × Nat × Nat} {m : zM} {Q : zM → Prop} (H : ((l3 ≤ l6 → Q m) ∧ (¬ l3 ≤ l6 → ((l5 = l3 → W_M_merges_29 d l2 l3 l4 l5 l6 (1 : Int32) w m Q) ∧ (¬ l5 = l3 → ((l2 ≤ l4 → W_M_merges_29 d l2 l3 l4 l5 l6 (0 : Int32) w m Q) ∧ (¬ l2 ≤ l4 → vp_in l4 2000 ∧ (vp_in l5 2000 ∧ (cI d 253 [.ref 261, .int (m.1 292 (l4).toNatClampNeg), .int (m.1 292 (l5).toNatClampNeg)] w m (fun v1 m1 => ((v1 = 0 → W_M_merges_29 d l2 l3 l4 l5 l6 (0 : Int32) w m1 Q) ∧ (¬ v1 = 0 → W_M_merges_29 d l2 l3 l4 l5 l6 (1 : Int32) w m1 Q)))))))))))) : W_M_merges_6 d l2 l3 l4 l5 l6 w m Q := by
  intro o1 o7
  refine mm_yrun (is := mm_k255) [6, 29, 40] 400 rfl ?_
  refine And.intro (fun q => ?_) (fun q => ?_)
  · replace H := H.1 q
    exact rV_mk (w := w) (m := m) H
  · replace H := H.2 q
    refine And.intro (fun q => ?_) (fun q => ?_)
    · replace H := H.1 q
      exact H _ _
    · replace H := H.2 q
      refine And.intro (fun q => ?_) (fun q => ?_)
      · replace H := H.1 q
        exact H _ _
      · replace H := H.2 q
        refine And.intro (And.intro (rfl) (by decide : ¬ 292 = 0)) ?_
        refine And.intro (And.intro (rfl) H.1) ?_
        replace H := H.2
        refine And.intro (And.intro (rfl) (by decide : ¬ 292 = 0)) ?_
        refine And.intro (And.intro (rfl) H.1) ?_
        replace H := H.2
        refine And.intro (rfl) ?_
        refine cI_use (w := w) (m := m) rfl H ?_
        intro v1 m1 H
        refine And.intro (fun q => ?_) (fun q => ?_)
        · replace H := H.1 q
          exact H _ _
        · replace H := H.2 q
          exact H _ _
theorem S_M_merges_29 {l2 : Int32} {l3 : Int32} {l4 : Int32} {l5 : Int32} {l6 : Int32} {t0 : Int32} {d : Nat} {w : Nat × Nat × Nat} {m : zM} {Q : zM → Prop} (H : ((t0 = 0 → W_M_merges_40 d l2 l3 l4 l5 l6 t0 l6 l5 w m Q) ∧ (¬ t0 = 0 → W_M_merges_40 d l2 l3 l4 l5 l6 t0 l6 l4 w m Q))) : W_M_merges_29 d l2 l3 l4 l5 l6 t0 w m Q := by
  intro o1 o7
  refine mm_yrun (is := mm_k255) [6, 29, 40] 400 rfl ?_
  refine And.intro (And.intro (rfl) (by decide : ¬ 293 = 0)) ?_
  refine And.intro (And.intro (rfl) (by decide : ¬ 292 = 0)) ?_
  refine And.intro (fun q => ?_) (fun q => ?_)
  · replace H := H.1 q
    exact H _
  · replace H := H.2 q
    exact H _
theorem S_M_merges_40 {l2 : Int32} {l3 : Int32} {l4 : Int32} {l5 : Int32} {l6 : Int32} {l7 : Int32} {t1 : Int32} {t3 : Int32} {d : Nat} {w : Nat × Nat × Nat} {m : zM} {Q : zM → Prop} (H : vp_in t3 2000 ∧ (vp_in t1 2000 ∧ (((l7 = 0 → W_M_merges_6 d l2 l3 l4 (l5 + (1 : Int32)) (l6 + (1 : Int32)) w (zI m 293 (t1).toNatClampNeg (m.1 292 (t3).toNatClampNeg)) Q) ∧ (¬ l7 = 0 → W_M_merges_6 d l2 l3 (l4 + (1 : Int32)) l5 (l6 + (1 : Int32)) w (zI m 293 (t1).toNatClampNeg (m.1 292 (t3).toNatClampNeg)) Q))))) : W_M_merges_40 d l2 l3 l4 l5 l6 l7 t1 t3 w m Q := by
  intro o1
  refine mm_yrun (is := mm_k255) [6, 29, 40] 400 rfl ?_
  refine And.intro (And.intro (rfl) H.1) ?_
  replace H := H.2
  refine And.intro (And.intro (rfl) H.1) ?_
  replace H := H.2
  refine And.intro (fun q => ?_) (fun q => ?_)
  · replace H := H.1 q
    exact H _ _
  · replace H := H.2 q
    exact H _ _

theorem S_M_isTerm {p0 : Int32} {d : Nat} {w : Nat × Nat × Nat} {m : zM} {Q : Int32 → zM → Prop} (H : cV d 239 [.ref 261] w m (fun m1 => cI d 181 [.long (p0).toInt64, .long (0 : Int64), .long (((m1.1 261 32) - (1 : Int32))).toInt64] w m1 (fun v2 m2 => (v2 = 0 ∨ v2 = 1) ∧ (Q v2 m2)))) : cI (d + 1) 256 [.ref 261, .int p0] w m Q := by
  refine cI_in rfl ?_
  refine mm_yrun (is := mm_k256) [] 400 rfl ?_
  refine And.intro (rfl) ?_
  refine cV_use (w := w) (m := m) rfl H ?_
  intro m1 H
  refine And.intro (rfl) ?_
  refine And.intro (trivial) ?_
  refine cI_use (w := w) (m := m1) rfl H ?_
  intro v2 m2 H
  refine And.intro H.1 ?_
  replace H := H.2
  exact rI_mk (w := w) (m := m2) H

theorem S_M_isMeasure {p0 : Int32} {d : Nat} {w : Nat × Nat × Nat} {m : zM} {Q : Int32 → zM → Prop} (H : cI d 181 [.long (p0).toInt64, .long (0 : Int64), .long (6 : Int64)] w m (fun v1 m1 => (v1 = 0 ∨ v1 = 1) ∧ (Q v1 m1))) : cI (d + 1) 257 [.ref 261, .int p0] w m Q := by
  refine cI_in rfl ?_
  refine mm_yrun (is := mm_k257) [] 400 rfl ?_
  refine And.intro (trivial) ?_
  refine cI_use (w := w) (m := m) rfl H ?_
  intro v1 m1 H
  refine And.intro H.1 ?_
  replace H := H.2
  exact rI_mk (w := w) (m := m1) H

theorem S_M_measure {p0 : Int32} {p1 : Int32} {p2 : Int32} {d : Nat} {w : Nat × Nat × Nat} {m : zM} {Q : Int64 → zM → Prop} (H : cI d 256 [.ref 261, .int p0] w m (fun v1 m1 => ((v1 = 0 → Q ((-9223372036854775808) : Int64) m1) ∧ (¬ v1 = 0 → cI d 257 [.ref 261, .int p1] w m1 (fun v2 m2 => ((¬ v2 = 0 → cV d 250 [.ref 261, .int p0, .int p1] w m2 (fun m3 => ((p2 = 0 → Q (m3.2 261 47) m3) ∧ (¬ p2 = 0 → Q (m3.2 261 48) m3)))) ∧ (v2 = 0 → Q ((-9223372036854775808) : Int64) m2))))))) : cL (d + 1) 258 [.ref 261, .int p0, .int p1, .int p2] w m Q := by
  refine cL_in rfl ?_
  refine mm_yrun (is := mm_k258) [] 400 rfl ?_
  refine And.intro (rfl) ?_
  refine cI_use (w := w) (m := m) rfl H ?_
  intro v1 m1 H
  refine And.intro (fun q => ?_) (fun q => ?_)
  · replace H := H.1 q
    exact rL_mk (w := w) (m := m1) H
  · replace H := H.2 q
    refine And.intro (rfl) ?_
    refine cI_use (w := w) (m := m1) rfl H ?_
    intro v2 m2 H
    refine And.intro (fun q => ?_) (fun q => ?_)
    · replace H := H.1 q
      refine And.intro (rfl) ?_
      refine cV_use (w := w) (m := m2) rfl H ?_
      intro m3 H
      refine And.intro (fun q => ?_) (fun q => ?_)
      · replace H := H.1 q
        refine And.intro (rfl) ?_
        exact rL_mk (w := w) (m := m3) H
      · replace H := H.2 q
        refine And.intro (rfl) ?_
        exact rL_mk (w := w) (m := m3) H
    · replace H := H.2 (Classical.not_not.mp q)
      exact rL_mk (w := w) (m := m2) H

theorem S_M_share {p0 : Int32} {p1 : Int32} {d : Nat} {w : Nat × Nat × Nat} {m : zM} {Q : Int32 → zM → Prop} (H : cI d 256 [.ref 261, .int p0] w m (fun v1 m1 => ((v1 = 0 → Q ((-1) : Int32) m1) ∧ (¬ v1 = 0 → cI d 257 [.ref 261, .int p1] w m1 (fun v2 m2 => ((¬ v2 = 0 → cV d 250 [.ref 261, .int p0, .int p1] w m2 (fun m3 => vf_n32 (FP.fdiv (FP.l2f (m3.2 261 47)) (FP.l2f (m3.2 261 48))) ∧ (cI d 287 [.float (FP.fdiv (FP.l2f (m3.2 261 47)) (FP.l2f (m3.2 261 48)))] w m3 (fun v4 m4 => Q v4 m4)))) ∧ (v2 = 0 → Q ((-1) : Int32) m2))))))) : cI (d + 1) 259 [.ref 261, .int p0, .int p1] w m Q := by
  refine cI_in rfl ?_
  refine mm_yrun (is := mm_k259) [] 400 rfl ?_
  refine And.intro (rfl) ?_
  refine cI_use (w := w) (m := m) rfl H ?_
  intro v1 m1 H
  refine And.intro (fun q => ?_) (fun q => ?_)
  · replace H := H.1 q
    exact rI_mk (w := w) (m := m1) H
  · replace H := H.2 q
    refine And.intro (rfl) ?_
    refine cI_use (w := w) (m := m1) rfl H ?_
    intro v2 m2 H
    refine And.intro (fun q => ?_) (fun q => ?_)
    · replace H := H.1 q
      refine And.intro (rfl) ?_
      refine cV_use (w := w) (m := m2) rfl H ?_
      intro m3 H
      refine And.intro (rfl) ?_
      refine And.intro (rfl) ?_
      refine And.intro H.1 ?_
      replace H := H.2
      refine And.intro (trivial) ?_
      refine cI_use (w := w) (m := m3) rfl H ?_
      intro v4 m4 H
      exact rI_mk (w := w) (m := m4) H
    · replace H := H.2 (Classical.not_not.mp q)
      exact rI_mk (w := w) (m := m2) H

theorem S_M_rest {p0 : Int32} {p1 : Int32} {d : Nat} {w : Nat × Nat × Nat} {m : zM} {Q : Int64 → zM → Prop} (H : cI d 256 [.ref 261, .int p0] w m (fun v1 m1 => ((v1 = 0 → Q ((-1) : Int64) m1) ∧ (¬ v1 = 0 → cI d 257 [.ref 261, .int p1] w m1 (fun v2 m2 => ((¬ v2 = 0 → cV d 250 [.ref 261, .int p0, .int p1] w m2 (fun m3 => vf_n64 (FP.ddiv (FP.l2d (m3.2 261 47)) (FP.l2d (m3.2 261 48))) ∧ (vf_n64 (FP.drem (FP.ddiv (FP.l2d (m3.2 261 47)) (FP.l2d (m3.2 261 48))) (4609434218613702656 : UInt64)) ∧ (cL d 285 [.double (FP.drem (FP.ddiv (FP.l2d (m3.2 261 47)) (FP.l2d (m3.2 261 48))) (4609434218613702656 : UInt64))] w m3 (fun v4 m4 => Q v4 m4))))) ∧ (v2 = 0 → Q ((-1) : Int64) m2))))))) : cL (d + 1) 260 [.ref 261, .int p0, .int p1] w m Q := by
  refine cL_in rfl ?_
  refine mm_yrun (is := mm_k260) [] 400 rfl ?_
  refine And.intro (rfl) ?_
  refine cI_use (w := w) (m := m) rfl H ?_
  intro v1 m1 H
  refine And.intro (fun q => ?_) (fun q => ?_)
  · replace H := H.1 q
    exact rL_mk (w := w) (m := m1) H
  · replace H := H.2 q
    refine And.intro (rfl) ?_
    refine cI_use (w := w) (m := m1) rfl H ?_
    intro v2 m2 H
    refine And.intro (fun q => ?_) (fun q => ?_)
    · replace H := H.1 q
      refine And.intro (rfl) ?_
      refine cV_use (w := w) (m := m2) rfl H ?_
      intro m3 H
      refine And.intro (rfl) ?_
      refine And.intro (rfl) ?_
      refine And.intro H.1 ?_
      replace H := H.2
      refine And.intro H.1 ?_
      replace H := H.2
      refine And.intro (trivial) ?_
      refine cL_use (w := w) (m := m3) rfl H ?_
      intro v4 m4 H
      exact rL_mk (w := w) (m := m4) H
    · replace H := H.2 (Classical.not_not.mp q)
      exact rL_mk (w := w) (m := m2) H

theorem S_M_ranked {p0 : Int32} {p1 : Int32} {d : Nat} {w : Nat × Nat × Nat} {m : zM} {Q : Int32 → zM → Prop} (H : cV d 239 [.ref 261] w m (fun m1 => cI d 257 [.ref 261, .int p0] w m1 (fun v2 m2 => ((v2 = 0 → Q ((-1) : Int32) m2) ∧ (¬ v2 = 0 → cI d 181 [.long (p1).toInt64, .long (0 : Int64), .long (((m2.1 261 32) - (1 : Int32))).toInt64] w m2 (fun v3 m3 => ((¬ v3 = 0 → cV d 254 [.ref 261, .int p0] w m3 (fun m4 => vp_in p1 2000 ∧ (Q (m4.1 292 (p1).toNatClampNeg) m4))) ∧ (v3 = 0 → Q ((-1) : Int32) m3)))))))) : cI (d + 1) 261 [.ref 261, .int p0, .int p1] w m Q := by
  refine cI_in rfl ?_
  refine mm_yrun (is := mm_k261) [] 400 rfl ?_
  refine And.intro (rfl) ?_
  refine cV_use (w := w) (m := m) rfl H ?_
  intro m1 H
  refine And.intro (rfl) ?_
  refine cI_use (w := w) (m := m1) rfl H ?_
  intro v2 m2 H
  refine And.intro (fun q => ?_) (fun q => ?_)
  · replace H := H.1 q
    exact rI_mk (w := w) (m := m2) H
  · replace H := H.2 q
    refine And.intro (rfl) ?_
    refine And.intro (trivial) ?_
    refine cI_use (w := w) (m := m2) rfl H ?_
    intro v3 m3 H
    refine And.intro (fun q => ?_) (fun q => ?_)
    · replace H := H.1 q
      refine And.intro (rfl) ?_
      refine cV_use (w := w) (m := m3) rfl H ?_
      intro m4 H
      refine And.intro (And.intro (rfl) (by decide : ¬ 292 = 0)) ?_
      refine And.intro (And.intro (rfl) H.1) ?_
      replace H := H.2
      exact rI_mk (w := w) (m := m4) H
    · replace H := H.2 (Classical.not_not.mp q)
      exact rI_mk (w := w) (m := m3) H

def W_M_rank_15 (d : Nat) (l1 : Int32) (l3 : Int32) (w : Nat × Nat × Nat) (m : zM) (Q : Int32 → zM → Prop) : Prop := ∀ o2 : Option Value, mm_W (d + 1) 262 15 [some (.ref 261), some (.int l1), o2, some (.int l3)] [] (zE w m) (rI w Q)
theorem S_M_rank {p0 : Int32} {p1 : Int32} {d : Nat} {w : Nat × Nat × Nat} {m : zM} {Q : Int32 → zM → Prop} (H : cI d 256 [.ref 261, .int p0] w m (fun v1 m1 => ((v1 = 0 → Q ((-1) : Int32) m1) ∧ (¬ v1 = 0 → cI d 257 [.ref 261, .int p1] w m1 (fun v2 m2 => ((¬ v2 = 0 → cV d 254 [.ref 261, .int p1] w m2 (fun m3 => W_M_rank_15 d p0 (0 : Int32) w m3 Q)) ∧ (v2 = 0 → Q ((-1) : Int32) m2))))))) : cI (d + 1) 262 [.ref 261, .int p0, .int p1] w m Q := by
  refine cI_in rfl ?_
  refine mm_yrun (is := mm_k262) [15] 400 rfl ?_
  refine And.intro (rfl) ?_
  refine cI_use (w := w) (m := m) rfl H ?_
  intro v1 m1 H
  refine And.intro (fun q => ?_) (fun q => ?_)
  · replace H := H.1 q
    exact rI_mk (w := w) (m := m1) H
  · replace H := H.2 q
    refine And.intro (rfl) ?_
    refine cI_use (w := w) (m := m1) rfl H ?_
    intro v2 m2 H
    refine And.intro (fun q => ?_) (fun q => ?_)
    · replace H := H.1 q
      refine And.intro (rfl) ?_
      refine cV_use (w := w) (m := m2) rfl H ?_
      intro m3 H
      exact H _
    · replace H := H.2 (Classical.not_not.mp q)
      exact rI_mk (w := w) (m := m2) H
theorem S_M_rank_15 {l1 : Int32} {l3 : Int32} {d : Nat} {w : Nat × Nat × Nat} {m : zM} {Q : Int32 → zM → Prop} (H : vp_in l3 2000 ∧ ((((m.1 292 (l3).toNatClampNeg) = l1 → Q l3 m) ∧ (¬ (m.1 292 (l3).toNatClampNeg) = l1 → W_M_rank_15 d l1 (l3 + (1 : Int32)) w m Q)))) : W_M_rank_15 d l1 l3 w m Q := by
  intro o2
  refine mm_yrun (is := mm_k262) [15] 400 rfl ?_
  refine And.intro (And.intro (rfl) (by decide : ¬ 292 = 0)) ?_
  refine And.intro (And.intro (rfl) H.1) ?_
  replace H := H.2
  refine And.intro (fun q => ?_) (fun q => ?_)
  · replace H := H.1 q
    exact rI_mk (w := w) (m := m) H
  · replace H := H.2 q
    exact H _

theorem S_M_says {p0 : Int32} {d : Nat} {w : Nat × Nat × Nat} {m : zM} {Q : zM → Prop} (H : vp_in (m.1 261 54) 64 ∧ (Q (zI (zI m 294 ((m.1 261 54)).toNatClampNeg p0) 261 54 ((m.1 261 54) + (1 : Int32))))) : cV d 263 [.ref 261, .int p0] w m Q := by
  refine cV_in rfl ?_
  refine mm_yrun (is := mm_k263) [] 400 rfl ?_
  refine And.intro (And.intro (rfl) (by decide : ¬ 294 = 0)) ?_
  refine And.intro (rfl) ?_
  refine And.intro (And.intro (rfl) H.1) ?_
  replace H := H.2
  refine And.intro (rfl) ?_
  refine And.intro (rfl) ?_
  exact rV_mk (w := w) (m := (zI (zI m 294 ((m.1 261 54)).toNatClampNeg p0) 261 54 ((m.1 261 54) + (1 : Int32)))) H

def W_M_saysWord_2 (d : Nat) (l3 : Int64) (w : Nat × Nat × Nat) (m : zM) (Q : zM → Prop) : Prop := ∀ o1 o2 : Option Value, mm_W (d + 1) 264 2 [some (.ref 261), o1, o2, some (.long l3), none] [] (zE w m) (rV w Q)
theorem S_M_saysWord {p0 : Int64} {d : Nat} {w : Nat × Nat × Nat} {m : zM} {Q : zM → Prop} (H : W_M_saysWord_2 d p0 w m Q) : cV (d + 1) 264 [.ref 261, .long p0] w m Q := by
  refine cV_in rfl ?_
  refine mm_yrun (is := mm_k264) [2] 400 rfl ?_
  exact H _ _
theorem S_M_saysWord_2 {l3 : Int64} {d : Nat} {w : Nat × Nat × Nat} {m : zM} {Q : zM → Prop} (H : ((l3 = (0 : Int64) → Q m) ∧ (¬ l3 = (0 : Int64) → cL d 187 [.int (9 : Int32)] w m (fun v1 m1 => (¬ v1 = 0) ∧ (cV d 263 [.ref 261, .int (((l3 / v1)).toInt32 + (96 : Int32))] w m1 (fun m2 => (¬ (205891132094649 : Int64) = 0) ∧ (W_M_saysWord_2 d ((l3 * (27 : Int64)) - (l3 * (27 : Int64)) / (205891132094649 : Int64) * (205891132094649 : Int64)) w m2 Q))))))) : W_M_saysWord_2 d l3 w m Q := by
  intro o1 o2
  refine mm_yrun (is := mm_k264) [2] 400 rfl ?_
  refine And.intro (fun q => ?_) (fun q => ?_)
  · replace H := H.1 q
    exact rV_mk (w := w) (m := m) H
  · replace H := H.2 q
    refine And.intro (trivial) ?_
    refine cL_use (w := w) (m := m) rfl H ?_
    intro v1 m1 H
    refine And.intro H.1 ?_
    replace H := H.2
    refine And.intro (rfl) ?_
    refine cV_use (w := w) (m := m1) rfl H ?_
    intro m2 H
    refine And.intro H.1 ?_
    replace H := H.2
    exact H _ _

theorem S_M_slate {p0 : Int32} {d : Nat} {w : Nat × Nat × Nat} {m : zM} {Q : Int32 → zM → Prop} (H : ((¬ p0 = ((-1) : Int32) → cI d 181 [.long (p0).toInt64, .long (0 : Int64), .long (((m.1 261 54) - (1 : Int32))).toInt64] w m (fun v1 m1 => ((v1 = 0 → Q ((-2) : Int32) m1) ∧ (¬ v1 = 0 → vp_in p0 64 ∧ (Q (m1.1 294 (p0).toNatClampNeg) m1))))) ∧ (p0 = ((-1) : Int32) → Q (m.1 261 54) m))) : cI (d + 1) 265 [.ref 261, .int p0] w m Q := by
  refine cI_in rfl ?_
  refine mm_yrun (is := mm_k265) [] 400 rfl ?_
  refine And.intro (fun q => ?_) (fun q => ?_)
  · replace H := H.1 q
    refine And.intro (rfl) ?_
    refine And.intro (trivial) ?_
    refine cI_use (w := w) (m := m) rfl H ?_
    intro v1 m1 H
    refine And.intro (fun q => ?_) (fun q => ?_)
    · replace H := H.1 q
      exact rI_mk (w := w) (m := m1) H
    · replace H := H.2 q
      refine And.intro (And.intro (rfl) (by decide : ¬ 294 = 0)) ?_
      refine And.intro (And.intro (rfl) H.1) ?_
      replace H := H.2
      exact rI_mk (w := w) (m := m1) H
  · replace H := H.2 (Classical.not_not.mp q)
    refine And.intro (rfl) ?_
    exact rI_mk (w := w) (m := m) H

theorem S_M_isWord {p0 : Int32} {p1 : Int32} {d : Nat} {w : Nat × Nat × Nat} {m : zM} {Q : Int32 → zM → Prop} (H : cI d 225 [.ref 261, .int p0] w m (fun v1 m1 => ((v1 = 0 → Q (0 : Int32) m1) ∧ (¬ v1 = 0 → vp_in (((260 : Int32) + p0) + (1 : Int32)) 1906 ∧ (vp_in ((260 : Int32) + p0) 1906 ∧ (cI d 181 [.long (p1).toInt64, .long (0 : Int64), .long (((m1.2 262 ((((260 : Int32) + p0) + (1 : Int32))).toNatClampNeg) - (m1.2 262 (((260 : Int32) + p0)).toNatClampNeg)) - (1 : Int64))] w m1 (fun v2 m2 => ((v2 = 0 → Q (0 : Int32) m2) ∧ (¬ v2 = 0 → Q (1 : Int32) m2))))))))) : cI (d + 1) 266 [.ref 261, .int p0, .int p1] w m Q := by
  refine cI_in rfl ?_
  refine mm_yrun (is := mm_k266) [] 400 rfl ?_
  refine And.intro (rfl) ?_
  refine cI_use (w := w) (m := m) rfl H ?_
  intro v1 m1 H
  refine And.intro (fun q => ?_) (fun q => ?_)
  · replace H := H.1 q
    refine And.intro (Or.inl rfl) ?_
    exact rI_mk (w := w) (m := m1) H
  · replace H := H.2 q
    refine And.intro (And.intro (rfl) (by decide : ¬ 262 = 0)) ?_
    refine And.intro (And.intro (rfl) H.1) ?_
    replace H := H.2
    refine And.intro (And.intro (rfl) (by decide : ¬ 262 = 0)) ?_
    refine And.intro (And.intro (rfl) H.1) ?_
    replace H := H.2
    refine And.intro (trivial) ?_
    refine cI_use (w := w) (m := m1) rfl H ?_
    intro v2 m2 H
    refine And.intro (fun q => ?_) (fun q => ?_)
    · replace H := H.1 q
      refine And.intro (Or.inl rfl) ?_
      exact rI_mk (w := w) (m := m2) H
    · replace H := H.2 q
      refine And.intro (Or.inr rfl) ?_
      exact rI_mk (w := w) (m := m2) H

theorem S_M_word {p0 : Int32} {p1 : Int32} {p2 : Int32} {d : Nat} {w : Nat × Nat × Nat} {m : zM} {Q : Int32 → zM → Prop} (H : cI d 266 [.ref 261, .int p0, .int p1] w m (fun v1 m1 => ((¬ v1 = 0 → cV d 239 [.ref 261] w m1 (fun m2 => vp_in ((260 : Int32) + p0) 1906 ∧ (((p2 = 0 → vp_in ((269 : Int32) + (((m2.2 262 (((260 : Int32) + p0)).toNatClampNeg)).toInt32 + p1)) 1906 ∧ (cV d 264 [.ref 261, .long (m2.2 262 (((269 : Int32) + (((m2.2 262 (((260 : Int32) + p0)).toNatClampNeg)).toInt32 + p1))).toNatClampNeg)] w (zI m2 261 54 (0 : Int32)) (fun m3 => Q (m3.1 261 54) m3))) ∧ (¬ p2 = 0 → vp_in (((m2.2 262 (((260 : Int32) + p0)).toNatClampNeg)).toInt32 + p1) 400 ∧ (cV d 264 [.ref 261, .long (m2.2 268 ((((m2.2 262 (((260 : Int32) + p0)).toNatClampNeg)).toInt32 + p1)).toNatClampNeg)] w (zI m2 261 54 (0 : Int32)) (fun m4 => Q (m4.1 261 54) m4))))))) ∧ (v1 = 0 → Q ((-1) : Int32) m1)))) : cI (d + 1) 267 [.ref 261, .int p0, .int p1, .int p2] w m Q := by
  refine cI_in rfl ?_
  refine mm_yrun (is := mm_k267) [] 400 rfl ?_
  refine And.intro (rfl) ?_
  refine cI_use (w := w) (m := m) rfl H ?_
  intro v1 m1 H
  refine And.intro (fun q => ?_) (fun q => ?_)
  · replace H := H.1 q
    refine And.intro (rfl) ?_
    refine cV_use (w := w) (m := m1) rfl H ?_
    intro m2 H
    refine And.intro (And.intro (rfl) (by decide : ¬ 262 = 0)) ?_
    refine And.intro (And.intro (rfl) H.1) ?_
    replace H := H.2
    refine And.intro (rfl) ?_
    refine And.intro (fun q => ?_) (fun q => ?_)
    · replace H := H.1 q
      refine And.intro (And.intro (rfl) (by decide : ¬ 262 = 0)) ?_
      refine And.intro (And.intro (rfl) H.1) ?_
      replace H := H.2
      refine And.intro (rfl) ?_
      refine cV_use (w := w) (m := (zI m2 261 54 (0 : Int32))) rfl H ?_
      intro m3 H
      refine And.intro (rfl) ?_
      exact rI_mk (w := w) (m := m3) H
    · replace H := H.2 q
      refine And.intro (And.intro (rfl) (by decide : ¬ 268 = 0)) ?_
      refine And.intro (And.intro (rfl) H.1) ?_
      replace H := H.2
      refine And.intro (rfl) ?_
      refine cV_use (w := w) (m := (zI m2 261 54 (0 : Int32))) rfl H ?_
      intro m4 H
      refine And.intro (rfl) ?_
      exact rI_mk (w := w) (m := m4) H
  · replace H := H.2 (Classical.not_not.mp q)
    exact rI_mk (w := w) (m := m1) H

theorem S_M_kindAt {p0 : Int32} {p1 : Int32} {d : Nat} {w : Nat × Nat × Nat} {m : zM} {Q : Int32 → zM → Prop} (H : cI d 266 [.ref 261, .int p0, .int p1] w m (fun v1 m1 => ((¬ v1 = 0 → cV d 239 [.ref 261] w m1 (fun m2 => vp_in ((260 : Int32) + p0) 1906 ∧ (vp_in (((m2.2 262 (((260 : Int32) + p0)).toNatClampNeg)).toInt32 + p1) 400 ∧ (cI d 196 [.int (m2.1 269 ((((m2.2 262 (((260 : Int32) + p0)).toNatClampNeg)).toInt32 + p1)).toNatClampNeg)] w m2 (fun v3 m3 => Q v3 m3))))) ∧ (v1 = 0 → Q ((-1) : Int32) m1)))) : cI (d + 1) 268 [.ref 261, .int p0, .int p1] w m Q := by
  refine cI_in rfl ?_
  refine mm_yrun (is := mm_k268) [] 400 rfl ?_
  refine And.intro (rfl) ?_
  refine cI_use (w := w) (m := m) rfl H ?_
  intro v1 m1 H
  refine And.intro (fun q => ?_) (fun q => ?_)
  · replace H := H.1 q
    refine And.intro (rfl) ?_
    refine cV_use (w := w) (m := m1) rfl H ?_
    intro m2 H
    refine And.intro (And.intro (rfl) (by decide : ¬ 269 = 0)) ?_
    refine And.intro (And.intro (rfl) (by decide : ¬ 262 = 0)) ?_
    refine And.intro (And.intro (rfl) H.1) ?_
    replace H := H.2
    refine And.intro (And.intro (rfl) H.1) ?_
    replace H := H.2
    refine And.intro (trivial) ?_
    refine cI_use (w := w) (m := m2) rfl H ?_
    intro v3 m3 H
    exact rI_mk (w := w) (m := m3) H
  · replace H := H.2 (Classical.not_not.mp q)
    exact rI_mk (w := w) (m := m1) H

def W_M_of_45 (d : Nat) (l3 : Int32) (l4 : Int32) (l5 : Int32) (l6 : Int32) (w : Nat × Nat × Nat) (m : zM) (Q : Int32 → zM → Prop) : Prop := ∀ o1 o2 : Option Value, mm_W (d + 1) 269 45 [some (.ref 261), o1, o2, some (.int l3), some (.int l4), some (.int l5), some (.int l6)] [] (zE w m) (rI w Q)
def W_M_of_79 (d : Nat) (l1 : Int32) (l2 : Int32) (l5 : Int32) (l6 : Int32) (w : Nat × Nat × Nat) (m : zM) (Q : Int32 → zM → Prop) : Prop := ∀ o3 o4 : Option Value, mm_W (d + 1) 269 79 [some (.ref 261), some (.int l1), some (.int l2), o3, o4, some (.int l5), some (.int l6)] [] (zE w m) (rI w Q)
def W_M_of_106 (d : Nat) (l1 : Int32) (l2 : Int32) (l5 : Int32) (l6 : Int32) (w : Nat × Nat × Nat) (m : zM) (Q : Int32 → zM → Prop) : Prop := ∀ o3 o4 : Option Value, mm_W (d + 1) 269 106 [some (.ref 261), some (.int l1), some (.int l2), o3, o4, some (.int l5), some (.int l6)] [] (zE w m) (rI w Q)
theorem S_M_of {p0 : Int32} {p1 : Int32} {d : Nat} {w : Nat × Nat × Nat} {m : zM} {Q : Int32 → zM → Prop} (H : cI d 225 [.ref 261, .int p0] w m (fun v1 m1 => ((v1 = 0 → Q ((-1) : Int32) m1) ∧ (¬ v1 = 0 → cI d 181 [.long (p1).toInt64, .long (0 : Int64), .long (3 : Int64)] w m1 (fun v2 m2 => ((¬ v2 = 0 → cV d 239 [.ref 261] w m2 (fun m3 => vp_in ((260 : Int32) + p0) 1906 ∧ (vp_in (((260 : Int32) + p0) + (1 : Int32)) 1906 ∧ (((¬ p1 = 0 → ((¬ p1 = (1 : Int32) → W_M_of_79 d p0 p1 (0 : Int32) (0 : Int32) w m3 Q) ∧ (p1 = (1 : Int32) → W_M_of_45 d ((m3.2 262 (((260 : Int32) + p0)).toNatClampNeg)).toInt32 ((m3.2 262 ((((260 : Int32) + p0) + (1 : Int32))).toNatClampNeg)).toInt32 (0 : Int32) ((m3.2 262 (((260 : Int32) + p0)).toNatClampNeg)).toInt32 w m3 Q))) ∧ (p1 = 0 → Q (((m3.2 262 ((((260 : Int32) + p0) + (1 : Int32))).toNatClampNeg)).toInt32 - ((m3.2 262 (((260 : Int32) + p0)).toNatClampNeg)).toInt32) m3)))))) ∧ (v2 = 0 → Q ((-1) : Int32) m2))))))) : cI (d + 1) 269 [.ref 261, .int p0, .int p1] w m Q := by
  refine cI_in rfl ?_
  refine mm_yrun (is := mm_k269) [45, 79, 106] 400 rfl ?_
  refine And.intro (rfl) ?_
  refine cI_use (w := w) (m := m) rfl H ?_
  intro v1 m1 H
  refine And.intro (fun q => ?_) (fun q => ?_)
  · replace H := H.1 q
    exact rI_mk (w := w) (m := m1) H
  · replace H := H.2 q
    refine And.intro (trivial) ?_
    refine cI_use (w := w) (m := m1) rfl H ?_
    intro v2 m2 H
    refine And.intro (fun q => ?_) (fun q => ?_)
    · replace H := H.1 q
      refine And.intro (rfl) ?_
      refine cV_use (w := w) (m := m2) rfl H ?_
      intro m3 H
      refine And.intro (And.intro (rfl) (by decide : ¬ 262 = 0)) ?_
      refine And.intro (And.intro (rfl) H.1) ?_
      replace H := H.2
      refine And.intro (And.intro (rfl) (by decide : ¬ 262 = 0)) ?_
      refine And.intro (And.intro (rfl) H.1) ?_
      replace H := H.2
      refine And.intro (fun q => ?_) (fun q => ?_)
      · replace H := H.1 q
        refine And.intro (fun q => ?_) (fun q => ?_)
        · replace H := H.1 q
          exact H _ _
        · replace H := H.2 (Classical.not_not.mp q)
          exact H _ _
      · replace H := H.2 (Classical.not_not.mp q)
        exact rI_mk (w := w) (m := m3) H
    · replace H := H.2 (Classical.not_not.mp q)
      exact rI_mk (w := w) (m := m2) H
theorem S_M_of_45 {l3 : Int32} {l4 : Int32} {l5 : Int32} {l6 : Int32} {d : Nat} {w : Nat × Nat × Nat} {m : zM} {Q : Int32 → zM → Prop} (H : ((l4 ≤ l6 → Q l5 m) ∧ (¬ l4 ≤ l6 → ((l6 = l3 → cI d 182 [.int (1 : Int32)] w m (fun v1 m1 => W_M_of_45 d l3 l4 (l5 + v1) (l6 + (1 : Int32)) w m1 Q)) ∧ (¬ l6 = l3 → vp_in ((669 : Int32) + l6) 1906 ∧ (vp_in (((669 : Int32) + l6) - (1 : Int32)) 1906 ∧ ((((m.2 262 (((669 : Int32) + l6)).toNatClampNeg) = (m.2 262 ((((669 : Int32) + l6) - (1 : Int32))).toNatClampNeg) → cI d 182 [.int (0 : Int32)] w m (fun v2 m2 => W_M_of_45 d l3 l4 (l5 + v2) (l6 + (1 : Int32)) w m2 Q)) ∧ (¬ (m.2 262 (((669 : Int32) + l6)).toNatClampNeg) = (m.2 262 ((((669 : Int32) + l6) - (1 : Int32))).toNatClampNeg) → cI d 182 [.int (1 : Int32)] w m (fun v3 m3 => W_M_of_45 d l3 l4 (l5 + v3) (l6 + (1 : Int32)) w m3 Q)))))))))) : W_M_of_45 d l3 l4 l5 l6 w m Q := by
  intro o1 o2
  refine mm_yrun (is := mm_k269) [45, 79, 106] 400 rfl ?_
  refine And.intro (fun q => ?_) (fun q => ?_)
  · replace H := H.1 q
    exact rI_mk (w := w) (m := m) H
  · replace H := H.2 q
    refine And.intro (fun q => ?_) (fun q => ?_)
    · replace H := H.1 q
      refine And.intro (trivial) ?_
      refine cI_use (w := w) (m := m) rfl H ?_
      intro v1 m1 H
      exact H _ _
    · replace H := H.2 q
      refine And.intro (And.intro (rfl) (by decide : ¬ 262 = 0)) ?_
      refine And.intro (And.intro (rfl) H.1) ?_
      replace H := H.2
      refine And.intro (And.intro (rfl) (by decide : ¬ 262 = 0)) ?_
      refine And.intro (And.intro (rfl) H.1) ?_
      replace H := H.2
      refine And.intro (fun q => ?_) (fun q => ?_)
      · replace H := H.1 q
        refine And.intro (trivial) ?_
        refine cI_use (w := w) (m := m) rfl H ?_
        intro v2 m2 H
        exact H _ _
      · replace H := H.2 q
        refine And.intro (trivial) ?_
        refine cI_use (w := w) (m := m) rfl H ?_
        intro v3 m3 H
        exact H _ _
theorem S_M_of_79 {l1 : Int32} {l2 : Int32} {l5 : Int32} {l6 : Int32} {d : Nat} {w : Nat × Nat × Nat} {m : zM} {Q : Int32 → zM → Prop} (H : (((m.1 261 26) ≤ l6 → W_M_of_106 d l1 l2 l5 (0 : Int32) w m Q) ∧ (¬ (m.1 261 26) ≤ l6 → ((¬ l2 = (2 : Int32) → W_M_of_106 d l1 l2 l5 (0 : Int32) w m Q) ∧ (l2 = (2 : Int32) → vp_in l6 2000 ∧ (vp_in (m.1 272 (l6).toNatClampNeg) 400 ∧ (((¬ (m.1 270 ((m.1 272 (l6).toNatClampNeg)).toNatClampNeg) = l1 → cI d 182 [.int (0 : Int32)] w m (fun v1 m1 => W_M_of_79 d l1 l2 (l5 + v1) (l6 + (1 : Int32)) w m1 Q)) ∧ ((m.1 270 ((m.1 272 (l6).toNatClampNeg)).toNatClampNeg) = l1 → cI d 182 [.int (1 : Int32)] w m (fun v2 m2 => W_M_of_79 d l1 l2 (l5 + v2) (l6 + (1 : Int32)) w m2 Q)))))))))) : W_M_of_79 d l1 l2 l5 l6 w m Q := by
  intro o3 o4
  refine mm_yrun (is := mm_k269) [45, 79, 106] 400 rfl ?_
  refine And.intro (rfl) ?_
  refine And.intro (fun q => ?_) (fun q => ?_)
  · replace H := H.1 q
    exact H _ _
  · replace H := H.2 q
    refine And.intro (fun q => ?_) (fun q => ?_)
    · replace H := H.1 q
      exact H _ _
    · replace H := H.2 (Classical.not_not.mp q)
      refine And.intro (And.intro (rfl) (by decide : ¬ 270 = 0)) ?_
      refine And.intro (And.intro (rfl) (by decide : ¬ 272 = 0)) ?_
      refine And.intro (And.intro (rfl) H.1) ?_
      replace H := H.2
      refine And.intro (And.intro (rfl) H.1) ?_
      replace H := H.2
      refine And.intro (fun q => ?_) (fun q => ?_)
      · replace H := H.1 q
        refine And.intro (trivial) ?_
        refine cI_use (w := w) (m := m) rfl H ?_
        intro v1 m1 H
        exact H _ _
      · replace H := H.2 (Classical.not_not.mp q)
        refine And.intro (trivial) ?_
        refine cI_use (w := w) (m := m) rfl H ?_
        intro v2 m2 H
        exact H _ _
theorem S_M_of_106 {l1 : Int32} {l2 : Int32} {l5 : Int32} {l6 : Int32} {d : Nat} {w : Nat × Nat × Nat} {m : zM} {Q : Int32 → zM → Prop} (H : (((m.1 261 32) ≤ l6 → Q l5 m) ∧ (¬ (m.1 261 32) ≤ l6 → ((¬ l2 = (3 : Int32) → Q l5 m) ∧ (l2 = (3 : Int32) → vp_in l6 2000 ∧ (W_M_of_106 d l1 l2 (l5 + (((m.1 282 (l6).toNatClampNeg) >>> (l1 &&& 31)) &&& (1 : Int32))) (l6 + (1 : Int32)) w m Q)))))) : W_M_of_106 d l1 l2 l5 l6 w m Q := by
  intro o3 o4
  refine mm_yrun (is := mm_k269) [45, 79, 106] 400 rfl ?_
  refine And.intro (rfl) ?_
  refine And.intro (fun q => ?_) (fun q => ?_)
  · replace H := H.1 q
    exact rI_mk (w := w) (m := m) H
  · replace H := H.2 q
    refine And.intro (fun q => ?_) (fun q => ?_)
    · replace H := H.1 q
      exact rI_mk (w := w) (m := m) H
    · replace H := H.2 (Classical.not_not.mp q)
      refine And.intro (And.intro (rfl) (by decide : ¬ 282 = 0)) ?_
      refine And.intro (And.intro (rfl) H.1) ?_
      replace H := H.2
      exact H _ _

theorem S_M_match {p0 : Int32} {p1 : Int32} {d : Nat} {w : Nat × Nat × Nat} {m : zM} {Q : Int32 → zM → Prop} (H : cV d 239 [.ref 261] w m (fun m1 => ((¬ p0 = ((-1) : Int32) → cI d 181 [.long (p0).toInt64, .long (0 : Int64), .long (((m1.1 261 26) - (1 : Int32))).toInt64] w m1 (fun v2 m2 => ((¬ v2 = 0 → ((p1 = (0 : Int32) → vp_in p0 2000 ∧ (vp_in (m2.1 272 (p0).toNatClampNeg) 400 ∧ (Q (m2.1 270 ((m2.1 272 (p0).toNatClampNeg)).toNatClampNeg) m2))) ∧ (¬ p1 = (0 : Int32) → ((p1 = (1 : Int32) → vp_in p0 2000 ∧ (vp_in p0 2000 ∧ (vp_in (m2.1 272 (p0).toNatClampNeg) 400 ∧ (vp_in ((260 : Int32) + (m2.1 270 ((m2.1 272 (p0).toNatClampNeg)).toNatClampNeg)) 1906 ∧ (Q ((m2.1 272 (p0).toNatClampNeg) - ((m2.2 262 (((260 : Int32) + (m2.1 270 ((m2.1 272 (p0).toNatClampNeg)).toNatClampNeg))).toNatClampNeg)).toInt32) m2))))) ∧ (¬ p1 = (1 : Int32) → ((p1 = (2 : Int32) → vp_in p0 2000 ∧ (Q (m2.1 273 (p0).toNatClampNeg) m2)) ∧ (¬ p1 = (2 : Int32) → ((p1 = (3 : Int32) → vp_in p0 2000 ∧ (Q (m2.1 274 (p0).toNatClampNeg) m2)) ∧ (¬ p1 = (3 : Int32) → ((p1 = (4 : Int32) → vp_in p0 2000 ∧ (cI d 182 [.int (m2.1 275 (p0).toNatClampNeg)] w m2 (fun v3 m3 => Q v3 m3))) ∧ (¬ p1 = (4 : Int32) → Q ((-1) : Int32) m2))))))))))) ∧ (v2 = 0 → Q ((-1) : Int32) m2)))) ∧ (p0 = ((-1) : Int32) → Q (m1.1 261 26) m1)))) : cI (d + 1) 270 [.ref 261, .int p0, .int p1] w m Q := by
  refine cI_in rfl ?_
  refine mm_yrun (is := mm_k270) [] 400 rfl ?_
  refine And.intro (rfl) ?_
  refine cV_use (w := w) (m := m) rfl H ?_
  intro m1 H
  refine And.intro (fun q => ?_) (fun q => ?_)
  · replace H := H.1 q
    refine And.intro (rfl) ?_
    refine And.intro (trivial) ?_
    refine cI_use (w := w) (m := m1) rfl H ?_
    intro v2 m2 H
    refine And.intro (fun q => ?_) (fun q => ?_)
    · replace H := H.1 q
      refine And.intro (fun q => ?_) (fun q => ?_)
      · replace H := H.1 q
        refine And.intro (And.intro (rfl) (by decide : ¬ 270 = 0)) ?_
        refine And.intro (And.intro (rfl) (by decide : ¬ 272 = 0)) ?_
        refine And.intro (And.intro (rfl) H.1) ?_
        replace H := H.2
        refine And.intro (And.intro (rfl) H.1) ?_
        replace H := H.2
        exact rI_mk (w := w) (m := m2) H
      · replace H := H.2 q
        refine And.intro (fun q => ?_) (fun q => ?_)
        · replace H := H.1 q
          refine And.intro (And.intro (rfl) (by decide : ¬ 272 = 0)) ?_
          refine And.intro (And.intro (rfl) H.1) ?_
          replace H := H.2
          refine And.intro (And.intro (rfl) (by decide : ¬ 262 = 0)) ?_
          refine And.intro (And.intro (rfl) (by decide : ¬ 270 = 0)) ?_
          refine And.intro (And.intro (rfl) (by decide : ¬ 272 = 0)) ?_
          refine And.intro (And.intro (rfl) H.1) ?_
          replace H := H.2
          refine And.intro (And.intro (rfl) H.1) ?_
          replace H := H.2
          refine And.intro (And.intro (rfl) H.1) ?_
          replace H := H.2
          exact rI_mk (w := w) (m := m2) H
        · replace H := H.2 q
          refine And.intro (fun q => ?_) (fun q => ?_)
          · replace H := H.1 q
            refine And.intro (And.intro (rfl) (by decide : ¬ 273 = 0)) ?_
            refine And.intro (And.intro (rfl) H.1) ?_
            replace H := H.2
            exact rI_mk (w := w) (m := m2) H
          · replace H := H.2 q
            refine And.intro (fun q => ?_) (fun q => ?_)
            · replace H := H.1 q
              refine And.intro (And.intro (rfl) (by decide : ¬ 274 = 0)) ?_
              refine And.intro (And.intro (rfl) H.1) ?_
              replace H := H.2
              exact rI_mk (w := w) (m := m2) H
            · replace H := H.2 q
              refine And.intro (fun q => ?_) (fun q => ?_)
              · replace H := H.1 q
                refine And.intro (And.intro (rfl) (by decide : ¬ 275 = 0)) ?_
                refine And.intro (And.intro (rfl) H.1) ?_
                replace H := H.2
                refine And.intro (trivial) ?_
                refine cI_use (w := w) (m := m2) rfl H ?_
                intro v3 m3 H
                exact rI_mk (w := w) (m := m3) H
              · replace H := H.2 q
                exact rI_mk (w := w) (m := m2) H
    · replace H := H.2 (Classical.not_not.mp q)
      exact rI_mk (w := w) (m := m2) H
  · replace H := H.2 (Classical.not_not.mp q)
    refine And.intro (rfl) ?_
    exact rI_mk (w := w) (m := m1) H

def W_M_isForm_2 (d : Nat) (l1 : Int32) (l2 : Int32) (l3 : Int32) (w : Nat × Nat × Nat) (m : zM) (Q : Int32 → zM → Prop) : Prop := mm_W d 271 2 [some (.ref 261), some (.int l1), some (.int l2), some (.int l3)] [] (zE w m) (rI w Q)
theorem S_M_isForm {p0 : Int32} {p1 : Int32} {d : Nat} {w : Nat × Nat × Nat} {m : zM} {Q : Int32 → zM → Prop} (H : W_M_isForm_2 d p0 p1 (0 : Int32) w m Q) : cI d 271 [.ref 261, .int p0, .int p1] w m Q := by
  refine cI_in rfl ?_
  refine mm_yrun (is := mm_k271) [2] 400 rfl ?_
  exact H
theorem S_M_isForm_2 {l1 : Int32} {l2 : Int32} {l3 : Int32} {d : Nat} {w : Nat × Nat × Nat} {m : zM} {Q : Int32 → zM → Prop} (H : vp_in l1 2000 ∧ ((((m.1 273 (l1).toNatClampNeg) ≤ l3 → Q (1 : Int32) m) ∧ (¬ (m.1 273 (l1).toNatClampNeg) ≤ l3 → vp_in l1 2000 ∧ (vp_in (((269 : Int32) + (m.1 272 (l1).toNatClampNeg)) + l3) 1906 ∧ (vp_in l2 2000 ∧ (vp_in (((269 : Int32) + (m.1 272 (l2).toNatClampNeg)) + l3) 1906 ∧ ((((m.2 262 ((((269 : Int32) + (m.1 272 (l1).toNatClampNeg)) + l3)).toNatClampNeg) = (m.2 262 ((((269 : Int32) + (m.1 272 (l2).toNatClampNeg)) + l3)).toNatClampNeg) → W_M_isForm_2 d l1 l2 (l3 + (1 : Int32)) w m Q) ∧ (¬ (m.2 262 ((((269 : Int32) + (m.1 272 (l1).toNatClampNeg)) + l3)).toNatClampNeg) = (m.2 262 ((((269 : Int32) + (m.1 272 (l2).toNatClampNeg)) + l3)).toNatClampNeg) → Q (0 : Int32) m)))))))))) : W_M_isForm_2 d l1 l2 l3 w m Q := by
  refine mm_yrun (is := mm_k271) [2] 400 rfl ?_
  refine And.intro (And.intro (rfl) (by decide : ¬ 273 = 0)) ?_
  refine And.intro (And.intro (rfl) H.1) ?_
  replace H := H.2
  refine And.intro (fun q => ?_) (fun q => ?_)
  · replace H := H.1 q
    refine And.intro (Or.inr rfl) ?_
    exact rI_mk (w := w) (m := m) H
  · replace H := H.2 q
    refine And.intro (And.intro (rfl) (by decide : ¬ 262 = 0)) ?_
    refine And.intro (And.intro (rfl) (by decide : ¬ 272 = 0)) ?_
    refine And.intro (And.intro (rfl) H.1) ?_
    replace H := H.2
    refine And.intro (And.intro (rfl) H.1) ?_
    replace H := H.2
    refine And.intro (And.intro (rfl) (by decide : ¬ 262 = 0)) ?_
    refine And.intro (And.intro (rfl) (by decide : ¬ 272 = 0)) ?_
    refine And.intro (And.intro (rfl) H.1) ?_
    replace H := H.2
    refine And.intro (And.intro (rfl) H.1) ?_
    replace H := H.2
    refine And.intro (fun q => ?_) (fun q => ?_)
    · replace H := H.1 q
      exact H
    · replace H := H.2 q
      refine And.intro (Or.inl rfl) ?_
      exact rI_mk (w := w) (m := m) H

def W_M_isFormAhead_2 (d : Nat) (l1 : Int32) (l2 : Int32) (l3 : Int32) (w : Nat × Nat × Nat) (m : zM) (Q : Int32 → zM → Prop) : Prop := ∀ o4 o5 : Option Value, mm_W d 272 2 [some (.ref 261), some (.int l1), some (.int l2), some (.int l3), o4, o5] [] (zE w m) (rI w Q)
theorem S_M_isFormAhead {p0 : Int32} {p1 : Int32} {d : Nat} {w : Nat × Nat × Nat} {m : zM} {Q : Int32 → zM → Prop} (H : W_M_isFormAhead_2 d p0 p1 (0 : Int32) w m Q) : cI d 272 [.ref 261, .int p0, .int p1] w m Q := by
  refine cI_in rfl ?_
  refine mm_yrun (is := mm_k272) [2] 400 rfl ?_
  exact H _ _
theorem S_M_isFormAhead_2 {l1 : Int32} {l2 : Int32} {l3 : Int32} {d : Nat} {w : Nat × Nat × Nat} {m : zM} {Q : Int32 → zM → Prop} (H : vp_in l1 2000 ∧ ((((m.1 273 (l1).toNatClampNeg) ≤ l3 → Q (0 : Int32) m) ∧ (¬ (m.1 273 (l1).toNatClampNeg) ≤ l3 → vp_in l1 2000 ∧ (vp_in (((269 : Int32) + (m.1 272 (l1).toNatClampNeg)) + l3) 1906 ∧ (vp_in l2 2000 ∧ (vp_in (((269 : Int32) + (m.1 272 (l2).toNatClampNeg)) + l3) 1906 ∧ (((((m.2 262 ((((269 : Int32) + (m.1 272 (l1).toNatClampNeg)) + l3)).toNatClampNeg) - (m.2 262 ((((269 : Int32) + (m.1 272 (l2).toNatClampNeg)) + l3)).toNatClampNeg)) = (0 : Int64) → W_M_isFormAhead_2 d l1 l2 (l3 + (1 : Int32)) w m Q) ∧ (¬ ((m.2 262 ((((269 : Int32) + (m.1 272 (l1).toNatClampNeg)) + l3)).toNatClampNeg) - (m.2 262 ((((269 : Int32) + (m.1 272 (l2).toNatClampNeg)) + l3)).toNatClampNeg)) = (0 : Int64) → (((0 : Int64) ≤ ((m.2 262 ((((269 : Int32) + (m.1 272 (l1).toNatClampNeg)) + l3)).toNatClampNeg) - (m.2 262 ((((269 : Int32) + (m.1 272 (l2).toNatClampNeg)) + l3)).toNatClampNeg)) → Q (0 : Int32) m) ∧ (¬ (0 : Int64) ≤ ((m.2 262 ((((269 : Int32) + (m.1 272 (l1).toNatClampNeg)) + l3)).toNatClampNeg) - (m.2 262 ((((269 : Int32) + (m.1 272 (l2).toNatClampNeg)) + l3)).toNatClampNeg)) → Q (1 : Int32) m)))))))))))) : W_M_isFormAhead_2 d l1 l2 l3 w m Q := by
  intro o4 o5
  refine mm_yrun (is := mm_k272) [2] 400 rfl ?_
  refine And.intro (And.intro (rfl) (by decide : ¬ 273 = 0)) ?_
  refine And.intro (And.intro (rfl) H.1) ?_
  replace H := H.2
  refine And.intro (fun q => ?_) (fun q => ?_)
  · replace H := H.1 q
    refine And.intro (Or.inl rfl) ?_
    exact rI_mk (w := w) (m := m) H
  · replace H := H.2 q
    refine And.intro (And.intro (rfl) (by decide : ¬ 262 = 0)) ?_
    refine And.intro (And.intro (rfl) (by decide : ¬ 272 = 0)) ?_
    refine And.intro (And.intro (rfl) H.1) ?_
    replace H := H.2
    refine And.intro (And.intro (rfl) H.1) ?_
    replace H := H.2
    refine And.intro (And.intro (rfl) (by decide : ¬ 262 = 0)) ?_
    refine And.intro (And.intro (rfl) (by decide : ¬ 272 = 0)) ?_
    refine And.intro (And.intro (rfl) H.1) ?_
    replace H := H.2
    refine And.intro (And.intro (rfl) H.1) ?_
    replace H := H.2
    refine And.intro (fun q => ?_) (fun q => ?_)
    · replace H := H.1 q
      exact H _ _
    · replace H := H.2 q
      refine And.intro (fun q => ?_) (fun q => ?_)
      · replace H := H.1 q
        refine And.intro (Or.inl rfl) ?_
        exact rI_mk (w := w) (m := m) H
      · replace H := H.2 q
        refine And.intro (Or.inr rfl) ?_
        exact rI_mk (w := w) (m := m) H

def W_M_findsForms_8 (d : Nat) (l1 : Int32) (l2 : Int32) (w : Nat × Nat × Nat) (m : zM) (Q : zM → Prop) : Prop := ∀ o3 : Option Value, mm_W (d + 1) 273 8 [some (.ref 261), some (.int l1), some (.int l2), o3] [] (zE w m) (rV w Q)
def W_M_findsForms_21 (d : Nat) (l1 : Int32) (l2 : Int32) (l3 : Int32) (w : Nat × Nat × Nat) (m : zM) (Q : zM → Prop) : Prop := mm_W (d + 1) 273 21 [some (.ref 261), some (.int l1), some (.int l2), some (.int l3)] [] (zE w m) (rV w Q)
def W_M_findsForms_69 (d : Nat) (l2 : Int32) (l3 : Int32) (w : Nat × Nat × Nat) (m : zM) (Q : zM → Prop) : Prop := ∀ o1 : Option Value, mm_W (d + 1) 273 69 [some (.ref 261), o1, some (.int l2), some (.int l3)] [] (zE w m) (rV w Q)
theorem S_M_findsForms {p0 : Int32} {d : Nat} {w : Nat × Nat × Nat} {m : zM} {Q : zM → Prop} (H : vp_in p0 2000 ∧ (W_M_findsForms_8 d p0 (m.1 281 (p0).toNatClampNeg) w (zI m 261 55 (0 : Int32)) Q)) : cV (d + 1) 273 [.ref 261, .int p0] w m Q := by
  refine cV_in rfl ?_
  refine mm_yrun (is := mm_k273) [8, 21, 69] 400 rfl ?_
  refine And.intro (rfl) ?_
  refine And.intro (And.intro (rfl) (by decide : ¬ 281 = 0)) ?_
  refine And.intro (And.intro (rfl) H.1) ?_
  replace H := H.2
  exact H _
theorem S_M_findsForms_8 {l1 : Int32} {l2 : Int32} {d : Nat} {w : Nat × Nat × Nat} {m : zM} {Q : zM → Prop} (H : (((m.1 261 26) ≤ l2 → W_M_findsForms_69 d (0 : Int32) (1 : Int32) w m Q) ∧ (¬ (m.1 261 26) ≤ l2 → vp_in l2 2000 ∧ ((((m.1 274 (l2).toNatClampNeg) = l1 → W_M_findsForms_21 d l1 l2 (0 : Int32) w m Q) ∧ (¬ (m.1 274 (l2).toNatClampNeg) = l1 → W_M_findsForms_8 d l1 (l2 + (1 : Int32)) w m Q)))))) : W_M_findsForms_8 d l1 l2 w m Q := by
  intro o3
  refine mm_yrun (is := mm_k273) [8, 21, 69] 400 rfl ?_
  refine And.intro (rfl) ?_
  refine And.intro (fun q => ?_) (fun q => ?_)
  · replace H := H.1 q
    exact H _
  · replace H := H.2 q
    refine And.intro (And.intro (rfl) (by decide : ¬ 274 = 0)) ?_
    refine And.intro (And.intro (rfl) H.1) ?_
    replace H := H.2
    refine And.intro (fun q => ?_) (fun q => ?_)
    · replace H := H.1 q
      exact H
    · replace H := H.2 q
      exact H _
theorem S_M_findsForms_21 {l1 : Int32} {l2 : Int32} {l3 : Int32} {d : Nat} {w : Nat × Nat × Nat} {m : zM} {Q : zM → Prop} (H : (((m.1 261 55) ≤ l3 → ((¬ l3 = (m.1 261 55) → vp_in l3 400 ∧ (vp_in l3 400 ∧ (W_M_findsForms_8 d l1 (l2 + (1 : Int32)) w (zI m 296 (l3).toNatClampNeg ((m.1 296 (l3).toNatClampNeg) + (1 : Int32))) Q))) ∧ (l3 = (m.1 261 55) → vp_in l3 400 ∧ (vp_in l3 400 ∧ (vp_in l3 400 ∧ (vp_in l3 400 ∧ (W_M_findsForms_8 d l1 (l2 + (1 : Int32)) w (zI (zI (zI (zI m 295 (l3).toNatClampNeg l2) 296 (l3).toNatClampNeg (0 : Int32)) 261 55 ((m.1 261 55) + (1 : Int32))) 296 (l3).toNatClampNeg (((zI (zI m 295 (l3).toNatClampNeg l2) 296 (l3).toNatClampNeg (0 : Int32)).1 296 (l3).toNatClampNeg) + (1 : Int32))) Q))))))) ∧ (¬ (m.1 261 55) ≤ l3 → vp_in l3 400 ∧ (cI d 271 [.ref 261, .int l2, .int (m.1 295 (l3).toNatClampNeg)] w m (fun v1 m1 => ((¬ v1 = 0 → ((¬ l3 = (m1.1 261 55) → vp_in l3 400 ∧ (vp_in l3 400 ∧ (W_M_findsForms_8 d l1 (l2 + (1 : Int32)) w (zI m1 296 (l3).toNatClampNeg ((m1.1 296 (l3).toNatClampNeg) + (1 : Int32))) Q))) ∧ (l3 = (m1.1 261 55) → vp_in l3 400 ∧ (vp_in l3 400 ∧ (vp_in l3 400 ∧ (vp_in l3 400 ∧ (W_M_findsForms_8 d l1 (l2 + (1 : Int32)) w (zI (zI (zI (zI m1 295 (l3).toNatClampNeg l2) 296 (l3).toNatClampNeg (0 : Int32)) 261 55 ((m1.1 261 55) + (1 : Int32))) 296 (l3).toNatClampNeg (((zI (zI m1 295 (l3).toNatClampNeg l2) 296 (l3).toNatClampNeg (0 : Int32)).1 296 (l3).toNatClampNeg) + (1 : Int32))) Q))))))) ∧ (v1 = 0 → W_M_findsForms_21 d l1 l2 (l3 + (1 : Int32)) w m1 Q))))))) : W_M_findsForms_21 d l1 l2 l3 w m Q := by
  refine mm_yrun (is := mm_k273) [8, 21, 69] 400 rfl ?_
  refine And.intro (rfl) ?_
  refine And.intro (fun q => ?_) (fun q => ?_)
  · replace H := H.1 q
    refine And.intro (rfl) ?_
    refine And.intro (fun q => ?_) (fun q => ?_)
    · replace H := H.1 q
      refine And.intro (And.intro (rfl) (by decide : ¬ 296 = 0)) ?_
      refine And.intro (And.intro (rfl) H.1) ?_
      replace H := H.2
      refine And.intro (And.intro (rfl) H.1) ?_
      replace H := H.2
      exact H _
    · replace H := H.2 (Classical.not_not.mp q)
      refine And.intro (And.intro (rfl) (by decide : ¬ 295 = 0)) ?_
      refine And.intro (And.intro (rfl) H.1) ?_
      replace H := H.2
      refine And.intro (And.intro (rfl) (by decide : ¬ 296 = 0)) ?_
      refine And.intro (And.intro (rfl) H.1) ?_
      replace H := H.2
      refine And.intro (rfl) ?_
      refine And.intro (rfl) ?_
      refine And.intro (And.intro (rfl) (by decide : ¬ 296 = 0)) ?_
      refine And.intro (And.intro (rfl) H.1) ?_
      replace H := H.2
      refine And.intro (And.intro (rfl) H.1) ?_
      replace H := H.2
      exact H _
  · replace H := H.2 q
    refine And.intro (And.intro (rfl) (by decide : ¬ 295 = 0)) ?_
    refine And.intro (And.intro (rfl) H.1) ?_
    replace H := H.2
    refine And.intro (rfl) ?_
    refine cI_use (w := w) (m := m) rfl H ?_
    intro v1 m1 H
    refine And.intro (fun q => ?_) (fun q => ?_)
    · replace H := H.1 q
      refine And.intro (rfl) ?_
      refine And.intro (fun q => ?_) (fun q => ?_)
      · replace H := H.1 q
        refine And.intro (And.intro (rfl) (by decide : ¬ 296 = 0)) ?_
        refine And.intro (And.intro (rfl) H.1) ?_
        replace H := H.2
        refine And.intro (And.intro (rfl) H.1) ?_
        replace H := H.2
        exact H _
      · replace H := H.2 (Classical.not_not.mp q)
        refine And.intro (And.intro (rfl) (by decide : ¬ 295 = 0)) ?_
        refine And.intro (And.intro (rfl) H.1) ?_
        replace H := H.2
        refine And.intro (And.intro (rfl) (by decide : ¬ 296 = 0)) ?_
        refine And.intro (And.intro (rfl) H.1) ?_
        replace H := H.2
        refine And.intro (rfl) ?_
        refine And.intro (rfl) ?_
        refine And.intro (And.intro (rfl) (by decide : ¬ 296 = 0)) ?_
        refine And.intro (And.intro (rfl) H.1) ?_
        replace H := H.2
        refine And.intro (And.intro (rfl) H.1) ?_
        replace H := H.2
        exact H _
    · replace H := H.2 (Classical.not_not.mp q)
      exact H
theorem S_M_findsForms_69 {l2 : Int32} {l3 : Int32} {d : Nat} {w : Nat × Nat × Nat} {m : zM} {Q : zM → Prop} (H : (((m.1 261 55) ≤ l3 → vp_in l2 400 ∧ (Q (zI m 261 56 (m.1 295 (l2).toNatClampNeg)))) ∧ (¬ (m.1 261 55) ≤ l3 → vp_in l3 400 ∧ (vp_in l2 400 ∧ ((((m.1 296 (l2).toNatClampNeg) < (m.1 296 (l3).toNatClampNeg) → W_M_findsForms_69 d l3 (l3 + (1 : Int32)) w m Q) ∧ (¬ (m.1 296 (l2).toNatClampNeg) < (m.1 296 (l3).toNatClampNeg) → vp_in l3 400 ∧ (vp_in l2 400 ∧ (((¬ (m.1 296 (l3).toNatClampNeg) = (m.1 296 (l2).toNatClampNeg) → W_M_findsForms_69 d l2 (l3 + (1 : Int32)) w m Q) ∧ ((m.1 296 (l3).toNatClampNeg) = (m.1 296 (l2).toNatClampNeg) → vp_in l3 400 ∧ (vp_in l2 400 ∧ (cI d 272 [.ref 261, .int (m.1 295 (l3).toNatClampNeg), .int (m.1 295 (l2).toNatClampNeg)] w m (fun v1 m1 => ((v1 = 0 → W_M_findsForms_69 d l2 (l3 + (1 : Int32)) w m1 Q) ∧ (¬ v1 = 0 → W_M_findsForms_69 d l3 (l3 + (1 : Int32)) w m1 Q)))))))))))))))) : W_M_findsForms_69 d l2 l3 w m Q := by
  intro o1
  refine mm_yrun (is := mm_k273) [8, 21, 69] 400 rfl ?_
  refine And.intro (rfl) ?_
  refine And.intro (fun q => ?_) (fun q => ?_)
  · replace H := H.1 q
    refine And.intro (And.intro (rfl) (by decide : ¬ 295 = 0)) ?_
    refine And.intro (And.intro (rfl) H.1) ?_
    replace H := H.2
    refine And.intro (rfl) ?_
    exact rV_mk (w := w) (m := (zI m 261 56 (m.1 295 (l2).toNatClampNeg))) H
  · replace H := H.2 q
    refine And.intro (And.intro (rfl) (by decide : ¬ 296 = 0)) ?_
    refine And.intro (And.intro (rfl) H.1) ?_
    replace H := H.2
    refine And.intro (And.intro (rfl) (by decide : ¬ 296 = 0)) ?_
    refine And.intro (And.intro (rfl) H.1) ?_
    replace H := H.2
    refine And.intro (fun q => ?_) (fun q => ?_)
    · replace H := H.1 q
      exact H _
    · replace H := H.2 q
      refine And.intro (And.intro (rfl) (by decide : ¬ 296 = 0)) ?_
      refine And.intro (And.intro (rfl) H.1) ?_
      replace H := H.2
      refine And.intro (And.intro (rfl) (by decide : ¬ 296 = 0)) ?_
      refine And.intro (And.intro (rfl) H.1) ?_
      replace H := H.2
      refine And.intro (fun q => ?_) (fun q => ?_)
      · replace H := H.1 q
        exact H _
      · replace H := H.2 (Classical.not_not.mp q)
        refine And.intro (And.intro (rfl) (by decide : ¬ 295 = 0)) ?_
        refine And.intro (And.intro (rfl) H.1) ?_
        replace H := H.2
        refine And.intro (And.intro (rfl) (by decide : ¬ 295 = 0)) ?_
        refine And.intro (And.intro (rfl) H.1) ?_
        replace H := H.2
        refine And.intro (rfl) ?_
        refine cI_use (w := w) (m := m) rfl H ?_
        intro v1 m1 H
        refine And.intro (fun q => ?_) (fun q => ?_)
        · replace H := H.1 q
          exact H _
        · replace H := H.2 q
          exact H _
