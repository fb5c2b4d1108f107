theorem S_Terms_open {p0 : Int32} {p1 : Int32} {d : Nat} {w : Nat × Nat × Nat} {m : zM} {Q : zM → Prop} (H : cL d 157 [.ref 235, .int p0] w m (fun v1 m1 => cV d 159 [.ref 238, .int (m.1 237 19), .long v1] w m1 (fun m2 => cV d 158 [.ref 239, .int (m.1 237 19), .int p1] w m2 (fun m3 => cV d 158 [.ref 246, .int (m.1 237 19), .int p0] w m3 (fun m4 => cV d 158 [.ref 240, .int (m.1 237 19), .int (0 : Int32)] w m4 (fun m5 => cV d 158 [.ref 241, .int (m.1 237 19), .int (0 : Int32)] w m5 (fun m6 => cV d 158 [.ref 242, .int (m.1 237 19), .int (0 : Int32)] w m6 (fun m7 => cV d 158 [.ref 243, .int (m.1 237 19), .int (0 : Int32)] w m7 (fun m8 => cV d 158 [.ref 244, .int (m.1 237 19), .int (0 : Int32)] w m8 (fun m9 => cV d 158 [.ref 247, .int (m.1 237 19), .int (0 : Int32)] w m9 (fun m10 => cV d 158 [.ref 248, .int (m.1 237 19), .int (0 : Int32)] w m10 (fun m11 => cV d 158 [.ref 249, .int (m.1 237 19), .int (0 : Int32)] w m11 (fun m12 => cV d 158 [.ref 250, .int (m.1 237 19), .int (0 : Int32)] w m12 (fun m13 => cV d 158 [.ref 251, .int (m.1 237 19), .int ((-1) : Int32)] w m13 (fun m14 => Q (zI m14 237 19 ((m14.1 237 19) + (1 : Int32)))))))))))))))))) : cV (d + 1) 82 [.ref 237, .int p0, .int p1] w m Q := by
  refine cV_in rfl ?_
  refine mm_yrun (is := mm_k82) [] 400 rfl ?_
  refine And.intro (rfl) ?_
  refine And.intro (And.intro (rfl) (by decide : ¬ 238 = 0)) ?_
  refine And.intro (And.intro (rfl) (by decide : ¬ 228 = 0)) ?_
  refine And.intro (And.intro (rfl) (by decide : ¬ 235 = 0)) ?_
  refine And.intro (trivial) ?_
  refine cL_use (w := w) (m := m) rfl H ?_
  intro v1 m1 H
  refine And.intro (trivial) ?_
  refine cV_use (w := w) (m := m1) rfl H ?_
  intro m2 H
  refine And.intro (And.intro (rfl) (by decide : ¬ 239 = 0)) ?_
  refine And.intro (trivial) ?_
  refine cV_use (w := w) (m := m2) rfl H ?_
  intro m3 H
  refine And.intro (And.intro (rfl) (by decide : ¬ 246 = 0)) ?_
  refine And.intro (trivial) ?_
  refine cV_use (w := w) (m := m3) rfl H ?_
  intro m4 H
  refine And.intro (And.intro (rfl) (by decide : ¬ 240 = 0)) ?_
  refine And.intro (trivial) ?_
  refine cV_use (w := w) (m := m4) rfl H ?_
  intro m5 H
  refine And.intro (And.intro (rfl) (by decide : ¬ 241 = 0)) ?_
  refine And.intro (trivial) ?_
  refine cV_use (w := w) (m := m5) rfl H ?_
  intro m6 H
  refine And.intro (And.intro (rfl) (by decide : ¬ 242 = 0)) ?_
  refine And.intro (trivial) ?_
  refine cV_use (w := w) (m := m6) rfl H ?_
  intro m7 H
  refine And.intro (And.intro (rfl) (by decide : ¬ 243 = 0)) ?_
  refine And.intro (trivial) ?_
  refine cV_use (w := w) (m := m7) rfl H ?_
  intro m8 H
  refine And.intro (And.intro (rfl) (by decide : ¬ 244 = 0)) ?_
  refine And.intro (trivial) ?_
  refine cV_use (w := w) (m := m8) rfl H ?_
  intro m9 H
  refine And.intro (And.intro (rfl) (by decide : ¬ 247 = 0)) ?_
  refine And.intro (trivial) ?_
  refine cV_use (w := w) (m := m9) rfl H ?_
  intro m10 H
  refine And.intro (And.intro (rfl) (by decide : ¬ 248 = 0)) ?_
  refine And.intro (trivial) ?_
  refine cV_use (w := w) (m := m10) rfl H ?_
  intro m11 H
  refine And.intro (And.intro (rfl) (by decide : ¬ 249 = 0)) ?_
  refine And.intro (trivial) ?_
  refine cV_use (w := w) (m := m11) rfl H ?_
  intro m12 H
  refine And.intro (And.intro (rfl) (by decide : ¬ 250 = 0)) ?_
  refine And.intro (trivial) ?_
  refine cV_use (w := w) (m := m12) rfl H ?_
  intro m13 H
  refine And.intro (And.intro (rfl) (by decide : ¬ 251 = 0)) ?_
  refine And.intro (trivial) ?_
  refine cV_use (w := w) (m := m13) rfl H ?_
  intro m14 H
  refine And.intro (rfl) ?_
  refine And.intro (rfl) ?_
  exact rV_mk (w := w) (m := (zI m14 237 19 ((m14.1 237 19) + (1 : Int32)))) H

theorem R_Terms_take {p0 : Nat} {p1 : Int32} {p2 : Int32} {d : Nat} {w : Nat × Nat × Nat} {m : zM} {Q : zM → Prop} (hk_p0 : (zK w.1 p0).1 = 9) (H : cV d 158 [.ref 233, .int p2, .int p1] w m (fun m1 => cI d 156 [.ref 240, .int p1] w m1 (fun v2 m2 => cV d 158 [.ref 240, .int p1, .int (v2 + (1 : Int32))] w m2 (fun m3 => cI d 156 [.ref 241, .int p1] w m3 (fun v4 m4 => cI d 156 [.ref 234, .int p2] w m4 (fun v5 m5 => cV d 158 [.ref 241, .int p1, .int ((v4 + (1 : Int32)) - v5)] w m5 (fun m6 => cI d 156 [.ref 246, .int p1] w m6 (fun v7 m7 => cI d 292 [.int v7, .int p2] w m7 (fun v8 m8 => cV d 158 [.ref 246, .int p1, .int v8] w m8 (fun m9 => cI d 156 [.ref 248, .int p1] w m9 (fun v10 m10 => cI d 156 [.ref 231, .int p2] w m10 (fun v11 m11 => cI d 113 [.ref p0, .int v11] w m11 (fun v12 m12 => cV d 158 [.ref 248, .int p1, .int (v10 ||| ((1 : Int32) <<< (v12 &&& 31)))] w m12 (fun m13 => Q m13)))))))))))))) : cV (d + 1) 83 [.ref 237, .ref p0, .int p1, .int p2] w m Q := by
  refine cV_in rfl ?_
  refine mm_yrun (is := mm_k83) [] 400 rfl ?_
  refine And.intro (And.intro (rfl) (by decide : ¬ 228 = 0)) ?_
  refine And.intro (And.intro (rfl) (by decide : ¬ 233 = 0)) ?_
  refine And.intro (trivial) ?_
  refine cV_use (w := w) (m := m) rfl H ?_
  intro m1 H
  refine And.intro (And.intro (rfl) (by decide : ¬ 240 = 0)) ?_
  refine And.intro (And.intro (rfl) (by decide : ¬ 240 = 0)) ?_
  refine And.intro (trivial) ?_
  refine cI_use (w := w) (m := m1) rfl H ?_
  intro v2 m2 H
  refine And.intro (trivial) ?_
  refine cV_use (w := w) (m := m2) rfl H ?_
  intro m3 H
  refine And.intro (And.intro (rfl) (by decide : ¬ 241 = 0)) ?_
  refine And.intro (And.intro (rfl) (by decide : ¬ 241 = 0)) ?_
  refine And.intro (trivial) ?_
  refine cI_use (w := w) (m := m3) rfl H ?_
  intro v4 m4 H
  refine And.intro (And.intro (rfl) (by decide : ¬ 228 = 0)) ?_
  refine And.intro (And.intro (rfl) (by decide : ¬ 234 = 0)) ?_
  refine And.intro (trivial) ?_
  refine cI_use (w := w) (m := m4) rfl H ?_
  intro v5 m5 H
  refine And.intro (trivial) ?_
  refine cV_use (w := w) (m := m5) rfl H ?_
  intro m6 H
  refine And.intro (And.intro (rfl) (by decide : ¬ 246 = 0)) ?_
  refine And.intro (And.intro (rfl) (by decide : ¬ 246 = 0)) ?_
  refine And.intro (trivial) ?_
  refine cI_use (w := w) (m := m6) rfl H ?_
  intro v7 m7 H
  refine And.intro (trivial) ?_
  refine cI_use (w := w) (m := m7) rfl H ?_
  intro v8 m8 H
  refine And.intro (trivial) ?_
  refine cV_use (w := w) (m := m8) rfl H ?_
  intro m9 H
  refine And.intro (And.intro (rfl) (by decide : ¬ 248 = 0)) ?_
  refine And.intro (And.intro (rfl) (by decide : ¬ 248 = 0)) ?_
  refine And.intro (trivial) ?_
  refine cI_use (w := w) (m := m9) rfl H ?_
  intro v10 m10 H
  refine And.intro (And.intro (rfl) (by decide : ¬ 228 = 0)) ?_
  refine And.intro (And.intro (rfl) (by decide : ¬ 231 = 0)) ?_
  refine And.intro (trivial) ?_
  refine cI_use (w := w) (m := m10) rfl H ?_
  intro v11 m11 H
  refine And.intro (hk_p0) ?_
  refine cI_use (w := w) (m := m11) rfl H ?_
  intro v12 m12 H
  refine And.intro (trivial) ?_
  refine cV_use (w := w) (m := m12) rfl H ?_
  intro m13 H
  exact rV_mk (w := w) (m := m13) H
theorem S_Terms_take {p0 : Nat} {p1 : Int32} {p2 : Int32} {d : Nat} {w : Nat × Nat × Nat} {m : zM} {Q : zM → Prop} (hp_p0 : zT p0) (H : cV d 158 [.ref 233, .int p2, .int p1] w m (fun m1 => cI d 156 [.ref 240, .int p1] w m1 (fun v2 m2 => cV d 158 [.ref 240, .int p1, .int (v2 + (1 : Int32))] w m2 (fun m3 => cI d 156 [.ref 241, .int p1] w m3 (fun v4 m4 => cI d 156 [.ref 234, .int p2] w m4 (fun v5 m5 => cV d 158 [.ref 241, .int p1, .int ((v4 + (1 : Int32)) - v5)] w m5 (fun m6 => cI d 156 [.ref 246, .int p1] w m6 (fun v7 m7 => cI d 292 [.int v7, .int p2] w m7 (fun v8 m8 => cV d 158 [.ref 246, .int p1, .int v8] w m8 (fun m9 => cI d 156 [.ref 248, .int p1] w m9 (fun v10 m10 => cI d 156 [.ref 231, .int p2] w m10 (fun v11 m11 => cI d 113 [.ref p0, .int v11] w m11 (fun v12 m12 => cV d 158 [.ref 248, .int p1, .int (v10 ||| ((1 : Int32) <<< (v12 &&& 31)))] w m12 (fun m13 => Q m13)))))))))))))) : cV (d + 1) 83 [.ref 237, .ref p0, .int p1, .int p2] w m Q := R_Terms_take (zT_k hp_p0) H

def W_Terms_countLonger_2 (d : Nat) (l1 : Int32) (w : Nat × Nat × Nat) (m : zM) (Q : zM → Prop) : Prop := ∀ o2 o3 o4 o5 : Option Value, mm_W (d + 1) 84 2 [some (.ref 237), some (.int l1), o2, o3, o4, o5] [] (zE w m) (rV w Q)
def W_Terms_countLonger_12 (d : Nat) (l1 : Int32) (l2 : Int32) (l3 : Int32) (w : Nat × Nat × Nat) (m : zM) (Q : zM → Prop) : Prop := ∀ o4 o5 : Option Value, mm_W (d + 1) 84 12 [some (.ref 237), some (.int l1), some (.int l2), some (.int l3), o4, o5] [] (zE w m) (rV w Q)
def W_Terms_countLonger_17 (d : Nat) (l1 : Int32) (l2 : Int32) (l3 : Int32) (l4 : Int32) (w : Nat × Nat × Nat) (m : zM) (Q : zM → Prop) : Prop := ∀ o5 : Option Value, mm_W (d + 1) 84 17 [some (.ref 237), some (.int l1), some (.int l2), some (.int l3), some (.int l4), o5] [] (zE w m) (rV w Q)
theorem S_Terms_countLonger  {d : Nat} {w : Nat × Nat × Nat} {m : zM} {Q : zM → Prop} (H : W_Terms_countLonger_2 d (0 : Int32) w m Q) : cV (d + 1) 84 [.ref 237] w m Q := by
  refine cV_in rfl ?_
  refine mm_yrun (is := mm_k84) [2, 12, 17] 400 rfl ?_
  exact H _ _ _ _
theorem S_Terms_countLonger_2 {l1 : Int32} {d : Nat} {w : Nat × Nat × Nat} {m : zM} {Q : zM → Prop} (H : (((m.1 237 19) ≤ l1 → Q m) ∧ (¬ (m.1 237 19) ≤ l1 → cI d 90 [.ref 237, .int l1] w m (fun v1 m1 => W_Terms_countLonger_12 d l1 v1 (1 : Int32) w m1 Q)))) : W_Terms_countLonger_2 d l1 w m Q := by
  intro o2 o3 o4 o5
  refine mm_yrun (is := mm_k84) [2, 12, 17] 400 rfl ?_
  refine And.intro (rfl) ?_
  refine And.intro (fun q => ?_) (fun q => ?_)
  · replace H := H.1 q
    exact rV_mk (w := w) (m := m) H
  · replace H := H.2 q
    refine And.intro (rfl) ?_
    refine cI_use (w := w) (m := m) rfl H ?_
    intro v1 m1 H
    exact H _ _
theorem S_Terms_countLonger_12 {l1 : Int32} {l2 : Int32} {l3 : Int32} {d : Nat} {w : Nat × Nat × Nat} {m : zM} {Q : zM → Prop} (H : ((l2 ≤ l3 → W_Terms_countLonger_2 d (l1 + (1 : Int32)) w m Q) ∧ (¬ l2 ≤ l3 → W_Terms_countLonger_17 d l1 l2 l3 (0 : Int32) w m Q))) : W_Terms_countLonger_12 d l1 l2 l3 w m Q := by
  intro o4 o5
  refine mm_yrun (is := mm_k84) [2, 12, 17] 400 rfl ?_
  refine And.intro (fun q => ?_) (fun q => ?_)
  · replace H := H.1 q
    exact H _ _ _ _
  · replace H := H.2 q
    exact H _
theorem S_Terms_countLonger_17 {l1 : Int32} {l2 : Int32} {l3 : Int32} {l4 : Int32} {d : Nat} {w : Nat × Nat × Nat} {m : zM} {Q : zM → Prop} (H : ((l2 < (l4 + l3) → W_Terms_countLonger_12 d l1 l2 (l3 + (1 : Int32)) w m Q) ∧ (¬ l2 < (l4 + l3) → cL d 157 [.ref 238, .int l1] w m (fun v1 m1 => cL d 174 [.long v1, .int l4, .int l3] w m1 (fun v2 m2 => cI d 91 [.ref 237, .long v2] w m2 (fun v3 m3 => ((v3 < 0 → W_Terms_countLonger_17 d l1 l2 l3 (l4 + (1 : Int32)) w m3 Q) ∧ (¬ v3 < 0 → cI d 156 [.ref 251, .int v3] w m3 (fun v4 m4 => ((v4 = l1 → W_Terms_countLonger_17 d l1 l2 l3 (l4 + (1 : Int32)) w m4 Q) ∧ (¬ v4 = l1 → cV d 158 [.ref 251, .int v3, .int l1] w m4 (fun m5 => cI d 156 [.ref 242, .int v3] w m5 (fun v6 m6 => cV d 158 [.ref 242, .int v3, .int (v6 + (1 : Int32))] w m6 (fun m7 => cI d 156 [.ref 243, .int v3] w m7 (fun v8 m8 => cI d 156 [.ref 240, .int l1] w m8 (fun v9 m9 => cV d 158 [.ref 243, .int v3, .int (v8 + v9)] w m9 (fun m10 => W_Terms_countLonger_17 d l1 l2 l3 (l4 + (1 : Int32)) w m10 Q))))))))))))))))) : W_Terms_countLonger_17 d l1 l2 l3 l4 w m Q := by
  intro o5
  refine mm_yrun (is := mm_k84) [2, 12, 17] 400 rfl ?_
  refine And.intro (fun q => ?_) (fun q => ?_)
  · replace H := H.1 q
    exact H _ _
  · replace H := H.2 q
    refine And.intro (And.intro (rfl) (by decide : ¬ 238 = 0)) ?_
    refine And.intro (trivial) ?_
    refine cL_use (w := w) (m := m) rfl H ?_
    intro v1 m1 H
    refine And.intro (trivial) ?_
    refine cL_use (w := w) (m := m1) rfl H ?_
    intro v2 m2 H
    refine And.intro (rfl) ?_
    refine cI_use (w := w) (m := m2) rfl H ?_
    intro v3 m3 H
    refine And.intro (fun q => ?_) (fun q => ?_)
    · replace H := H.1 q
      exact H _
    · replace H := H.2 q
      refine And.intro (And.intro (rfl) (by decide : ¬ 251 = 0)) ?_
      refine And.intro (trivial) ?_
      refine cI_use (w := w) (m := m3) rfl H ?_
      intro v4 m4 H
      refine And.intro (fun q => ?_) (fun q => ?_)
      · replace H := H.1 q
        exact H _
      · replace H := H.2 q
        refine And.intro (And.intro (rfl) (by decide : ¬ 251 = 0)) ?_
        refine And.intro (trivial) ?_
        refine cV_use (w := w) (m := m4) rfl H ?_
        intro m5 H
        refine And.intro (And.intro (rfl) (by decide : ¬ 242 = 0)) ?_
        refine And.intro (And.intro (rfl) (by decide : ¬ 242 = 0)) ?_
        refine And.intro (trivial) ?_
        refine cI_use (w := w) (m := m5) rfl H ?_
        intro v6 m6 H
        refine And.intro (trivial) ?_
        refine cV_use (w := w) (m := m6) rfl H ?_
        intro m7 H
        refine And.intro (And.intro (rfl) (by decide : ¬ 243 = 0)) ?_
        refine And.intro (And.intro (rfl) (by decide : ¬ 243 = 0)) ?_
        refine And.intro (trivial) ?_
        refine cI_use (w := w) (m := m7) rfl H ?_
        intro v8 m8 H
        refine And.intro (And.intro (rfl) (by decide : ¬ 240 = 0)) ?_
        refine And.intro (trivial) ?_
        refine cI_use (w := w) (m := m8) rfl H ?_
        intro v9 m9 H
        refine And.intro (trivial) ?_
        refine cV_use (w := w) (m := m9) rfl H ?_
        intro m10 H
        exact H _

def W_Terms_countGeneral_2 (d : Nat) (p0 : Nat) (l2 : Int32) (w : Nat × Nat × Nat) (m : zM) (Q : zM → Prop) : Prop := ∀ o3 o4 o5 o6 o7 o8 : Option Value, mm_W (d + 1) 85 2 [some (.ref 237), some (.ref p0), some (.int l2), o3, o4, o5, o6, o7, o8] [] (zE w m) (rV w Q)
def W_Terms_countGeneral_11 (d : Nat) (p0 : Nat) (l2 : Int32) (l3 : Int64) (l5 : Int32) (w : Nat × Nat × Nat) (m : zM) (Q : zM → Prop) : Prop := ∀ o6 o7 o8 : Option Value, mm_W (d + 1) 85 11 [some (.ref 237), some (.ref p0), some (.int l2), some (.long l3), none, some (.int l5), o6, o7, o8] [] (zE w m) (rV w Q)
theorem S_Terms_countGeneral {p0 : Nat} {d : Nat} {w : Nat × Nat × Nat} {m : zM} {Q : zM → Prop} (H : W_Terms_countGeneral_2 d p0 (0 : Int32) w m Q) : cV (d + 1) 85 [.ref 237, .ref p0] w m Q := by
  refine cV_in rfl ?_
  refine mm_yrun (is := mm_k85) [2, 11] 400 rfl ?_
  exact H _ _ _ _ _ _
theorem R_Terms_countGeneral_2 {p0 : Nat} {l2 : Int32} {p0_5 : Nat} {d : Nat} {w : Nat × Nat × Nat} {m : zM} {Q : zM → Prop} (he_p0_5 : zR w.2.1 w.2.2 p0 5 = p0_5) (hk_p0 : (zK w.1 p0).1 = 9) (hn_p0_5 : ¬ p0_5 = 0) (hk_p0_5 : (zK w.1 p0_5).1 = 6) (H : (((m.1 p0_5 2) ≤ l2 → Q m) ∧ (¬ (m.1 p0_5 2) ≤ l2 → W_Terms_countGeneral_11 d p0 l2 (0 : Int64) (0 : Int32) w m Q))) : W_Terms_countGeneral_2 d p0 l2 w m Q := by
  subst he_p0_5
  intro o3 o4 o5 o6 o7 o8
  refine mm_yrun (is := mm_k85) [2, 11] 400 rfl ?_
  refine And.intro (And.intro (hk_p0) hn_p0_5) ?_
  refine And.intro (hk_p0_5) ?_
  refine And.intro (fun q => ?_) (fun q => ?_)
  · replace H := H.1 q
    exact rV_mk (w := w) (m := m) H
  · replace H := H.2 q
    exact H _ _ _
theorem S_Terms_countGeneral_2 {p0 : Nat} {l2 : Int32} {d : Nat} {w : Nat × Nat × Nat} {m : zM} {Q : zM → Prop} (hp_p0 : zT p0) (H : (((m.1 (p0 + 14) 2) ≤ l2 → Q m) ∧ (¬ (m.1 (p0 + 14) 2) ≤ l2 → W_Terms_countGeneral_11 d p0 l2 (0 : Int64) (0 : Int32) w m Q))) : W_Terms_countGeneral_2 d p0 l2 w m Q := R_Terms_countGeneral_2 (zT_e5 hp_p0) (zT_k hp_p0) (Nat.succ_ne_zero _) (zT_ge hp_p0).1 H
theorem R_Terms_countGeneral_11 {p0 : Nat} {l2 : Int32} {l3 : Int64} {l5 : Int32} {p0_5 : Nat} {d : Nat} {w : Nat × Nat × Nat} {m : zM} {Q : zM → Prop} (he_p0_5 : zR w.2.1 w.2.2 p0 5 = p0_5) (hk_p0 : (zK w.1 p0).1 = 9) (hn_p0_5 : ¬ p0_5 = 0) (hk_p0_5 : (zK w.1 p0_5).1 = 6) (H : (((5 : Int32) ≤ l5 → W_Terms_countGeneral_2 d p0 (l2 + (1 : Int32)) w m Q) ∧ (¬ (5 : Int32) ≤ l5 → cI d 59 [.ref p0_5, .int l2, .int (l2 + l5)] w m (fun v1 m1 => ((v1 = 0 → ((0 ≤ ((-1) : Int32) → cL d 171 [.int ((-1) : Int32), .int l5] w m1 (fun v2 m2 => cI d 91 [.ref 237, .long (l3 ||| v2)] w m2 (fun v3 m3 => ((v3 < 0 → W_Terms_countGeneral_11 d p0 l2 (l3 ||| v2) (l5 + (1 : Int32)) w m3 Q) ∧ (¬ v3 < 0 → cI d 156 [.ref 247, .int v3] w m3 (fun v4 m4 => cV d 158 [.ref 247, .int v3, .int (v4 + (1 : Int32))] w m4 (fun m5 => W_Terms_countGeneral_11 d p0 l2 (l3 ||| v2) (l5 + (1 : Int32)) w m5 Q))))))) ∧ (¬ 0 ≤ ((-1) : Int32) → W_Terms_countGeneral_2 d p0 (l2 + (1 : Int32)) w m1 Q))) ∧ (¬ v1 = 0 → cI d 156 [.ref 225, .int (l2 + l5)] w m1 (fun v6 m6 => ((0 ≤ v6 → cL d 171 [.int v6, .int l5] w m6 (fun v7 m7 => cI d 91 [.ref 237, .long (l3 ||| v7)] w m7 (fun v8 m8 => ((v8 < 0 → W_Terms_countGeneral_11 d p0 l2 (l3 ||| v7) (l5 + (1 : Int32)) w m8 Q) ∧ (¬ v8 < 0 → cI d 156 [.ref 247, .int v8] w m8 (fun v9 m9 => cV d 158 [.ref 247, .int v8, .int (v9 + (1 : Int32))] w m9 (fun m10 => W_Terms_countGeneral_11 d p0 l2 (l3 ||| v7) (l5 + (1 : Int32)) w m10 Q))))))) ∧ (¬ 0 ≤ v6 → W_Terms_countGeneral_2 d p0 (l2 + (1 : Int32)) w m6 Q))))))))) : W_Terms_countGeneral_11 d p0 l2 l3 l5 w m Q := by
  subst he_p0_5
  intro o6 o7 o8
  refine mm_yrun (is := mm_k85) [2, 11] 400 rfl ?_
  refine And.intro (fun q => ?_) (fun q => ?_)
  · replace H := H.1 q
    exact H _ _ _ _ _ _
  · replace H := H.2 q
    refine And.intro (And.intro (hk_p0) hn_p0_5) ?_
    refine And.intro (hk_p0_5) ?_
    refine cI_use (w := w) (m := m) rfl H ?_
    intro v1 m1 H
    refine And.intro (fun q => ?_) (fun q => ?_)
    · replace H := H.1 q
      refine And.intro (fun q => ?_) (fun q => ?_)
      · replace H := H.1 q
        refine And.intro (trivial) ?_
        refine cL_use (w := w) (m := m1) rfl H ?_
        intro v2 m2 H
        refine And.intro (rfl) ?_
        refine cI_use (w := w) (m := m2) rfl H ?_
        intro v3 m3 H
        refine And.intro (fun q => ?_) (fun q => ?_)
        · replace H := H.1 q
          exact H _ _ _
        · replace H := H.2 q
          refine And.intro (And.intro (rfl) (by decide : ¬ 247 = 0)) ?_
          refine And.intro (And.intro (rfl) (by decide : ¬ 247 = 0)) ?_
          refine And.intro (trivial) ?_
          refine cI_use (w := w) (m := m3) rfl H ?_
          intro v4 m4 H
          refine And.intro (trivial) ?_
          refine cV_use (w := w) (m := m4) rfl H ?_
          intro m5 H
          exact H _ _ _
      · replace H := H.2 q
        exact H _ _ _ _ _ _
    · replace H := H.2 q
      refine And.intro (And.intro (rfl) (by decide : ¬ 220 = 0)) ?_
      refine And.intro (And.intro (rfl) (by decide : ¬ 225 = 0)) ?_
      refine And.intro (trivial) ?_
      refine cI_use (w := w) (m := m1) rfl H ?_
      intro v6 m6 H
      refine And.intro (fun q => ?_) (fun q => ?_)
      · replace H := H.1 q
        refine And.intro (trivial) ?_
        refine cL_use (w := w) (m := m6) rfl H ?_
        intro v7 m7 H
        refine And.intro (rfl) ?_
        refine cI_use (w := w) (m := m7) rfl H ?_
        intro v8 m8 H
        refine And.intro (fun q => ?_) (fun q => ?_)
        · replace H := H.1 q
          exact H _ _ _
        · replace H := H.2 q
          refine And.intro (And.intro (rfl) (by decide : ¬ 247 = 0)) ?_
          refine And.intro (And.intro (rfl) (by decide : ¬ 247 = 0)) ?_
          refine And.intro (trivial) ?_
          refine cI_use (w := w) (m := m8) rfl H ?_
          intro v9 m9 H
          refine And.intro (trivial) ?_
          refine cV_use (w := w) (m := m9) rfl H ?_
          intro m10 H
          exact H _ _ _
      · replace H := H.2 q
        exact H _ _ _ _ _ _
theorem S_Terms_countGeneral_11 {p0 : Nat} {l2 : Int32} {l3 : Int64} {l5 : Int32} {d : Nat} {w : Nat × Nat × Nat} {m : zM} {Q : zM → Prop} (hp_p0 : zT p0) (H : (((5 : Int32) ≤ l5 → W_Terms_countGeneral_2 d p0 (l2 + (1 : Int32)) w m Q) ∧ (¬ (5 : Int32) ≤ l5 → cI d 59 [.ref (p0 + 14), .int l2, .int (l2 + l5)] w m (fun v1 m1 => ((v1 = 0 → ((0 ≤ ((-1) : Int32) → cL d 171 [.int ((-1) : Int32), .int l5] w m1 (fun v2 m2 => cI d 91 [.ref 237, .long (l3 ||| v2)] w m2 (fun v3 m3 => ((v3 < 0 → W_Terms_countGeneral_11 d p0 l2 (l3 ||| v2) (l5 + (1 : Int32)) w m3 Q) ∧ (¬ v3 < 0 → cI d 156 [.ref 247, .int v3] w m3 (fun v4 m4 => cV d 158 [.ref 247, .int v3, .int (v4 + (1 : Int32))] w m4 (fun m5 => W_Terms_countGeneral_11 d p0 l2 (l3 ||| v2) (l5 + (1 : Int32)) w m5 Q))))))) ∧ (¬ 0 ≤ ((-1) : Int32) → W_Terms_countGeneral_2 d p0 (l2 + (1 : Int32)) w m1 Q))) ∧ (¬ v1 = 0 → cI d 156 [.ref 225, .int (l2 + l5)] w m1 (fun v6 m6 => ((0 ≤ v6 → cL d 171 [.int v6, .int l5] w m6 (fun v7 m7 => cI d 91 [.ref 237, .long (l3 ||| v7)] w m7 (fun v8 m8 => ((v8 < 0 → W_Terms_countGeneral_11 d p0 l2 (l3 ||| v7) (l5 + (1 : Int32)) w m8 Q) ∧ (¬ v8 < 0 → cI d 156 [.ref 247, .int v8] w m8 (fun v9 m9 => cV d 158 [.ref 247, .int v8, .int (v9 + (1 : Int32))] w m9 (fun m10 => W_Terms_countGeneral_11 d p0 l2 (l3 ||| v7) (l5 + (1 : Int32)) w m10 Q))))))) ∧ (¬ 0 ≤ v6 → W_Terms_countGeneral_2 d p0 (l2 + (1 : Int32)) w m6 Q))))))))) : W_Terms_countGeneral_11 d p0 l2 l3 l5 w m Q := R_Terms_countGeneral_11 (zT_e5 hp_p0) (zT_k hp_p0) (Nat.succ_ne_zero _) (zT_ge hp_p0).1 H

def W_Terms_countAround_10 (d : Nat) (p0 : Nat) (l2 : Int32) (w : Nat × Nat × Nat) (m : zM) (Q : zM → Prop) : Prop := ∀ o3 o4 o5 o6 : Option Value, mm_W (d + 1) 86 10 [some (.ref 237), some (.ref p0), some (.int l2), o3, o4, o5, o6] [] (zE w m) (rV w Q)
def W_Terms_countAround_16 (d : Nat) (p0 : Nat) (l2 : Int32) (l3 : Int32) (w : Nat × Nat × Nat) (m : zM) (Q : zM → Prop) : Prop := ∀ o4 o5 o6 : Option Value, mm_W (d + 1) 86 16 [some (.ref 237), some (.ref p0), some (.int l2), some (.int l3), o4, o5, o6] [] (zE w m) (rV w Q)
def W_Terms_countAround_32 (d : Nat) (p0 : Nat) (l2 : Int32) (l3 : Int32) (l4 : Int32) (l5 : Int32) (w : Nat × Nat × Nat) (m : zM) (Q : zM → Prop) : Prop := ∀ o6 : Option Value, mm_W (d + 1) 86 32 [some (.ref 237), some (.ref p0), some (.int l2), some (.int l3), some (.int l4), some (.int l5), o6] [] (zE w m) (rV w Q)
theorem S_Terms_countAround {p0 : Nat} {d : Nat} {w : Nat × Nat × Nat} {m : zM} {Q : zM → Prop} (H : cV d 160 [.ref 252, .int (240 : Int32)] w m (fun m1 => cV d 160 [.ref 253, .int (240 : Int32)] w m1 (fun m2 => W_Terms_countAround_10 d p0 (0 : Int32) w m2 Q))) : cV (d + 1) 86 [.ref 237, .ref p0] w m Q := by
  refine cV_in rfl ?_
  refine mm_yrun (is := mm_k86) [10, 16, 32] 400 rfl ?_
  refine And.intro (And.intro (rfl) (by decide : ¬ 252 = 0)) ?_
  refine And.intro (trivial) ?_
  refine cV_use (w := w) (m := m) rfl H ?_
  intro m1 H
  refine And.intro (And.intro (rfl) (by decide : ¬ 253 = 0)) ?_
  refine And.intro (trivial) ?_
  refine cV_use (w := w) (m := m1) rfl H ?_
  intro m2 H
  exact H _ _ _ _
theorem S_Terms_countAround_10 {p0 : Nat} {l2 : Int32} {d : Nat} {w : Nat × Nat × Nat} {m : zM} {Q : zM → Prop} (H : (((m.1 237 19) ≤ l2 → Q m) ∧ (¬ (m.1 237 19) ≤ l2 → W_Terms_countAround_16 d p0 l2 (0 : Int32) w m Q))) : W_Terms_countAround_10 d p0 l2 w m Q := by
  intro o3 o4 o5 o6
  refine mm_yrun (is := mm_k86) [10, 16, 32] 400 rfl ?_
  refine And.intro (rfl) ?_
  refine And.intro (fun q => ?_) (fun q => ?_)
  · replace H := H.1 q
    exact rV_mk (w := w) (m := m) H
  · replace H := H.2 q
    exact H _ _ _
theorem S_Terms_countAround_16 {p0 : Nat} {l2 : Int32} {l3 : Int32} {d : Nat} {w : Nat × Nat × Nat} {m : zM} {Q : zM → Prop} (H : cI d 156 [.ref 240, .int l2] w m (fun v1 m1 => ((v1 ≤ l3 → W_Terms_countAround_10 d p0 (l2 + (1 : Int32)) w m1 Q) ∧ (¬ v1 ≤ l3 → cI d 89 [.ref 237, .int l2, .int l3] w m1 (fun v2 m2 => cI d 88 [.ref 237, .ref p0, .int v2] w m2 (fun v3 m3 => W_Terms_countAround_32 d p0 l2 l3 v3 (0 : Int32) w m3 Q)))))) : W_Terms_countAround_16 d p0 l2 l3 w m Q := by
  intro o4 o5 o6
  refine mm_yrun (is := mm_k86) [10, 16, 32] 400 rfl ?_
  refine And.intro (And.intro (rfl) (by decide : ¬ 240 = 0)) ?_
  refine And.intro (trivial) ?_
  refine cI_use (w := w) (m := m) rfl H ?_
  intro v1 m1 H
  refine And.intro (fun q => ?_) (fun q => ?_)
  · replace H := H.1 q
    exact H _ _ _ _
  · replace H := H.2 q
    refine And.intro (rfl) ?_
    refine cI_use (w := w) (m := m1) rfl H ?_
    intro v2 m2 H
    refine And.intro (rfl) ?_
    refine cI_use (w := w) (m := m2) rfl H ?_
    intro v3 m3 H
    exact H _
theorem S_Terms_countAround_32 {p0 : Nat} {l2 : Int32} {l3 : Int32} {l4 : Int32} {l5 : Int32} {d : Nat} {w : Nat × Nat × Nat} {m : zM} {Q : zM → Prop} (H : ((l4 ≤ l5 → W_Terms_countAround_16 d p0 l2 (l3 + (1 : Int32)) w m Q) ∧ (¬ l4 ≤ l5 → cI d 156 [.ref 254, .int l5] w m (fun v1 m1 => cI d 156 [.ref 253, .int v1] w m1 (fun v2 m2 => ((v2 = (l2 + (1 : Int32)) → W_Terms_countAround_32 d p0 l2 l3 l4 (l5 + (1 : Int32)) w m2 Q) ∧ (¬ v2 = (l2 + (1 : Int32)) → cV d 158 [.ref 253, .int v1, .int (l2 + (1 : Int32))] w m2 (fun m3 => cI d 156 [.ref 252, .int v1] w m3 (fun v4 m4 => cV d 158 [.ref 252, .int v1, .int (v4 + (1 : Int32))] w m4 (fun m5 => cI d 156 [.ref 249, .int l2] w m5 (fun v6 m6 => cV d 158 [.ref 249, .int l2, .int (v6 + (1 : Int32))] w m6 (fun m7 => W_Terms_countAround_32 d p0 l2 l3 l4 (l5 + (1 : Int32)) w m7 Q)))))))))))) : W_Terms_countAround_32 d p0 l2 l3 l4 l5 w m Q := by
  intro o6
  refine mm_yrun (is := mm_k86) [10, 16, 32] 400 rfl ?_
  refine And.intro (fun q => ?_) (fun q => ?_)
  · replace H := H.1 q
    exact H _ _ _
  · replace H := H.2 q
    refine And.intro (And.intro (rfl) (by decide : ¬ 254 = 0)) ?_
    refine And.intro (trivial) ?_
    refine cI_use (w := w) (m := m) rfl H ?_
    intro v1 m1 H
    refine And.intro (And.intro (rfl) (by decide : ¬ 253 = 0)) ?_
    refine And.intro (trivial) ?_
    refine cI_use (w := w) (m := m1) rfl H ?_
    intro v2 m2 H
    refine And.intro (fun q => ?_) (fun q => ?_)
    · replace H := H.1 q
      exact H _
    · replace H := H.2 q
      refine And.intro (And.intro (rfl) (by decide : ¬ 253 = 0)) ?_
      refine And.intro (trivial) ?_
      refine cV_use (w := w) (m := m2) rfl H ?_
      intro m3 H
      refine And.intro (And.intro (rfl) (by decide : ¬ 252 = 0)) ?_
      refine And.intro (And.intro (rfl) (by decide : ¬ 252 = 0)) ?_
      refine And.intro (trivial) ?_
      refine cI_use (w := w) (m := m3) rfl H ?_
      intro v4 m4 H
      refine And.intro (trivial) ?_
      refine cV_use (w := w) (m := m4) rfl H ?_
      intro m5 H
      refine And.intro (And.intro (rfl) (by decide : ¬ 249 = 0)) ?_
      refine And.intro (And.intro (rfl) (by decide : ¬ 249 = 0)) ?_
      refine And.intro (trivial) ?_
      refine cI_use (w := w) (m := m5) rfl H ?_
      intro v6 m6 H
      refine And.intro (trivial) ?_
      refine cV_use (w := w) (m := m6) rfl H ?_
      intro m7 H
      exact H _

def W_Terms_sumNear_2 (d : Nat) (p0 : Nat) (l2 : Int32) (w : Nat × Nat × Nat) (m : zM) (Q : zM → Prop) : Prop := ∀ o3 o4 o5 : Option Value, mm_W (d + 1) 87 2 [some (.ref 237), some (.ref p0), some (.int l2), o3, o4, o5] [] (zE w m) (rV w Q)
def W_Terms_sumNear_20 (d : Nat) (p0 : Nat) (l2 : Int32) (l3 : Int32) (l4 : Int32) (l5 : Int32) (w : Nat × Nat × Nat) (m : zM) (Q : zM → Prop) : Prop := mm_W (d + 1) 87 20 [some (.ref 237), some (.ref p0), some (.int l2), some (.int l3), some (.int l4), some (.int l5)] [] (zE w m) (rV w Q)
theorem S_Terms_sumNear {p0 : Nat} {d : Nat} {w : Nat × Nat × Nat} {m : zM} {Q : zM → Prop} (H : W_Terms_sumNear_2 d p0 (0 : Int32) w m Q) : cV (d + 1) 87 [.ref 237, .ref p0] w m Q := by
  refine cV_in rfl ?_
  refine mm_yrun (is := mm_k87) [2, 20] 400 rfl ?_
  exact H _ _ _
theorem S_Terms_sumNear_2 {p0 : Nat} {l2 : Int32} {d : Nat} {w : Nat × Nat × Nat} {m : zM} {Q : zM → Prop} (H : (((m.1 228 8) ≤ l2 → Q m) ∧ (¬ (m.1 228 8) ≤ l2 → cI d 156 [.ref 233, .int l2] w m (fun v1 m1 => cI d 88 [.ref 237, .ref p0, .int l2] w m1 (fun v2 m2 => W_Terms_sumNear_20 d p0 l2 v1 v2 (0 : Int32) w m2 Q))))) : W_Terms_sumNear_2 d p0 l2 w m Q := by
  intro o3 o4 o5
  refine mm_yrun (is := mm_k87) [2, 20] 400 rfl ?_
  refine And.intro (And.intro (rfl) (by decide : ¬ 228 = 0)) ?_
  refine And.intro (rfl) ?_
  refine And.intro (fun q => ?_) (fun q => ?_)
  · replace H := H.1 q
    exact rV_mk (w := w) (m := m) H
  · replace H := H.2 q
    refine And.intro (And.intro (rfl) (by decide : ¬ 228 = 0)) ?_
    refine And.intro (And.intro (rfl) (by decide : ¬ 233 = 0)) ?_
    refine And.intro (trivial) ?_
    refine cI_use (w := w) (m := m) rfl H ?_
    intro v1 m1 H
    refine And.intro (rfl) ?_
    refine cI_use (w := w) (m := m1) rfl H ?_
    intro v2 m2 H
    exact H
theorem S_Terms_sumNear_20 {p0 : Nat} {l2 : Int32} {l3 : Int32} {l4 : Int32} {l5 : Int32} {d : Nat} {w : Nat × Nat × Nat} {m : zM} {Q : zM → Prop} (H : ((l4 ≤ l5 → W_Terms_sumNear_2 d p0 (l2 + (1 : Int32)) w m Q) ∧ (¬ l4 ≤ l5 → cI d 156 [.ref 250, .int l3] w m (fun v1 m1 => cI d 156 [.ref 254, .int l5] w m1 (fun v2 m2 => cI d 156 [.ref 252, .int v2] w m2 (fun v3 m3 => cV d 158 [.ref 250, .int l3, .int (v1 + v3)] w m3 (fun m4 => W_Terms_sumNear_20 d p0 l2 l3 l4 (l5 + (1 : Int32)) w m4 Q))))))) : W_Terms_sumNear_20 d p0 l2 l3 l4 l5 w m Q := by
  refine mm_yrun (is := mm_k87) [2, 20] 400 rfl ?_
  refine And.intro (fun q => ?_) (fun q => ?_)
  · replace H := H.1 q
    exact H _ _ _
  · replace H := H.2 q
    refine And.intro (And.intro (rfl) (by decide : ¬ 250 = 0)) ?_
    refine And.intro (And.intro (rfl) (by decide : ¬ 250 = 0)) ?_
    refine And.intro (trivial) ?_
    refine cI_use (w := w) (m := m) rfl H ?_
    intro v1 m1 H
    refine And.intro (And.intro (rfl) (by decide : ¬ 252 = 0)) ?_
    refine And.intro (And.intro (rfl) (by decide : ¬ 254 = 0)) ?_
    refine And.intro (trivial) ?_
    refine cI_use (w := w) (m := m1) rfl H ?_
    intro v2 m2 H
    refine And.intro (trivial) ?_
    refine cI_use (w := w) (m := m2) rfl H ?_
    intro v3 m3 H
    refine And.intro (trivial) ?_
    refine cV_use (w := w) (m := m3) rfl H ?_
    intro m4 H
    exact H

def W_Terms_findBeside_20 (d : Nat) (p0 : Nat) (l3 : Int32) (l4 : Int32) (l5 : Int32) (l6 : Int32) (w : Nat × Nat × Nat) (m : zM) (Q : Int32 → zM → Prop) : Prop := ∀ o2 : Option Value, mm_W (d + 1) 88 20 [some (.ref 237), some (.ref p0), o2, some (.int l3), some (.int l4), some (.int l5), some (.int l6)] [] (zE w m) (rI w Q)
theorem S_Terms_findBeside {p0 : Nat} {p1 : Int32} {d : Nat} {w : Nat × Nat × Nat} {m : zM} {Q : Int32 → zM → Prop} (H : cI d 156 [.ref 231, .int p1] w m (fun v1 m1 => cI d 156 [.ref 232, .int p1] w m1 (fun v2 m2 => W_Terms_findBeside_20 d p0 v1 ((v1 + v2) - (1 : Int32)) (0 : Int32) (1 : Int32) w m2 Q))) : cI (d + 1) 88 [.ref 237, .ref p0, .int p1] w m Q := by
  refine cI_in rfl ?_
  refine mm_yrun (is := mm_k88) [20] 400 rfl ?_
  refine And.intro (And.intro (rfl) (by decide : ¬ 228 = 0)) ?_
  refine And.intro (And.intro (rfl) (by decide : ¬ 231 = 0)) ?_
  refine And.intro (trivial) ?_
  refine cI_use (w := w) (m := m) rfl H ?_
  intro v1 m1 H
  refine And.intro (And.intro (rfl) (by decide : ¬ 228 = 0)) ?_
  refine And.intro (And.intro (rfl) (by decide : ¬ 232 = 0)) ?_
  refine And.intro (trivial) ?_
  refine cI_use (w := w) (m := m1) rfl H ?_
  intro v2 m2 H
  exact H _
theorem R_Terms_findBeside_20 {p0 : Nat} {l3 : Int32} {l4 : Int32} {l5 : Int32} {l6 : Int32} {p0_3 : Nat} {d : Nat} {w : Nat × Nat × Nat} {m : zM} {Q : Int32 → zM → Prop} (he_p0_3 : zR w.2.1 w.2.2 p0 3 = p0_3) (hk_p0 : (zK w.1 p0).1 = 9) (hn_p0_3 : ¬ p0_3 = 0) (hk_p0_3 : (zK w.1 p0_3).1 = 6) (H : (((m.1 p0 12) < l6 → Q l5 m) ∧ (¬ (m.1 p0 12) < l6 → (((3 : Int32) < l6 → Q l5 m) ∧ (¬ (3 : Int32) < l6 → cI d 59 [.ref p0_3, .int (l3 - l6), .int l3] w m (fun v1 m1 => ((v1 = 0 → cI d 59 [.ref p0_3, .int l4, .int (l4 + l6)] w m1 (fun v2 m2 => ((v2 = 0 → W_Terms_findBeside_20 d p0 l3 l4 l5 (l6 + (1 : Int32)) w m2 Q) ∧ (¬ v2 = 0 → cI d 156 [.ref 223, .int (l4 + l6)] w m2 (fun v3 m3 => cV d 158 [.ref 254, .int l5, .int v3] w m3 (fun m4 => W_Terms_findBeside_20 d p0 l3 l4 (l5 + (1 : Int32)) (l6 + (1 : Int32)) w m4 Q)))))) ∧ (¬ v1 = 0 → cI d 156 [.ref 223, .int (l3 - l6)] w m1 (fun v5 m5 => cV d 158 [.ref 254, .int l5, .int v5] w m5 (fun m6 => cI d 59 [.ref p0_3, .int l4, .int (l4 + l6)] w m6 (fun v7 m7 => ((v7 = 0 → W_Terms_findBeside_20 d p0 l3 l4 (l5 + (1 : Int32)) (l6 + (1 : Int32)) w m7 Q) ∧ (¬ v7 = 0 → cI d 156 [.ref 223, .int (l4 + l6)] w m7 (fun v8 m8 => cV d 158 [.ref 254, .int (l5 + (1 : Int32)), .int v8] w m8 (fun m9 => W_Terms_findBeside_20 d p0 l3 l4 ((l5 + (1 : Int32)) + (1 : Int32)) (l6 + (1 : Int32)) w m9 Q))))))))))))))) : W_Terms_findBeside_20 d p0 l3 l4 l5 l6 w m Q := by
  subst he_p0_3
  intro o2
  refine mm_yrun (is := mm_k88) [20] 400 rfl ?_
  refine And.intro (hk_p0) ?_
  refine And.intro (fun q => ?_) (fun q => ?_)
  · replace H := H.1 q
    exact rI_mk (w := w) (m := m) H
  · replace H := H.2 q
    refine And.intro (fun q => ?_) (fun q => ?_)
    · replace H := H.1 q
      exact rI_mk (w := w) (m := m) H
    · replace H := H.2 q
      refine And.intro (And.intro (hk_p0) hn_p0_3) ?_
      refine And.intro (hk_p0_3) ?_
      refine cI_use (w := w) (m := m) rfl H ?_
      intro v1 m1 H
      refine And.intro (fun q => ?_) (fun q => ?_)
      · replace H := H.1 q
        refine And.intro (And.intro (hk_p0) hn_p0_3) ?_
        refine And.intro (hk_p0_3) ?_
        refine cI_use (w := w) (m := m1) rfl H ?_
        intro v2 m2 H
        refine And.intro (fun q => ?_) (fun q => ?_)
        · replace H := H.1 q
          exact H _
        · replace H := H.2 q
          refine And.intro (And.intro (rfl) (by decide : ¬ 254 = 0)) ?_
          refine And.intro (And.intro (rfl) (by decide : ¬ 220 = 0)) ?_
          refine And.intro (And.intro (rfl) (by decide : ¬ 223 = 0)) ?_
          refine And.intro (trivial) ?_
          refine cI_use (w := w) (m := m2) rfl H ?_
          intro v3 m3 H
          refine And.intro (trivial) ?_
          refine cV_use (w := w) (m := m3) rfl H ?_
          intro m4 H
          exact H _
      · replace H := H.2 q
        refine And.intro (And.intro (rfl) (by decide : ¬ 254 = 0)) ?_
        refine And.intro (And.intro (rfl) (by decide : ¬ 220 = 0)) ?_
        refine And.intro (And.intro (rfl) (by decide : ¬ 223 = 0)) ?_
        refine And.intro (trivial) ?_
        refine cI_use (w := w) (m := m1) rfl H ?_
        intro v5 m5 H
        refine And.intro (trivial) ?_
        refine cV_use (w := w) (m := m5) rfl H ?_
        intro m6 H
        refine And.intro (And.intro (hk_p0) hn_p0_3) ?_
        refine And.intro (hk_p0_3) ?_
        refine cI_use (w := w) (m := m6) rfl H ?_
        intro v7 m7 H
        refine And.intro (fun q => ?_) (fun q => ?_)
        · replace H := H.1 q
          exact H _
        · replace H := H.2 q
          refine And.intro (And.intro (rfl) (by decide : ¬ 254 = 0)) ?_
          refine And.intro (And.intro (rfl) (by decide : ¬ 220 = 0)) ?_
          refine And.intro (And.intro (rfl) (by decide : ¬ 223 = 0)) ?_
          refine And.intro (trivial) ?_
          refine cI_use (w := w) (m := m7) rfl H ?_
          intro v8 m8 H
          refine And.intro (trivial) ?_
          refine cV_use (w := w) (m := m8) rfl H ?_
          intro m9 H
          exact H _
theorem S_Terms_findBeside_20 {p0 : Nat} {l3 : Int32} {l4 : Int32} {l5 : Int32} {l6 : Int32} {d : Nat} {w : Nat × Nat × Nat} {m : zM} {Q : Int32 → zM → Prop} (hp_p0 : zT p0) (H : (((m.1 p0 12) < l6 → Q l5 m) ∧ (¬ (m.1 p0 12) < l6 → (((3 : Int32) < l6 → Q l5 m) ∧ (¬ (3 : Int32) < l6 → cI d 59 [.ref (p0 + 10), .int (l3 - l6), .int l3] w m (fun v1 m1 => ((v1 = 0 → cI d 59 [.ref (p0 + 10), .int l4, .int (l4 + l6)] w m1 (fun v2 m2 => ((v2 = 0 → W_Terms_findBeside_20 d p0 l3 l4 l5 (l6 + (1 : Int32)) w m2 Q) ∧ (¬ v2 = 0 → cI d 156 [.ref 223, .int (l4 + l6)] w m2 (fun v3 m3 => cV d 158 [.ref 254, .int l5, .int v3] w m3 (fun m4 => W_Terms_findBeside_20 d p0 l3 l4 (l5 + (1 : Int32)) (l6 + (1 : Int32)) w m4 Q)))))) ∧ (¬ v1 = 0 → cI d 156 [.ref 223, .int (l3 - l6)] w m1 (fun v5 m5 => cV d 158 [.ref 254, .int l5, .int v5] w m5 (fun m6 => cI d 59 [.ref (p0 + 10), .int l4, .int (l4 + l6)] w m6 (fun v7 m7 => ((v7 = 0 → W_Terms_findBeside_20 d p0 l3 l4 (l5 + (1 : Int32)) (l6 + (1 : Int32)) w m7 Q) ∧ (¬ v7 = 0 → cI d 156 [.ref 223, .int (l4 + l6)] w m7 (fun v8 m8 => cV d 158 [.ref 254, .int (l5 + (1 : Int32)), .int v8] w m8 (fun m9 => W_Terms_findBeside_20 d p0 l3 l4 ((l5 + (1 : Int32)) + (1 : Int32)) (l6 + (1 : Int32)) w m9 Q))))))))))))))) : W_Terms_findBeside_20 d p0 l3 l4 l5 l6 w m Q := R_Terms_findBeside_20 (zT_e3 hp_p0) (zT_k hp_p0) (Nat.succ_ne_zero _) (zT_pr hp_p0).1 H

theorem S_Terms_matchOf {p0 : Int32} {p1 : Int32} {d : Nat} {w : Nat × Nat × Nat} {m : zM} {Q : Int32 → zM → Prop} (H : cI d 156 [.ref 239, .int p0] w m (fun v1 m1 => cI d 156 [.ref 229, .int (v1 + p1)] w m1 (fun v2 m2 => Q v2 m2))) : cI (d + 1) 89 [.ref 237, .int p0, .int p1] w m Q := by
  refine cI_in rfl ?_
  refine mm_yrun (is := mm_k89) [] 400 rfl ?_
  refine And.intro (And.intro (rfl) (by decide : ¬ 228 = 0)) ?_
  refine And.intro (And.intro (rfl) (by decide : ¬ 229 = 0)) ?_
  refine And.intro (And.intro (rfl) (by decide : ¬ 239 = 0)) ?_
  refine And.intro (trivial) ?_
  refine cI_use (w := w) (m := m) rfl H ?_
  intro v1 m1 H
  refine And.intro (trivial) ?_
  refine cI_use (w := w) (m := m1) rfl H ?_
  intro v2 m2 H
  exact rI_mk (w := w) (m := m2) H

theorem S_Terms_lengthOf {p0 : Int32} {d : Nat} {w : Nat × Nat × Nat} {m : zM} {Q : Int32 → zM → Prop} (H : cL d 157 [.ref 238, .int p0] w m (fun v1 m1 => cI d 173 [.long v1] w m1 (fun v2 m2 => Q v2 m2))) : cI (d + 1) 90 [.ref 237, .int p0] w m Q := by
  refine cI_in rfl ?_
  refine mm_yrun (is := mm_k90) [] 400 rfl ?_
  refine And.intro (And.intro (rfl) (by decide : ¬ 238 = 0)) ?_
  refine And.intro (trivial) ?_
  refine cL_use (w := w) (m := m) rfl H ?_
  intro v1 m1 H
  refine And.intro (trivial) ?_
  refine cI_use (w := w) (m := m1) rfl H ?_
  intro v2 m2 H
  exact rI_mk (w := w) (m := m2) H

theorem S_Terms_placeOf {p0 : Int64} {d : Nat} {w : Nat × Nat × Nat} {m : zM} {Q : Int32 → zM → Prop} (H : cI d 165 [.ref 238, .int (m.1 237 19), .long p0] w m (fun v1 m1 => Q v1 m1)) : cI (d + 1) 91 [.ref 237, .long p0] w m Q := by
  refine cI_in rfl ?_
  refine mm_yrun (is := mm_k91) [] 400 rfl ?_
  refine And.intro (And.intro (rfl) (by decide : ¬ 238 = 0)) ?_
  refine And.intro (rfl) ?_
  refine And.intro (trivial) ?_
  refine cI_use (w := w) (m := m) rfl H ?_
  intro v1 m1 H
  exact rI_mk (w := w) (m := m1) H

def W_Terms_inDoc_4 (d : Nat) (l1 : Int32) (l2 : Int32) (l3 : Int32) (w : Nat × Nat × Nat) (m : zM) (Q : Int32 → zM → Prop) : Prop := mm_W (d + 1) 92 4 [some (.ref 237), some (.int l1), some (.int l2), some (.int l3)] [] (zE w m) (rI w Q)
theorem S_Terms_inDoc {p0 : Int32} {d : Nat} {w : Nat × Nat × Nat} {m : zM} {Q : Int32 → zM → Prop} (H : W_Terms_inDoc_4 d p0 (0 : Int32) (0 : Int32) w m Q) : cI (d + 1) 92 [.ref 237, .int p0] w m Q := by
  refine cI_in rfl ?_
  refine mm_yrun (is := mm_k92) [4] 400 rfl ?_
  exact H
theorem S_Terms_inDoc_4 {l1 : Int32} {l2 : Int32} {l3 : Int32} {d : Nat} {w : Nat × Nat × Nat} {m : zM} {Q : Int32 → zM → Prop} (H : (((m.1 237 19) ≤ l3 → Q l2 m) ∧ (¬ (m.1 237 19) ≤ l3 → cI d 156 [.ref 248, .int l3] w m (fun v1 m1 => W_Terms_inDoc_4 d l1 (l2 + (((v1).toUInt32 >>> ((l1).toUInt32 &&& Int32.toUInt32 31)).toInt32 &&& (1 : Int32))) (l3 + (1 : Int32)) w m1 Q)))) : W_Terms_inDoc_4 d l1 l2 l3 w m Q := by
  refine mm_yrun (is := mm_k92) [4] 400 rfl ?_
  refine And.intro (rfl) ?_
  refine And.intro (fun q => ?_) (fun q => ?_)
  · replace H := H.1 q
    exact rI_mk (w := w) (m := m) H
  · replace H := H.2 q
    refine And.intro (And.intro (rfl) (by decide : ¬ 248 = 0)) ?_
    refine And.intro (trivial) ?_
    refine cI_use (w := w) (m := m) rfl H ?_
    intro v1 m1 H
    exact H

theorem S_Terms_toldOf {p0 : Int32} {p1 : Int32} {d : Nat} {w : Nat × Nat × Nat} {m : zM} {Q : Int32 → zM → Prop} (H : ((p1 = (0 : Int32) → cI d 156 [.ref 240, .int p0] w m (fun v1 m1 => Q v1 m1)) ∧ (¬ p1 = (0 : Int32) → ((p1 = (1 : Int32) → cI d 156 [.ref 241, .int p0] w m (fun v2 m2 => Q v2 m2)) ∧ (¬ p1 = (1 : Int32) → ((p1 = (2 : Int32) → cI d 156 [.ref 242, .int p0] w m (fun v3 m3 => Q v3 m3)) ∧ (¬ p1 = (2 : Int32) → ((p1 = (3 : Int32) → cI d 156 [.ref 243, .int p0] w m (fun v4 m4 => Q v4 m4)) ∧ (¬ p1 = (3 : Int32) → ((p1 = (4 : Int32) → cI d 156 [.ref 244, .int p0] w m (fun v5 m5 => Q v5 m5)) ∧ (¬ p1 = (4 : Int32) → ((p1 = (5 : Int32) → cI d 156 [.ref 247, .int p0] w m (fun v6 m6 => Q v6 m6)) ∧ (¬ p1 = (5 : Int32) → ((p1 = (6 : Int32) → cI d 90 [.ref 237, .int p0] w m (fun v7 m7 => Q v7 m7)) ∧ (¬ p1 = (6 : Int32) → ((p1 = (7 : Int32) → cI d 156 [.ref 248, .int p0] w m (fun v8 m8 => Q v8 m8)) ∧ (¬ p1 = (7 : Int32) → ((p1 = (8 : Int32) → cI d 156 [.ref 249, .int p0] w m (fun v9 m9 => Q v9 m9)) ∧ (¬ p1 = (8 : Int32) → ((p1 = (9 : Int32) → cI d 156 [.ref 246, .int p0] w m (fun v10 m10 => Q v10 m10)) ∧ (¬ p1 = (9 : Int32) → Q ((-1) : Int32) m))))))))))))))))))))) : cI (d + 1) 93 [.ref 237, .int p0, .int p1] w m Q := by
  refine cI_in rfl ?_
  refine mm_yrun (is := mm_k93) [] 400 rfl ?_
  refine And.intro (fun q => ?_) (fun q => ?_)
  · replace H := H.1 q
    refine And.intro (And.intro (rfl) (by decide : ¬ 240 = 0)) ?_
    refine And.intro (trivial) ?_
    refine cI_use (w := w) (m := m) rfl H ?_
    intro v1 m1 H
    exact rI_mk (w := w) (m := m1) H
  · replace H := H.2 q
    refine And.intro (fun q => ?_) (fun q => ?_)
    · replace H := H.1 q
      refine And.intro (And.intro (rfl) (by decide : ¬ 241 = 0)) ?_
      refine And.intro (trivial) ?_
      refine cI_use (w := w) (m := m) rfl H ?_
      intro v2 m2 H
      exact rI_mk (w := w) (m := m2) H
    · replace H := H.2 q
      refine And.intro (fun q => ?_) (fun q => ?_)
      · replace H := H.1 q
        refine And.intro (And.intro (rfl) (by decide : ¬ 242 = 0)) ?_
        refine And.intro (trivial) ?_
        refine cI_use (w := w) (m := m) rfl H ?_
        intro v3 m3 H
        exact rI_mk (w := w) (m := m3) H
      · replace H := H.2 q
        refine And.intro (fun q => ?_) (fun q => ?_)
        · replace H := H.1 q
          refine And.intro (And.intro (rfl) (by decide : ¬ 243 = 0)) ?_
          refine And.intro (trivial) ?_
          refine cI_use (w := w) (m := m) rfl H ?_
          intro v4 m4 H
          exact rI_mk (w := w) (m := m4) H
        · replace H := H.2 q
          refine And.intro (fun q => ?_) (fun q => ?_)
          · replace H := H.1 q
            refine And.intro (And.intro (rfl) (by decide : ¬ 244 = 0)) ?_
            refine And.intro (trivial) ?_
            refine cI_use (w := w) (m := m) rfl H ?_
            intro v5 m5 H
            exact rI_mk (w := w) (m := m5) H
          · replace H := H.2 q
            refine And.intro (fun q => ?_) (fun q => ?_)
            · replace H := H.1 q
              refine And.intro (And.intro (rfl) (by decide : ¬ 247 = 0)) ?_
              refine And.intro (trivial) ?_
              refine cI_use (w := w) (m := m) rfl H ?_
              intro v6 m6 H
              exact rI_mk (w := w) (m := m6) H
            · replace H := H.2 q
              refine And.intro (fun q => ?_) (fun q => ?_)
              · replace H := H.1 q
                refine And.intro (rfl) ?_
                refine cI_use (w := w) (m := m) rfl H ?_
                intro v7 m7 H
                exact rI_mk (w := w) (m := m7) H
              · replace H := H.2 q
                refine And.intro (fun q => ?_) (fun q => ?_)
                · replace H := H.1 q
                  refine And.intro (And.intro (rfl) (by decide : ¬ 248 = 0)) ?_
                  refine And.intro (trivial) ?_
                  refine cI_use (w := w) (m := m) rfl H ?_
                  intro v8 m8 H
                  exact rI_mk (w := w) (m := m8) H
                · replace H := H.2 q
                  refine And.intro (fun q => ?_) (fun q => ?_)
                  · replace H := H.1 q
                    refine And.intro (And.intro (rfl) (by decide : ¬ 249 = 0)) ?_
                    refine And.intro (trivial) ?_
                    refine cI_use (w := w) (m := m) rfl H ?_
                    intro v9 m9 H
                    exact rI_mk (w := w) (m := m9) H
                  · replace H := H.2 q
                    refine And.intro (fun q => ?_) (fun q => ?_)
                    · replace H := H.1 q
                      refine And.intro (And.intro (rfl) (by decide : ¬ 246 = 0)) ?_
                      refine And.intro (trivial) ?_
                      refine cI_use (w := w) (m := m) rfl H ?_
                      intro v10 m10 H
                      exact rI_mk (w := w) (m := m10) H
                    · replace H := H.2 q
                      exact rI_mk (w := w) (m := m) H

def W_Terms_longerAt_4 (d : Nat) (l1 : Int32) (l2 : Int32) (l3 : Int32) (l4 : Int32) (w : Nat × Nat × Nat) (m : zM) (Q : Int32 → zM → Prop) : Prop := mm_W (d + 1) 94 4 [some (.ref 237), some (.int l1), some (.int l2), some (.int l3), some (.int l4)] [] (zE w m) (rI w Q)
theorem S_Terms_longerAt {p0 : Int32} {p1 : Int32} {d : Nat} {w : Nat × Nat × Nat} {m : zM} {Q : Int32 → zM → Prop} (H : W_Terms_longerAt_4 d p0 p1 (0 : Int32) (0 : Int32) w m Q) : cI (d + 1) 94 [.ref 237, .int p0, .int p1] w m Q := by
  refine cI_in rfl ?_
  refine mm_yrun (is := mm_k94) [4] 400 rfl ?_
  exact H
theorem S_Terms_longerAt_4 {l1 : Int32} {l2 : Int32} {l3 : Int32} {l4 : Int32} {d : Nat} {w : Nat × Nat × Nat} {m : zM} {Q : Int32 → zM → Prop} (H : (((m.1 237 19) ≤ l4 → Q ((-1) : Int32) m) ∧ (¬ (m.1 237 19) ≤ l4 → cI d 90 [.ref 237, .int l4] w m (fun v1 m1 => cI d 90 [.ref 237, .int l1] w m1 (fun v2 m2 => ((v1 ≤ v2 → W_Terms_longerAt_4 d l1 l2 l3 (l4 + (1 : Int32)) w m2 Q) ∧ (¬ v1 ≤ v2 → cL d 157 [.ref 238, .int l4] w m2 (fun v3 m3 => cL d 157 [.ref 238, .int l1] w m3 (fun v4 m4 => cI d 175 [.long v3, .long v4] w m4 (fun v5 m5 => ((v5 = 0 → W_Terms_longerAt_4 d l1 l2 l3 (l4 + (1 : Int32)) w m5 Q) ∧ (¬ v5 = 0 → ((¬ l3 = l2 → W_Terms_longerAt_4 d l1 l2 (l3 + (1 : Int32)) (l4 + (1 : Int32)) w m5 Q) ∧ (l3 = l2 → Q l4 m5)))))))))))))) : W_Terms_longerAt_4 d l1 l2 l3 l4 w m Q := by
  refine mm_yrun (is := mm_k94) [4] 400 rfl ?_
  refine And.intro (rfl) ?_
  refine And.intro (fun q => ?_) (fun q => ?_)
  · replace H := H.1 q
    exact rI_mk (w := w) (m := m) H
  · replace H := H.2 q
    refine And.intro (rfl) ?_
    refine cI_use (w := w) (m := m) rfl H ?_
    intro v1 m1 H
    refine And.intro (rfl) ?_
    refine cI_use (w := w) (m := m1) rfl H ?_
    intro v2 m2 H
    refine And.intro (fun q => ?_) (fun q => ?_)
    · replace H := H.1 q
      exact H
    · replace H := H.2 q
      refine And.intro (And.intro (rfl) (by decide : ¬ 238 = 0)) ?_
      refine And.intro (trivial) ?_
      refine cL_use (w := w) (m := m2) rfl H ?_
      intro v3 m3 H
      refine And.intro (And.intro (rfl) (by decide : ¬ 238 = 0)) ?_
      refine And.intro (trivial) ?_
      refine cL_use (w := w) (m := m3) rfl H ?_
      intro v4 m4 H
      refine And.intro (trivial) ?_
      refine cI_use (w := w) (m := m4) rfl H ?_
      intro v5 m5 H
      refine And.intro (fun q => ?_) (fun q => ?_)
      · replace H := H.1 q
        exact H
      · replace H := H.2 q
        refine And.intro (fun q => ?_) (fun q => ?_)
        · replace H := H.1 q
          exact H
        · replace H := H.2 (Classical.not_not.mp q)
          exact rI_mk (w := w) (m := m5) H

def W_Terms_baseAround_6 (d : Nat) (p0 : Nat) (l2 : Int32) (l3 : Int32) (l4 : Int32) (w : Nat × Nat × Nat) (m : zM) (Q : Int32 → zM → Prop) : Prop := ∀ o5 o6 o7 : Option Value, mm_W (d + 1) 95 6 [some (.ref 237), some (.ref p0), some (.int l2), some (.int l3), some (.int l4), o5, o6, o7] [] (zE w m) (rI w Q)
def W_Terms_baseAround_22 (d : Nat) (p0 : Nat) (l2 : Int32) (l3 : Int32) (l4 : Int32) (l5 : Int32) (l6 : Int32) (w : Nat × Nat × Nat) (m : zM) (Q : Int32 → zM → Prop) : Prop := ∀ o7 : Option Value, mm_W (d + 1) 95 22 [some (.ref 237), some (.ref p0), some (.int l2), some (.int l3), some (.int l4), some (.int l5), some (.int l6), o7] [] (zE w m) (rI w Q)
theorem S_Terms_baseAround {p0 : Nat} {p1 : Int32} {p2 : Int32} {d : Nat} {w : Nat × Nat × Nat} {m : zM} {Q : Int32 → zM → Prop} (H : cV d 160 [.ref 253, .int (240 : Int32)] w m (fun m1 => W_Terms_baseAround_6 d p0 p1 p2 (0 : Int32) w m1 Q)) : cI (d + 1) 95 [.ref 237, .ref p0, .int p1, .int p2] w m Q := by
  refine cI_in rfl ?_
  refine mm_yrun (is := mm_k95) [6, 22] 400 rfl ?_
  refine And.intro (And.intro (rfl) (by decide : ¬ 253 = 0)) ?_
  refine And.intro (trivial) ?_
  refine cV_use (w := w) (m := m) rfl H ?_
  intro m1 H
  exact H _ _ _
theorem S_Terms_baseAround_6 {p0 : Nat} {l2 : Int32} {l3 : Int32} {l4 : Int32} {d : Nat} {w : Nat × Nat × Nat} {m : zM} {Q : Int32 → zM → Prop} (H : cI d 156 [.ref 240, .int l2] w m (fun v1 m1 => ((v1 ≤ l4 → cI d 96 [.ref 237, .int l3] w m1 (fun v2 m2 => Q v2 m2)) ∧ (¬ v1 ≤ l4 → cI d 89 [.ref 237, .int l2, .int l4] w m1 (fun v3 m3 => cI d 88 [.ref 237, .ref p0, .int v3] w m3 (fun v4 m4 => W_Terms_baseAround_22 d p0 l2 l3 l4 v4 (0 : Int32) w m4 Q)))))) : W_Terms_baseAround_6 d p0 l2 l3 l4 w m Q := by
  intro o5 o6 o7
  refine mm_yrun (is := mm_k95) [6, 22] 400 rfl ?_
  refine And.intro (And.intro (rfl) (by decide : ¬ 240 = 0)) ?_
  refine And.intro (trivial) ?_
  refine cI_use (w := w) (m := m) rfl H ?_
  intro v1 m1 H
  refine And.intro (fun q => ?_) (fun q => ?_)
  · replace H := H.1 q
    refine And.intro (rfl) ?_
    refine cI_use (w := w) (m := m1) rfl H ?_
    intro v2 m2 H
    exact rI_mk (w := w) (m := m2) H
  · replace H := H.2 q
    refine And.intro (rfl) ?_
    refine cI_use (w := w) (m := m1) rfl H ?_
    intro v3 m3 H
    refine And.intro (rfl) ?_
    refine cI_use (w := w) (m := m3) rfl H ?_
    intro v4 m4 H
    exact H _
theorem S_Terms_baseAround_22 {p0 : Nat} {l2 : Int32} {l3 : Int32} {l4 : Int32} {l5 : Int32} {l6 : Int32} {d : Nat} {w : Nat × Nat × Nat} {m : zM} {Q : Int32 → zM → Prop} (H : ((l5 ≤ l6 → W_Terms_baseAround_6 d p0 l2 l3 (l4 + (1 : Int32)) w m Q) ∧ (¬ l5 ≤ l6 → cI d 156 [.ref 254, .int l6] w m (fun v1 m1 => cI d 156 [.ref 253, .int v1] w m1 (fun v2 m2 => cV d 158 [.ref 253, .int v1, .int (v2 + (1 : Int32))] w m2 (fun m3 => W_Terms_baseAround_22 d p0 l2 l3 l4 l5 (l6 + (1 : Int32)) w m3 Q)))))) : W_Terms_baseAround_22 d p0 l2 l3 l4 l5 l6 w m Q := by
  intro o7
  refine mm_yrun (is := mm_k95) [6, 22] 400 rfl ?_
  refine And.intro (fun q => ?_) (fun q => ?_)
  · replace H := H.1 q
    exact H _ _ _
  · replace H := H.2 q
    refine And.intro (And.intro (rfl) (by decide : ¬ 254 = 0)) ?_
    refine And.intro (trivial) ?_
    refine cI_use (w := w) (m := m) rfl H ?_
    intro v1 m1 H
    refine And.intro (And.intro (rfl) (by decide : ¬ 253 = 0)) ?_
    refine And.intro (And.intro (rfl) (by decide : ¬ 253 = 0)) ?_
    refine And.intro (trivial) ?_
    refine cI_use (w := w) (m := m1) rfl H ?_
    intro v2 m2 H
    refine And.intro (trivial) ?_
    refine cV_use (w := w) (m := m2) rfl H ?_
    intro m3 H
    exact H _

def W_Terms_tallied_4 (d : Nat) (l1 : Int32) (l2 : Int32) (l3 : Int32) (w : Nat × Nat × Nat) (m : zM) (Q : Int32 → zM → Prop) : Prop := mm_W (d + 1) 96 4 [some (.ref 237), some (.int l1), some (.int l2), some (.int l3)] [] (zE w m) (rI w Q)
theorem S_Terms_tallied {p0 : Int32} {d : Nat} {w : Nat × Nat × Nat} {m : zM} {Q : Int32 → zM → Prop} (H : W_Terms_tallied_4 d p0 (0 : Int32) (0 : Int32) w m Q) : cI (d + 1) 96 [.ref 237, .int p0] w m Q := by
  refine cI_in rfl ?_
  refine mm_yrun (is := mm_k96) [4] 400 rfl ?_
  exact H
theorem S_Terms_tallied_4 {l1 : Int32} {l2 : Int32} {l3 : Int32} {d : Nat} {w : Nat × Nat × Nat} {m : zM} {Q : Int32 → zM → Prop} (H : (((m.1 220 7) ≤ l3 → Q ((-1) : Int32) m) ∧ (¬ (m.1 220 7) ≤ l3 → cI d 156 [.ref 253, .int l3] w m (fun v1 m1 => ((v1 ≤ 0 → W_Terms_tallied_4 d l1 l2 (l3 + (1 : Int32)) w m1 Q) ∧ (¬ v1 ≤ 0 → ((¬ l2 = l1 → W_Terms_tallied_4 d l1 (l2 + (1 : Int32)) (l3 + (1 : Int32)) w m1 Q) ∧ (l2 = l1 → Q l3 m1)))))))) : W_Terms_tallied_4 d l1 l2 l3 w m Q := by
  refine mm_yrun (is := mm_k96) [4] 400 rfl ?_
  refine And.intro (And.intro (rfl) (by decide : ¬ 220 = 0)) ?_
  refine And.intro (rfl) ?_
  refine And.intro (fun q => ?_) (fun q => ?_)
  · replace H := H.1 q
    exact rI_mk (w := w) (m := m) H
  · replace H := H.2 q
    refine And.intro (And.intro (rfl) (by decide : ¬ 253 = 0)) ?_
    refine And.intro (trivial) ?_
    refine cI_use (w := w) (m := m) rfl H ?_
    intro v1 m1 H
    refine And.intro (fun q => ?_) (fun q => ?_)
    · replace H := H.1 q
      exact H
    · replace H := H.2 q
      refine And.intro (fun q => ?_) (fun q => ?_)
      · replace H := H.1 q
        exact H
      · replace H := H.2 (Classical.not_not.mp q)
        exact rI_mk (w := w) (m := m1) H

theorem S_Terms_likelyOf {p0 : Int32} {d : Nat} {w : Nat × Nat × Nat} {m : zM} {Q : Int32 → zM → Prop} (H : cI d 156 [.ref 252, .int p0] w m (fun v1 m1 => Q v1 m1)) : cI (d + 1) 97 [.ref 237, .int p0] w m Q := by
  refine cI_in rfl ?_
  refine mm_yrun (is := mm_k97) [] 400 rfl ?_
  refine And.intro (And.intro (rfl) (by decide : ¬ 252 = 0)) ?_
  refine And.intro (trivial) ?_
  refine cI_use (w := w) (m := m) rfl H ?_
  intro v1 m1 H
  exact rI_mk (w := w) (m := m1) H

theorem S_Terms_lastOf {p0 : Int32} {d : Nat} {w : Nat × Nat × Nat} {m : zM} {Q : Int32 → zM → Prop} (H : cL d 157 [.ref 238, .int p0] w m (fun v1 m1 => cI d 90 [.ref 237, .int p0] w m1 (fun v2 m2 => cI d 172 [.long v1, .int (v2 - (1 : Int32))] w m2 (fun v3 m3 => Q v3 m3)))) : cI (d + 1) 98 [.ref 237, .int p0] w m Q := by
  refine cI_in rfl ?_
  refine mm_yrun (is := mm_k98) [] 400 rfl ?_
  refine And.intro (And.intro (rfl) (by decide : ¬ 238 = 0)) ?_
  refine And.intro (trivial) ?_
  refine cL_use (w := w) (m := m) rfl H ?_
  intro v1 m1 H
  refine And.intro (rfl) ?_
  refine cI_use (w := w) (m := m1) rfl H ?_
  intro v2 m2 H
  refine And.intro (trivial) ?_
  refine cI_use (w := w) (m := m2) rfl H ?_
  intro v3 m3 H
  exact rI_mk (w := w) (m := m3) H

def W_Terms_tallyHeads_8 (d : Nat) (l1 : Int32) (l2 : Int32) (w : Nat × Nat × Nat) (m : zM) (Q : Int32 → zM → Prop) : Prop := ∀ o3 : Option Value, mm_W (d + 1) 99 8 [some (.ref 237), some (.int l1), some (.int l2), o3] [] (zE w m) (rI w Q)
theorem S_Terms_tallyHeads  {d : Nat} {w : Nat × Nat × Nat} {m : zM} {Q : Int32 → zM → Prop} (H : cV d 160 [.ref 253, .int (240 : Int32)] w m (fun m1 => W_Terms_tallyHeads_8 d (0 : Int32) (0 : Int32) w m1 Q)) : cI (d + 1) 99 [.ref 237] w m Q := by
  refine cI_in rfl ?_
  refine mm_yrun (is := mm_k99) [8] 400 rfl ?_
  refine And.intro (And.intro (rfl) (by decide : ¬ 253 = 0)) ?_
  refine And.intro (trivial) ?_
  refine cV_use (w := w) (m := m) rfl H ?_
  intro m1 H
  exact H _
theorem S_Terms_tallyHeads_8 {l1 : Int32} {l2 : Int32} {d : Nat} {w : Nat × Nat × Nat} {m : zM} {Q : Int32 → zM → Prop} (H : (((m.1 237 19) ≤ l2 → Q l1 m) ∧ (¬ (m.1 237 19) ≤ l2 → cI d 98 [.ref 237, .int l2] w m (fun v1 m1 => cI d 156 [.ref 253, .int v1] w m1 (fun v2 m2 => ((¬ v2 = 0 → cI d 156 [.ref 253, .int v1] w m2 (fun v3 m3 => cV d 158 [.ref 253, .int v1, .int (v3 + (1 : Int32))] w m3 (fun m4 => W_Terms_tallyHeads_8 d l1 (l2 + (1 : Int32)) w m4 Q))) ∧ (v2 = 0 → cI d 156 [.ref 253, .int v1] w m2 (fun v5 m5 => cV d 158 [.ref 253, .int v1, .int (v5 + (1 : Int32))] w m5 (fun m6 => W_Terms_tallyHeads_8 d (l1 + (1 : Int32)) (l2 + (1 : Int32)) w m6 Q))))))))) : W_Terms_tallyHeads_8 d l1 l2 w m Q := by
  intro o3
  refine mm_yrun (is := mm_k99) [8] 400 rfl ?_
  refine And.intro (rfl) ?_
  refine And.intro (fun q => ?_) (fun q => ?_)
  · replace H := H.1 q
    exact rI_mk (w := w) (m := m) H
  · replace H := H.2 q
    refine And.intro (rfl) ?_
    refine cI_use (w := w) (m := m) rfl H ?_
    intro v1 m1 H
    refine And.intro (And.intro (rfl) (by decide : ¬ 253 = 0)) ?_
    refine And.intro (trivial) ?_
    refine cI_use (w := w) (m := m1) rfl H ?_
    intro v2 m2 H
    refine And.intro (fun q => ?_) (fun q => ?_)
    · replace H := H.1 q
      refine And.intro (And.intro (rfl) (by decide : ¬ 253 = 0)) ?_
      refine And.intro (And.intro (rfl) (by decide : ¬ 253 = 0)) ?_
      refine And.intro (trivial) ?_
      refine cI_use (w := w) (m := m2) rfl H ?_
      intro v3 m3 H
      refine And.intro (trivial) ?_
      refine cV_use (w := w) (m := m3) rfl H ?_
      intro m4 H
      exact H _
    · replace H := H.2 (Classical.not_not.mp q)
      refine And.intro (And.intro (rfl) (by decide : ¬ 253 = 0)) ?_
      refine And.intro (And.intro (rfl) (by decide : ¬ 253 = 0)) ?_
      refine And.intro (trivial) ?_
      refine cI_use (w := w) (m := m2) rfl H ?_
      intro v5 m5 H
      refine And.intro (trivial) ?_
      refine cV_use (w := w) (m := m5) rfl H ?_
      intro m6 H
      exact H _

def W_Terms_headTold_13 (d : Nat) (l1 : Int32) (l2 : Int32) (l3 : Int32) (l4 : Int32) (l5 : Int32) (w : Nat × Nat × Nat) (m : zM) (Q : Int32 → zM → Prop) : Prop := mm_W (d + 1) 100 13 [some (.ref 237), some (.int l1), some (.int l2), some (.int l3), some (.int l4), some (.int l5)] [] (zE w m) (rI w Q)
theorem S_Terms_headTold {p0 : Int32} {p1 : Int32} {d : Nat} {w : Nat × Nat × Nat} {m : zM} {Q : Int32 → zM → Prop} (H : ((¬ p1 = 0 → W_Terms_headTold_13 d p0 p1 (0 : Int32) ((-1) : Int32) (0 : Int32) w m Q) ∧ (p1 = 0 → cI d 156 [.ref 253, .int p0] w m (fun v1 m1 => Q v1 m1)))) : cI (d + 1) 100 [.ref 237, .int p0, .int p1] w m Q := by
  refine cI_in rfl ?_
  refine mm_yrun (is := mm_k100) [13] 400 rfl ?_
  refine And.intro (fun q => ?_) (fun q => ?_)
  · replace H := H.1 q
    exact H
  · replace H := H.2 (Classical.not_not.mp q)
    refine And.intro (And.intro (rfl) (by decide : ¬ 253 = 0)) ?_
    refine And.intro (trivial) ?_
    refine cI_use (w := w) (m := m) rfl H ?_
    intro v1 m1 H
    exact rI_mk (w := w) (m := m1) H
theorem S_Terms_headTold_13 {l1 : Int32} {l2 : Int32} {l3 : Int32} {l4 : Int32} {l5 : Int32} {d : Nat} {w : Nat × Nat × Nat} {m : zM} {Q : Int32 → zM → Prop} (H : (((m.1 237 19) ≤ l5 → ((¬ l2 = (1 : Int32) → ((¬ l2 = (2 : Int32) → Q ((-1) : Int32) m) ∧ (l2 = (2 : Int32) → Q l4 m))) ∧ (l2 = (1 : Int32) → Q l3 m))) ∧ (¬ (m.1 237 19) ≤ l5 → cI d 98 [.ref 237, .int l5] w m (fun v1 m1 => ((¬ v1 = l1 → W_Terms_headTold_13 d l1 l2 l3 l4 (l5 + (1 : Int32)) w m1 Q) ∧ (v1 = l1 → cI d 156 [.ref 240, .int l5] w m1 (fun v2 m2 => ((0 ≤ l4 → W_Terms_headTold_13 d l1 l2 (l3 + v2) l4 (l5 + (1 : Int32)) w m2 Q) ∧ (¬ 0 ≤ l4 → W_Terms_headTold_13 d l1 l2 (l3 + v2) l5 (l5 + (1 : Int32)) w m2 Q))))))))) : W_Terms_headTold_13 d l1 l2 l3 l4 l5 w m Q := by
  refine mm_yrun (is := mm_k100) [13] 400 rfl ?_
  refine And.intro (rfl) ?_
  refine And.intro (fun q => ?_) (fun q => ?_)
  · replace H := H.1 q
    refine And.intro (fun q => ?_) (fun q => ?_)
    · replace H := H.1 q
      refine And.intro (fun q => ?_) (fun q => ?_)
      · replace H := H.1 q
        exact rI_mk (w := w) (m := m) H
      · replace H := H.2 (Classical.not_not.mp q)
        exact rI_mk (w := w) (m := m) H
    · replace H := H.2 (Classical.not_not.mp q)
      exact rI_mk (w := w) (m := m) H
  · replace H := H.2 q
    refine And.intro (rfl) ?_
    refine cI_use (w := w) (m := m) rfl H ?_
    intro v1 m1 H
    refine And.intro (fun q => ?_) (fun q => ?_)
    · replace H := H.1 q
      exact H
    · replace H := H.2 (Classical.not_not.mp q)
      refine And.intro (And.intro (rfl) (by decide : ¬ 240 = 0)) ?_
      refine And.intro (trivial) ?_
      refine cI_use (w := w) (m := m1) rfl H ?_
      intro v2 m2 H
      refine And.intro (fun q => ?_) (fun q => ?_)
      · replace H := H.1 q
        exact H
      · replace H := H.2 q
        exact H

theorem R_Told_copyFrom {a : Nat} {p0 : Nat} {a_0 : Nat} {p0_0 : Nat} {a_1 : Nat} {p0_1 : Nat} {a_2 : Nat} {p0_2 : Nat} {a_3 : Nat} {p0_3 : Nat} {p0_4 : Nat} {a_4 : Nat} {a_5 : Nat} {p0_5 : Nat} {a_6 : Nat} {p0_6 : Nat} {p0_7 : Nat} {a_7 : Nat} {d : Nat} {w : Nat × Nat × Nat} {m : zM} {Q : zM → Prop} (he_a_0 : zR w.2.1 w.2.2 a 0 = a_0) (he_p0_0 : zR w.2.1 w.2.2 p0 0 = p0_0) (he_a_1 : zR w.2.1 w.2.2 a 1 = a_1) (he_p0_1 : zR w.2.1 w.2.2 p0 1 = p0_1) (he_a_2 : zR w.2.1 w.2.2 a 2 = a_2) (he_p0_2 : zR w.2.1 w.2.2 p0 2 = p0_2) (he_a_3 : zR w.2.1 w.2.2 a 3 = a_3) (he_p0_3 : zR w.2.1 w.2.2 p0 3 = p0_3) (he_p0_4 : zR w.2.1 w.2.2 p0 4 = p0_4) (he_a_4 : zR w.2.1 w.2.2 a 4 = a_4) (he_a_5 : zR w.2.1 w.2.2 a 5 = a_5) (he_p0_5 : zR w.2.1 w.2.2 p0 5 = p0_5) (he_a_6 : zR w.2.1 w.2.2 a 6 = a_6) (he_p0_6 : zR w.2.1 w.2.2 p0 6 = p0_6) (he_p0_7 : zR w.2.1 w.2.2 p0 7 = p0_7) (he_a_7 : zR w.2.1 w.2.2 a 7 = a_7) (hk_a : (zK w.1 a).1 = 9) (hn_a_0 : ¬ a_0 = 0) (hk_p0 : (zK w.1 p0).1 = 9) (hn_p0_0 : ¬ p0_0 = 0) (hk_a_0 : (zK w.1 a_0).1 = 4) (hn_a_1 : ¬ a_1 = 0) (hn_p0_1 : ¬ p0_1 = 0) (hk_a_1 : (zK w.1 a_1).1 = 4) (hn_a_2 : ¬ a_2 = 0) (hn_p0_2 : ¬ p0_2 = 0) (hk_a_2 : (zK w.1 a_2).1 = 4) (hn_a_3 : ¬ a_3 = 0) (hn_p0_3 : ¬ p0_3 = 0) (hk_a_3 : (zK w.1 a_3).1 = 6) (hn_p0_4 : ¬ p0_4 = 0) (hn_a_4 : ¬ a_4 = 0) (hn_a_5 : ¬ a_5 = 0) (hn_p0_5 : ¬ p0_5 = 0) (hk_a_5 : (zK w.1 a_5).1 = 6) (hn_a_6 : ¬ a_6 = 0) (hn_p0_6 : ¬ p0_6 = 0) (hk_a_6 : (zK w.1 a_6).1 = 5) (hn_p0_7 : ¬ p0_7 = 0) (hn_a_7 : ¬ a_7 = 0) (H : cV d 34 [.ref a_0, .ref p0_0] w m (fun m1 => cV d 34 [.ref a_1, .ref p0_1] w m1 (fun m2 => cV d 34 [.ref a_2, .ref p0_2] w m2 (fun m3 => cV d 55 [.ref a_3, .ref p0_3] w m3 (fun m4 => cV d 161 [.ref p0_4, .ref a_4, .int (8 : Int32)] w m4 (fun m5 => cV d 55 [.ref a_5, .ref p0_5] w m5 (fun m6 => cV d 39 [.ref a_6, .ref p0_6] w m6 (fun m7 => cV d 161 [.ref p0_7, .ref a_7, .int (6 : Int32)] w m7 (fun m8 => Q (zI (zI (zI (zI (zI m8 a 8 (m8.1 p0 8)) a 9 ((zI m8 a 8 (m8.1 p0 8)).1 p0 9)) a 10 ((zI (zI m8 a 8 (m8.1 p0 8)) a 9 ((zI m8 a 8 (m8.1 p0 8)).1 p0 9)).1 p0 10)) a 11 ((zI (zI (zI m8 a 8 (m8.1 p0 8)) a 9 ((zI m8 a 8 (m8.1 p0 8)).1 p0 9)) a 10 ((zI (zI m8 a 8 (m8.1 p0 8)) a 9 ((zI m8 a 8 (m8.1 p0 8)).1 p0 9)).1 p0 10)).1 p0 11)) a 12 ((zI (zI (zI (zI m8 a 8 (m8.1 p0 8)) a 9 ((zI m8 a 8 (m8.1 p0 8)).1 p0 9)) a 10 ((zI (zI m8 a 8 (m8.1 p0 8)) a 9 ((zI m8 a 8 (m8.1 p0 8)).1 p0 9)).1 p0 10)) a 11 ((zI (zI (zI m8 a 8 (m8.1 p0 8)) a 9 ((zI m8 a 8 (m8.1 p0 8)).1 p0 9)) a 10 ((zI (zI m8 a 8 (m8.1 p0 8)) a 9 ((zI m8 a 8 (m8.1 p0 8)).1 p0 9)).1 p0 10)).1 p0 11)).1 p0 12))))))))))) : cV (d + 1) 102 [.ref a, .ref p0] w m Q := by
  subst he_a_0
  subst he_p0_0
  subst he_a_1
  subst he_p0_1
  subst he_a_2
  subst he_p0_2
  subst he_a_3
  subst he_p0_3
  subst he_p0_4
  subst he_a_4
  subst he_a_5
  subst he_p0_5
  subst he_a_6
  subst he_p0_6
  subst he_p0_7
  subst he_a_7
  refine cV_in rfl ?_
  refine mm_yrun (is := mm_k102) [] 400 rfl ?_
  refine And.intro (And.intro (hk_a) hn_a_0) ?_
  refine And.intro (And.intro (hk_p0) hn_p0_0) ?_
  refine And.intro (hk_a_0) ?_
  refine cV_use (w := w) (m := m) rfl H ?_
  intro m1 H
  refine And.intro (And.intro (hk_a) hn_a_1) ?_
  refine And.intro (And.intro (hk_p0) hn_p0_1) ?_
  refine And.intro (hk_a_1) ?_
  refine cV_use (w := w) (m := m1) rfl H ?_
  intro m2 H
  refine And.intro (And.intro (hk_a) hn_a_2) ?_
  refine And.intro (And.intro (hk_p0) hn_p0_2) ?_
  refine And.intro (hk_a_2) ?_
  refine cV_use (w := w) (m := m2) rfl H ?_
  intro m3 H
  refine And.intro (And.intro (hk_a) hn_a_3) ?_
  refine And.intro (And.intro (hk_p0) hn_p0_3) ?_
  refine And.intro (hk_a_3) ?_
  refine cV_use (w := w) (m := m3) rfl H ?_
  intro m4 H
  refine And.intro (And.intro (hk_p0) hn_p0_4) ?_
  refine And.intro (And.intro (hk_a) hn_a_4) ?_
  refine And.intro (trivial) ?_
  refine cV_use (w := w) (m := m4) rfl H ?_
  intro m5 H
  refine And.intro (And.intro (hk_a) hn_a_5) ?_
  refine And.intro (And.intro (hk_p0) hn_p0_5) ?_
  refine And.intro (hk_a_5) ?_
  refine cV_use (w := w) (m := m5) rfl H ?_
  intro m6 H
  refine And.intro (And.intro (hk_a) hn_a_6) ?_
  refine And.intro (And.intro (hk_p0) hn_p0_6) ?_
  refine And.intro (hk_a_6) ?_
  refine cV_use (w := w) (m := m6) rfl H ?_
  intro m7 H
  refine And.intro (And.intro (hk_p0) hn_p0_7) ?_
  refine And.intro (And.intro (hk_a) hn_a_7) ?_
  refine And.intro (trivial) ?_
  refine cV_use (w := w) (m := m7) rfl H ?_
  intro m8 H
  refine And.intro (hk_p0) ?_
  refine And.intro (hk_a) ?_
  refine And.intro (hk_p0) ?_
  refine And.intro (hk_a) ?_
  refine And.intro (hk_p0) ?_
  refine And.intro (hk_a) ?_
  refine And.intro (hk_p0) ?_
  refine And.intro (hk_a) ?_
  refine And.intro (hk_p0) ?_
  refine And.intro (hk_a) ?_
  exact rV_mk (w := w) (m := (zI (zI (zI (zI (zI m8 a 8 (m8.1 p0 8)) a 9 ((zI m8 a 8 (m8.1 p0 8)).1 p0 9)) a 10 ((zI (zI m8 a 8 (m8.1 p0 8)) a 9 ((zI m8 a 8 (m8.1 p0 8)).1 p0 9)).1 p0 10)) a 11 ((zI (zI (zI m8 a 8 (m8.1 p0 8)) a 9 ((zI m8 a 8 (m8.1 p0 8)).1 p0 9)) a 10 ((zI (zI m8 a 8 (m8.1 p0 8)) a 9 ((zI m8 a 8 (m8.1 p0 8)).1 p0 9)).1 p0 10)).1 p0 11)) a 12 ((zI (zI (zI (zI m8 a 8 (m8.1 p0 8)) a 9 ((zI m8 a 8 (m8.1 p0 8)).1 p0 9)) a 10 ((zI (zI m8 a 8 (m8.1 p0 8)) a 9 ((zI m8 a 8 (m8.1 p0 8)).1 p0 9)).1 p0 10)) a 11 ((zI (zI (zI m8 a 8 (m8.1 p0 8)) a 9 ((zI m8 a 8 (m8.1 p0 8)).1 p0 9)) a 10 ((zI (zI m8 a 8 (m8.1 p0 8)) a 9 ((zI m8 a 8 (m8.1 p0 8)).1 p0 9)).1 p0 10)).1 p0 11)).1 p0 12))) H
theorem S_Told_copyFrom {a : Nat} {p0 : Nat} {d : Nat} {w : Nat × Nat × Nat} {m : zM} {Q : zM → Prop} (hp_a : zT a) (hp_p0 : zT p0) (H : cV d 34 [.ref (a + 1), .ref (p0 + 1)] w m (fun m1 => cV d 34 [.ref (a + 4), .ref (p0 + 4)] w m1 (fun m2 => cV d 34 [.ref (a + 7), .ref (p0 + 7)] w m2 (fun m3 => cV d 55 [.ref (a + 10), .ref (p0 + 10)] w m3 (fun m4 => cV d 161 [.ref (p0 + 13), .ref (a + 13), .int (8 : Int32)] w m4 (fun m5 => cV d 55 [.ref (a + 14), .ref (p0 + 14)] w m5 (fun m6 => cV d 39 [.ref (a + 17), .ref (p0 + 17)] w m6 (fun m7 => cV d 161 [.ref (p0 + 20), .ref (a + 20), .int (6 : Int32)] w m7 (fun m8 => Q (zI (zI (zI (zI (zI m8 a 8 (m8.1 p0 8)) a 9 ((zI m8 a 8 (m8.1 p0 8)).1 p0 9)) a 10 ((zI (zI m8 a 8 (m8.1 p0 8)) a 9 ((zI m8 a 8 (m8.1 p0 8)).1 p0 9)).1 p0 10)) a 11 ((zI (zI (zI m8 a 8 (m8.1 p0 8)) a 9 ((zI m8 a 8 (m8.1 p0 8)).1 p0 9)) a 10 ((zI (zI m8 a 8 (m8.1 p0 8)) a 9 ((zI m8 a 8 (m8.1 p0 8)).1 p0 9)).1 p0 10)).1 p0 11)) a 12 ((zI (zI (zI (zI m8 a 8 (m8.1 p0 8)) a 9 ((zI m8 a 8 (m8.1 p0 8)).1 p0 9)) a 10 ((zI (zI m8 a 8 (m8.1 p0 8)) a 9 ((zI m8 a 8 (m8.1 p0 8)).1 p0 9)).1 p0 10)) a 11 ((zI (zI (zI m8 a 8 (m8.1 p0 8)) a 9 ((zI m8 a 8 (m8.1 p0 8)).1 p0 9)) a 10 ((zI (zI m8 a 8 (m8.1 p0 8)) a 9 ((zI m8 a 8 (m8.1 p0 8)).1 p0 9)).1 p0 10)).1 p0 11)).1 p0 12))))))))))) : cV (d + 1) 102 [.ref a, .ref p0] w m Q := R_Told_copyFrom (zT_e0 hp_a) (zT_e0 hp_p0) (zT_e1 hp_a) (zT_e1 hp_p0) (zT_e2 hp_a) (zT_e2 hp_p0) (zT_e3 hp_a) (zT_e3 hp_p0) (zT_e4 hp_p0) (zT_e4 hp_a) (zT_e5 hp_a) (zT_e5 hp_p0) (zT_e6 hp_a) (zT_e6 hp_p0) (zT_e7 hp_p0) (zT_e7 hp_a) (zT_k hp_a) (Nat.succ_ne_zero _) (zT_k hp_p0) (Nat.succ_ne_zero _) (zT_lex hp_a).1 (Nat.succ_ne_zero _) (Nat.succ_ne_zero _) (zT_end hp_a).1 (Nat.succ_ne_zero _) (Nat.succ_ne_zero _) (zT_sam hp_a).1 (Nat.succ_ne_zero _) (Nat.succ_ne_zero _) (zT_pr hp_a).1 (Nat.succ_ne_zero _) (Nat.succ_ne_zero _) (Nat.succ_ne_zero _) (Nat.succ_ne_zero _) (zT_ge hp_a).1 (Nat.succ_ne_zero _) (Nat.succ_ne_zero _) (zT_pt hp_a).1 (Nat.succ_ne_zero _) (Nat.succ_ne_zero _) H

theorem R_Told_sameAs {a : Nat} {p0 : Int64} {a_2 : Nat} {a_2_1 : Nat} {d : Nat} {w : Nat × Nat × Nat} {m : zM} {Q : Int64 → zM → Prop} (he_a_2 : zR w.2.1 w.2.2 a 2 = a_2) (he_a_2_1 : zR w.2.1 w.2.2 a_2 1 = a_2_1) (hk_a : (zK w.1 a).1 = 9) (hn_a_2 : ¬ a_2 = 0) (hk_a_2 : (zK w.1 a_2).1 = 4) (hn_a_2_1 : ¬ a_2_1 = 0) (H : cI d 36 [.ref a_2, .long p0] w m (fun v1 m1 => ((0 ≤ v1 → cL d 157 [.ref a_2_1, .int v1] w m1 (fun v2 m2 => Q v2 m2)) ∧ (¬ 0 ≤ v1 → Q p0 m1)))) : cL (d + 1) 103 [.ref a, .long p0] w m Q := by
  subst he_a_2
  subst he_a_2_1
  refine cL_in rfl ?_
  refine mm_yrun (is := mm_k103) [] 400 rfl ?_
  refine And.intro (And.intro (hk_a) hn_a_2) ?_
  refine And.intro (hk_a_2) ?_
  refine cI_use (w := w) (m := m) rfl H ?_
  intro v1 m1 H
  refine And.intro (fun q => ?_) (fun q => ?_)
  · replace H := H.1 q
    refine And.intro (And.intro (hk_a) hn_a_2) ?_
    refine And.intro (And.intro (hk_a_2) hn_a_2_1) ?_
    refine And.intro (trivial) ?_
    refine cL_use (w := w) (m := m1) rfl H ?_
    intro v2 m2 H
    exact rL_mk (w := w) (m := m2) H
  · replace H := H.2 q
    exact rL_mk (w := w) (m := m1) H
theorem S_Told_sameAs {a : Nat} {p0 : Int64} {d : Nat} {w : Nat × Nat × Nat} {m : zM} {Q : Int64 → zM → Prop} (hp_a : zT a) (H : cI d 36 [.ref (a + 7), .long p0] w m (fun v1 m1 => ((0 ≤ v1 → cL d 157 [.ref (a + 9), .int v1] w m1 (fun v2 m2 => Q v2 m2)) ∧ (¬ 0 ≤ v1 → Q p0 m1)))) : cL (d + 1) 103 [.ref a, .long p0] w m Q := R_Told_sameAs (zT_e2 hp_a) (zT_sam hp_a).2.2.1 (zT_k hp_a) (Nat.succ_ne_zero _) (zT_sam hp_a).1 (Nat.succ_ne_zero _) H

theorem R_Told_tellSame {a : Nat} {p0 : Int64} {p1 : Int64} {a_2 : Nat} {d : Nat} {w : Nat × Nat × Nat} {m : zM} {Q : zM → Prop} (he_a_2 : zR w.2.1 w.2.2 a 2 = a_2) (hk_a : (zK w.1 a).1 = 9) (hn_a_2 : ¬ a_2 = 0) (hk_a_2 : (zK w.1 a_2).1 = 4) (H : ((p0 = p1 → Q m) ∧ (¬ p0 = p1 → cI d 36 [.ref a_2, .long p0] w m (fun v1 m1 => ((0 ≤ v1 → Q m1) ∧ (¬ 0 ≤ v1 → cI d 35 [.ref a_2, .long p0, .long p1] w m1 (fun v2 m2 => Q m2))))))) : cV (d + 1) 104 [.ref a, .long p0, .long p1] w m Q := by
  subst he_a_2
  refine cV_in rfl ?_
  refine mm_yrun (is := mm_k104) [] 400 rfl ?_
  refine And.intro (fun q => ?_) (fun q => ?_)
  · replace H := H.1 q
    exact rV_mk (w := w) (m := m) H
  · replace H := H.2 q
    refine And.intro (And.intro (hk_a) hn_a_2) ?_
    refine And.intro (hk_a_2) ?_
    refine cI_use (w := w) (m := m) rfl H ?_
    intro v1 m1 H
    refine And.intro (fun q => ?_) (fun q => ?_)
    · replace H := H.1 q
      exact rV_mk (w := w) (m := m1) H
    · replace H := H.2 q
      refine And.intro (And.intro (hk_a) hn_a_2) ?_
      refine And.intro (hk_a_2) ?_
      refine cI_use (w := w) (m := m1) rfl H ?_
      intro v2 m2 H
      exact rV_mk (w := w) (m := m2) H
theorem S_Told_tellSame {a : Nat} {p0 : Int64} {p1 : Int64} {d : Nat} {w : Nat × Nat × Nat} {m : zM} {Q : zM → Prop} (hp_a : zT a) (H : ((p0 = p1 → Q m) ∧ (¬ p0 = p1 → cI d 36 [.ref (a + 7), .long p0] w m (fun v1 m1 => ((0 ≤ v1 → Q m1) ∧ (¬ 0 ≤ v1 → cI d 35 [.ref (a + 7), .long p0, .long p1] w m1 (fun v2 m2 => Q m2))))))) : cV (d + 1) 104 [.ref a, .long p0, .long p1] w m Q := R_Told_tellSame (zT_e2 hp_a) (zT_k hp_a) (Nat.succ_ne_zero _) (zT_sam hp_a).1 H

def W_Told_baseOf_11 (d : Nat) (a : Nat) (l1 : Int64) (l3 : Int32) (w : Nat × Nat × Nat) (m : zM) (Q : Int64 → zM → Prop) : Prop := ∀ o4 o5 : Option Value, mm_W (d + 1) 105 11 [some (.ref a), some (.long l1), none, some (.int l3), o4, o5] [] (zE w m) (rL w Q)
theorem R_Told_baseOf {a : Nat} {p0 : Int64} {a_2 : Nat} {d : Nat} {w : Nat × Nat × Nat} {m : zM} {Q : Int64 → zM → Prop} (he_a_2 : zR w.2.1 w.2.2 a 2 = a_2) (hk_a : (zK w.1 a).1 = 9) (hn_a_2 : ¬ a_2 = 0) (hk_a_2 : (zK w.1 a_2).1 = 4) (H : cI d 36 [.ref a_2, .long p0] w m (fun v1 m1 => ((v1 < 0 → W_Told_baseOf_11 d a p0 (0 : Int32) w m1 Q) ∧ (¬ v1 < 0 → cL d 103 [.ref a, .long p0] w m1 (fun v2 m2 => Q v2 m2))))) : cL (d + 1) 105 [.ref a, .long p0] w m Q := by
  subst he_a_2
  refine cL_in rfl ?_
  refine mm_yrun (is := mm_k105) [11] 400 rfl ?_
  refine And.intro (And.intro (hk_a) hn_a_2) ?_
  refine And.intro (hk_a_2) ?_
  refine cI_use (w := w) (m := m) rfl H ?_
  intro v1 m1 H
  refine And.intro (fun q => ?_) (fun q => ?_)
  · replace H := H.1 q
    exact H _ _
  · replace H := H.2 q
    refine And.intro (hk_a) ?_
    refine cL_use (w := w) (m := m1) rfl H ?_
    intro v2 m2 H
    exact rL_mk (w := w) (m := m2) H
theorem S_Told_baseOf {a : Nat} {p0 : Int64} {d : Nat} {w : Nat × Nat × Nat} {m : zM} {Q : Int64 → zM → Prop} (hp_a : zT a) (H : cI d 36 [.ref (a + 7), .long p0] w m (fun v1 m1 => ((v1 < 0 → W_Told_baseOf_11 d a p0 (0 : Int32) w m1 Q) ∧ (¬ v1 < 0 → cL d 103 [.ref a, .long p0] w m1 (fun v2 m2 => Q v2 m2))))) : cL (d + 1) 105 [.ref a, .long p0] w m Q := R_Told_baseOf (zT_e2 hp_a) (zT_k hp_a) (Nat.succ_ne_zero _) (zT_sam hp_a).1 H
theorem R_Told_baseOf_11 {a : Nat} {l1 : Int64} {l3 : Int32} {a_1 : Nat} {a_1_0 : Nat} {a_1_1 : Nat} {a_0 : Nat} {d : Nat} {w : Nat × Nat × Nat} {m : zM} {Q : Int64 → zM → Prop} (he_a_1 : zR w.2.1 w.2.2 a 1 = a_1) (he_a_1_0 : zR w.2.1 w.2.2 a_1 0 = a_1_0) (he_a_1_1 : zR w.2.1 w.2.2 a_1 1 = a_1_1) (he_a_0 : zR w.2.1 w.2.2 a 0 = a_0) (hk_a : (zK w.1 a).1 = 9) (hn_a_1 : ¬ a_1 = 0) (hk_a_1 : (zK w.1 a_1).1 = 4) (hn_a_1_0 : ¬ a_1_0 = 0) (hn_a_1_1 : ¬ a_1_1 = 0) (hn_a_0 : ¬ a_0 = 0) (hk_a_0 : (zK w.1 a_0).1 = 4) (H : (((m.1 a_1 2) ≤ l3 → Q l1 m) ∧ (¬ (m.1 a_1 2) ≤ l3 → cL d 157 [.ref a_1_0, .int l3] w m (fun v1 m1 => cL d 157 [.ref a_1_1, .int l3] w m1 (fun v2 m2 => cL d 170 [.long l1, .long v1, .long v2] w m2 (fun v3 m3 => ((v3 = (0 : Int64) → W_Told_baseOf_11 d a l1 (l3 + (1 : Int32)) w m3 Q) ∧ (¬ v3 = (0 : Int64) → cI d 36 [.ref a_0, .long v3] w m3 (fun v4 m4 => ((v4 < 0 → W_Told_baseOf_11 d a l1 (l3 + (1 : Int32)) w m4 Q) ∧ (¬ v4 < 0 → cL d 103 [.ref a, .long v3] w m4 (fun v5 m5 => Q v5 m5)))))))))))) : W_Told_baseOf_11 d a l1 l3 w m Q := by
  subst he_a_1
  subst he_a_1_0
  subst he_a_1_1
  subst he_a_0
  intro o4 o5
  refine mm_yrun (is := mm_k105) [11] 400 rfl ?_
  refine And.intro (And.intro (hk_a) hn_a_1) ?_
  refine And.intro (hk_a_1) ?_
  refine And.intro (fun q => ?_) (fun q => ?_)
  · replace H := H.1 q
    exact rL_mk (w := w) (m := m) H
  · replace H := H.2 q
    refine And.intro (And.intro (hk_a) hn_a_1) ?_
    refine And.intro (And.intro (hk_a_1) hn_a_1_0) ?_
    refine And.intro (trivial) ?_
    refine cL_use (w := w) (m := m) rfl H ?_
    intro v1 m1 H
    refine And.intro (And.intro (hk_a) hn_a_1) ?_
    refine And.intro (And.intro (hk_a_1) hn_a_1_1) ?_
    refine And.intro (trivial) ?_
    refine cL_use (w := w) (m := m1) rfl H ?_
    intro v2 m2 H
    refine And.intro (trivial) ?_
    refine cL_use (w := w) (m := m2) rfl H ?_
    intro v3 m3 H
    refine And.intro (fun q => ?_) (fun q => ?_)
    · replace H := H.1 q
      exact H _ _
    · replace H := H.2 q
      refine And.intro (And.intro (hk_a) hn_a_0) ?_
      refine And.intro (hk_a_0) ?_
      refine cI_use (w := w) (m := m3) rfl H ?_
      intro v4 m4 H
      refine And.intro (fun q => ?_) (fun q => ?_)
      · replace H := H.1 q
        exact H _ _
      · replace H := H.2 q
        refine And.intro (hk_a) ?_
        refine cL_use (w := w) (m := m4) rfl H ?_
        intro v5 m5 H
        exact rL_mk (w := w) (m := m5) H
theorem S_Told_baseOf_11 {a : Nat} {l1 : Int64} {l3 : Int32} {d : Nat} {w : Nat × Nat × Nat} {m : zM} {Q : Int64 → zM → Prop} (hp_a : zT a) (H : (((m.1 (a + 4) 2) ≤ l3 → Q l1 m) ∧ (¬ (m.1 (a + 4) 2) ≤ l3 → cL d 157 [.ref (a + 5), .int l3] w m (fun v1 m1 => cL d 157 [.ref (a + 6), .int l3] w m1 (fun v2 m2 => cL d 170 [.long l1, .long v1, .long v2] w m2 (fun v3 m3 => ((v3 = (0 : Int64) → W_Told_baseOf_11 d a l1 (l3 + (1 : Int32)) w m3 Q) ∧ (¬ v3 = (0 : Int64) → cI d 36 [.ref (a + 1), .long v3] w m3 (fun v4 m4 => ((v4 < 0 → W_Told_baseOf_11 d a l1 (l3 + (1 : Int32)) w m4 Q) ∧ (¬ v4 < 0 → cL d 103 [.ref a, .long v3] w m4 (fun v5 m5 => Q v5 m5)))))))))))) : W_Told_baseOf_11 d a l1 l3 w m Q := R_Told_baseOf_11 (zT_e1 hp_a) (zT_end hp_a).2.1 (zT_end hp_a).2.2.1 (zT_e0 hp_a) (zT_k hp_a) (Nat.succ_ne_zero _) (zT_end hp_a).1 (Nat.succ_ne_zero _) (Nat.succ_ne_zero _) (Nat.succ_ne_zero _) (zT_lex hp_a).1 H

theorem R_Told_kindOf {a : Nat} {p0 : Int64} {p1 : Int64} {a_0 : Nat} {a_0_1 : Nat} {d : Nat} {w : Nat × Nat × Nat} {m : zM} {Q : Int32 → zM → Prop} (he_a_0 : zR w.2.1 w.2.2 a 0 = a_0) (he_a_0_1 : zR w.2.1 w.2.2 a_0 1 = a_0_1) (hk_a : (zK w.1 a).1 = 9) (hn_a_0 : ¬ a_0 = 0) (hk_a_0 : (zK w.1 a_0).1 = 4) (hn_a_0_1 : ¬ a_0_1 = 0) (H : cI d 36 [.ref a_0, .long p0] w m (fun v1 m1 => ((0 ≤ v1 → ((0 ≤ v1 → cL d 157 [.ref a_0_1, .int v1] w m1 (fun v2 m2 => Q (v2).toInt32 m2)) ∧ (¬ 0 ≤ v1 → Q (120 : Int32) m1))) ∧ (¬ 0 ≤ v1 → cI d 36 [.ref a_0, .long p1] w m1 (fun v3 m3 => ((0 ≤ v3 → cL d 157 [.ref a_0_1, .int v3] w m3 (fun v4 m4 => Q (v4).toInt32 m4)) ∧ (¬ 0 ≤ v3 → Q (120 : Int32) m3))))))) : cI (d + 1) 106 [.ref a, .long p0, .long p1] w m Q := by
  subst he_a_0
  subst he_a_0_1
  refine cI_in rfl ?_
  refine mm_yrun (is := mm_k106) [] 400 rfl ?_
  refine And.intro (And.intro (hk_a) hn_a_0) ?_
  refine And.intro (hk_a_0) ?_
  refine cI_use (w := w) (m := m) rfl H ?_
  intro v1 m1 H
  refine And.intro (fun q => ?_) (fun q => ?_)
  · replace H := H.1 q
    refine And.intro (fun q => ?_) (fun q => ?_)
    · replace H := H.1 q
      refine And.intro (And.intro (hk_a) hn_a_0) ?_
      refine And.intro (And.intro (hk_a_0) hn_a_0_1) ?_
      refine And.intro (trivial) ?_
      refine cL_use (w := w) (m := m1) rfl H ?_
      intro v2 m2 H
      exact rI_mk (w := w) (m := m2) H
    · replace H := H.2 q
      exact rI_mk (w := w) (m := m1) H
  · replace H := H.2 q
    refine And.intro (And.intro (hk_a) hn_a_0) ?_
    refine And.intro (hk_a_0) ?_
    refine cI_use (w := w) (m := m1) rfl H ?_
    intro v3 m3 H
    refine And.intro (fun q => ?_) (fun q => ?_)
    · replace H := H.1 q
      refine And.intro (And.intro (hk_a) hn_a_0) ?_
      refine And.intro (And.intro (hk_a_0) hn_a_0_1) ?_
      refine And.intro (trivial) ?_
      refine cL_use (w := w) (m := m3) rfl H ?_
      intro v4 m4 H
      exact rI_mk (w := w) (m := m4) H
    · replace H := H.2 q
      exact rI_mk (w := w) (m := m3) H
theorem S_Told_kindOf {a : Nat} {p0 : Int64} {p1 : Int64} {d : Nat} {w : Nat × Nat × Nat} {m : zM} {Q : Int32 → zM → Prop} (hp_a : zT a) (H : cI d 36 [.ref (a + 1), .long p0] w m (fun v1 m1 => ((0 ≤ v1 → ((0 ≤ v1 → cL d 157 [.ref (a + 3), .int v1] w m1 (fun v2 m2 => Q (v2).toInt32 m2)) ∧ (¬ 0 ≤ v1 → Q (120 : Int32) m1))) ∧ (¬ 0 ≤ v1 → cI d 36 [.ref (a + 1), .long p1] w m1 (fun v3 m3 => ((0 ≤ v3 → cL d 157 [.ref (a + 3), .int v3] w m3 (fun v4 m4 => Q (v4).toInt32 m4)) ∧ (¬ 0 ≤ v3 → Q (120 : Int32) m3))))))) : cI (d + 1) 106 [.ref a, .long p0, .long p1] w m Q := R_Told_kindOf (zT_e0 hp_a) (zT_lex hp_a).2.2.1 (zT_k hp_a) (Nat.succ_ne_zero _) (zT_lex hp_a).1 (Nat.succ_ne_zero _) H

theorem R_Told_closeDoc {a : Nat} {a_4 : Nat} {a_3 : Nat} {d : Nat} {w : Nat × Nat × Nat} {m : zM} {Q : zM → Prop} (he_a_4 : zR w.2.1 w.2.2 a 4 = a_4) (he_a_3 : zR w.2.1 w.2.2 a 3 = a_3) (hk_a : (zK w.1 a).1 = 9) (hn_a_4 : ¬ a_4 = 0) (hn_a_3 : ¬ a_3 = 0) (hk_a_3 : (zK w.1 a_3).1 = 6) (H : cV d 158 [.ref a_4, .int (m.1 a 9), .int (m.1 a_3 2)] w m (fun m1 => Q (zI m1 a 9 ((m1.1 a 9) + (1 : Int32))))) : cV (d + 1) 107 [.ref a] w m Q := by
  subst he_a_4
  subst he_a_3
  refine cV_in rfl ?_
  refine mm_yrun (is := mm_k107) [] 400 rfl ?_
  refine And.intro (And.intro (hk_a) hn_a_4) ?_
  refine And.intro (hk_a) ?_
  refine And.intro (And.intro (hk_a) hn_a_3) ?_
  refine And.intro (hk_a_3) ?_
  refine And.intro (trivial) ?_
  refine cV_use (w := w) (m := m) rfl H ?_
  intro m1 H
  refine And.intro (hk_a) ?_
  refine And.intro (hk_a) ?_
  exact rV_mk (w := w) (m := (zI m1 a 9 ((m1.1 a 9) + (1 : Int32)))) H
theorem S_Told_closeDoc {a : Nat} {d : Nat} {w : Nat × Nat × Nat} {m : zM} {Q : zM → Prop} (hp_a : zT a) (H : cV d 158 [.ref (a + 13), .int (m.1 a 9), .int (m.1 (a + 10) 2)] w m (fun m1 => Q (zI m1 a 9 ((m1.1 a 9) + (1 : Int32))))) : cV (d + 1) 107 [.ref a] w m Q := R_Told_closeDoc (zT_e4 hp_a) (zT_e3 hp_a) (zT_k hp_a) (Nat.succ_ne_zero _) (Nat.succ_ne_zero _) (zT_pr hp_a).1 H

def W_Told_removeDoc_13 (d : Nat) (a : Nat) (l2 : Int32) (l3 : Int32) (w : Nat × Nat × Nat) (m : zM) (Q : zM → Prop) : Prop := ∀ o1 : Option Value, mm_W (d + 1) 108 13 [some (.ref a), o1, some (.int l2), some (.int l3)] [] (zE w m) (rV w Q)
theorem R_Told_removeDoc {a : Nat} {p0 : Int32} {a_3 : Nat} {d : Nat} {w : Nat × Nat × Nat} {m : zM} {Q : zM → Prop} (he_a_3 : zR w.2.1 w.2.2 a 3 = a_3) (hk_a : (zK w.1 a).1 = 9) (hn_a_3 : ¬ a_3 = 0) (hk_a_3 : (zK w.1 a_3).1 = 6) (H : cI d 110 [.ref a, .int p0] w m (fun v1 m1 => cI d 109 [.ref a, .int p0] w m1 (fun v2 m2 => cV d 60 [.ref a_3, .int v2, .int v1] w m2 (fun m3 => W_Told_removeDoc_13 d a v1 p0 w m3 Q)))) : cV (d + 1) 108 [.ref a, .int p0] w m Q := by
  subst he_a_3
  refine cV_in rfl ?_
  refine mm_yrun (is := mm_k108) [13] 400 rfl ?_
  refine And.intro (hk_a) ?_
  refine cI_use (w := w) (m := m) rfl H ?_
  intro v1 m1 H
  refine And.intro (And.intro (hk_a) hn_a_3) ?_
  refine And.intro (hk_a) ?_
  refine cI_use (w := w) (m := m1) rfl H ?_
  intro v2 m2 H
  refine And.intro (hk_a_3) ?_
  refine cV_use (w := w) (m := m2) rfl H ?_
  intro m3 H
  exact H _
theorem S_Told_removeDoc {a : Nat} {p0 : Int32} {d : Nat} {w : Nat × Nat × Nat} {m : zM} {Q : zM → Prop} (hp_a : zT a) (H : cI d 110 [.ref a, .int p0] w m (fun v1 m1 => cI d 109 [.ref a, .int p0] w m1 (fun v2 m2 => cV d 60 [.ref (a + 10), .int v2, .int v1] w m2 (fun m3 => W_Told_removeDoc_13 d a v1 p0 w m3 Q)))) : cV (d + 1) 108 [.ref a, .int p0] w m Q := R_Told_removeDoc (zT_e3 hp_a) (zT_k hp_a) (Nat.succ_ne_zero _) (zT_pr hp_a).1 H
theorem R_Told_removeDoc_13 {a : Nat} {l2 : Int32} {l3 : Int32} {a_4 : Nat} {d : Nat} {w : Nat × Nat × Nat} {m : zM} {Q : zM → Prop} (he_a_4 : zR w.2.1 w.2.2 a 4 = a_4) (hk_a : (zK w.1 a).1 = 9) (hn_a_4 : ¬ a_4 = 0) (H : (((m.1 a 9) ≤ (l3 + (1 : Int32)) → Q (zI m a 9 ((m.1 a 9) - (1 : Int32)))) ∧ (¬ (m.1 a 9) ≤ (l3 + (1 : Int32)) → cI d 156 [.ref a_4, .int (l3 + (1 : Int32))] w m (fun v1 m1 => cV d 158 [.ref a_4, .int l3, .int (v1 - l2)] w m1 (fun m2 => W_Told_removeDoc_13 d a l2 (l3 + (1 : Int32)) w m2 Q))))) : W_Told_removeDoc_13 d a l2 l3 w m Q := by
  subst he_a_4
  intro o1
  refine mm_yrun (is := mm_k108) [13] 400 rfl ?_
  refine And.intro (hk_a) ?_
  refine And.intro (fun q => ?_) (fun q => ?_)
  · replace H := H.1 q
    refine And.intro (hk_a) ?_
    refine And.intro (hk_a) ?_
    exact rV_mk (w := w) (m := (zI m a 9 ((m.1 a 9) - (1 : Int32)))) H
  · replace H := H.2 q
    refine And.intro (And.intro (hk_a) hn_a_4) ?_
    refine And.intro (And.intro (hk_a) hn_a_4) ?_
    refine And.intro (trivial) ?_
    refine cI_use (w := w) (m := m) rfl H ?_
    intro v1 m1 H
    refine And.intro (trivial) ?_
    refine cV_use (w := w) (m := m1) rfl H ?_
    intro m2 H
    exact H _
theorem S_Told_removeDoc_13 {a : Nat} {l2 : Int32} {l3 : Int32} {d : Nat} {w : Nat × Nat × Nat} {m : zM} {Q : zM → Prop} (hp_a : zT a) (H : (((m.1 a 9) ≤ (l3 + (1 : Int32)) → Q (zI m a 9 ((m.1 a 9) - (1 : Int32)))) ∧ (¬ (m.1 a 9) ≤ (l3 + (1 : Int32)) → cI d 156 [.ref (a + 13), .int (l3 + (1 : Int32))] w m (fun v1 m1 => cV d 158 [.ref (a + 13), .int l3, .int (v1 - l2)] w m1 (fun m2 => W_Told_removeDoc_13 d a l2 (l3 + (1 : Int32)) w m2 Q))))) : W_Told_removeDoc_13 d a l2 l3 w m Q := R_Told_removeDoc_13 (zT_e4 hp_a) (zT_k hp_a) (Nat.succ_ne_zero _) H

theorem R_Told_docFirst {a : Nat} {p0 : Int32} {a_4 : Nat} {d : Nat} {w : Nat × Nat × Nat} {m : zM} {Q : Int32 → zM → Prop} (he_a_4 : zR w.2.1 w.2.2 a 4 = a_4) (hk_a : (zK w.1 a).1 = 9) (hn_a_4 : ¬ a_4 = 0) (H : cI d 156 [.ref a_4, .int (p0 - (1 : Int32))] w m (fun v1 m1 => Q v1 m1)) : cI (d + 1) 109 [.ref a, .int p0] w m Q := by
  subst he_a_4
  refine cI_in rfl ?_
  refine mm_yrun (is := mm_k109) [] 400 rfl ?_
  refine And.intro (And.intro (hk_a) hn_a_4) ?_
  refine And.intro (trivial) ?_
  refine cI_use (w := w) (m := m) rfl H ?_
  intro v1 m1 H
  exact rI_mk (w := w) (m := m1) H
theorem S_Told_docFirst {a : Nat} {p0 : Int32} {d : Nat} {w : Nat × Nat × Nat} {m : zM} {Q : Int32 → zM → Prop} (hp_a : zT a) (H : cI d 156 [.ref (a + 13), .int (p0 - (1 : Int32))] w m (fun v1 m1 => Q v1 m1)) : cI (d + 1) 109 [.ref a, .int p0] w m Q := R_Told_docFirst (zT_e4 hp_a) (zT_k hp_a) (Nat.succ_ne_zero _) H

theorem R_Told_docSize {a : Nat} {p0 : Int32} {a_4 : Nat} {d : Nat} {w : Nat × Nat × Nat} {m : zM} {Q : Int32 → zM → Prop} (he_a_4 : zR w.2.1 w.2.2 a 4 = a_4) (hk_a : (zK w.1 a).1 = 9) (hn_a_4 : ¬ a_4 = 0) (H : cI d 156 [.ref a_4, .int p0] w m (fun v1 m1 => cI d 109 [.ref a, .int p0] w m1 (fun v2 m2 => Q (v1 - v2) m2))) : cI (d + 1) 110 [.ref a, .int p0] w m Q := by
  subst he_a_4
  refine cI_in rfl ?_
  refine mm_yrun (is := mm_k110) [] 400 rfl ?_
  refine And.intro (And.intro (hk_a) hn_a_4) ?_
  refine And.intro (trivial) ?_
  refine cI_use (w := w) (m := m) rfl H ?_
  intro v1 m1 H
  refine And.intro (hk_a) ?_
  refine cI_use (w := w) (m := m1) rfl H ?_
  intro v2 m2 H
  exact rI_mk (w := w) (m := m2) H
theorem S_Told_docSize {a : Nat} {p0 : Int32} {d : Nat} {w : Nat × Nat × Nat} {m : zM} {Q : Int32 → zM → Prop} (hp_a : zT a) (H : cI d 156 [.ref (a + 13), .int p0] w m (fun v1 m1 => cI d 109 [.ref a, .int p0] w m1 (fun v2 m2 => Q (v1 - v2) m2))) : cI (d + 1) 110 [.ref a, .int p0] w m Q := R_Told_docSize (zT_e4 hp_a) (zT_k hp_a) (Nat.succ_ne_zero _) H

def W_Told_docSentences_8 (d : Nat) (a : Nat) (l1 : Int32) (l2 : Int32) (l3 : Int32) (l4 : Int32) (w : Nat × Nat × Nat) (m : zM) (Q : Int32 → zM → Prop) : Prop := mm_W (d + 1) 111 8 [some (.ref a), some (.int l1), some (.int l2), some (.int l3), some (.int l4)] [] (zE w m) (rI w Q)
theorem R_Told_docSentences {a : Nat} {p0 : Int32} {d : Nat} {w : Nat × Nat × Nat} {m : zM} {Q : Int32 → zM → Prop} (hk_a : (zK w.1 a).1 = 9) (H : cI d 109 [.ref a, .int p0] w m (fun v1 m1 => W_Told_docSentences_8 d a p0 v1 (0 : Int32) v1 w m1 Q)) : cI (d + 1) 111 [.ref a, .int p0] w m Q := by
  refine cI_in rfl ?_
  refine mm_yrun (is := mm_k111) [8] 400 rfl ?_
  refine And.intro (hk_a) ?_
  refine cI_use (w := w) (m := m) rfl H ?_
  intro v1 m1 H
  exact H
theorem S_Told_docSentences {a : Nat} {p0 : Int32} {d : Nat} {w : Nat × Nat × Nat} {m : zM} {Q : Int32 → zM → Prop} (hp_a : zT a) (H : cI d 109 [.ref a, .int p0] w m (fun v1 m1 => W_Told_docSentences_8 d a p0 v1 (0 : Int32) v1 w m1 Q)) : cI (d + 1) 111 [.ref a, .int p0] w m Q := R_Told_docSentences (zT_k hp_a) H
theorem R_Told_docSentences_8 {a : Nat} {l1 : Int32} {l2 : Int32} {l3 : Int32} {l4 : Int32} {a_4 : Nat} {a_3 : Nat} {d : Nat} {w : Nat × Nat × Nat} {m : zM} {Q : Int32 → zM → Prop} (he_a_4 : zR w.2.1 w.2.2 a 4 = a_4) (he_a_3 : zR w.2.1 w.2.2 a 3 = a_3) (hk_a : (zK w.1 a).1 = 9) (hn_a_4 : ¬ a_4 = 0) (hn_a_3 : ¬ a_3 = 0) (hk_a_3 : (zK w.1 a_3).1 = 6) (H : cI d 156 [.ref a_4, .int l1] w m (fun v1 m1 => ((v1 ≤ l4 → Q l3 m1) ∧ (¬ v1 ≤ l4 → (((240 : Int32) ≤ l4 → Q l3 m1) ∧ (¬ (240 : Int32) ≤ l4 → ((l4 = l2 → W_Told_docSentences_8 d a l1 l2 (l3 + (1 : Int32)) (l4 + (1 : Int32)) w m1 Q) ∧ (¬ l4 = l2 → cI d 59 [.ref a_3, .int (l4 - (1 : Int32)), .int l4] w m1 (fun v2 m2 => ((¬ v2 = 0 → W_Told_docSentences_8 d a l1 l2 l3 (l4 + (1 : Int32)) w m2 Q) ∧ (v2 = 0 → W_Told_docSentences_8 d a l1 l2 (l3 + (1 : Int32)) (l4 + (1 : Int32)) w m2 Q))))))))))) : W_Told_docSentences_8 d a l1 l2 l3 l4 w m Q := by
  subst he_a_4
  subst he_a_3
  refine mm_yrun (is := mm_k111) [8] 400 rfl ?_
  refine And.intro (And.intro (hk_a) hn_a_4) ?_
  refine And.intro (trivial) ?_
  refine cI_use (w := w) (m := m) rfl H ?_
  intro v1 m1 H
  refine And.intro (fun q => ?_) (fun q => ?_)
  · replace H := H.1 q
    exact rI_mk (w := w) (m := m1) H
  · replace H := H.2 q
    refine And.intro (fun q => ?_) (fun q => ?_)
    · replace H := H.1 q
      exact rI_mk (w := w) (m := m1) H
    · replace H := H.2 q
      refine And.intro (fun q => ?_) (fun q => ?_)
      · replace H := H.1 q
        exact H
      · replace H := H.2 q
        refine And.intro (And.intro (hk_a) hn_a_3) ?_
        refine And.intro (hk_a_3) ?_
        refine cI_use (w := w) (m := m1) rfl H ?_
        intro v2 m2 H
        refine And.intro (fun q => ?_) (fun q => ?_)
        · replace H := H.1 q
          exact H
        · replace H := H.2 (Classical.not_not.mp q)
          exact H
theorem S_Told_docSentences_8 {a : Nat} {l1 : Int32} {l2 : Int32} {l3 : Int32} {l4 : Int32} {d : Nat} {w : Nat × Nat × Nat} {m : zM} {Q : Int32 → zM → Prop} (hp_a : zT a) (H : cI d 156 [.ref (a + 13), .int l1] w m (fun v1 m1 => ((v1 ≤ l4 → Q l3 m1) ∧ (¬ v1 ≤ l4 → (((240 : Int32) ≤ l4 → Q l3 m1) ∧ (¬ (240 : Int32) ≤ l4 → ((l4 = l2 → W_Told_docSentences_8 d a l1 l2 (l3 + (1 : Int32)) (l4 + (1 : Int32)) w m1 Q) ∧ (¬ l4 = l2 → cI d 59 [.ref (a + 10), .int (l4 - (1 : Int32)), .int l4] w m1 (fun v2 m2 => ((¬ v2 = 0 → W_Told_docSentences_8 d a l1 l2 l3 (l4 + (1 : Int32)) w m2 Q) ∧ (v2 = 0 → W_Told_docSentences_8 d a l1 l2 (l3 + (1 : Int32)) (l4 + (1 : Int32)) w m2 Q))))))))))) : W_Told_docSentences_8 d a l1 l2 l3 l4 w m Q := R_Told_docSentences_8 (zT_e4 hp_a) (zT_e3 hp_a) (zT_k hp_a) (Nat.succ_ne_zero _) (Nat.succ_ne_zero _) (zT_pr hp_a).1 H

theorem R_Told_placeOf {a : Nat} {p0 : Int32} {p1 : Int32} {d : Nat} {w : Nat × Nat × Nat} {m : zM} {Q : Int32 → zM → Prop} (hk_a : (zK w.1 a).1 = 9) (H : ((p0 < 0 → Q ((-1) : Int32) m) ∧ (¬ p0 < 0 → (((m.1 a 9) ≤ p0 → Q ((-1) : Int32) m) ∧ (¬ (m.1 a 9) ≤ p0 → ((p1 < 0 → Q ((-1) : Int32) m) ∧ (¬ p1 < 0 → cI d 110 [.ref a, .int p0] w m (fun v1 m1 => ((p1 < v1 → cI d 109 [.ref a, .int p0] w m1 (fun v2 m2 => Q (v2 + p1) m2)) ∧ (¬ p1 < v1 → Q ((-1) : Int32) m1)))))))))) : cI (d + 1) 112 [.ref a, .int p0, .int p1] w m Q := by
  refine cI_in rfl ?_
  refine mm_yrun (is := mm_k112) [] 400 rfl ?_
  refine And.intro (fun q => ?_) (fun q => ?_)
  · replace H := H.1 q
    exact rI_mk (w := w) (m := m) H
  · replace H := H.2 q
    refine And.intro (hk_a) ?_
    refine And.intro (fun q => ?_) (fun q => ?_)
    · replace H := H.1 q
      exact rI_mk (w := w) (m := m) H
    · replace H := H.2 q
      refine And.intro (fun q => ?_) (fun q => ?_)
      · replace H := H.1 q
        exact rI_mk (w := w) (m := m) H
      · replace H := H.2 q
        refine And.intro (hk_a) ?_
        refine cI_use (w := w) (m := m) rfl H ?_
        intro v1 m1 H
        refine And.intro (fun q => ?_) (fun q => ?_)
        · replace H := H.1 q
          refine And.intro (hk_a) ?_
          refine cI_use (w := w) (m := m1) rfl H ?_
          intro v2 m2 H
          exact rI_mk (w := w) (m := m2) H
        · replace H := H.2 q
          exact rI_mk (w := w) (m := m1) H
theorem S_Told_placeOf {a : Nat} {p0 : Int32} {p1 : Int32} {d : Nat} {w : Nat × Nat × Nat} {m : zM} {Q : Int32 → zM → Prop} (hp_a : zT a) (H : ((p0 < 0 → Q ((-1) : Int32) m) ∧ (¬ p0 < 0 → (((m.1 a 9) ≤ p0 → Q ((-1) : Int32) m) ∧ (¬ (m.1 a 9) ≤ p0 → ((p1 < 0 → Q ((-1) : Int32) m) ∧ (¬ p1 < 0 → cI d 110 [.ref a, .int p0] w m (fun v1 m1 => ((p1 < v1 → cI d 109 [.ref a, .int p0] w m1 (fun v2 m2 => Q (v2 + p1) m2)) ∧ (¬ p1 < v1 → Q ((-1) : Int32) m1)))))))))) : cI (d + 1) 112 [.ref a, .int p0, .int p1] w m Q := R_Told_placeOf (zT_k hp_a) H

def W_Told_docAt_2 (d : Nat) (a : Nat) (l1 : Int32) (l2 : Int32) (w : Nat × Nat × Nat) (m : zM) (Q : Int32 → zM → Prop) : Prop := mm_W (d + 1) 113 2 [some (.ref a), some (.int l1), some (.int l2)] [] (zE w m) (rI w Q)
theorem S_Told_docAt {a : Nat} {p0 : Int32} {d : Nat} {w : Nat × Nat × Nat} {m : zM} {Q : Int32 → zM → Prop} (H : W_Told_docAt_2 d a p0 (0 : Int32) w m Q) : cI (d + 1) 113 [.ref a, .int p0] w m Q := by
  refine cI_in rfl ?_
  refine mm_yrun (is := mm_k113) [2] 400 rfl ?_
  exact H
theorem R_Told_docAt_2 {a : Nat} {l1 : Int32} {l2 : Int32} {a_4 : Nat} {d : Nat} {w : Nat × Nat × Nat} {m : zM} {Q : Int32 → zM → Prop} (he_a_4 : zR w.2.1 w.2.2 a 4 = a_4) (hk_a : (zK w.1 a).1 = 9) (hn_a_4 : ¬ a_4 = 0) (H : (((7 : Int32) ≤ l2 → Q l2 m) ∧ (¬ (7 : Int32) ≤ l2 → cI d 156 [.ref a_4, .int l2] w m (fun v1 m1 => ((l1 < v1 → Q l2 m1) ∧ (¬ l1 < v1 → W_Told_docAt_2 d a l1 (l2 + (1 : Int32)) w m1 Q)))))) : W_Told_docAt_2 d a l1 l2 w m Q := by
  subst he_a_4
  refine mm_yrun (is := mm_k113) [2] 400 rfl ?_
  refine And.intro (fun q => ?_) (fun q => ?_)
  · replace H := H.1 q
    exact rI_mk (w := w) (m := m) H
  · replace H := H.2 q
    refine And.intro (And.intro (hk_a) hn_a_4) ?_
    refine And.intro (trivial) ?_
    refine cI_use (w := w) (m := m) rfl H ?_
    intro v1 m1 H
    refine And.intro (fun q => ?_) (fun q => ?_)
    · replace H := H.1 q
      exact rI_mk (w := w) (m := m1) H
    · replace H := H.2 q
      exact H
theorem S_Told_docAt_2 {a : Nat} {l1 : Int32} {l2 : Int32} {d : Nat} {w : Nat × Nat × Nat} {m : zM} {Q : Int32 → zM → Prop} (hp_a : zT a) (H : (((7 : Int32) ≤ l2 → Q l2 m) ∧ (¬ (7 : Int32) ≤ l2 → cI d 156 [.ref (a + 13), .int l2] w m (fun v1 m1 => ((l1 < v1 → Q l2 m1) ∧ (¬ l1 < v1 → W_Told_docAt_2 d a l1 (l2 + (1 : Int32)) w m1 Q)))))) : W_Told_docAt_2 d a l1 l2 w m Q := R_Told_docAt_2 (zT_e4 hp_a) (zT_k hp_a) (Nat.succ_ne_zero _) H

theorem S_T_feed {p0 : Int32} {p1 : Int32} {p2 : Int32} {p3 : Int32} {p4 : Int32} {d : Nat} {w : Nat × Nat × Nat} {m : zM} {Q : Int32 → zM → Prop} (H : (((m.1 4 1) ≤ (580 : Int32) → cV d 5 [.ref 4, .int p0] w m (fun m1 => cV d 5 [.ref 4, .int p1] w m1 (fun m2 => cV d 5 [.ref 4, .int p2] w m2 (fun m3 => cV d 5 [.ref 4, .int p3] w m3 (fun m4 => cV d 5 [.ref 4, .int p4] w m4 (fun m5 => Q (m5.1 4 1) m5)))))) ∧ (¬ (m.1 4 1) ≤ (580 : Int32) → Q ((-1) : Int32) m))) : cI (d + 1) 115 [.ref 3, .int p0, .int p1, .int p2, .int p3, .int p4] w m Q := by
  refine cI_in rfl ?_
  refine mm_yrun (is := mm_k115) [] 400 rfl ?_
  refine And.intro (And.intro (rfl) (by decide : ¬ 4 = 0)) ?_
  refine And.intro (rfl) ?_
  refine And.intro (fun q => ?_) (fun q => ?_)
  · replace H := H.1 q
    refine And.intro (And.intro (rfl) (by decide : ¬ 4 = 0)) ?_
    refine And.intro (rfl) ?_
    refine cV_use (w := w) (m := m) rfl H ?_
    intro m1 H
    refine And.intro (And.intro (rfl) (by decide : ¬ 4 = 0)) ?_
    refine And.intro (rfl) ?_
    refine cV_use (w := w) (m := m1) rfl H ?_
    intro m2 H
    refine And.intro (And.intro (rfl) (by decide : ¬ 4 = 0)) ?_
    refine And.intro (rfl) ?_
    refine cV_use (w := w) (m := m2) rfl H ?_
    intro m3 H
    refine And.intro (And.intro (rfl) (by decide : ¬ 4 = 0)) ?_
    refine And.intro (rfl) ?_
    refine cV_use (w := w) (m := m3) rfl H ?_
    intro m4 H
    refine And.intro (And.intro (rfl) (by decide : ¬ 4 = 0)) ?_
    refine And.intro (rfl) ?_
    refine cV_use (w := w) (m := m4) rfl H ?_
    intro m5 H
    refine And.intro (And.intro (rfl) (by decide : ¬ 4 = 0)) ?_
    refine And.intro (rfl) ?_
    exact rI_mk (w := w) (m := m5) H
  · replace H := H.2 q
    exact rI_mk (w := w) (m := m) H

theorem S_T_end {p0 : Int32} {d : Nat} {w : Nat × Nat × Nat} {m : zM} {Q : Int32 → zM → Prop} (H : ((p0 < 0 → Q (0 : Int32) m) ∧ (¬ p0 < 0 → ((p0 ≤ (m.1 4 1) → Q (1 : Int32) (zI m 4 1 p0)) ∧ (¬ p0 ≤ (m.1 4 1) → Q (0 : Int32) m))))) : cI d 116 [.ref 3, .int p0] w m Q := by
  refine cI_in rfl ?_
  refine mm_yrun (is := mm_k116) [] 400 rfl ?_
  refine And.intro (fun q => ?_) (fun q => ?_)
  · replace H := H.1 q
    refine And.intro (Or.inl rfl) ?_
    exact rI_mk (w := w) (m := m) H
  · replace H := H.2 q
    refine And.intro (And.intro (rfl) (by decide : ¬ 4 = 0)) ?_
    refine And.intro (rfl) ?_
    refine And.intro (fun q => ?_) (fun q => ?_)
    · replace H := H.1 q
      refine And.intro (And.intro (rfl) (by decide : ¬ 4 = 0)) ?_
      refine And.intro (rfl) ?_
      refine And.intro (Or.inr rfl) ?_
      exact rI_mk (w := w) (m := (zI m 4 1 p0)) H
    · replace H := H.2 q
      refine And.intro (Or.inl rfl) ?_
      exact rI_mk (w := w) (m := m) H

theorem S_T_text {p0 : Int32} {d : Nat} {w : Nat × Nat × Nat} {m : zM} {Q : Int32 → (Nat × Nat × Nat) → zM → Prop} (H : ((p0 < 0 → cI d 147 [.ref 3] w m (fun v1 m1 => Q v1 w m1)) ∧ (¬ p0 < 0 → ((p0 ≤ (4 : Int32) → cVw d 145 [.ref 3] w m (fun w2 m2 => (¬ w2.2.2 = 0) ∧ (cV d 148 [.ref 3, .ref w2.2.2, .int p0] w2 m2 (fun m3 => cIw d 149 [.ref 3] w2 m3 (fun v4 w4 m4 => ((¬ v4 = 0 → cI d 150 [.ref 3, .int p0] w4 m4 (fun v5 m5 => Q v5 w4 m5)) ∧ (v4 = 0 → Q ((-1) : Int32) w4 m4))))))) ∧ (¬ p0 ≤ (4 : Int32) → cI d 147 [.ref 3] w m (fun v6 m6 => Q v6 w m6)))))) : cIw (d + 1) 117 [.ref 3, .int p0] w m Q := by
  refine cIw_in rfl ?_
  refine mm_yrun (is := mm_k117) [] 400 rfl ?_
  refine And.intro (fun q => ?_) (fun q => ?_)
  · replace H := H.1 q
    refine And.intro (rfl) ?_
    refine cI_use (w := w) (m := m) rfl H ?_
    intro v1 m1 H
    exact rIw_mk (w0 := w) (w := w) (m := m1) H
  · replace H := H.2 q
    refine And.intro (fun q => ?_) (fun q => ?_)
    · replace H := H.1 q
      refine And.intro (rfl) ?_
      refine cVw_use (w := w) (m := m) rfl H ?_
      intro w2 m2 H
      refine And.intro (And.intro (rfl) H.1) ?_
      replace H := H.2
      refine And.intro (rfl) ?_
      refine cV_use (w := w2) (m := m2) rfl H ?_
      intro m3 H
      refine And.intro (rfl) ?_
      refine cIw_use (w := w2) (m := m3) rfl H ?_
      intro v4 w4 m4 H
      refine And.intro (fun q => ?_) (fun q => ?_)
      · replace H := H.1 q
        refine And.intro (rfl) ?_
        refine cI_use (w := w4) (m := m4) rfl H ?_
        intro v5 m5 H
        exact rIw_mk (w0 := w) (w := w4) (m := m5) H
      · replace H := H.2 (Classical.not_not.mp q)
        exact rIw_mk (w0 := w) (w := w4) (m := m4) H
    · replace H := H.2 q
      refine And.intro (rfl) ?_
      refine cI_use (w := w) (m := m) rfl H ?_
      intro v6 m6 H
      exact rIw_mk (w0 := w) (w := w) (m := m6) H

theorem R_T_doc  {d : Nat} {w : Nat × Nat × Nat} {m : zM} {Q : Int32 → (Nat × Nat × Nat) → zM → Prop} (hk_w21 : (zK w.1 w.2.1).1 = 9) (hn_w21 : ¬ w.2.1 = 0) (H : (((m.1 w.2.1 9) < (8 : Int32) → cVw d 145 [.ref 3] w m (fun w1 m1 => (¬ w1.2.2 = 0) ∧ (((zK w1.1 w1.2.2).1 = 9 ∧ ¬ (zR w1.2.1 w1.2.2 w1.2.2 3) = 0) ∧ (cV d 77 [.ref 8, .ref (zR w1.2.1 w1.2.2 w1.2.2 3)] w1 m1 (fun m2 => (¬ w1.2.2 = 0) ∧ ((zK w1.1 w1.2.2).1 = 9 ∧ (cV d 107 [.ref w1.2.2] w1 m2 (fun m3 => cIw d 149 [.ref 3] w1 m3 (fun v4 w4 m4 => ((¬ v4 = 0 → (¬ w4.2.1 = 0) ∧ ((zK w4.1 w4.2.1).1 = 9 ∧ (Q ((m4.1 w4.2.1 9) - (1 : Int32)) w4 m4))) ∧ (v4 = 0 → Q ((-1) : Int32) w4 m4))))))))))) ∧ (¬ (m.1 w.2.1 9) < (8 : Int32) → cI d 147 [.ref 3] w m (fun v5 m5 => Q v5 w m5)))) : cIw (d + 1) 118 [.ref 3] w m Q := by
  refine cIw_in rfl ?_
  refine mm_yrun (is := mm_k118) [] 400 rfl ?_
  refine And.intro (And.intro (rfl) hn_w21) ?_
  refine And.intro (hk_w21) ?_
  refine And.intro (fun q => ?_) (fun q => ?_)
  · replace H := H.1 q
    refine And.intro (rfl) ?_
    refine cVw_use (w := w) (m := m) rfl H ?_
    intro w1 m1 H
    refine And.intro (And.intro (rfl) (by decide : ¬ 8 = 0)) ?_
    refine And.intro (And.intro (rfl) H.1) ?_
    replace H := H.2
    refine And.intro H.1 ?_
    replace H := H.2
    refine And.intro (rfl) ?_
    refine cV_use (w := w1) (m := m1) rfl H ?_
    intro m2 H
    refine And.intro (And.intro (rfl) H.1) ?_
    replace H := H.2
    refine And.intro H.1 ?_
    replace H := H.2
    refine cV_use (w := w1) (m := m2) rfl H ?_
    intro m3 H
    refine And.intro (rfl) ?_
    refine cIw_use (w := w1) (m := m3) rfl H ?_
    intro v4 w4 m4 H
    refine And.intro (fun q => ?_) (fun q => ?_)
    · replace H := H.1 q
      refine And.intro (And.intro (rfl) H.1) ?_
      replace H := H.2
      refine And.intro H.1 ?_
      replace H := H.2
      exact rIw_mk (w0 := w) (w := w4) (m := m4) H
    · replace H := H.2 (Classical.not_not.mp q)
      exact rIw_mk (w0 := w) (w := w4) (m := m4) H
  · replace H := H.2 q
    refine And.intro (rfl) ?_
    refine cI_use (w := w) (m := m) rfl H ?_
    intro v5 m5 H
    exact rIw_mk (w0 := w) (w := w) (m := m5) H
theorem S_T_doc  {d : Nat} {w : Nat × Nat × Nat} {m : zM} {Q : Int32 → (Nat × Nat × Nat) → zM → Prop} (hp_w21 : zT w.2.1) (H : (((m.1 w.2.1 9) < (8 : Int32) → cVw d 145 [.ref 3] w m (fun w1 m1 => (¬ w1.2.2 = 0) ∧ (((zK w1.1 w1.2.2).1 = 9 ∧ ¬ (zR w1.2.1 w1.2.2 w1.2.2 3) = 0) ∧ (cV d 77 [.ref 8, .ref (zR w1.2.1 w1.2.2 w1.2.2 3)] w1 m1 (fun m2 => (¬ w1.2.2 = 0) ∧ ((zK w1.1 w1.2.2).1 = 9 ∧ (cV d 107 [.ref w1.2.2] w1 m2 (fun m3 => cIw d 149 [.ref 3] w1 m3 (fun v4 w4 m4 => ((¬ v4 = 0 → (¬ w4.2.1 = 0) ∧ ((zK w4.1 w4.2.1).1 = 9 ∧ (Q ((m4.1 w4.2.1 9) - (1 : Int32)) w4 m4))) ∧ (v4 = 0 → Q ((-1) : Int32) w4 m4))))))))))) ∧ (¬ (m.1 w.2.1 9) < (8 : Int32) → cI d 147 [.ref 3] w m (fun v5 m5 => Q v5 w m5)))) : cIw (d + 1) 118 [.ref 3] w m Q := R_T_doc (zT_k hp_w21) (zT_n hp_w21) H

theorem R_T_drop {p0 : Int32} {d : Nat} {w : Nat × Nat × Nat} {m : zM} {Q : Int32 → (Nat × Nat × Nat) → zM → Prop} (hk_w21 : (zK w.1 w.2.1).1 = 9) (hn_w21 : ¬ w.2.1 = 0) (H : ((p0 < 0 → Q ((-1) : Int32) w m) ∧ (¬ p0 < 0 → ((p0 < (m.1 w.2.1 9) → cVw d 145 [.ref 3] w m (fun w1 m1 => (¬ w1.2.2 = 0) ∧ ((zK w1.1 w1.2.2).1 = 9 ∧ (cV d 108 [.ref w1.2.2, .int p0] w1 m1 (fun m2 => cVw d 146 [.ref 3] w1 m2 (fun w3 m3 => (¬ w3.2.1 = 0) ∧ ((zK w3.1 w3.2.1).1 = 9 ∧ (Q (m3.1 w3.2.1 9) w3 m3)))))))) ∧ (¬ p0 < (m.1 w.2.1 9) → Q ((-1) : Int32) w m))))) : cIw (d + 1) 119 [.ref 3, .int p0] w m Q := by
  refine cIw_in rfl ?_
  refine mm_yrun (is := mm_k119) [] 400 rfl ?_
  refine And.intro (fun q => ?_) (fun q => ?_)
  · replace H := H.1 q
    exact rIw_mk (w0 := w) (w := w) (m := m) H
  · replace H := H.2 q
    refine And.intro (And.intro (rfl) hn_w21) ?_
    refine And.intro (hk_w21) ?_
    refine And.intro (fun q => ?_) (fun q => ?_)
    · replace H := H.1 q
      refine And.intro (rfl) ?_
      refine cVw_use (w := w) (m := m) rfl H ?_
      intro w1 m1 H
      refine And.intro (And.intro (rfl) H.1) ?_
      replace H := H.2
      refine And.intro H.1 ?_
      replace H := H.2
      refine cV_use (w := w1) (m := m1) rfl H ?_
      intro m2 H
      refine And.intro (rfl) ?_
      refine cVw_use (w := w1) (m := m2) rfl H ?_
      intro w3 m3 H
      refine And.intro (And.intro (rfl) H.1) ?_
      replace H := H.2
      refine And.intro H.1 ?_
      replace H := H.2
      exact rIw_mk (w0 := w) (w := w3) (m := m3) H
    · replace H := H.2 q
      exact rIw_mk (w0 := w) (w := w) (m := m) H
theorem S_T_drop {p0 : Int32} {d : Nat} {w : Nat × Nat × Nat} {m : zM} {Q : Int32 → (Nat × Nat × Nat) → zM → Prop} (hp_w21 : zT w.2.1) (H : ((p0 < 0 → Q ((-1) : Int32) w m) ∧ (¬ p0 < 0 → ((p0 < (m.1 w.2.1 9) → cVw d 145 [.ref 3] w m (fun w1 m1 => (¬ w1.2.2 = 0) ∧ ((zK w1.1 w1.2.2).1 = 9 ∧ (cV d 108 [.ref w1.2.2, .int p0] w1 m1 (fun m2 => cVw d 146 [.ref 3] w1 m2 (fun w3 m3 => (¬ w3.2.1 = 0) ∧ ((zK w3.1 w3.2.1).1 = 9 ∧ (Q (m3.1 w3.2.1 9) w3 m3)))))))) ∧ (¬ p0 < (m.1 w.2.1 9) → Q ((-1) : Int32) w m))))) : cIw (d + 1) 119 [.ref 3, .int p0] w m Q := R_T_drop (zT_k hp_w21) (zT_n hp_w21) H
