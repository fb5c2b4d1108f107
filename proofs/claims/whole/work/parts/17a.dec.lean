def W_Bases_build_7 (d : Nat) (p0 : Nat) (l2 : Int32) (l3 : Int32) (w : Nat × Nat × Nat) (m : zM) (Q : zM → Prop) : Prop := ∀ o4 o5 o6 o7 : Option Value, mm_W (d + 1) 1 7 [some (.ref 220), some (.ref p0), some (.int l2), some (.int l3), o4, o5, o6, o7] [] (zE w m) (rV w Q)
def W_Bases_build_52 (d : Nat) (p0 : Nat) (l2 : Int32) (l3 : Int32) (w : Nat × Nat × Nat) (m : zM) (Q : zM → Prop) : Prop := ∀ o4 o5 o6 o7 : Option Value, mm_W (d + 1) 1 52 [some (.ref 220), some (.ref p0), some (.int l2), some (.int l3), o4, o5, o6, o7] [] (zE w m) (rV w Q)
def W_Bases_build_83 (d : Nat) (p0 : Nat) (l3 : Int32) (w : Nat × Nat × Nat) (m : zM) (Q : zM → Prop) : Prop := ∀ o2 o4 o5 o6 o7 : Option Value, mm_W (d + 1) 1 83 [some (.ref 220), some (.ref p0), o2, some (.int l3), o4, o5, o6, o7] [] (zE w m) (rV w Q)
theorem S_Bases_build {p0 : Nat} {d : Nat} {w : Nat × Nat × Nat} {m : zM} {Q : zM → Prop} (H : W_Bases_build_7 d p0 (0 : Int32) (0 : Int32) w (zI m 220 7 (0 : Int32)) Q) : cV (d + 1) 1 [.ref 220, .ref p0] w m Q := by
  refine cV_in rfl ?_
  refine mm_yrun (is := mm_k1) [7, 52, 83] 400 rfl ?_
  refine And.intro (rfl) ?_
  exact H _ _ _ _
theorem R_Bases_build_7 {p0 : Nat} {l2 : Int32} {l3 : Int32} {p0_3 : Nat} {d : Nat} {w : Nat × Nat × Nat} {m : zM} {Q : zM → Prop} (he_p0_3 : zR w.2.1 w.2.2 p0 3 = p0_3) (hk_p0 : (zK w.1 p0).1 = 9) (hn_p0_3 : ¬ p0_3 = 0) (hk_p0_3 : (zK w.1 p0_3).1 = 6) (H : (((m.1 p0_3 2) ≤ l3 → W_Bases_build_52 d p0 l2 (0 : Int32) w m Q) ∧ (¬ (m.1 p0_3 2) ≤ l3 → cL d 57 [.ref p0_3, .int l3] w m (fun v1 m1 => cL d 105 [.ref p0, .long v1] w m1 (fun v2 m2 => cV d 159 [.ref 221, .int l3, .long v2] w m2 (fun m3 => cI d 106 [.ref p0, .long v1, .long v2] w m3 (fun v4 m4 => cV d 158 [.ref 222, .int l3, .int v4] w m4 (fun m5 => cI d 164 [.ref 226, .int (m5.1 220 7), .long v2] w m5 (fun v6 m6 => cI d 164 [.ref 227, .int l2, .long v1] w (zI m6 220 7 v6) (fun v7 m7 => W_Bases_build_7 d p0 v7 (l3 + (1 : Int32)) w m7 Q)))))))))) : W_Bases_build_7 d p0 l2 l3 w m Q := by
  subst he_p0_3
  intro o4 o5 o6 o7
  refine mm_yrun (is := mm_k1) [7, 52, 83] 400 rfl ?_
  refine And.intro (And.intro (hk_p0) hn_p0_3) ?_
  refine And.intro (hk_p0_3) ?_
  refine And.intro (fun q => ?_) (fun q => ?_)
  · replace H := H.1 q
    exact H _ _ _ _
  · replace H := H.2 q
    refine And.intro (And.intro (hk_p0) hn_p0_3) ?_
    refine And.intro (hk_p0_3) ?_
    refine cL_use (w := w) (m := m) rfl H ?_
    intro v1 m1 H
    refine And.intro (hk_p0) ?_
    refine cL_use (w := w) (m := m1) rfl H ?_
    intro v2 m2 H
    refine And.intro (And.intro (rfl) (by decide : ¬ 221 = 0)) ?_
    refine And.intro (trivial) ?_
    refine cV_use (w := w) (m := m2) rfl H ?_
    intro m3 H
    refine And.intro (And.intro (rfl) (by decide : ¬ 222 = 0)) ?_
    refine And.intro (hk_p0) ?_
    refine cI_use (w := w) (m := m3) rfl H ?_
    intro v4 m4 H
    refine And.intro (trivial) ?_
    refine cV_use (w := w) (m := m4) rfl H ?_
    intro m5 H
    refine And.intro (And.intro (rfl) (by decide : ¬ 226 = 0)) ?_
    refine And.intro (rfl) ?_
    refine And.intro (trivial) ?_
    refine cI_use (w := w) (m := m5) rfl H ?_
    intro v6 m6 H
    refine And.intro (rfl) ?_
    refine And.intro (And.intro (rfl) (by decide : ¬ 227 = 0)) ?_
    refine And.intro (trivial) ?_
    refine cI_use (w := w) (m := (zI m6 220 7 v6)) rfl H ?_
    intro v7 m7 H
    exact H _ _ _ _
theorem S_Bases_build_7 {p0 : Nat} {l2 : Int32} {l3 : Int32} {d : Nat} {w : Nat × Nat × Nat} {m : zM} {Q : zM → Prop} (hp_p0 : zT p0) (H : (((m.1 (p0 + 10) 2) ≤ l3 → W_Bases_build_52 d p0 l2 (0 : Int32) w m Q) ∧ (¬ (m.1 (p0 + 10) 2) ≤ l3 → cL d 57 [.ref (p0 + 10), .int l3] w m (fun v1 m1 => cL d 105 [.ref p0, .long v1] w m1 (fun v2 m2 => cV d 159 [.ref 221, .int l3, .long v2] w m2 (fun m3 => cI d 106 [.ref p0, .long v1, .long v2] w m3 (fun v4 m4 => cV d 158 [.ref 222, .int l3, .int v4] w m4 (fun m5 => cI d 164 [.ref 226, .int (m5.1 220 7), .long v2] w m5 (fun v6 m6 => cI d 164 [.ref 227, .int l2, .long v1] w (zI m6 220 7 v6) (fun v7 m7 => W_Bases_build_7 d p0 v7 (l3 + (1 : Int32)) w m7 Q)))))))))) : W_Bases_build_7 d p0 l2 l3 w m Q := R_Bases_build_7 (zT_e3 hp_p0) (zT_k hp_p0) (Nat.succ_ne_zero _) (zT_pr hp_p0).1 H
theorem R_Bases_build_52 {p0 : Nat} {l2 : Int32} {l3 : Int32} {p0_3 : Nat} {d : Nat} {w : Nat × Nat × Nat} {m : zM} {Q : zM → Prop} (he_p0_3 : zR w.2.1 w.2.2 p0 3 = p0_3) (hk_p0 : (zK w.1 p0).1 = 9) (hn_p0_3 : ¬ p0_3 = 0) (hk_p0_3 : (zK w.1 p0_3).1 = 6) (H : (((m.1 p0_3 2) ≤ l3 → W_Bases_build_83 d p0 (0 : Int32) w m Q) ∧ (¬ (m.1 p0_3 2) ≤ l3 → cL d 157 [.ref 221, .int l3] w m (fun v1 m1 => cI d 2 [.ref 220, .long v1] w m1 (fun v2 m2 => cV d 158 [.ref 223, .int l3, .int v2] w m2 (fun m3 => cL d 57 [.ref p0_3, .int l3] w m3 (fun v4 m4 => cI d 165 [.ref 227, .int l2, .long v4] w m4 (fun v5 m5 => cV d 158 [.ref 224, .int l3, .int v5] w m5 (fun m6 => W_Bases_build_52 d p0 l2 (l3 + (1 : Int32)) w m6 Q))))))))) : W_Bases_build_52 d p0 l2 l3 w m Q := by
  subst he_p0_3
  intro o4 o5 o6 o7
  refine mm_yrun (is := mm_k1) [7, 52, 83] 400 rfl ?_
  refine And.intro (And.intro (hk_p0) hn_p0_3) ?_
  refine And.intro (hk_p0_3) ?_
  refine And.intro (fun q => ?_) (fun q => ?_)
  · replace H := H.1 q
    exact H _ _ _ _ _
  · replace H := H.2 q
    refine And.intro (And.intro (rfl) (by decide : ¬ 223 = 0)) ?_
    refine And.intro (And.intro (rfl) (by decide : ¬ 221 = 0)) ?_
    refine And.intro (trivial) ?_
    refine cL_use (w := w) (m := m) rfl H ?_
    intro v1 m1 H
    refine And.intro (rfl) ?_
    refine cI_use (w := w) (m := m1) rfl H ?_
    intro v2 m2 H
    refine And.intro (trivial) ?_
    refine cV_use (w := w) (m := m2) rfl H ?_
    intro m3 H
    refine And.intro (And.intro (rfl) (by decide : ¬ 224 = 0)) ?_
    refine And.intro (And.intro (rfl) (by decide : ¬ 227 = 0)) ?_
    refine And.intro (And.intro (hk_p0) hn_p0_3) ?_
    refine And.intro (hk_p0_3) ?_
    refine cL_use (w := w) (m := m3) rfl H ?_
    intro v4 m4 H
    refine And.intro (trivial) ?_
    refine cI_use (w := w) (m := m4) rfl H ?_
    intro v5 m5 H
    refine And.intro (trivial) ?_
    refine cV_use (w := w) (m := m5) rfl H ?_
    intro m6 H
    exact H _ _ _ _
theorem S_Bases_build_52 {p0 : Nat} {l2 : Int32} {l3 : Int32} {d : Nat} {w : Nat × Nat × Nat} {m : zM} {Q : zM → Prop} (hp_p0 : zT p0) (H : (((m.1 (p0 + 10) 2) ≤ l3 → W_Bases_build_83 d p0 (0 : Int32) w m Q) ∧ (¬ (m.1 (p0 + 10) 2) ≤ l3 → cL d 157 [.ref 221, .int l3] w m (fun v1 m1 => cI d 2 [.ref 220, .long v1] w m1 (fun v2 m2 => cV d 158 [.ref 223, .int l3, .int v2] w m2 (fun m3 => cL d 57 [.ref (p0 + 10), .int l3] w m3 (fun v4 m4 => cI d 165 [.ref 227, .int l2, .long v4] w m4 (fun v5 m5 => cV d 158 [.ref 224, .int l3, .int v5] w m5 (fun m6 => W_Bases_build_52 d p0 l2 (l3 + (1 : Int32)) w m6 Q))))))))) : W_Bases_build_52 d p0 l2 l3 w m Q := R_Bases_build_52 (zT_e3 hp_p0) (zT_k hp_p0) (Nat.succ_ne_zero _) (zT_pr hp_p0).1 H
theorem R_Bases_build_83 {p0 : Nat} {l3 : Int32} {p0_5 : Nat} {d : Nat} {w : Nat × Nat × Nat} {m : zM} {Q : zM → Prop} (he_p0_5 : zR w.2.1 w.2.2 p0 5 = p0_5) (hk_p0 : (zK w.1 p0).1 = 9) (hn_p0_5 : ¬ p0_5 = 0) (hk_p0_5 : (zK w.1 p0_5).1 = 6) (H : (((m.1 p0_5 2) ≤ l3 → Q m) ∧ (¬ (m.1 p0_5 2) ≤ l3 → cL d 57 [.ref p0_5, .int l3] w m (fun v1 m1 => cL d 105 [.ref p0, .long v1] w m1 (fun v2 m2 => cI d 2 [.ref 220, .long v2] w m2 (fun v3 m3 => cV d 158 [.ref 225, .int l3, .int v3] w m3 (fun m4 => W_Bases_build_83 d p0 (l3 + (1 : Int32)) w m4 Q))))))) : W_Bases_build_83 d p0 l3 w m Q := by
  subst he_p0_5
  intro o2 o4 o5 o6 o7
  refine mm_yrun (is := mm_k1) [7, 52, 83] 400 rfl ?_
  refine And.intro (And.intro (hk_p0) hn_p0_5) ?_
  refine And.intro (hk_p0_5) ?_
  refine And.intro (fun q => ?_) (fun q => ?_)
  · replace H := H.1 q
    exact rV_mk (w := w) (m := m) H
  · replace H := H.2 q
    refine And.intro (And.intro (rfl) (by decide : ¬ 225 = 0)) ?_
    refine And.intro (And.intro (hk_p0) hn_p0_5) ?_
    refine And.intro (hk_p0_5) ?_
    refine cL_use (w := w) (m := m) rfl H ?_
    intro v1 m1 H
    refine And.intro (hk_p0) ?_
    refine cL_use (w := w) (m := m1) rfl H ?_
    intro v2 m2 H
    refine And.intro (rfl) ?_
    refine cI_use (w := w) (m := m2) rfl H ?_
    intro v3 m3 H
    refine And.intro (trivial) ?_
    refine cV_use (w := w) (m := m3) rfl H ?_
    intro m4 H
    exact H _ _ _ _ _
theorem S_Bases_build_83 {p0 : Nat} {l3 : Int32} {d : Nat} {w : Nat × Nat × Nat} {m : zM} {Q : zM → Prop} (hp_p0 : zT p0) (H : (((m.1 (p0 + 14) 2) ≤ l3 → Q m) ∧ (¬ (m.1 (p0 + 14) 2) ≤ l3 → cL d 57 [.ref (p0 + 14), .int l3] w m (fun v1 m1 => cL d 105 [.ref p0, .long v1] w m1 (fun v2 m2 => cI d 2 [.ref 220, .long v2] w m2 (fun v3 m3 => cV d 158 [.ref 225, .int l3, .int v3] w m3 (fun m4 => W_Bases_build_83 d p0 (l3 + (1 : Int32)) w m4 Q))))))) : W_Bases_build_83 d p0 l3 w m Q := R_Bases_build_83 (zT_e5 hp_p0) (zT_k hp_p0) (Nat.succ_ne_zero _) (zT_ge hp_p0).1 H

theorem S_Bases_idOf {p0 : Int64} {d : Nat} {w : Nat × Nat × Nat} {m : zM} {Q : Int32 → zM → Prop} (H : cI d 165 [.ref 226, .int (m.1 220 7), .long p0] w m (fun v1 m1 => Q v1 m1)) : cI (d + 1) 2 [.ref 220, .long p0] w m Q := by
  refine cI_in rfl ?_
  refine mm_yrun (is := mm_k2) [] 400 rfl ?_
  refine And.intro (And.intro (rfl) (by decide : ¬ 226 = 0)) ?_
  refine And.intro (rfl) ?_
  refine And.intro (trivial) ?_
  refine cI_use (w := w) (m := m) rfl H ?_
  intro v1 m1 H
  exact rI_mk (w := w) (m := m1) H

theorem R_Bytes_add {a : Nat} {p0 : Int32} {a_0 : Nat} {nl_a_0 : Nat} {d : Nat} {w : Nat × Nat × Nat} {m : zM} {Q : zM → Prop} (he_a_0 : zR w.2.1 w.2.2 a 0 = a_0) (hk_a : (zK w.1 a).1 = 1) (hn_a_0 : ¬ a_0 = 0) (hk_a_0 : (zK w.1 a_0).1 = 12) (hl_a_0 : (zK w.1 a_0).2 = nl_a_0) (H : (((Int32.ofNat nl_a_0) ≤ (m.1 a 1) → Q m) ∧ (¬ (Int32.ofNat nl_a_0) ≤ (m.1 a 1) → cV d 158 [.ref a_0, .int (m.1 a 1), .int (p0 &&& (255 : Int32))] w m (fun m1 => Q (zI m1 a 1 ((m1.1 a 1) + (1 : Int32))))))) : cV (d + 1) 4 [.ref a, .int p0] w m Q := by
  subst he_a_0
  subst hl_a_0
  refine cV_in rfl ?_
  refine mm_yrun (is := mm_k4) [] 400 rfl ?_
  refine And.intro (hk_a) ?_
  refine And.intro (And.intro (hk_a) hn_a_0) ?_
  refine And.intro (zArK hk_a_0) ?_
  refine And.intro (fun q => ?_) (fun q => ?_)
  · replace H := H.1 q
    exact rV_mk (w := w) (m := m) H
  · replace H := H.2 q
    refine And.intro (And.intro (hk_a) hn_a_0) ?_
    refine And.intro (hk_a) ?_
    refine And.intro (trivial) ?_
    refine cV_use (w := w) (m := m) rfl H ?_
    intro m1 H
    refine And.intro (hk_a) ?_
    refine And.intro (hk_a) ?_
    exact rV_mk (w := w) (m := (zI m1 a 1 ((m1.1 a 1) + (1 : Int32)))) H
theorem S_Bytes_add {a : Nat} {p0 : Int32} {n_a : Nat} {d : Nat} {w : Nat × Nat × Nat} {m : zM} {Q : zM → Prop} (hp_a : zBy w a n_a) (H : (((Int32.ofNat n_a) ≤ (m.1 a 1) → Q m) ∧ (¬ (Int32.ofNat n_a) ≤ (m.1 a 1) → cV d 158 [.ref (a + 1), .int (m.1 a 1), .int (p0 &&& (255 : Int32))] w m (fun m1 => Q (zI m1 a 1 ((m1.1 a 1) + (1 : Int32))))))) : cV (d + 1) 4 [.ref a, .int p0] w m Q := R_Bytes_add hp_a.2.1 hp_a.1 (Nat.succ_ne_zero _) (zAr_k (hp_a.2.2)) (zAr_l (hp_a.2.2)) H

theorem R_Bytes_addNumber {a : Nat} {p0 : Int32} {d : Nat} {w : Nat × Nat × Nat} {m : zM} {Q : zM → Prop} (hk_a : (zK w.1 a).1 = 1) (H : cV d 4 [.ref a, .int ((p0).toUInt32 >>> (((24 : Int32)).toUInt32 &&& Int32.toUInt32 31)).toInt32] w m (fun m1 => cV d 4 [.ref a, .int ((p0).toUInt32 >>> (((16 : Int32)).toUInt32 &&& Int32.toUInt32 31)).toInt32] w m1 (fun m2 => cV d 4 [.ref a, .int ((p0).toUInt32 >>> (((8 : Int32)).toUInt32 &&& Int32.toUInt32 31)).toInt32] w m2 (fun m3 => cV d 4 [.ref a, .int p0] w m3 (fun m4 => Q m4))))) : cV (d + 1) 5 [.ref a, .int p0] w m Q := by
  refine cV_in rfl ?_
  refine mm_yrun (is := mm_k5) [] 400 rfl ?_
  refine And.intro (hk_a) ?_
  refine cV_use (w := w) (m := m) rfl H ?_
  intro m1 H
  refine And.intro (hk_a) ?_
  refine cV_use (w := w) (m := m1) rfl H ?_
  intro m2 H
  refine And.intro (hk_a) ?_
  refine cV_use (w := w) (m := m2) rfl H ?_
  intro m3 H
  refine And.intro (hk_a) ?_
  refine cV_use (w := w) (m := m3) rfl H ?_
  intro m4 H
  exact rV_mk (w := w) (m := m4) H
theorem S_Bytes_addNumber {a : Nat} {p0 : Int32} {n_a : Nat} {d : Nat} {w : Nat × Nat × Nat} {m : zM} {Q : zM → Prop} (hp_a : zBy w a n_a) (H : cV d 4 [.ref a, .int ((p0).toUInt32 >>> (((24 : Int32)).toUInt32 &&& Int32.toUInt32 31)).toInt32] w m (fun m1 => cV d 4 [.ref a, .int ((p0).toUInt32 >>> (((16 : Int32)).toUInt32 &&& Int32.toUInt32 31)).toInt32] w m1 (fun m2 => cV d 4 [.ref a, .int ((p0).toUInt32 >>> (((8 : Int32)).toUInt32 &&& Int32.toUInt32 31)).toInt32] w m2 (fun m3 => cV d 4 [.ref a, .int p0] w m3 (fun m4 => Q m4))))) : cV (d + 1) 5 [.ref a, .int p0] w m Q := R_Bytes_addNumber hp_a.1 H

def W_Bytes_addWord_5 (d : Nat) (a : Nat) (l1 : Int64) (l3 : Int32) (l4 : Int32) (w : Nat × Nat × Nat) (m : zM) (Q : zM → Prop) : Prop := mm_W (d + 1) 6 5 [some (.ref a), some (.long l1), none, some (.int l3), some (.int l4)] [] (zE w m) (rV w Q)
theorem S_Bytes_addWord {a : Nat} {p0 : Int64} {d : Nat} {w : Nat × Nat × Nat} {m : zM} {Q : zM → Prop} (H : cI d 168 [.long p0] w m (fun v1 m1 => W_Bytes_addWord_5 d a p0 v1 (0 : Int32) w m1 Q)) : cV (d + 1) 6 [.ref a, .long p0] w m Q := by
  refine cV_in rfl ?_
  refine mm_yrun (is := mm_k6) [5] 400 rfl ?_
  refine And.intro (trivial) ?_
  refine cI_use (w := w) (m := m) rfl H ?_
  intro v1 m1 H
  exact H
theorem R_Bytes_addWord_5 {a : Nat} {l1 : Int64} {l3 : Int32} {l4 : Int32} {d : Nat} {w : Nat × Nat × Nat} {m : zM} {Q : zM → Prop} (hk_a : (zK w.1 a).1 = 1) (H : ((l3 ≤ l4 → Q m) ∧ (¬ l3 ≤ l4 → (((10 : Int32) ≤ l4 → Q m) ∧ (¬ (10 : Int32) ≤ l4 → cI d 167 [.long l1, .int l4] w m (fun v1 m1 => cV d 4 [.ref a, .int ((96 : Int32) + v1)] w m1 (fun m2 => W_Bytes_addWord_5 d a l1 l3 (l4 + (1 : Int32)) w m2 Q))))))) : W_Bytes_addWord_5 d a l1 l3 l4 w m Q := by
  refine mm_yrun (is := mm_k6) [5] 400 rfl ?_
  refine And.intro (fun q => ?_) (fun q => ?_)
  · replace H := H.1 q
    exact rV_mk (w := w) (m := m) H
  · replace H := H.2 q
    refine And.intro (fun q => ?_) (fun q => ?_)
    · replace H := H.1 q
      exact rV_mk (w := w) (m := m) H
    · replace H := H.2 q
      refine And.intro (trivial) ?_
      refine cI_use (w := w) (m := m) rfl H ?_
      intro v1 m1 H
      refine And.intro (hk_a) ?_
      refine cV_use (w := w) (m := m1) rfl H ?_
      intro m2 H
      exact H
theorem S_Bytes_addWord_5 {a : Nat} {l1 : Int64} {l3 : Int32} {l4 : Int32} {n_a : Nat} {d : Nat} {w : Nat × Nat × Nat} {m : zM} {Q : zM → Prop} (hp_a : zBy w a n_a) (H : ((l3 ≤ l4 → Q m) ∧ (¬ l3 ≤ l4 → (((10 : Int32) ≤ l4 → Q m) ∧ (¬ (10 : Int32) ≤ l4 → cI d 167 [.long l1, .int l4] w m (fun v1 m1 => cV d 4 [.ref a, .int ((96 : Int32) + v1)] w m1 (fun m2 => W_Bytes_addWord_5 d a l1 l3 (l4 + (1 : Int32)) w m2 Q))))))) : W_Bytes_addWord_5 d a l1 l3 l4 w m Q := R_Bytes_addWord_5 hp_a.1 H

theorem R_Bytes_byteAt {a : Nat} {p0 : Int32} {a_0 : Nat} {nl_a_0 : Nat} {d : Nat} {w : Nat × Nat × Nat} {m : zM} {Q : Int32 → zM → Prop} (he_a_0 : zR w.2.1 w.2.2 a 0 = a_0) (hk_a : (zK w.1 a).1 = 1) (hn_a_0 : ¬ a_0 = 0) (hk_a_0 : (zK w.1 a_0).1 = 12) (hl_a_0 : (zK w.1 a_0).2 = nl_a_0) (H : ((p0 < 0 → Q ((-1) : Int32) m) ∧ (¬ p0 < 0 → (((m.1 a 1) ≤ p0 → Q ((-1) : Int32) m) ∧ (¬ (m.1 a 1) ≤ p0 → ((p0 < (Int32.ofNat nl_a_0) → vp_in p0 nl_a_0 ∧ (Q (m.1 a_0 (p0).toNatClampNeg) m)) ∧ (¬ p0 < (Int32.ofNat nl_a_0) → Q ((-1) : Int32) m))))))) : cI d 7 [.ref a, .int p0] w m Q := by
  subst he_a_0
  subst hl_a_0
  refine cI_in rfl ?_
  refine mm_yrun (is := mm_k7) [] 400 rfl ?_
  refine And.intro (fun q => ?_) (fun q => ?_)
  · replace H := H.1 q
    exact rI_mk (w := w) (m := m) H
  · replace H := H.2 q
    refine And.intro (hk_a) ?_
    refine And.intro (fun q => ?_) (fun q => ?_)
    · replace H := H.1 q
      exact rI_mk (w := w) (m := m) H
    · replace H := H.2 q
      refine And.intro (And.intro (hk_a) hn_a_0) ?_
      refine And.intro (zArK hk_a_0) ?_
      refine And.intro (fun q => ?_) (fun q => ?_)
      · replace H := H.1 q
        refine And.intro (And.intro (hk_a) hn_a_0) ?_
        refine And.intro (And.intro (hk_a_0) H.1) ?_
        replace H := H.2
        exact rI_mk (w := w) (m := m) H
      · replace H := H.2 q
        exact rI_mk (w := w) (m := m) H
theorem S_Bytes_byteAt {a : Nat} {p0 : Int32} {n_a : Nat} {d : Nat} {w : Nat × Nat × Nat} {m : zM} {Q : Int32 → zM → Prop} (hp_a : zBy w a n_a) (H : ((p0 < 0 → Q ((-1) : Int32) m) ∧ (¬ p0 < 0 → (((m.1 a 1) ≤ p0 → Q ((-1) : Int32) m) ∧ (¬ (m.1 a 1) ≤ p0 → ((p0 < (Int32.ofNat n_a) → vp_in p0 n_a ∧ (Q (m.1 (a + 1) (p0).toNatClampNeg) m)) ∧ (¬ p0 < (Int32.ofNat n_a) → Q ((-1) : Int32) m))))))) : cI d 7 [.ref a, .int p0] w m Q := R_Bytes_byteAt hp_a.2.1 hp_a.1 (Nat.succ_ne_zero _) (zAr_k (hp_a.2.2)) (zAr_l (hp_a.2.2)) H

def W_Bytes_asWord_10 (d : Nat) (a : Nat) (l1 : Int64) (l3 : Int32) (w : Nat × Nat × Nat) (m : zM) (Q : Int64 → zM → Prop) : Prop := ∀ o4 : Option Value, mm_W (d + 1) 8 10 [some (.ref a), some (.long l1), none, some (.int l3), o4] [] (zE w m) (rL w Q)
theorem R_Bytes_asWord {a : Nat} {d : Nat} {w : Nat × Nat × Nat} {m : zM} {Q : Int64 → zM → Prop} (hk_a : (zK w.1 a).1 = 1) (H : (((m.1 a 1) ≤ (10 : Int32) → W_Bytes_asWord_10 d a (0 : Int64) (0 : Int32) w m Q) ∧ (¬ (m.1 a 1) ≤ (10 : Int32) → Q (0 : Int64) m))) : cL (d + 1) 8 [.ref a] w m Q := by
  refine cL_in rfl ?_
  refine mm_yrun (is := mm_k8) [10] 400 rfl ?_
  refine And.intro (hk_a) ?_
  refine And.intro (fun q => ?_) (fun q => ?_)
  · replace H := H.1 q
    exact H _
  · replace H := H.2 q
    exact rL_mk (w := w) (m := m) H
theorem S_Bytes_asWord {a : Nat} {n_a : Nat} {d : Nat} {w : Nat × Nat × Nat} {m : zM} {Q : Int64 → zM → Prop} (hp_a : zBy w a n_a) (H : (((m.1 a 1) ≤ (10 : Int32) → W_Bytes_asWord_10 d a (0 : Int64) (0 : Int32) w m Q) ∧ (¬ (m.1 a 1) ≤ (10 : Int32) → Q (0 : Int64) m))) : cL (d + 1) 8 [.ref a] w m Q := R_Bytes_asWord hp_a.1 H
theorem R_Bytes_asWord_10 {a : Nat} {l1 : Int64} {l3 : Int32} {d : Nat} {w : Nat × Nat × Nat} {m : zM} {Q : Int64 → zM → Prop} (hk_a : (zK w.1 a).1 = 1) (H : (((m.1 a 1) ≤ l3 → Q l1 m) ∧ (¬ (m.1 a 1) ≤ l3 → cI d 7 [.ref a, .int l3] w m (fun v1 m1 => cI d 169 [.int v1] w m1 (fun v2 m2 => ((¬ v2 = 0 → cI d 166 [.int l3] w m2 (fun v3 m3 => W_Bytes_asWord_10 d a (l1 ||| (((v1 - (96 : Int32))).toInt64 <<< ((v3).toInt64 &&& 63))) (l3 + (1 : Int32)) w m3 Q)) ∧ (v2 = 0 → Q (0 : Int64) m2))))))) : W_Bytes_asWord_10 d a l1 l3 w m Q := by
  intro o4
  refine mm_yrun (is := mm_k8) [10] 400 rfl ?_
  refine And.intro (hk_a) ?_
  refine And.intro (fun q => ?_) (fun q => ?_)
  · replace H := H.1 q
    exact rL_mk (w := w) (m := m) H
  · replace H := H.2 q
    refine And.intro (hk_a) ?_
    refine cI_use (w := w) (m := m) rfl H ?_
    intro v1 m1 H
    refine And.intro (trivial) ?_
    refine cI_use (w := w) (m := m1) rfl H ?_
    intro v2 m2 H
    refine And.intro (fun q => ?_) (fun q => ?_)
    · replace H := H.1 q
      refine And.intro (trivial) ?_
      refine cI_use (w := w) (m := m2) rfl H ?_
      intro v3 m3 H
      exact H _
    · replace H := H.2 (Classical.not_not.mp q)
      exact rL_mk (w := w) (m := m2) H
theorem S_Bytes_asWord_10 {a : Nat} {l1 : Int64} {l3 : Int32} {n_a : Nat} {d : Nat} {w : Nat × Nat × Nat} {m : zM} {Q : Int64 → zM → Prop} (hp_a : zBy w a n_a) (H : (((m.1 a 1) ≤ l3 → Q l1 m) ∧ (¬ (m.1 a 1) ≤ l3 → cI d 7 [.ref a, .int l3] w m (fun v1 m1 => cI d 169 [.int v1] w m1 (fun v2 m2 => ((¬ v2 = 0 → cI d 166 [.int l3] w m2 (fun v3 m3 => W_Bytes_asWord_10 d a (l1 ||| (((v1 - (96 : Int32))).toInt64 <<< ((v3).toInt64 &&& 63))) (l3 + (1 : Int32)) w m3 Q)) ∧ (v2 = 0 → Q (0 : Int64) m2))))))) : W_Bytes_asWord_10 d a l1 l3 w m Q := R_Bytes_asWord_10 hp_a.1 H

def W_Matches_build_5 (d : Nat) (p0 : Nat) (l3 : Int32) (w : Nat × Nat × Nat) (m : zM) (Q : zM → Prop) : Prop := mm_W (d + 1) 10 5 [some (.ref 228), some (.ref p0), some (.ref 220), some (.int l3)] [] (zE w m) (rV w Q)
theorem S_Matches_build {p0 : Nat} {d : Nat} {w : Nat × Nat × Nat} {m : zM} {Q : zM → Prop} (H : W_Matches_build_5 d p0 (0 : Int32) w (zI m 228 8 (0 : Int32)) Q) : cV (d + 1) 10 [.ref 228, .ref p0, .ref 220] w m Q := by
  refine cV_in rfl ?_
  refine mm_yrun (is := mm_k10) [5] 400 rfl ?_
  refine And.intro (rfl) ?_
  exact H
theorem R_Matches_build_5 {p0 : Nat} {l3 : Int32} {p0_3 : Nat} {d : Nat} {w : Nat × Nat × Nat} {m : zM} {Q : zM → Prop} (he_p0_3 : zR w.2.1 w.2.2 p0 3 = p0_3) (hk_p0 : (zK w.1 p0).1 = 9) (hn_p0_3 : ¬ p0_3 = 0) (hk_p0_3 : (zK w.1 p0_3).1 = 6) (H : (((m.1 p0_3 2) ≤ l3 → cV d 13 [.ref 228] w m (fun m1 => cV d 31 [.ref 228, .int (m1.1 228 8)] w m1 (fun m2 => Q m2))) ∧ (¬ (m.1 p0_3 2) ≤ l3 → cV d 11 [.ref 228, .ref p0, .ref 220, .int l3] w m (fun m3 => W_Matches_build_5 d p0 (l3 + (1 : Int32)) w m3 Q)))) : W_Matches_build_5 d p0 l3 w m Q := by
  subst he_p0_3
  refine mm_yrun (is := mm_k10) [5] 400 rfl ?_
  refine And.intro (And.intro (hk_p0) hn_p0_3) ?_
  refine And.intro (hk_p0_3) ?_
  refine And.intro (fun q => ?_) (fun q => ?_)
  · replace H := H.1 q
    refine And.intro (rfl) ?_
    refine cV_use (w := w) (m := m) rfl H ?_
    intro m1 H
    refine And.intro (rfl) ?_
    refine And.intro (rfl) ?_
    refine cV_use (w := w) (m := m1) rfl H ?_
    intro m2 H
    exact rV_mk (w := w) (m := m2) H
  · replace H := H.2 q
    refine And.intro (rfl) ?_
    refine cV_use (w := w) (m := m) rfl H ?_
    intro m3 H
    exact H
theorem S_Matches_build_5 {p0 : Nat} {l3 : Int32} {d : Nat} {w : Nat × Nat × Nat} {m : zM} {Q : zM → Prop} (hp_p0 : zT p0) (H : (((m.1 (p0 + 10) 2) ≤ l3 → cV d 13 [.ref 228] w m (fun m1 => cV d 31 [.ref 228, .int (m1.1 228 8)] w m1 (fun m2 => Q m2))) ∧ (¬ (m.1 (p0 + 10) 2) ≤ l3 → cV d 11 [.ref 228, .ref p0, .ref 220, .int l3] w m (fun m3 => W_Matches_build_5 d p0 (l3 + (1 : Int32)) w m3 Q)))) : W_Matches_build_5 d p0 l3 w m Q := R_Matches_build_5 (zT_e3 hp_p0) (zT_k hp_p0) (Nat.succ_ne_zero _) (zT_pr hp_p0).1 H

def W_Matches_addFrom_8 (d : Nat) (p0 : Nat) (l3 : Int32) (l4 : Int64) (l6 : Int64) (l8 : Int32) (l9 : Int32) (w : Nat × Nat × Nat) (m : zM) (Q : zM → Prop) : Prop := ∀ o10 o11 : Option Value, mm_W (d + 1) 11 8 [some (.ref 228), some (.ref p0), some (.ref 220), some (.int l3), some (.long l4), none, some (.long l6), none, some (.int l8), some (.int l9), o10, o11] [] (zE w m) (rV w Q)
def W_Matches_addFrom_43 (d : Nat) (p0 : Nat) (l3 : Int32) (l4 : Int64) (l6 : Int64) (l9 : Int32) (l10 : Int32) (t0 : Int32) (w : Nat × Nat × Nat) (m : zM) (Q : zM → Prop) : Prop := ∀ o8 o11 : Option Value, mm_W (d + 1) 11 43 [some (.ref 228), some (.ref p0), some (.ref 220), some (.int l3), some (.long l4), none, some (.long l6), none, o8, some (.int l9), some (.int l10), o11] [.int t0] (zE w m) (rV w Q)
theorem S_Matches_addFrom {p0 : Nat} {p2 : Int32} {d : Nat} {w : Nat × Nat × Nat} {m : zM} {Q : zM → Prop} (H : W_Matches_addFrom_8 d p0 p2 (0 : Int64) (0 : Int64) (0 : Int32) (0 : Int32) w m Q) : cV (d + 1) 11 [.ref 228, .ref p0, .ref 220, .int p2] w m Q := by
  refine cV_in rfl ?_
  refine mm_yrun (is := mm_k11) [8, 43] 400 rfl ?_
  exact H _ _
theorem R_Matches_addFrom_8 {p0 : Nat} {l3 : Int32} {l4 : Int64} {l6 : Int64} {l8 : Int32} {l9 : Int32} {p0_3 : Nat} {p0_6 : Nat} {d : Nat} {w : Nat × Nat × Nat} {m : zM} {Q : zM → Prop} (he_p0_3 : zR w.2.1 w.2.2 p0 3 = p0_3) (he_p0_6 : zR w.2.1 w.2.2 p0 6 = p0_6) (hk_p0 : (zK w.1 p0).1 = 9) (hn_p0_3 : ¬ p0_3 = 0) (hk_p0_3 : (zK w.1 p0_3).1 = 6) (hn_p0_6 : ¬ p0_6 = 0) (hk_p0_6 : (zK w.1 p0_6).1 = 5) (H : (((m.1 p0 11) ≤ l9 → Q m) ∧ (¬ (m.1 p0 11) ≤ l9 → (((5 : Int32) ≤ l9 → Q m) ∧ (¬ (5 : Int32) ≤ l9 → cI d 59 [.ref p0_3, .int l3, .int (l3 + l9)] w m (fun v1 m1 => ((¬ v1 = 0 → cI d 156 [.ref 222, .int (l3 + l9)] w m1 (fun v2 m2 => ((¬ l9 = 0 → cI d 52 [.ref p0_6, .int l8, .int v2] w m2 (fun v3 m3 => W_Matches_addFrom_43 d p0 l3 l4 l6 l9 (l3 + l9) v3 w m3 Q)) ∧ (l9 = 0 → cI d 51 [.ref p0_6, .int v2] w m2 (fun v4 m4 => W_Matches_addFrom_43 d p0 l3 l4 l6 l9 (l3 + l9) v4 w m4 Q))))) ∧ (v1 = 0 → Q m1)))))))) : W_Matches_addFrom_8 d p0 l3 l4 l6 l8 l9 w m Q := by
  subst he_p0_3
  subst he_p0_6
  intro o10 o11
  refine mm_yrun (is := mm_k11) [8, 43] 400 rfl ?_
  refine And.intro (hk_p0) ?_
  refine And.intro (fun q => ?_) (fun q => ?_)
  · replace H := H.1 q
    exact rV_mk (w := w) (m := m) H
  · replace H := H.2 q
    refine And.intro (fun q => ?_) (fun q => ?_)
    · replace H := H.1 q
      exact rV_mk (w := w) (m := m) H
    · replace H := H.2 q
      refine And.intro (And.intro (hk_p0) hn_p0_3) ?_
      refine And.intro (hk_p0_3) ?_
      refine cI_use (w := w) (m := m) rfl H ?_
      intro v1 m1 H
      refine And.intro (fun q => ?_) (fun q => ?_)
      · replace H := H.1 q
        refine And.intro (And.intro (rfl) (by decide : ¬ 222 = 0)) ?_
        refine And.intro (trivial) ?_
        refine cI_use (w := w) (m := m1) rfl H ?_
        intro v2 m2 H
        refine And.intro (fun q => ?_) (fun q => ?_)
        · replace H := H.1 q
          refine And.intro (And.intro (hk_p0) hn_p0_6) ?_
          refine And.intro (hk_p0_6) ?_
          refine cI_use (w := w) (m := m2) rfl H ?_
          intro v3 m3 H
          exact H _ _
        · replace H := H.2 (Classical.not_not.mp q)
          refine And.intro (And.intro (hk_p0) hn_p0_6) ?_
          refine And.intro (hk_p0_6) ?_
          refine cI_use (w := w) (m := m2) rfl H ?_
          intro v4 m4 H
          exact H _ _
      · replace H := H.2 (Classical.not_not.mp q)
        exact rV_mk (w := w) (m := m1) H
theorem S_Matches_addFrom_8 {p0 : Nat} {l3 : Int32} {l4 : Int64} {l6 : Int64} {l8 : Int32} {l9 : Int32} {d : Nat} {w : Nat × Nat × Nat} {m : zM} {Q : zM → Prop} (hp_p0 : zT p0) (H : (((m.1 p0 11) ≤ l9 → Q m) ∧ (¬ (m.1 p0 11) ≤ l9 → (((5 : Int32) ≤ l9 → Q m) ∧ (¬ (5 : Int32) ≤ l9 → cI d 59 [.ref (p0 + 10), .int l3, .int (l3 + l9)] w m (fun v1 m1 => ((¬ v1 = 0 → cI d 156 [.ref 222, .int (l3 + l9)] w m1 (fun v2 m2 => ((¬ l9 = 0 → cI d 52 [.ref (p0 + 17), .int l8, .int v2] w m2 (fun v3 m3 => W_Matches_addFrom_43 d p0 l3 l4 l6 l9 (l3 + l9) v3 w m3 Q)) ∧ (l9 = 0 → cI d 51 [.ref (p0 + 17), .int v2] w m2 (fun v4 m4 => W_Matches_addFrom_43 d p0 l3 l4 l6 l9 (l3 + l9) v4 w m4 Q))))) ∧ (v1 = 0 → Q m1)))))))) : W_Matches_addFrom_8 d p0 l3 l4 l6 l8 l9 w m Q := R_Matches_addFrom_8 (zT_e3 hp_p0) (zT_e6 hp_p0) (zT_k hp_p0) (Nat.succ_ne_zero _) (zT_pr hp_p0).1 (Nat.succ_ne_zero _) (zT_pt hp_p0).1 H
theorem R_Matches_addFrom_43 {p0 : Nat} {l3 : Int32} {l4 : Int64} {l6 : Int64} {l9 : Int32} {l10 : Int32} {t0 : Int32} {p0_6 : Nat} {d : Nat} {w : Nat × Nat × Nat} {m : zM} {Q : zM → Prop} (he_p0_6 : zR w.2.1 w.2.2 p0 6 = p0_6) (hk_p0 : (zK w.1 p0).1 = 9) (hn_p0_6 : ¬ p0_6 = 0) (hk_p0_6 : (zK w.1 p0_6).1 = 5) (H : cI d 156 [.ref 223, .int l10] w m (fun v1 m1 => cL d 171 [.int v1, .int l9] w m1 (fun v2 m2 => cI d 156 [.ref 224, .int l10] w m2 (fun v3 m3 => cL d 171 [.int v3, .int l9] w m3 (fun v4 m4 => (((l9 + (1 : Int32)) < (m4.1 p0 10) → W_Matches_addFrom_8 d p0 l3 (l4 ||| v2) (l6 ||| v4) t0 (l9 + (1 : Int32)) w m4 Q) ∧ (¬ (l9 + (1 : Int32)) < (m4.1 p0 10) → cI d 53 [.ref p0_6, .int t0] w m4 (fun v5 m5 => ((v5 = 0 → W_Matches_addFrom_8 d p0 l3 (l4 ||| v2) (l6 ||| v4) t0 (l9 + (1 : Int32)) w m5 Q) ∧ (¬ v5 = 0 → cV d 12 [.ref 228, .int l3, .int (l9 + (1 : Int32)), .long (l4 ||| v2), .long (l6 ||| v4)] w m5 (fun m6 => W_Matches_addFrom_8 d p0 l3 (l4 ||| v2) (l6 ||| v4) t0 (l9 + (1 : Int32)) w m6 Q))))))))))) : W_Matches_addFrom_43 d p0 l3 l4 l6 l9 l10 t0 w m Q := by
  subst he_p0_6
  intro o8 o11
  refine mm_yrun (is := mm_k11) [8, 43] 400 rfl ?_
  refine And.intro (And.intro (rfl) (by decide : ¬ 223 = 0)) ?_
  refine And.intro (trivial) ?_
  refine cI_use (w := w) (m := m) rfl H ?_
  intro v1 m1 H
  refine And.intro (trivial) ?_
  refine cL_use (w := w) (m := m1) rfl H ?_
  intro v2 m2 H
  refine And.intro (And.intro (rfl) (by decide : ¬ 224 = 0)) ?_
  refine And.intro (trivial) ?_
  refine cI_use (w := w) (m := m2) rfl H ?_
  intro v3 m3 H
  refine And.intro (trivial) ?_
  refine cL_use (w := w) (m := m3) rfl H ?_
  intro v4 m4 H
  refine And.intro (hk_p0) ?_
  refine And.intro (fun q => ?_) (fun q => ?_)
  · replace H := H.1 q
    exact H _ _
  · replace H := H.2 q
    refine And.intro (And.intro (hk_p0) hn_p0_6) ?_
    refine And.intro (hk_p0_6) ?_
    refine cI_use (w := w) (m := m4) rfl H ?_
    intro v5 m5 H
    refine And.intro (fun q => ?_) (fun q => ?_)
    · replace H := H.1 q
      exact H _ _
    · replace H := H.2 q
      refine And.intro (rfl) ?_
      refine cV_use (w := w) (m := m5) rfl H ?_
      intro m6 H
      exact H _ _
theorem S_Matches_addFrom_43 {p0 : Nat} {l3 : Int32} {l4 : Int64} {l6 : Int64} {l9 : Int32} {l10 : Int32} {t0 : Int32} {d : Nat} {w : Nat × Nat × Nat} {m : zM} {Q : zM → Prop} (hp_p0 : zT p0) (H : cI d 156 [.ref 223, .int l10] w m (fun v1 m1 => cL d 171 [.int v1, .int l9] w m1 (fun v2 m2 => cI d 156 [.ref 224, .int l10] w m2 (fun v3 m3 => cL d 171 [.int v3, .int l9] w m3 (fun v4 m4 => (((l9 + (1 : Int32)) < (m4.1 p0 10) → W_Matches_addFrom_8 d p0 l3 (l4 ||| v2) (l6 ||| v4) t0 (l9 + (1 : Int32)) w m4 Q) ∧ (¬ (l9 + (1 : Int32)) < (m4.1 p0 10) → cI d 53 [.ref (p0 + 17), .int t0] w m4 (fun v5 m5 => ((v5 = 0 → W_Matches_addFrom_8 d p0 l3 (l4 ||| v2) (l6 ||| v4) t0 (l9 + (1 : Int32)) w m5 Q) ∧ (¬ v5 = 0 → cV d 12 [.ref 228, .int l3, .int (l9 + (1 : Int32)), .long (l4 ||| v2), .long (l6 ||| v4)] w m5 (fun m6 => W_Matches_addFrom_8 d p0 l3 (l4 ||| v2) (l6 ||| v4) t0 (l9 + (1 : Int32)) w m6 Q))))))))))) : W_Matches_addFrom_43 d p0 l3 l4 l6 l9 l10 t0 w m Q := R_Matches_addFrom_43 (zT_e6 hp_p0) (zT_k hp_p0) (Nat.succ_ne_zero _) (zT_pt hp_p0).1 H

theorem S_Matches_add {p0 : Int32} {p1 : Int32} {p2 : Int64} {p3 : Int64} {d : Nat} {w : Nat × Nat × Nat} {m : zM} {Q : zM → Prop} (H : (((m.1 228 8) < (1200 : Int32) → cV d 158 [.ref 231, .int (m.1 228 8), .int p0] w m (fun m1 => cV d 158 [.ref 232, .int (m1.1 228 8), .int p1] w m1 (fun m2 => cV d 159 [.ref 235, .int (m2.1 228 8), .long p2] w m2 (fun m3 => cV d 159 [.ref 236, .int (m3.1 228 8), .long p3] w m3 (fun m4 => Q (zI m4 228 8 ((m4.1 228 8) + (1 : Int32)))))))) ∧ (¬ (m.1 228 8) < (1200 : Int32) → Q m))) : cV (d + 1) 12 [.ref 228, .int p0, .int p1, .long p2, .long p3] w m Q := by
  refine cV_in rfl ?_
  refine mm_yrun (is := mm_k12) [] 400 rfl ?_
  refine And.intro (rfl) ?_
  refine And.intro (fun q => ?_) (fun q => ?_)
  · replace H := H.1 q
    refine And.intro (And.intro (rfl) (by decide : ¬ 231 = 0)) ?_
    refine And.intro (rfl) ?_
    refine And.intro (trivial) ?_
    refine cV_use (w := w) (m := m) rfl H ?_
    intro m1 H
    refine And.intro (And.intro (rfl) (by decide : ¬ 232 = 0)) ?_
    refine And.intro (rfl) ?_
    refine And.intro (trivial) ?_
    refine cV_use (w := w) (m := m1) rfl H ?_
    intro m2 H
    refine And.intro (And.intro (rfl) (by decide : ¬ 235 = 0)) ?_
    refine And.intro (rfl) ?_
    refine And.intro (trivial) ?_
    refine cV_use (w := w) (m := m2) rfl H ?_
    intro m3 H
    refine And.intro (And.intro (rfl) (by decide : ¬ 236 = 0)) ?_
    refine And.intro (rfl) ?_
    refine And.intro (trivial) ?_
    refine cV_use (w := w) (m := m3) rfl H ?_
    intro m4 H
    refine And.intro (rfl) ?_
    refine And.intro (rfl) ?_
    exact rV_mk (w := w) (m := (zI m4 228 8 ((m4.1 228 8) + (1 : Int32)))) H
  · replace H := H.2 q
    exact rV_mk (w := w) (m := m) H

def W_Matches_markWithin_6 (d : Nat) (l1 : Int32) (l2 : Int32) (l3 : Int32) (w : Nat × Nat × Nat) (m : zM) (Q : zM → Prop) : Prop := ∀ o4 : Option Value, mm_W (d + 1) 13 6 [some (.ref 228), some (.int l1), some (.int l2), some (.int l3), o4] [] (zE w m) (rV w Q)
def W_Matches_markWithin_27 (d : Nat) (l1 : Int32) (l3 : Int32) (w : Nat × Nat × Nat) (m : zM) (Q : zM → Prop) : Prop := ∀ o2 o4 : Option Value, mm_W (d + 1) 13 27 [some (.ref 228), some (.int l1), o2, some (.int l3), o4] [] (zE w m) (rV w Q)
def W_Matches_markWithin_57 (d : Nat) (l1 : Int32) (l2 : Int32) (l3 : Int32) (t0 : Int32) (w : Nat × Nat × Nat) (m : zM) (Q : zM → Prop) : Prop := ∀ o4 : Option Value, mm_W (d + 1) 13 57 [some (.ref 228), some (.int l1), some (.int l2), some (.int l3), o4] [.int t0] (zE w m) (rV w Q)
def W_Matches_markWithin_69 (d : Nat) (l1 : Int32) (l2 : Int32) (l3 : Int32) (t1 : Int32) (t2 : Int32) (w : Nat × Nat × Nat) (m : zM) (Q : zM → Prop) : Prop := ∀ o4 : Option Value, mm_W (d + 1) 13 69 [some (.ref 228), some (.int l1), some (.int l2), some (.int l3), o4] [.int t2, .int t1, .ref 234] (zE w m) (rV w Q)
theorem S_Matches_markWithin  {d : Nat} {w : Nat × Nat × Nat} {m : zM} {Q : zM → Prop} (H : W_Matches_markWithin_6 d (0 : Int32) (0 : Int32) (0 : Int32) w m Q) : cV (d + 1) 13 [.ref 228] w m Q := by
  refine cV_in rfl ?_
  refine mm_yrun (is := mm_k13) [6, 27, 57, 69] 400 rfl ?_
  exact H _
theorem S_Matches_markWithin_6 {l1 : Int32} {l2 : Int32} {l3 : Int32} {d : Nat} {w : Nat × Nat × Nat} {m : zM} {Q : zM → Prop} (H : (((m.1 228 8) ≤ l3 → Q m) ∧ (¬ (m.1 228 8) ≤ l3 → ((l3 ≤ 0 → W_Matches_markWithin_27 d l1 l3 w m Q) ∧ (¬ l3 ≤ 0 → cI d 156 [.ref 231, .int l3] w m (fun v1 m1 => cI d 156 [.ref 231, .int (l3 - (1 : Int32))] w m1 (fun v2 m2 => ((v1 = v2 → W_Matches_markWithin_27 d l1 l3 w m2 Q) ∧ (¬ v1 = v2 → cI d 291 [.int l1, .int l2] w m2 (fun v3 m3 => W_Matches_markWithin_27 d v3 l3 w m3 Q)))))))))) : W_Matches_markWithin_6 d l1 l2 l3 w m Q := by
  intro o4
  refine mm_yrun (is := mm_k13) [6, 27, 57, 69] 400 rfl ?_
  refine And.intro (rfl) ?_
  refine And.intro (fun q => ?_) (fun q => ?_)
  · replace H := H.1 q
    exact rV_mk (w := w) (m := m) H
  · replace H := H.2 q
    refine And.intro (fun q => ?_) (fun q => ?_)
    · replace H := H.1 q
      exact H _ _
    · replace H := H.2 q
      refine And.intro (And.intro (rfl) (by decide : ¬ 231 = 0)) ?_
      refine And.intro (trivial) ?_
      refine cI_use (w := w) (m := m) rfl H ?_
      intro v1 m1 H
      refine And.intro (And.intro (rfl) (by decide : ¬ 231 = 0)) ?_
      refine And.intro (trivial) ?_
      refine cI_use (w := w) (m := m1) rfl H ?_
      intro v2 m2 H
      refine And.intro (fun q => ?_) (fun q => ?_)
      · replace H := H.1 q
        exact H _ _
      · replace H := H.2 q
        refine And.intro (trivial) ?_
        refine cI_use (w := w) (m := m2) rfl H ?_
        intro v3 m3 H
        exact H _ _
theorem S_Matches_markWithin_27 {l1 : Int32} {l3 : Int32} {d : Nat} {w : Nat × Nat × Nat} {m : zM} {Q : zM → Prop} (H : cI d 156 [.ref 231, .int l3] w m (fun v1 m1 => cI d 156 [.ref 232, .int l3] w m1 (fun v2 m2 => (((m2.1 228 8) ≤ (l3 + (1 : Int32)) → W_Matches_markWithin_57 d l1 (v1 + v2) l3 (0 : Int32) w m2 Q) ∧ (¬ (m2.1 228 8) ≤ (l3 + (1 : Int32)) → cI d 156 [.ref 231, .int (l3 + (1 : Int32))] w m2 (fun v3 m3 => cI d 156 [.ref 231, .int l3] w m3 (fun v4 m4 => ((¬ v3 = v4 → W_Matches_markWithin_57 d l1 (v1 + v2) l3 (0 : Int32) w m4 Q) ∧ (v3 = v4 → W_Matches_markWithin_57 d l1 (v1 + v2) l3 (1 : Int32) w m4 Q))))))))) : W_Matches_markWithin_27 d l1 l3 w m Q := by
  intro o2 o4
  refine mm_yrun (is := mm_k13) [6, 27, 57, 69] 400 rfl ?_
  refine And.intro (And.intro (rfl) (by decide : ¬ 231 = 0)) ?_
  refine And.intro (trivial) ?_
  refine cI_use (w := w) (m := m) rfl H ?_
  intro v1 m1 H
  refine And.intro (And.intro (rfl) (by decide : ¬ 232 = 0)) ?_
  refine And.intro (trivial) ?_
  refine cI_use (w := w) (m := m1) rfl H ?_
  intro v2 m2 H
  refine And.intro (rfl) ?_
  refine And.intro (fun q => ?_) (fun q => ?_)
  · replace H := H.1 q
    exact H _
  · replace H := H.2 q
    refine And.intro (And.intro (rfl) (by decide : ¬ 231 = 0)) ?_
    refine And.intro (trivial) ?_
    refine cI_use (w := w) (m := m2) rfl H ?_
    intro v3 m3 H
    refine And.intro (And.intro (rfl) (by decide : ¬ 231 = 0)) ?_
    refine And.intro (trivial) ?_
    refine cI_use (w := w) (m := m3) rfl H ?_
    intro v4 m4 H
    refine And.intro (fun q => ?_) (fun q => ?_)
    · replace H := H.1 q
      exact H _
    · replace H := H.2 (Classical.not_not.mp q)
      exact H _
theorem S_Matches_markWithin_57 {l1 : Int32} {l2 : Int32} {l3 : Int32} {t0 : Int32} {d : Nat} {w : Nat × Nat × Nat} {m : zM} {Q : zM → Prop} (H : ((¬ t0 = 0 → W_Matches_markWithin_69 d l1 l2 l3 l3 (1 : Int32) w m Q) ∧ (t0 = 0 → ((l1 < l2 → W_Matches_markWithin_69 d l1 l2 l3 l3 (0 : Int32) w m Q) ∧ (¬ l1 < l2 → W_Matches_markWithin_69 d l1 l2 l3 l3 (1 : Int32) w m Q))))) : W_Matches_markWithin_57 d l1 l2 l3 t0 w m Q := by
  intro o4
  refine mm_yrun (is := mm_k13) [6, 27, 57, 69] 400 rfl ?_
  refine And.intro (And.intro (rfl) (by decide : ¬ 234 = 0)) ?_
  refine And.intro (fun q => ?_) (fun q => ?_)
  · replace H := H.1 q
    exact H _
  · replace H := H.2 (Classical.not_not.mp q)
    refine And.intro (fun q => ?_) (fun q => ?_)
    · replace H := H.1 q
      exact H _
    · replace H := H.2 q
      exact H _
theorem S_Matches_markWithin_69 {l1 : Int32} {l2 : Int32} {l3 : Int32} {t1 : Int32} {t2 : Int32} {d : Nat} {w : Nat × Nat × Nat} {m : zM} {Q : zM → Prop} (H : cV d 158 [.ref 234, .int t1, .int t2] w m (fun m1 => W_Matches_markWithin_6 d l1 l2 (l3 + (1 : Int32)) w m1 Q)) : W_Matches_markWithin_69 d l1 l2 l3 t1 t2 w m Q := by
  intro o4
  refine mm_yrun (is := mm_k13) [6, 27, 57, 69] 400 rfl ?_
  refine And.intro (trivial) ?_
  refine cV_use (w := w) (m := m) rfl H ?_
  intro m1 H
  exact H _

theorem S_Matches_ahead {p0 : Int32} {p1 : Int32} {d : Nat} {w : Nat × Nat × Nat} {m : zM} {Q : Int32 → zM → Prop} (H : cL d 157 [.ref 235, .int p0] w m (fun v1 m1 => cL d 157 [.ref 235, .int p1] w m1 (fun v2 m2 => ((v1 = v2 → cL d 157 [.ref 236, .int p0] w m2 (fun v3 m3 => cL d 157 [.ref 236, .int p1] w m3 (fun v4 m4 => ((v4 ≤ v3 → Q (0 : Int32) m4) ∧ (¬ v4 ≤ v3 → Q (1 : Int32) m4))))) ∧ (¬ v1 = v2 → ((v2 ≤ v1 → Q (0 : Int32) m2) ∧ (¬ v2 ≤ v1 → Q (1 : Int32) m2))))))) : cI (d + 1) 14 [.ref 228, .int p0, .int p1] w m Q := by
  refine cI_in rfl ?_
  refine mm_yrun (is := mm_k14) [] 400 rfl ?_
  refine And.intro (And.intro (rfl) (by decide : ¬ 235 = 0)) ?_
  refine And.intro (trivial) ?_
  refine cL_use (w := w) (m := m) rfl H ?_
  intro v1 m1 H
  refine And.intro (And.intro (rfl) (by decide : ¬ 235 = 0)) ?_
  refine And.intro (trivial) ?_
  refine cL_use (w := w) (m := m1) rfl H ?_
  intro v2 m2 H
  refine And.intro (fun q => ?_) (fun q => ?_)
  · replace H := H.1 q
    refine And.intro (And.intro (rfl) (by decide : ¬ 236 = 0)) ?_
    refine And.intro (trivial) ?_
    refine cL_use (w := w) (m := m2) rfl H ?_
    intro v3 m3 H
    refine And.intro (And.intro (rfl) (by decide : ¬ 236 = 0)) ?_
    refine And.intro (trivial) ?_
    refine cL_use (w := w) (m := m3) rfl H ?_
    intro v4 m4 H
    refine And.intro (fun q => ?_) (fun q => ?_)
    · replace H := H.1 q
      refine And.intro (Or.inl rfl) ?_
      exact rI_mk (w := w) (m := m4) H
    · replace H := H.2 q
      refine And.intro (Or.inr rfl) ?_
      exact rI_mk (w := w) (m := m4) H
  · replace H := H.2 q
    refine And.intro (fun q => ?_) (fun q => ?_)
    · replace H := H.1 q
      refine And.intro (Or.inl rfl) ?_
      exact rI_mk (w := w) (m := m2) H
    · replace H := H.2 q
      refine And.intro (Or.inr rfl) ?_
      exact rI_mk (w := w) (m := m2) H

def W_Matches_startingIn_4 (d : Nat) (l1 : Int32) (l2 : Int32) (l3 : Int32) (l4 : Int32) (w : Nat × Nat × Nat) (m : zM) (Q : Int32 → zM → Prop) : Prop := mm_W (d + 1) 15 4 [some (.ref 228), some (.int l1), some (.int l2), some (.int l3), some (.int l4)] [] (zE w m) (rI w Q)
theorem S_Matches_startingIn {p0 : Int32} {p1 : Int32} {d : Nat} {w : Nat × Nat × Nat} {m : zM} {Q : Int32 → zM → Prop} (H : W_Matches_startingIn_4 d p0 p1 (0 : Int32) (0 : Int32) w m Q) : cI (d + 1) 15 [.ref 228, .int p0, .int p1] w m Q := by
  refine cI_in rfl ?_
  refine mm_yrun (is := mm_k15) [4] 400 rfl ?_
  exact H
theorem S_Matches_startingIn_4 {l1 : Int32} {l2 : Int32} {l3 : Int32} {l4 : Int32} {d : Nat} {w : Nat × Nat × Nat} {m : zM} {Q : Int32 → zM → Prop} (H : (((m.1 228 8) ≤ l4 → Q l3 m) ∧ (¬ (m.1 228 8) ≤ l4 → cI d 156 [.ref 231, .int l4] w m (fun v1 m1 => ((v1 < l1 → W_Matches_startingIn_4 d l1 l2 l3 (l4 + (1 : Int32)) w m1 Q) ∧ (¬ v1 < l1 → cI d 156 [.ref 231, .int l4] w m1 (fun v2 m2 => ((l2 ≤ v2 → W_Matches_startingIn_4 d l1 l2 l3 (l4 + (1 : Int32)) w m2 Q) ∧ (¬ l2 ≤ v2 → W_Matches_startingIn_4 d l1 l2 (l3 + (1 : Int32)) (l4 + (1 : Int32)) w m2 Q))))))))) : W_Matches_startingIn_4 d l1 l2 l3 l4 w m Q := by
  refine mm_yrun (is := mm_k15) [4] 400 rfl ?_
  refine And.intro (rfl) ?_
  refine And.intro (fun q => ?_) (fun q => ?_)
  · replace H := H.1 q
    exact rI_mk (w := w) (m := m) H
  · replace H := H.2 q
    refine And.intro (And.intro (rfl) (by decide : ¬ 231 = 0)) ?_
    refine And.intro (trivial) ?_
    refine cI_use (w := w) (m := m) rfl H ?_
    intro v1 m1 H
    refine And.intro (fun q => ?_) (fun q => ?_)
    · replace H := H.1 q
      exact H
    · replace H := H.2 q
      refine And.intro (And.intro (rfl) (by decide : ¬ 231 = 0)) ?_
      refine And.intro (trivial) ?_
      refine cI_use (w := w) (m := m1) rfl H ?_
      intro v2 m2 H
      refine And.intro (fun q => ?_) (fun q => ?_)
      · replace H := H.1 q
        exact H
      · replace H := H.2 q
        exact H

theorem S_Measures_set {p0 : Int64} {p1 : Int64} {d : Nat} {w : Nat × Nat × Nat} {m : zM} {Q : zM → Prop} (H : cL d 180 [.long p0, .long p1] w m (fun v1 m1 => ((p1 ≤ (0 : Int64) → Q (zL (zL m1 255 7 (0 : Int64)) 255 8 (1 : Int64))) ∧ (¬ p1 ≤ (0 : Int64) → (((0 : Int64) < v1 → (¬ v1 = 0) ∧ ((¬ v1 = 0) ∧ (Q (zL (zL m1 255 7 (p0 / v1)) 255 8 (p1 / v1))))) ∧ (¬ (0 : Int64) < v1 → Q (zL (zL m1 255 7 (0 : Int64)) 255 8 (1 : Int64)))))))) : cV (d + 1) 17 [.ref 255, .long p0, .long p1] w m Q := by
  refine cV_in rfl ?_
  refine mm_yrun (is := mm_k17) [] 400 rfl ?_
  refine And.intro (trivial) ?_
  refine cL_use (w := w) (m := m) rfl H ?_
  intro v1 m1 H
  refine And.intro (fun q => ?_) (fun q => ?_)
  · replace H := H.1 q
    refine And.intro (rfl) ?_
    refine And.intro (rfl) ?_
    exact rV_mk (w := w) (m := (zL (zL m1 255 7 (0 : Int64)) 255 8 (1 : Int64))) H
  · replace H := H.2 q
    refine And.intro (fun q => ?_) (fun q => ?_)
    · replace H := H.1 q
      refine And.intro H.1 ?_
      replace H := H.2
      refine And.intro (rfl) ?_
      refine And.intro H.1 ?_
      replace H := H.2
      refine And.intro (rfl) ?_
      exact rV_mk (w := w) (m := (zL (zL m1 255 7 (p0 / v1)) 255 8 (p1 / v1))) H
    · replace H := H.2 q
      refine And.intro (rfl) ?_
      refine And.intro (rfl) ?_
      exact rV_mk (w := w) (m := (zL (zL m1 255 7 (0 : Int64)) 255 8 (1 : Int64))) H

theorem S_Measures_weigh {p0 : Nat} {p1 : Int32} {p2 : Int32} {d : Nat} {w : Nat × Nat × Nat} {m : zM} {Q : zM → Prop} (H : ((p2 = (0 : Int32) → cI d 156 [.ref 240, .int p1] w m (fun v1 m1 => cV d 17 [.ref 255, .long (v1).toInt64, .long (1 : Int64)] w m1 (fun m2 => Q m2))) ∧ (¬ p2 = (0 : Int32) → ((p2 = (1 : Int32) → cI d 156 [.ref 241, .int p1] w m (fun v3 m3 => cV d 17 [.ref 255, .long (v3).toInt64, .long (1 : Int64)] w m3 (fun m4 => Q m4))) ∧ (¬ p2 = (1 : Int32) → ((p2 = (2 : Int32) → cL d 19 [.ref 255, .ref p0, .int p1] w m (fun v5 m5 => cL d 20 [.ref 255, .int p1] w m5 (fun v6 m6 => cV d 17 [.ref 255, .long v5, .long v6] w m6 (fun m7 => Q m7)))) ∧ (¬ p2 = (2 : Int32) → ((p2 = (3 : Int32) → cL d 21 [.ref 255, .ref p0, .int p1] w m (fun v8 m8 => cL d 22 [.ref 255, .ref p0, .int p1] w m8 (fun v9 m9 => cV d 17 [.ref 255, .long v8, .long v9] w m9 (fun m10 => Q m10)))) ∧ (¬ p2 = (3 : Int32) → ((p2 = (4 : Int32) → cL d 19 [.ref 255, .ref p0, .int p1] w m (fun v11 m11 => cL d 21 [.ref 255, .ref p0, .int p1] w m11 (fun v12 m12 => cL d 20 [.ref 255, .int p1] w m12 (fun v13 m13 => cL d 22 [.ref 255, .ref p0, .int p1] w m13 (fun v14 m14 => cV d 17 [.ref 255, .long (v11 * v12), .long (v13 * v14)] w m14 (fun m15 => Q m15)))))) ∧ (¬ p2 = (4 : Int32) → ((p2 = (5 : Int32) → cV d 23 [.ref 255, .ref p0, .int p1] w m (fun m16 => Q m16)) ∧ (¬ p2 = (5 : Int32) → cI d 156 [.ref 248, .int p1] w m (fun v17 m17 => cI d 288 [.int v17] w m17 (fun v18 m18 => cV d 17 [.ref 255, .long (v18).toInt64, .long (1 : Int64)] w m18 (fun m19 => Q m19)))))))))))))))) : cV (d + 1) 18 [.ref 255, .ref p0, .int p1, .int p2] w m Q := by
  refine cV_in rfl ?_
  refine mm_yrun (is := mm_k18) [] 400 rfl ?_
  refine And.intro (fun q => ?_) (fun q => ?_)
  · replace H := H.1 q
    refine And.intro (And.intro (rfl) (by decide : ¬ 237 = 0)) ?_
    refine And.intro (And.intro (rfl) (by decide : ¬ 240 = 0)) ?_
    refine And.intro (trivial) ?_
    refine cI_use (w := w) (m := m) rfl H ?_
    intro v1 m1 H
    refine And.intro (rfl) ?_
    refine cV_use (w := w) (m := m1) rfl H ?_
    intro m2 H
    exact rV_mk (w := w) (m := m2) H
  · replace H := H.2 q
    refine And.intro (fun q => ?_) (fun q => ?_)
    · replace H := H.1 q
      refine And.intro (And.intro (rfl) (by decide : ¬ 237 = 0)) ?_
      refine And.intro (And.intro (rfl) (by decide : ¬ 241 = 0)) ?_
      refine And.intro (trivial) ?_
      refine cI_use (w := w) (m := m) rfl H ?_
      intro v3 m3 H
      refine And.intro (rfl) ?_
      refine cV_use (w := w) (m := m3) rfl H ?_
      intro m4 H
      exact rV_mk (w := w) (m := m4) H
    · replace H := H.2 q
      refine And.intro (fun q => ?_) (fun q => ?_)
      · replace H := H.1 q
        refine And.intro (rfl) ?_
        refine cL_use (w := w) (m := m) rfl H ?_
        intro v5 m5 H
        refine And.intro (rfl) ?_
        refine cL_use (w := w) (m := m5) rfl H ?_
        intro v6 m6 H
        refine And.intro (rfl) ?_
        refine cV_use (w := w) (m := m6) rfl H ?_
        intro m7 H
        exact rV_mk (w := w) (m := m7) H
      · replace H := H.2 q
        refine And.intro (fun q => ?_) (fun q => ?_)
        · replace H := H.1 q
          refine And.intro (rfl) ?_
          refine cL_use (w := w) (m := m) rfl H ?_
          intro v8 m8 H
          refine And.intro (rfl) ?_
          refine cL_use (w := w) (m := m8) rfl H ?_
          intro v9 m9 H
          refine And.intro (rfl) ?_
          refine cV_use (w := w) (m := m9) rfl H ?_
          intro m10 H
          exact rV_mk (w := w) (m := m10) H
        · replace H := H.2 q
          refine And.intro (fun q => ?_) (fun q => ?_)
          · replace H := H.1 q
            refine And.intro (rfl) ?_
            refine cL_use (w := w) (m := m) rfl H ?_
            intro v11 m11 H
            refine And.intro (rfl) ?_
            refine cL_use (w := w) (m := m11) rfl H ?_
            intro v12 m12 H
            refine And.intro (rfl) ?_
            refine cL_use (w := w) (m := m12) rfl H ?_
            intro v13 m13 H
            refine And.intro (rfl) ?_
            refine cL_use (w := w) (m := m13) rfl H ?_
            intro v14 m14 H
            refine And.intro (rfl) ?_
            refine cV_use (w := w) (m := m14) rfl H ?_
            intro m15 H
            exact rV_mk (w := w) (m := m15) H
          · replace H := H.2 q
            refine And.intro (fun q => ?_) (fun q => ?_)
            · replace H := H.1 q
              refine And.intro (rfl) ?_
              refine cV_use (w := w) (m := m) rfl H ?_
              intro m16 H
              exact rV_mk (w := w) (m := m16) H
            · replace H := H.2 q
              refine And.intro (And.intro (rfl) (by decide : ¬ 237 = 0)) ?_
              refine And.intro (And.intro (rfl) (by decide : ¬ 248 = 0)) ?_
              refine And.intro (trivial) ?_
              refine cI_use (w := w) (m := m) rfl H ?_
              intro v17 m17 H
              refine And.intro (trivial) ?_
              refine cI_use (w := w) (m := m17) rfl H ?_
              intro v18 m18 H
              refine And.intro (rfl) ?_
              refine cV_use (w := w) (m := m18) rfl H ?_
              intro m19 H
              exact rV_mk (w := w) (m := m19) H

theorem R_Measures_worthAbove {p0 : Nat} {p1 : Int32} {p0_7 : Nat} {d : Nat} {w : Nat × Nat × Nat} {m : zM} {Q : Int64 → zM → Prop} (he_p0_7 : zR w.2.1 w.2.2 p0 7 = p0_7) (hk_p0 : (zK w.1 p0).1 = 9) (hn_p0_7 : ¬ p0_7 = 0) (H : cI d 90 [.ref 237, .int p1] w m (fun v1 m1 => cI d 156 [.ref p0_7, .int v1] w m1 (fun v2 m2 => cI d 156 [.ref 240, .int p1] w m2 (fun v3 m3 => cL d 20 [.ref 255, .int p1] w m3 (fun v4 m4 => cI d 156 [.ref 243, .int p1] w m4 (fun v5 m5 => Q ((v2).toInt64 * (((v3).toInt64 * v4) - (v5).toInt64)) m5)))))) : cL (d + 1) 19 [.ref 255, .ref p0, .int p1] w m Q := by
  subst he_p0_7
  refine cL_in rfl ?_
  refine mm_yrun (is := mm_k19) [] 400 rfl ?_
  refine And.intro (And.intro (hk_p0) hn_p0_7) ?_
  refine And.intro (And.intro (rfl) (by decide : ¬ 237 = 0)) ?_
  refine And.intro (rfl) ?_
  refine cI_use (w := w) (m := m) rfl H ?_
  intro v1 m1 H
  refine And.intro (trivial) ?_
  refine cI_use (w := w) (m := m1) rfl H ?_
  intro v2 m2 H
  refine And.intro (And.intro (rfl) (by decide : ¬ 237 = 0)) ?_
  refine And.intro (And.intro (rfl) (by decide : ¬ 240 = 0)) ?_
  refine And.intro (trivial) ?_
  refine cI_use (w := w) (m := m2) rfl H ?_
  intro v3 m3 H
  refine And.intro (rfl) ?_
  refine cL_use (w := w) (m := m3) rfl H ?_
  intro v4 m4 H
  refine And.intro (And.intro (rfl) (by decide : ¬ 237 = 0)) ?_
  refine And.intro (And.intro (rfl) (by decide : ¬ 243 = 0)) ?_
  refine And.intro (trivial) ?_
  refine cI_use (w := w) (m := m4) rfl H ?_
  intro v5 m5 H
  exact rL_mk (w := w) (m := m5) H
theorem S_Measures_worthAbove {p0 : Nat} {p1 : Int32} {d : Nat} {w : Nat × Nat × Nat} {m : zM} {Q : Int64 → zM → Prop} (hp_p0 : zT p0) (H : cI d 90 [.ref 237, .int p1] w m (fun v1 m1 => cI d 156 [.ref (p0 + 20), .int v1] w m1 (fun v2 m2 => cI d 156 [.ref 240, .int p1] w m2 (fun v3 m3 => cL d 20 [.ref 255, .int p1] w m3 (fun v4 m4 => cI d 156 [.ref 243, .int p1] w m4 (fun v5 m5 => Q ((v2).toInt64 * (((v3).toInt64 * v4) - (v5).toInt64)) m5)))))) : cL (d + 1) 19 [.ref 255, .ref p0, .int p1] w m Q := R_Measures_worthAbove (zT_e7 hp_p0) (zT_k hp_p0) (Nat.succ_ne_zero _) H

theorem S_Measures_worthBelow {p0 : Int32} {d : Nat} {w : Nat × Nat × Nat} {m : zM} {Q : Int64 → zM → Prop} (H : cI d 156 [.ref 242, .int p0] w m (fun v1 m1 => cI d 291 [.int (1 : Int32), .int v1] w m1 (fun v2 m2 => Q (v2).toInt64 m2))) : cL (d + 1) 20 [.ref 255, .int p0] w m Q := by
  refine cL_in rfl ?_
  refine mm_yrun (is := mm_k20) [] 400 rfl ?_
  refine And.intro (And.intro (rfl) (by decide : ¬ 237 = 0)) ?_
  refine And.intro (And.intro (rfl) (by decide : ¬ 242 = 0)) ?_
  refine And.intro (trivial) ?_
  refine cI_use (w := w) (m := m) rfl H ?_
  intro v1 m1 H
  refine And.intro (trivial) ?_
  refine cI_use (w := w) (m := m1) rfl H ?_
  intro v2 m2 H
  exact rL_mk (w := w) (m := m2) H

theorem R_Measures_oddAbove {p0 : Nat} {p1 : Int32} {p0_5 : Nat} {d : Nat} {w : Nat × Nat × Nat} {m : zM} {Q : Int64 → zM → Prop} (he_p0_5 : zR w.2.1 w.2.2 p0 5 = p0_5) (hk_p0 : (zK w.1 p0).1 = 9) (hn_p0_5 : ¬ p0_5 = 0) (hk_p0_5 : (zK w.1 p0_5).1 = 6) (H : cI d 156 [.ref 240, .int p1] w m (fun v1 m1 => Q ((v1).toInt64 * (((m1.1 p0_5 2) + (1 : Int32))).toInt64) m1)) : cL (d + 1) 21 [.ref 255, .ref p0, .int p1] w m Q := by
  subst he_p0_5
  refine cL_in rfl ?_
  refine mm_yrun (is := mm_k21) [] 400 rfl ?_
  refine And.intro (And.intro (rfl) (by decide : ¬ 237 = 0)) ?_
  refine And.intro (And.intro (rfl) (by decide : ¬ 240 = 0)) ?_
  refine And.intro (trivial) ?_
  refine cI_use (w := w) (m := m) rfl H ?_
  intro v1 m1 H
  refine And.intro (And.intro (hk_p0) hn_p0_5) ?_
  refine And.intro (hk_p0_5) ?_
  exact rL_mk (w := w) (m := m1) H
theorem S_Measures_oddAbove {p0 : Nat} {p1 : Int32} {d : Nat} {w : Nat × Nat × Nat} {m : zM} {Q : Int64 → zM → Prop} (hp_p0 : zT p0) (H : cI d 156 [.ref 240, .int p1] w m (fun v1 m1 => Q ((v1).toInt64 * (((m1.1 (p0 + 14) 2) + (1 : Int32))).toInt64) m1)) : cL (d + 1) 21 [.ref 255, .ref p0, .int p1] w m Q := R_Measures_oddAbove (zT_e5 hp_p0) (zT_k hp_p0) (Nat.succ_ne_zero _) (zT_ge hp_p0).1 H

theorem R_Measures_oddBelow {p0 : Nat} {p1 : Int32} {p0_3 : Nat} {d : Nat} {w : Nat × Nat × Nat} {m : zM} {Q : Int64 → zM → Prop} (he_p0_3 : zR w.2.1 w.2.2 p0 3 = p0_3) (hk_p0 : (zK w.1 p0).1 = 9) (hn_p0_3 : ¬ p0_3 = 0) (hk_p0_3 : (zK w.1 p0_3).1 = 6) (H : cI d 156 [.ref 247, .int p1] w m (fun v1 m1 => Q (((v1 + (1 : Int32))).toInt64 * (((m1.1 p0_3 2) + (1 : Int32))).toInt64) m1)) : cL (d + 1) 22 [.ref 255, .ref p0, .int p1] w m Q := by
  subst he_p0_3
  refine cL_in rfl ?_
  refine mm_yrun (is := mm_k22) [] 400 rfl ?_
  refine And.intro (And.intro (rfl) (by decide : ¬ 237 = 0)) ?_
  refine And.intro (And.intro (rfl) (by decide : ¬ 247 = 0)) ?_
  refine And.intro (trivial) ?_
  refine cI_use (w := w) (m := m) rfl H ?_
  intro v1 m1 H
  refine And.intro (And.intro (hk_p0) hn_p0_3) ?_
  refine And.intro (hk_p0_3) ?_
  exact rL_mk (w := w) (m := m1) H
theorem S_Measures_oddBelow {p0 : Nat} {p1 : Int32} {d : Nat} {w : Nat × Nat × Nat} {m : zM} {Q : Int64 → zM → Prop} (hp_p0 : zT p0) (H : cI d 156 [.ref 247, .int p1] w m (fun v1 m1 => Q (((v1 + (1 : Int32))).toInt64 * (((m1.1 (p0 + 10) 2) + (1 : Int32))).toInt64) m1)) : cL (d + 1) 22 [.ref 255, .ref p0, .int p1] w m Q := R_Measures_oddBelow (zT_e3 hp_p0) (zT_k hp_p0) (Nat.succ_ne_zero _) (zT_pr hp_p0).1 H

theorem S_Measures_setNear {p0 : Nat} {p1 : Int32} {d : Nat} {w : Nat × Nat × Nat} {m : zM} {Q : zM → Prop} (H : cL d 20 [.ref 255, .int p1] w m (fun v1 m1 => cL d 19 [.ref 255, .ref p0, .int p1] w m1 (fun v2 m2 => cI d 156 [.ref 250, .int p1] w m2 (fun v3 m3 => cV d 17 [.ref 255, .long ((((4 : Int64) * v2) * ((m.1 237 19)).toInt64) + ((v3).toInt64 * v1)), .long (((5 : Int64) * v1) * ((m.1 237 19)).toInt64)] w m3 (fun m4 => Q m4))))) : cV (d + 1) 23 [.ref 255, .ref p0, .int p1] w m Q := by
  refine cV_in rfl ?_
  refine mm_yrun (is := mm_k23) [] 400 rfl ?_
  refine And.intro (And.intro (rfl) (by decide : ¬ 237 = 0)) ?_
  refine And.intro (rfl) ?_
  refine And.intro (rfl) ?_
  refine cL_use (w := w) (m := m) rfl H ?_
  intro v1 m1 H
  refine And.intro (rfl) ?_
  refine cL_use (w := w) (m := m1) rfl H ?_
  intro v2 m2 H
  refine And.intro (And.intro (rfl) (by decide : ¬ 237 = 0)) ?_
  refine And.intro (And.intro (rfl) (by decide : ¬ 250 = 0)) ?_
  refine And.intro (trivial) ?_
  refine cI_use (w := w) (m := m2) rfl H ?_
  intro v3 m3 H
  refine And.intro (rfl) ?_
  refine cV_use (w := w) (m := m3) rfl H ?_
  intro m4 H
  exact rV_mk (w := w) (m := m4) H

def W_Measures_prepare_10 (d : Nat) (p0 : Nat) (l2 : Int32) (l3 : Int32) (w : Nat × Nat × Nat) (m : zM) (Q : zM → Prop) : Prop := mm_W (d + 1) 24 10 [some (.ref 255), some (.ref p0), some (.int l2), some (.int l3)] [] (zE w m) (rV w Q)
def W_Measures_prepare_41 (d : Nat) (p0 : Nat) (l2 : Int32) (l3 : Int32) (w : Nat × Nat × Nat) (m : zM) (Q : zM → Prop) : Prop := ∀ o1 : Option Value, mm_W (d + 1) 24 41 [some (.ref 255), o1, some (.int l2), some (.int l3)] [] (zE w m) (rV w Q)
theorem S_Measures_prepare {p0 : Nat} {p1 : Int32} {d : Nat} {w : Nat × Nat × Nat} {m : zM} {Q : zM → Prop} (H : ((((((m.1 255 6)).toUInt32 >>> ((p1).toUInt32 &&& Int32.toUInt32 31)).toInt32 &&& (1 : Int32)) = 0 → W_Measures_prepare_10 d p0 p1 (0 : Int32) w m Q) ∧ (¬ ((((m.1 255 6)).toUInt32 >>> ((p1).toUInt32 &&& Int32.toUInt32 31)).toInt32 &&& (1 : Int32)) = 0 → Q m))) : cV (d + 1) 24 [.ref 255, .ref p0, .int p1] w m Q := by
  refine cV_in rfl ?_
  refine mm_yrun (is := mm_k24) [10, 41] 400 rfl ?_
  refine And.intro (rfl) ?_
  refine And.intro (fun q => ?_) (fun q => ?_)
  · replace H := H.1 q
    exact H
  · replace H := H.2 q
    exact rV_mk (w := w) (m := m) H
theorem S_Measures_prepare_10 {p0 : Nat} {l2 : Int32} {l3 : Int32} {d : Nat} {w : Nat × Nat × Nat} {m : zM} {Q : zM → Prop} (H : (((m.1 237 19) ≤ l3 → cV d 31 [.ref 255, .int (m.1 237 19)] w m (fun m1 => W_Measures_prepare_41 d p0 l2 (0 : Int32) w m1 Q)) ∧ (¬ (m.1 237 19) ≤ l3 → cV d 18 [.ref 255, .ref p0, .int l3, .int l2] w m (fun m2 => cV d 159 [.ref 258, .int l3, .long (m2.2 255 7)] w m2 (fun m3 => cV d 159 [.ref 259, .int l3, .long (m3.2 255 8)] w m3 (fun m4 => W_Measures_prepare_10 d p0 l2 (l3 + (1 : Int32)) w m4 Q)))))) : W_Measures_prepare_10 d p0 l2 l3 w m Q := by
  refine mm_yrun (is := mm_k24) [10, 41] 400 rfl ?_
  refine And.intro (And.intro (rfl) (by decide : ¬ 237 = 0)) ?_
  refine And.intro (rfl) ?_
  refine And.intro (fun q => ?_) (fun q => ?_)
  · replace H := H.1 q
    refine And.intro (And.intro (rfl) (by decide : ¬ 237 = 0)) ?_
    refine And.intro (rfl) ?_
    refine And.intro (rfl) ?_
    refine cV_use (w := w) (m := m) rfl H ?_
    intro m1 H
    exact H _
  · replace H := H.2 q
    refine And.intro (rfl) ?_
    refine cV_use (w := w) (m := m) rfl H ?_
    intro m2 H
    refine And.intro (And.intro (rfl) (by decide : ¬ 258 = 0)) ?_
    refine And.intro (rfl) ?_
    refine And.intro (trivial) ?_
    refine cV_use (w := w) (m := m2) rfl H ?_
    intro m3 H
    refine And.intro (And.intro (rfl) (by decide : ¬ 259 = 0)) ?_
    refine And.intro (rfl) ?_
    refine And.intro (trivial) ?_
    refine cV_use (w := w) (m := m3) rfl H ?_
    intro m4 H
    exact H
theorem S_Measures_prepare_41 {p0 : Nat} {l2 : Int32} {l3 : Int32} {d : Nat} {w : Nat × Nat × Nat} {m : zM} {Q : zM → Prop} (H : (((m.1 237 19) ≤ l3 → Q (zI m 255 6 ((m.1 255 6) ||| ((1 : Int32) <<< (l2 &&& 31))))) ∧ (¬ (m.1 237 19) ≤ l3 → cI d 156 [.ref 256, .int l3] w m (fun v1 m1 => cV d 158 [.ref 260, .int ((l2 * (1200 : Int32)) + l3), .int v1] w m1 (fun m2 => W_Measures_prepare_41 d p0 l2 (l3 + (1 : Int32)) w m2 Q))))) : W_Measures_prepare_41 d p0 l2 l3 w m Q := by
  intro o1
  refine mm_yrun (is := mm_k24) [10, 41] 400 rfl ?_
  refine And.intro (And.intro (rfl) (by decide : ¬ 237 = 0)) ?_
  refine And.intro (rfl) ?_
  refine And.intro (fun q => ?_) (fun q => ?_)
  · replace H := H.1 q
    refine And.intro (rfl) ?_
    refine And.intro (rfl) ?_
    exact rV_mk (w := w) (m := (zI m 255 6 ((m.1 255 6) ||| ((1 : Int32) <<< (l2 &&& 31))))) H
  · replace H := H.2 q
    refine And.intro (And.intro (rfl) (by decide : ¬ 260 = 0)) ?_
    refine And.intro (And.intro (rfl) (by decide : ¬ 256 = 0)) ?_
    refine And.intro (trivial) ?_
    refine cI_use (w := w) (m := m) rfl H ?_
    intro v1 m1 H
    refine And.intro (trivial) ?_
    refine cV_use (w := w) (m := m1) rfl H ?_
    intro m2 H
    exact H _

theorem S_Measures_ahead {p0 : Int32} {p1 : Int32} {d : Nat} {w : Nat × Nat × Nat} {m : zM} {Q : Int32 → zM → Prop} (H : cL d 157 [.ref 258, .int p0] w m (fun v1 m1 => cL d 157 [.ref 259, .int p1] w m1 (fun v2 m2 => cL d 157 [.ref 258, .int p1] w m2 (fun v3 m3 => cL d 157 [.ref 259, .int p0] w m3 (fun v4 m4 => (((v1 * v2) = (v3 * v4) → cI d 156 [.ref 240, .int p0] w m4 (fun v5 m5 => cI d 156 [.ref 240, .int p1] w m5 (fun v6 m6 => ((v5 = v6 → ((p1 ≤ p0 → Q (0 : Int32) m6) ∧ (¬ p1 ≤ p0 → Q (1 : Int32) m6))) ∧ (¬ v5 = v6 → ((v5 ≤ v6 → Q (0 : Int32) m6) ∧ (¬ v5 ≤ v6 → Q (1 : Int32) m6))))))) ∧ (¬ (v1 * v2) = (v3 * v4) → (((v1 * v2) ≤ (v3 * v4) → Q (0 : Int32) m4) ∧ (¬ (v1 * v2) ≤ (v3 * v4) → Q (1 : Int32) m4))))))))) : cI (d + 1) 25 [.ref 255, .int p0, .int p1] w m Q := by
  refine cI_in rfl ?_
  refine mm_yrun (is := mm_k25) [] 400 rfl ?_
  refine And.intro (And.intro (rfl) (by decide : ¬ 258 = 0)) ?_
  refine And.intro (trivial) ?_
  refine cL_use (w := w) (m := m) rfl H ?_
  intro v1 m1 H
  refine And.intro (And.intro (rfl) (by decide : ¬ 259 = 0)) ?_
  refine And.intro (trivial) ?_
  refine cL_use (w := w) (m := m1) rfl H ?_
  intro v2 m2 H
  refine And.intro (And.intro (rfl) (by decide : ¬ 258 = 0)) ?_
  refine And.intro (trivial) ?_
  refine cL_use (w := w) (m := m2) rfl H ?_
  intro v3 m3 H
  refine And.intro (And.intro (rfl) (by decide : ¬ 259 = 0)) ?_
  refine And.intro (trivial) ?_
  refine cL_use (w := w) (m := m3) rfl H ?_
  intro v4 m4 H
  refine And.intro (fun q => ?_) (fun q => ?_)
  · replace H := H.1 q
    refine And.intro (And.intro (rfl) (by decide : ¬ 237 = 0)) ?_
    refine And.intro (And.intro (rfl) (by decide : ¬ 240 = 0)) ?_
    refine And.intro (trivial) ?_
    refine cI_use (w := w) (m := m4) rfl H ?_
    intro v5 m5 H
    refine And.intro (And.intro (rfl) (by decide : ¬ 237 = 0)) ?_
    refine And.intro (And.intro (rfl) (by decide : ¬ 240 = 0)) ?_
    refine And.intro (trivial) ?_
    refine cI_use (w := w) (m := m5) rfl H ?_
    intro v6 m6 H
    refine And.intro (fun q => ?_) (fun q => ?_)
    · replace H := H.1 q
      refine And.intro (fun q => ?_) (fun q => ?_)
      · replace H := H.1 q
        refine And.intro (Or.inl rfl) ?_
        exact rI_mk (w := w) (m := m6) H
      · replace H := H.2 q
        refine And.intro (Or.inr rfl) ?_
        exact rI_mk (w := w) (m := m6) H
    · replace H := H.2 q
      refine And.intro (fun q => ?_) (fun q => ?_)
      · replace H := H.1 q
        refine And.intro (Or.inl rfl) ?_
        exact rI_mk (w := w) (m := m6) H
      · replace H := H.2 q
        refine And.intro (Or.inr rfl) ?_
        exact rI_mk (w := w) (m := m6) H
  · replace H := H.2 q
    refine And.intro (fun q => ?_) (fun q => ?_)
    · replace H := H.1 q
      refine And.intro (Or.inl rfl) ?_
      exact rI_mk (w := w) (m := m4) H
    · replace H := H.2 q
      refine And.intro (Or.inr rfl) ?_
      exact rI_mk (w := w) (m := m4) H

theorem S_Measures_termAt {p0 : Int32} {p1 : Int32} {d : Nat} {w : Nat × Nat × Nat} {m : zM} {Q : Int32 → zM → Prop} (H : cI d 156 [.ref 260, .int ((p0 * (1200 : Int32)) + p1)] w m (fun v1 m1 => Q v1 m1)) : cI (d + 1) 26 [.ref 255, .int p0, .int p1] w m Q := by
  refine cI_in rfl ?_
  refine mm_yrun (is := mm_k26) [] 400 rfl ?_
  refine And.intro (And.intro (rfl) (by decide : ¬ 260 = 0)) ?_
  refine And.intro (trivial) ?_
  refine cI_use (w := w) (m := m) rfl H ?_
  intro v1 m1 H
  exact rI_mk (w := w) (m := m1) H

def W_Measures_rankOf_2 (d : Nat) (l1 : Int32) (l2 : Int32) (l3 : Int32) (w : Nat × Nat × Nat) (m : zM) (Q : Int32 → zM → Prop) : Prop := mm_W (d + 1) 27 2 [some (.ref 255), some (.int l1), some (.int l2), some (.int l3)] [] (zE w m) (rI w Q)
theorem S_Measures_rankOf {p0 : Int32} {p1 : Int32} {d : Nat} {w : Nat × Nat × Nat} {m : zM} {Q : Int32 → zM → Prop} (H : W_Measures_rankOf_2 d p0 p1 (0 : Int32) w m Q) : cI (d + 1) 27 [.ref 255, .int p0, .int p1] w m Q := by
  refine cI_in rfl ?_
  refine mm_yrun (is := mm_k27) [2] 400 rfl ?_
  exact H
theorem S_Measures_rankOf_2 {l1 : Int32} {l2 : Int32} {l3 : Int32} {d : Nat} {w : Nat × Nat × Nat} {m : zM} {Q : Int32 → zM → Prop} (H : (((m.1 237 19) ≤ l3 → Q ((-1) : Int32) m) ∧ (¬ (m.1 237 19) ≤ l3 → cI d 26 [.ref 255, .int l1, .int l3] w m (fun v1 m1 => ((¬ v1 = l2 → W_Measures_rankOf_2 d l1 l2 (l3 + (1 : Int32)) w m1 Q) ∧ (v1 = l2 → Q l3 m1)))))) : W_Measures_rankOf_2 d l1 l2 l3 w m Q := by
  refine mm_yrun (is := mm_k27) [2] 400 rfl ?_
  refine And.intro (And.intro (rfl) (by decide : ¬ 237 = 0)) ?_
  refine And.intro (rfl) ?_
  refine And.intro (fun q => ?_) (fun q => ?_)
  · replace H := H.1 q
    exact rI_mk (w := w) (m := m) H
  · replace H := H.2 q
    refine And.intro (rfl) ?_
    refine cI_use (w := w) (m := m) rfl H ?_
    intro v1 m1 H
    refine And.intro (fun q => ?_) (fun q => ?_)
    · replace H := H.1 q
      exact H
    · replace H := H.2 (Classical.not_not.mp q)
      exact rI_mk (w := w) (m := m1) H

def W_Measures_coveredBy_9 (d : Nat) (l1 : Int32) (l2 : Int32) (l3 : Int32) (l4 : Int32) (w : Nat × Nat × Nat) (m : zM) (Q : Int32 → zM → Prop) : Prop := ∀ o5 o6 : Option Value, mm_W (d + 1) 28 9 [some (.ref 255), some (.int l1), some (.int l2), some (.int l3), some (.int l4), o5, o6] [] (zE w m) (rI w Q)
def W_Measures_coveredBy_24 (d : Nat) (l1 : Int32) (l2 : Int32) (l3 : Int32) (l4 : Int32) (l5 : Int32) (l6 : Int32) (w : Nat × Nat × Nat) (m : zM) (Q : Int32 → zM → Prop) : Prop := mm_W (d + 1) 28 24 [some (.ref 255), some (.int l1), some (.int l2), some (.int l3), some (.int l4), some (.int l5), some (.int l6)] [] (zE w m) (rI w Q)
theorem S_Measures_coveredBy {p0 : Int32} {p1 : Int32} {d : Nat} {w : Nat × Nat × Nat} {m : zM} {Q : Int32 → zM → Prop} (H : cV d 160 [.ref 253, .int (240 : Int32)] w m (fun m1 => W_Measures_coveredBy_9 d p0 p1 (0 : Int32) (0 : Int32) w m1 Q)) : cI (d + 1) 28 [.ref 255, .int p0, .int p1] w m Q := by
  refine cI_in rfl ?_
  refine mm_yrun (is := mm_k28) [9, 24] 400 rfl ?_
  refine And.intro (And.intro (rfl) (by decide : ¬ 237 = 0)) ?_
  refine And.intro (And.intro (rfl) (by decide : ¬ 253 = 0)) ?_
  refine And.intro (trivial) ?_
  refine cV_use (w := w) (m := m) rfl H ?_
  intro m1 H
  exact H _ _
theorem S_Measures_coveredBy_9 {l1 : Int32} {l2 : Int32} {l3 : Int32} {l4 : Int32} {d : Nat} {w : Nat × Nat × Nat} {m : zM} {Q : Int32 → zM → Prop} (H : ((l2 ≤ l4 → Q l3 m) ∧ (¬ l2 ≤ l4 → (((m.1 237 19) ≤ l4 → Q l3 m) ∧ (¬ (m.1 237 19) ≤ l4 → cI d 26 [.ref 255, .int l1, .int l4] w m (fun v1 m1 => W_Measures_coveredBy_24 d l1 l2 l3 l4 v1 (0 : Int32) w m1 Q)))))) : W_Measures_coveredBy_9 d l1 l2 l3 l4 w m Q := by
  intro o5 o6
  refine mm_yrun (is := mm_k28) [9, 24] 400 rfl ?_
  refine And.intro (fun q => ?_) (fun q => ?_)
  · replace H := H.1 q
    exact rI_mk (w := w) (m := m) H
  · replace H := H.2 q
    refine And.intro (And.intro (rfl) (by decide : ¬ 237 = 0)) ?_
    refine And.intro (rfl) ?_
    refine And.intro (fun q => ?_) (fun q => ?_)
    · replace H := H.1 q
      exact rI_mk (w := w) (m := m) H
    · replace H := H.2 q
      refine And.intro (rfl) ?_
      refine cI_use (w := w) (m := m) rfl H ?_
      intro v1 m1 H
      exact H
theorem S_Measures_coveredBy_24 {l1 : Int32} {l2 : Int32} {l3 : Int32} {l4 : Int32} {l5 : Int32} {l6 : Int32} {d : Nat} {w : Nat × Nat × Nat} {m : zM} {Q : Int32 → zM → Prop} (H : cI d 156 [.ref 240, .int l5] w m (fun v1 m1 => ((v1 ≤ l6 → W_Measures_coveredBy_9 d l1 l2 l3 (l4 + (1 : Int32)) w m1 Q) ∧ (¬ v1 ≤ l6 → cI d 89 [.ref 237, .int l5, .int l6] w m1 (fun v2 m2 => cI d 29 [.ref 255, .int v2] w m2 (fun v3 m3 => W_Measures_coveredBy_24 d l1 l2 (l3 + v3) l4 l5 (l6 + (1 : Int32)) w m3 Q)))))) : W_Measures_coveredBy_24 d l1 l2 l3 l4 l5 l6 w m Q := by
  refine mm_yrun (is := mm_k28) [9, 24] 400 rfl ?_
  refine And.intro (And.intro (rfl) (by decide : ¬ 237 = 0)) ?_
  refine And.intro (And.intro (rfl) (by decide : ¬ 240 = 0)) ?_
  refine And.intro (trivial) ?_
  refine cI_use (w := w) (m := m) rfl H ?_
  intro v1 m1 H
  refine And.intro (fun q => ?_) (fun q => ?_)
  · replace H := H.1 q
    exact H _ _
  · replace H := H.2 q
    refine And.intro (And.intro (rfl) (by decide : ¬ 237 = 0)) ?_
    refine And.intro (rfl) ?_
    refine cI_use (w := w) (m := m1) rfl H ?_
    intro v2 m2 H
    refine And.intro (rfl) ?_
    refine cI_use (w := w) (m := m2) rfl H ?_
    intro v3 m3 H
    exact H

def W_Measures_coverOne_18 (d : Nat) (l2 : Int32) (l3 : Int32) (l4 : Int32) (l5 : Int32) (w : Nat × Nat × Nat) (m : zM) (Q : Int32 → zM → Prop) : Prop := ∀ o1 : Option Value, mm_W (d + 1) 29 18 [some (.ref 255), o1, some (.int l2), some (.int l3), some (.int l4), some (.int l5)] [] (zE w m) (rI w Q)
theorem S_Measures_coverOne {p0 : Int32} {d : Nat} {w : Nat × Nat × Nat} {m : zM} {Q : Int32 → zM → Prop} (H : cI d 156 [.ref 231, .int p0] w m (fun v1 m1 => cI d 156 [.ref 232, .int p0] w m1 (fun v2 m2 => W_Measures_coverOne_18 d v1 v2 (0 : Int32) v1 w m2 Q))) : cI (d + 1) 29 [.ref 255, .int p0] w m Q := by
  refine cI_in rfl ?_
  refine mm_yrun (is := mm_k29) [18] 400 rfl ?_
  refine And.intro (And.intro (rfl) (by decide : ¬ 237 = 0)) ?_
  refine And.intro (And.intro (rfl) (by decide : ¬ 228 = 0)) ?_
  refine And.intro (And.intro (rfl) (by decide : ¬ 231 = 0)) ?_
  refine And.intro (trivial) ?_
  refine cI_use (w := w) (m := m) rfl H ?_
  intro v1 m1 H
  refine And.intro (And.intro (rfl) (by decide : ¬ 237 = 0)) ?_
  refine And.intro (And.intro (rfl) (by decide : ¬ 228 = 0)) ?_
  refine And.intro (And.intro (rfl) (by decide : ¬ 232 = 0)) ?_
  refine And.intro (trivial) ?_
  refine cI_use (w := w) (m := m1) rfl H ?_
  intro v2 m2 H
  exact H _
theorem S_Measures_coverOne_18 {l2 : Int32} {l3 : Int32} {l4 : Int32} {l5 : Int32} {d : Nat} {w : Nat × Nat × Nat} {m : zM} {Q : Int32 → zM → Prop} (H : (((l2 + l3) ≤ l5 → Q l4 m) ∧ (¬ (l2 + l3) ≤ l5 → cI d 156 [.ref 253, .int l5] w m (fun v1 m1 => cV d 158 [.ref 253, .int l5, .int (1 : Int32)] w m1 (fun m2 => W_Measures_coverOne_18 d l2 l3 (l4 + ((1 : Int32) - v1)) (l5 + (1 : Int32)) w m2 Q))))) : W_Measures_coverOne_18 d l2 l3 l4 l5 w m Q := by
  intro o1
  refine mm_yrun (is := mm_k29) [18] 400 rfl ?_
  refine And.intro (fun q => ?_) (fun q => ?_)
  · replace H := H.1 q
    exact rI_mk (w := w) (m := m) H
  · replace H := H.2 q
    refine And.intro (And.intro (rfl) (by decide : ¬ 237 = 0)) ?_
    refine And.intro (And.intro (rfl) (by decide : ¬ 253 = 0)) ?_
    refine And.intro (trivial) ?_
    refine cI_use (w := w) (m := m) rfl H ?_
    intro v1 m1 H
    refine And.intro (And.intro (rfl) (by decide : ¬ 237 = 0)) ?_
    refine And.intro (And.intro (rfl) (by decide : ¬ 253 = 0)) ?_
    refine And.intro (trivial) ?_
    refine cV_use (w := w) (m := m1) rfl H ?_
    intro m2 H
    exact H _

def W_Order_sort_M_2 (d : Nat) (l1 : Int32) (l2 : Int32) (w : Nat × Nat × Nat) (m : zM) (Q : zM → Prop) : Prop := ∀ o3 : Option Value, mm_W (d + 1) 31 2 [some (.ref 228), some (.int l1), some (.int l2), o3] [] (zE w m) (rV w Q)
def W_Order_sort_M_14 (d : Nat) (l1 : Int32) (l2 : Int32) (w : Nat × Nat × Nat) (m : zM) (Q : zM → Prop) : Prop := ∀ o3 : Option Value, mm_W (d + 1) 31 14 [some (.ref 228), some (.int l1), some (.int l2), o3] [] (zE w m) (rV w Q)
def W_Order_sort_M_22 (d : Nat) (l1 : Int32) (l2 : Int32) (l3 : Int32) (w : Nat × Nat × Nat) (m : zM) (Q : zM → Prop) : Prop := mm_W (d + 1) 31 22 [some (.ref 228), some (.int l1), some (.int l2), some (.int l3)] [] (zE w m) (rV w Q)
theorem S_Order_sort_M {p0 : Int32} {d : Nat} {w : Nat × Nat × Nat} {m : zM} {Q : zM → Prop} (H : W_Order_sort_M_2 d p0 (0 : Int32) w m Q) : cV (d + 1) 31 [.ref 228, .int p0] w m Q := by
  refine cV_in rfl ?_
  refine mm_yrun (is := mm_k31) [2, 14, 22] 400 rfl ?_
  exact H _
theorem S_Order_sort_M_2 {l1 : Int32} {l2 : Int32} {d : Nat} {w : Nat × Nat × Nat} {m : zM} {Q : zM → Prop} (H : ((l1 ≤ l2 → W_Order_sort_M_14 d l1 (1 : Int32) w m Q) ∧ (¬ l1 ≤ l2 → cV d 158 [.ref 229, .int l2, .int l2] w m (fun m1 => W_Order_sort_M_2 d l1 (l2 + (1 : Int32)) w m1 Q)))) : W_Order_sort_M_2 d l1 l2 w m Q := by
  intro o3
  refine mm_yrun (is := mm_k31) [2, 14, 22] 400 rfl ?_
  refine And.intro (fun q => ?_) (fun q => ?_)
  · replace H := H.1 q
    exact H _
  · replace H := H.2 q
    refine And.intro (And.intro (Or.inl rfl) (by decide : ¬ 229 = 0)) ?_
    refine And.intro (trivial) ?_
    refine cV_use (w := w) (m := m) rfl H ?_
    intro m1 H
    exact H _
theorem S_Order_sort_M_14 {l1 : Int32} {l2 : Int32} {d : Nat} {w : Nat × Nat × Nat} {m : zM} {Q : zM → Prop} (H : ((l1 ≤ l2 → Q m) ∧ (¬ l1 ≤ l2 → (((1200 : Int32) ≤ l2 → Q m) ∧ (¬ (1200 : Int32) ≤ l2 → W_Order_sort_M_22 d l1 l2 (0 : Int32) w m Q))))) : W_Order_sort_M_14 d l1 l2 w m Q := by
  intro o3
  refine mm_yrun (is := mm_k31) [2, 14, 22] 400 rfl ?_
  refine And.intro (fun q => ?_) (fun q => ?_)
  · replace H := H.1 q
    exact rV_mk (w := w) (m := m) H
  · replace H := H.2 q
    refine And.intro (fun q => ?_) (fun q => ?_)
    · replace H := H.1 q
      exact rV_mk (w := w) (m := m) H
    · replace H := H.2 q
      exact H
theorem S_Order_sort_M_22 {l1 : Int32} {l2 : Int32} {l3 : Int32} {d : Nat} {w : Nat × Nat × Nat} {m : zM} {Q : zM → Prop} (H : ((l1 ≤ l3 → cV d 161 [.ref 230, .ref 229, .int l1] w m (fun m1 => W_Order_sort_M_14 d l1 (l2 * (2 : Int32)) w m1 Q)) ∧ (¬ l1 ≤ l3 → cI d 292 [.int (l3 + l2), .int l1] w m (fun v2 m2 => cI d 292 [.int (l3 + ((2 : Int32) * l2)), .int l1] w m2 (fun v3 m3 => cV d 32 [.ref 228, .int l3, .int v2, .int v3] w m3 (fun m4 => W_Order_sort_M_22 d l1 l2 (l3 + ((2 : Int32) * l2)) w m4 Q)))))) : W_Order_sort_M_22 d l1 l2 l3 w m Q := by
  refine mm_yrun (is := mm_k31) [2, 14, 22] 400 rfl ?_
  refine And.intro (fun q => ?_) (fun q => ?_)
  · replace H := H.1 q
    refine And.intro (And.intro (Or.inl rfl) (by decide : ¬ 230 = 0)) ?_
    refine And.intro (And.intro (Or.inl rfl) (by decide : ¬ 229 = 0)) ?_
    refine And.intro (trivial) ?_
    refine cV_use (w := w) (m := m) rfl H ?_
    intro m1 H
    exact H _
  · replace H := H.2 q
    refine And.intro (trivial) ?_
    refine cI_use (w := w) (m := m) rfl H ?_
    intro v2 m2 H
    refine And.intro (trivial) ?_
    refine cI_use (w := w) (m := m2) rfl H ?_
    intro v3 m3 H
    refine And.intro (Or.inl rfl) ?_
    refine cV_use (w := w) (m := m3) rfl H ?_
    intro m4 H
    exact H

def W_Order_sort_R_2 (d : Nat) (l1 : Int32) (l2 : Int32) (w : Nat × Nat × Nat) (m : zM) (Q : zM → Prop) : Prop := ∀ o3 : Option Value, mm_W (d + 1) 31 2 [some (.ref 255), some (.int l1), some (.int l2), o3] [] (zE w m) (rV w Q)
def W_Order_sort_R_14 (d : Nat) (l1 : Int32) (l2 : Int32) (w : Nat × Nat × Nat) (m : zM) (Q : zM → Prop) : Prop := ∀ o3 : Option Value, mm_W (d + 1) 31 14 [some (.ref 255), some (.int l1), some (.int l2), o3] [] (zE w m) (rV w Q)
def W_Order_sort_R_22 (d : Nat) (l1 : Int32) (l2 : Int32) (l3 : Int32) (w : Nat × Nat × Nat) (m : zM) (Q : zM → Prop) : Prop := mm_W (d + 1) 31 22 [some (.ref 255), some (.int l1), some (.int l2), some (.int l3)] [] (zE w m) (rV w Q)
theorem S_Order_sort_R {p0 : Int32} {d : Nat} {w : Nat × Nat × Nat} {m : zM} {Q : zM → Prop} (H : W_Order_sort_R_2 d p0 (0 : Int32) w m Q) : cV (d + 1) 31 [.ref 255, .int p0] w m Q := by
  refine cV_in rfl ?_
  refine mm_yrun (is := mm_k31) [2, 14, 22] 400 rfl ?_
  exact H _
theorem S_Order_sort_R_2 {l1 : Int32} {l2 : Int32} {d : Nat} {w : Nat × Nat × Nat} {m : zM} {Q : zM → Prop} (H : ((l1 ≤ l2 → W_Order_sort_R_14 d l1 (1 : Int32) w m Q) ∧ (¬ l1 ≤ l2 → cV d 158 [.ref 256, .int l2, .int l2] w m (fun m1 => W_Order_sort_R_2 d l1 (l2 + (1 : Int32)) w m1 Q)))) : W_Order_sort_R_2 d l1 l2 w m Q := by
  intro o3
  refine mm_yrun (is := mm_k31) [2, 14, 22] 400 rfl ?_
  refine And.intro (fun q => ?_) (fun q => ?_)
  · replace H := H.1 q
    exact H _
  · replace H := H.2 q
    refine And.intro (And.intro (Or.inr rfl) (by decide : ¬ 256 = 0)) ?_
    refine And.intro (trivial) ?_
    refine cV_use (w := w) (m := m) rfl H ?_
    intro m1 H
    exact H _
theorem S_Order_sort_R_14 {l1 : Int32} {l2 : Int32} {d : Nat} {w : Nat × Nat × Nat} {m : zM} {Q : zM → Prop} (H : ((l1 ≤ l2 → Q m) ∧ (¬ l1 ≤ l2 → (((1200 : Int32) ≤ l2 → Q m) ∧ (¬ (1200 : Int32) ≤ l2 → W_Order_sort_R_22 d l1 l2 (0 : Int32) w m Q))))) : W_Order_sort_R_14 d l1 l2 w m Q := by
  intro o3
  refine mm_yrun (is := mm_k31) [2, 14, 22] 400 rfl ?_
  refine And.intro (fun q => ?_) (fun q => ?_)
  · replace H := H.1 q
    exact rV_mk (w := w) (m := m) H
  · replace H := H.2 q
    refine And.intro (fun q => ?_) (fun q => ?_)
    · replace H := H.1 q
      exact rV_mk (w := w) (m := m) H
    · replace H := H.2 q
      exact H
theorem S_Order_sort_R_22 {l1 : Int32} {l2 : Int32} {l3 : Int32} {d : Nat} {w : Nat × Nat × Nat} {m : zM} {Q : zM → Prop} (H : ((l1 ≤ l3 → cV d 161 [.ref 257, .ref 256, .int l1] w m (fun m1 => W_Order_sort_R_14 d l1 (l2 * (2 : Int32)) w m1 Q)) ∧ (¬ l1 ≤ l3 → cI d 292 [.int (l3 + l2), .int l1] w m (fun v2 m2 => cI d 292 [.int (l3 + ((2 : Int32) * l2)), .int l1] w m2 (fun v3 m3 => cV d 32 [.ref 255, .int l3, .int v2, .int v3] w m3 (fun m4 => W_Order_sort_R_22 d l1 l2 (l3 + ((2 : Int32) * l2)) w m4 Q)))))) : W_Order_sort_R_22 d l1 l2 l3 w m Q := by
  refine mm_yrun (is := mm_k31) [2, 14, 22] 400 rfl ?_
  refine And.intro (fun q => ?_) (fun q => ?_)
  · replace H := H.1 q
    refine And.intro (And.intro (Or.inr rfl) (by decide : ¬ 257 = 0)) ?_
    refine And.intro (And.intro (Or.inr rfl) (by decide : ¬ 256 = 0)) ?_
    refine And.intro (trivial) ?_
    refine cV_use (w := w) (m := m) rfl H ?_
    intro m1 H
    exact H _
  · replace H := H.2 q
    refine And.intro (trivial) ?_
    refine cI_use (w := w) (m := m) rfl H ?_
    intro v2 m2 H
    refine And.intro (trivial) ?_
    refine cI_use (w := w) (m := m2) rfl H ?_
    intro v3 m3 H
    refine And.intro (Or.inr rfl) ?_
    refine cV_use (w := w) (m := m3) rfl H ?_
    intro m4 H
    exact H

def W_Order_merge_M_6 (d : Nat) (l2 : Int32) (l3 : Int32) (l4 : Int32) (l5 : Int32) (l6 : Int32) (w : Nat × Nat × Nat) (m : zM) (Q : zM → Prop) : Prop := ∀ o1 o7 : Option Value, mm_W (d + 1) 32 6 [some (.ref 228), o1, some (.int l2), some (.int l3), some (.int l4), some (.int l5), some (.int l6), o7] [] (zE w m) (rV w Q)
def W_Order_merge_M_29 (d : Nat) (l2 : Int32) (l3 : Int32) (l4 : Int32) (l5 : Int32) (l6 : Int32) (t0 : Int32) (w : Nat × Nat × Nat) (m : zM) (Q : zM → Prop) : Prop := ∀ o1 o7 : Option Value, mm_W (d + 1) 32 29 [some (.ref 228), o1, some (.int l2), some (.int l3), some (.int l4), some (.int l5), some (.int l6), o7] [.int t0] (zE w m) (rV w Q)
def W_Order_merge_M_40 (d : Nat) (l2 : Int32) (l3 : Int32) (l4 : Int32) (l5 : Int32) (l6 : Int32) (l7 : Int32) (t1 : Int32) (t3 : Int32) (w : Nat × Nat × Nat) (m : zM) (Q : zM → Prop) : Prop := ∀ o1 : Option Value, mm_W (d + 1) 32 40 [some (.ref 228), o1, some (.int l2), some (.int l3), some (.int l4), some (.int l5), some (.int l6), some (.int l7)] [.int t3, .ref 229, .int t1, .ref 230] (zE w m) (rV w Q)
theorem S_Order_merge_M {p0 : Int32} {p1 : Int32} {p2 : Int32} {d : Nat} {w : Nat × Nat × Nat} {m : zM} {Q : zM → Prop} (H : W_Order_merge_M_6 d p1 p2 p0 p1 p0 w m Q) : cV (d + 1) 32 [.ref 228, .int p0, .int p1, .int p2] w m Q := by
  refine cV_in rfl ?_
  refine mm_yrun (is := mm_k32) [6, 29, 40] 400 rfl ?_
  exact H _ _
theorem S_Order_merge_M_6 {l2 : Int32} {l3 : Int32} {l4 : Int32} {l5 : Int32} {l6 : Int32} {d : Nat} {w : Nat × Nat × Nat} {m : zM} {Q : zM → Prop} (H : ((l3 ≤ l6 → Q m) ∧ (¬ l3 ≤ l6 → ((l3 ≤ l5 → W_Order_merge_M_29 d l2 l3 l4 l5 l6 (1 : Int32) w m Q) ∧ (¬ l3 ≤ l5 → ((l2 ≤ l4 → W_Order_merge_M_29 d l2 l3 l4 l5 l6 (0 : Int32) w m Q) ∧ (¬ l2 ≤ l4 → cI d 156 [.ref 229, .int l5] w m (fun v1 m1 => cI d 156 [.ref 229, .int l4] w m1 (fun v2 m2 => cI d 14 [.ref 228, .int v1, .int v2] w m2 (fun v3 m3 => ((¬ v3 = 0 → W_Order_merge_M_29 d l2 l3 l4 l5 l6 (0 : Int32) w m3 Q) ∧ (v3 = 0 → W_Order_merge_M_29 d l2 l3 l4 l5 l6 (1 : Int32) w m3 Q)))))))))))) : W_Order_merge_M_6 d l2 l3 l4 l5 l6 w m Q := by
  intro o1 o7
  refine mm_yrun (is := mm_k32) [6, 29, 40] 400 rfl ?_
  refine And.intro (fun q => ?_) (fun q => ?_)
  · replace H := H.1 q
    exact rV_mk (w := w) (m := m) H
  · replace H := H.2 q
    refine And.intro (fun q => ?_) (fun q => ?_)
    · replace H := H.1 q
      exact H _ _
    · replace H := H.2 q
      refine And.intro (fun q => ?_) (fun q => ?_)
      · replace H := H.1 q
        exact H _ _
      · replace H := H.2 q
        refine And.intro (And.intro (Or.inl rfl) (by decide : ¬ 229 = 0)) ?_
        refine And.intro (trivial) ?_
        refine cI_use (w := w) (m := m) rfl H ?_
        intro v1 m1 H
        refine And.intro (And.intro (Or.inl rfl) (by decide : ¬ 229 = 0)) ?_
        refine And.intro (trivial) ?_
        refine cI_use (w := w) (m := m1) rfl H ?_
        intro v2 m2 H
        refine And.intro (Or.inl rfl) ?_
        refine cI_use (w := w) (m := m2) rfl H ?_
        intro v3 m3 H
        refine And.intro (fun q => ?_) (fun q => ?_)
        · replace H := H.1 q
          exact H _ _
        · replace H := H.2 (Classical.not_not.mp q)
          exact H _ _
theorem S_Order_merge_M_29 {l2 : Int32} {l3 : Int32} {l4 : Int32} {l5 : Int32} {l6 : Int32} {t0 : Int32} {d : Nat} {w : Nat × Nat × Nat} {m : zM} {Q : zM → Prop} (H : ((t0 = 0 → W_Order_merge_M_40 d l2 l3 l4 l5 l6 t0 l6 l5 w m Q) ∧ (¬ t0 = 0 → W_Order_merge_M_40 d l2 l3 l4 l5 l6 t0 l6 l4 w m Q))) : W_Order_merge_M_29 d l2 l3 l4 l5 l6 t0 w m Q := by
  intro o1 o7
  refine mm_yrun (is := mm_k32) [6, 29, 40] 400 rfl ?_
  refine And.intro (And.intro (Or.inl rfl) (by decide : ¬ 230 = 0)) ?_
  refine And.intro (And.intro (Or.inl rfl) (by decide : ¬ 229 = 0)) ?_
  refine And.intro (fun q => ?_) (fun q => ?_)
  · replace H := H.1 q
    exact H _
  · replace H := H.2 q
    exact H _
theorem S_Order_merge_M_40 {l2 : Int32} {l3 : Int32} {l4 : Int32} {l5 : Int32} {l6 : Int32} {l7 : Int32} {t1 : Int32} {t3 : Int32} {d : Nat} {w : Nat × Nat × Nat} {m : zM} {Q : zM → Prop} (H : cI d 156 [.ref 229, .int t3] w m (fun v1 m1 => cV d 158 [.ref 230, .int t1, .int v1] w m1 (fun m2 => ((l7 = 0 → W_Order_merge_M_6 d l2 l3 l4 (l5 + (1 : Int32)) (l6 + (1 : Int32)) w m2 Q) ∧ (¬ l7 = 0 → W_Order_merge_M_6 d l2 l3 (l4 + (1 : Int32)) l5 (l6 + (1 : Int32)) w m2 Q))))) : W_Order_merge_M_40 d l2 l3 l4 l5 l6 l7 t1 t3 w m Q := by
  intro o1
  refine mm_yrun (is := mm_k32) [6, 29, 40] 400 rfl ?_
  refine And.intro (trivial) ?_
  refine cI_use (w := w) (m := m) rfl H ?_
  intro v1 m1 H
  refine And.intro (trivial) ?_
  refine cV_use (w := w) (m := m1) rfl H ?_
  intro m2 H
  refine And.intro (fun q => ?_) (fun q => ?_)
  · replace H := H.1 q
    exact H _ _
  · replace H := H.2 q
    exact H _ _

def W_Order_merge_R_6 (d : Nat) (l2 : Int32) (l3 : Int32) (l4 : Int32) (l5 : Int32) (l6 : Int32) (w : Nat × Nat × Nat) (m : zM) (Q : zM → Prop) : Prop := ∀ o1 o7 : Option Value, mm_W (d + 1) 32 6 [some (.ref 255), o1, some (.int l2), some (.int l3), some (.int l4), some (.int l5), some (.int l6), o7] [] (zE w m) (rV w Q)
def W_Order_merge_R_29 (d : Nat) (l2 : Int32) (l3 : Int32) (l4 : Int32) (l5 : Int32) (l6 : Int32) (t0 : Int32) (w : Nat × Nat × Nat) (m : zM) (Q : zM → Prop) : Prop := ∀ o1 o7 : Option Value, mm_W (d + 1) 32 29 [some (.ref 255), o1, some (.int l2), some (.int l3), some (.int l4), some (.int l5), some (.int l6), o7] [.int t0] (zE w m) (rV w Q)
def W_Order_merge_R_40 (d : Nat) (l2 : Int32) (l3 : Int32) (l4 : Int32) (l5 : Int32) (l6 : Int32) (l7 : Int32) (t1 : Int32) (t3 : Int32) (w : Nat × Nat × Nat) (m : zM) (Q : zM → Prop) : Prop := ∀ o1 : Option Value, mm_W (d + 1) 32 40 [some (.ref 255), o1, some (.int l2), some (.int l3), some (.int l4), some (.int l5), some (.int l6), some (.int l7)] [.int t3, .ref 256, .int t1, .ref 257] (zE w m) (rV w Q)
theorem S_Order_merge_R {p0 : Int32} {p1 : Int32} {p2 : Int32} {d : Nat} {w : Nat × Nat × Nat} {m : zM} {Q : zM → Prop} (H : W_Order_merge_R_6 d p1 p2 p0 p1 p0 w m Q) : cV (d + 1) 32 [.ref 255, .int p0, .int p1, .int p2] w m Q := by
  refine cV_in rfl ?_
  refine mm_yrun (is := mm_k32) [6, 29, 40] 400 rfl ?_
  exact H _ _
theorem S_Order_merge_R_6 {l2 : Int32} {l3 : Int32} {l4 : Int32} {l5 : Int32} {l6 : Int32} {d : Nat} {w : Nat × Nat × Nat} {m : zM} {Q : zM → Prop} (H : ((l3 ≤ l6 → Q m) ∧ (¬ l3 ≤ l6 → ((l3 ≤ l5 → W_Order_merge_R_29 d l2 l3 l4 l5 l6 (1 : Int32) w m Q) ∧ (¬ l3 ≤ l5 → ((l2 ≤ l4 → W_Order_merge_R_29 d l2 l3 l4 l5 l6 (0 : Int32) w m Q) ∧ (¬ l2 ≤ l4 → cI d 156 [.ref 256, .int l5] w m (fun v1 m1 => cI d 156 [.ref 256, .int l4] w m1 (fun v2 m2 => cI d 25 [.ref 255, .int v1, .int v2] w m2 (fun v3 m3 => ((¬ v3 = 0 → W_Order_merge_R_29 d l2 l3 l4 l5 l6 (0 : Int32) w m3 Q) ∧ (v3 = 0 → W_Order_merge_R_29 d l2 l3 l4 l5 l6 (1 : Int32) w m3 Q)))))))))))) : W_Order_merge_R_6 d l2 l3 l4 l5 l6 w m Q := by
  intro o1 o7
  refine mm_yrun (is := mm_k32) [6, 29, 40] 400 rfl ?_
  refine And.intro (fun q => ?_) (fun q => ?_)
  · replace H := H.1 q
    exact rV_mk (w := w) (m := m) H
  · replace H := H.2 q
    refine And.intro (fun q => ?_) (fun q => ?_)
    · replace H := H.1 q
      exact H _ _
    · replace H := H.2 q
      refine And.intro (fun q => ?_) (fun q => ?_)
      · replace H := H.1 q
        exact H _ _
      · replace H := H.2 q
        refine And.intro (And.intro (Or.inr rfl) (by decide : ¬ 256 = 0)) ?_
        refine And.intro (trivial) ?_
        refine cI_use (w := w) (m := m) rfl H ?_
        intro v1 m1 H
        refine And.intro (And.intro (Or.inr rfl) (by decide : ¬ 256 = 0)) ?_
        refine And.intro (trivial) ?_
        refine cI_use (w := w) (m := m1) rfl H ?_
        intro v2 m2 H
        refine And.intro (Or.inr rfl) ?_
        refine cI_use (w := w) (m := m2) rfl H ?_
        intro v3 m3 H
        refine And.intro (fun q => ?_) (fun q => ?_)
        · replace H := H.1 q
          exact H _ _
        · replace H := H.2 (Classical.not_not.mp q)
          exact H _ _
theorem S_Order_merge_R_29 {l2 : Int32} {l3 : Int32} {l4 : Int32} {l5 : Int32} {l6 : Int32} {t0 : Int32} {d : Nat} {w : Nat × Nat × Nat} {m : zM} {Q : zM → Prop} (H : ((t0 = 0 → W_Order_merge_R_40 d l2 l3 l4 l5 l6 t0 l6 l5 w m Q) ∧ (¬ t0 = 0 → W_Order_merge_R_40 d l2 l3 l4 l5 l6 t0 l6 l4 w m Q))) : W_Order_merge_R_29 d l2 l3 l4 l5 l6 t0 w m Q := by
  intro o1 o7
  refine mm_yrun (is := mm_k32) [6, 29, 40] 400 rfl ?_
  refine And.intro (And.intro (Or.inr rfl) (by decide : ¬ 257 = 0)) ?_
  refine And.intro (And.intro (Or.inr rfl) (by decide : ¬ 256 = 0)) ?_
  refine And.intro (fun q => ?_) (fun q => ?_)
  · replace H := H.1 q
    exact H _
  · replace H := H.2 q
    exact H _
theorem S_Order_merge_R_40 {l2 : Int32} {l3 : Int32} {l4 : Int32} {l5 : Int32} {l6 : Int32} {l7 : Int32} {t1 : Int32} {t3 : Int32} {d : Nat} {w : Nat × Nat × Nat} {m : zM} {Q : zM → Prop} (H : cI d 156 [.ref 256, .int t3] w m (fun v1 m1 => cV d 158 [.ref 257, .int t1, .int v1] w m1 (fun m2 => ((l7 = 0 → W_Order_merge_R_6 d l2 l3 l4 (l5 + (1 : Int32)) (l6 + (1 : Int32)) w m2 Q) ∧ (¬ l7 = 0 → W_Order_merge_R_6 d l2 l3 (l4 + (1 : Int32)) l5 (l6 + (1 : Int32)) w m2 Q))))) : W_Order_merge_R_40 d l2 l3 l4 l5 l6 l7 t1 t3 w m Q := by
  intro o1
  refine mm_yrun (is := mm_k32) [6, 29, 40] 400 rfl ?_
  refine And.intro (trivial) ?_
  refine cI_use (w := w) (m := m) rfl H ?_
  intro v1 m1 H
  refine And.intro (trivial) ?_
  refine cV_use (w := w) (m := m1) rfl H ?_
  intro m2 H
  refine And.intro (fun q => ?_) (fun q => ?_)
  · replace H := H.1 q
    exact H _ _
  · replace H := H.2 q
    exact H _ _

theorem R_Pairs_copyFrom {a : Nat} {p0 : Nat} {p0_0 : Nat} {a_0 : Nat} {p0_1 : Nat} {a_1 : Nat} {d : Nat} {w : Nat × Nat × Nat} {m : zM} {Q : zM → Prop} (he_p0_0 : zR w.2.1 w.2.2 p0 0 = p0_0) (he_a_0 : zR w.2.1 w.2.2 a 0 = a_0) (he_p0_1 : zR w.2.1 w.2.2 p0 1 = p0_1) (he_a_1 : zR w.2.1 w.2.2 a 1 = a_1) (hk_p0 : (zK w.1 p0).1 = 4) (hk_a : (zK w.1 a).1 = 4) (hn_p0_0 : ¬ p0_0 = 0) (hn_a_0 : ¬ a_0 = 0) (hn_p0_1 : ¬ p0_1 = 0) (hn_a_1 : ¬ a_1 = 0) (H : cV d 162 [.ref p0_0, .ref a_0, .int ((zI m a 2 (m.1 p0 2)).1 a 2)] w (zI m a 2 (m.1 p0 2)) (fun m1 => cV d 162 [.ref p0_1, .ref a_1, .int (m1.1 a 2)] w m1 (fun m2 => Q m2))) : cV (d + 1) 34 [.ref a, .ref p0] w m Q := by
  subst he_p0_0
  subst he_a_0
  subst he_p0_1
  subst he_a_1
  refine cV_in rfl ?_
  refine mm_yrun (is := mm_k34) [] 400 rfl ?_
  refine And.intro (hk_p0) ?_
  refine And.intro (hk_a) ?_
  refine And.intro (And.intro (hk_p0) hn_p0_0) ?_
  refine And.intro (And.intro (hk_a) hn_a_0) ?_
  refine And.intro (hk_a) ?_
  refine And.intro (trivial) ?_
  refine cV_use (w := w) (m := (zI m a 2 (m.1 p0 2))) rfl H ?_
  intro m1 H
  refine And.intro (And.intro (hk_p0) hn_p0_1) ?_
  refine And.intro (And.intro (hk_a) hn_a_1) ?_
  refine And.intro (hk_a) ?_
  refine And.intro (trivial) ?_
  refine cV_use (w := w) (m := m1) rfl H ?_
  intro m2 H
  exact rV_mk (w := w) (m := m2) H
theorem S_Pairs_copyFrom {a : Nat} {p0 : Nat} {n_p0 : Nat} {n_a : Nat} {d : Nat} {w : Nat × Nat × Nat} {m : zM} {Q : zM → Prop} (hp_p0 : zPa w p0 n_p0) (hp_a : zPa w a n_a) (H : cV d 162 [.ref (p0 + 1), .ref (a + 1), .int ((zI m a 2 (m.1 p0 2)).1 a 2)] w (zI m a 2 (m.1 p0 2)) (fun m1 => cV d 162 [.ref (p0 + 2), .ref (a + 2), .int (m1.1 a 2)] w m1 (fun m2 => Q m2))) : cV (d + 1) 34 [.ref a, .ref p0] w m Q := R_Pairs_copyFrom hp_p0.2.1 hp_a.2.1 hp_p0.2.2.1 hp_a.2.2.1 hp_p0.1 hp_a.1 (Nat.succ_ne_zero _) (Nat.succ_ne_zero _) (Nat.succ_ne_zero _) (Nat.succ_ne_zero _) H

theorem R_Pairs_add {a : Nat} {p0 : Int64} {p1 : Int64} {a_0 : Nat} {a_1 : Nat} {nl_a_0 : Nat} {d : Nat} {w : Nat × Nat × Nat} {m : zM} {Q : Int32 → zM → Prop} (he_a_0 : zR w.2.1 w.2.2 a 0 = a_0) (he_a_1 : zR w.2.1 w.2.2 a 1 = a_1) (hk_a : (zK w.1 a).1 = 4) (hn_a_0 : ¬ a_0 = 0) (hk_a_0 : (zK w.1 a_0).1 = 13) (hl_a_0 : (zK w.1 a_0).2 = nl_a_0) (hn_a_1 : ¬ a_1 = 0) (H : (((m.1 a 2) < (Int32.ofNat nl_a_0) → cV d 159 [.ref a_0, .int (m.1 a 2), .long p0] w m (fun m1 => cV d 159 [.ref a_1, .int (m1.1 a 2), .long p1] w m1 (fun m2 => Q (1 : Int32) (zI m2 a 2 ((m2.1 a 2) + (1 : Int32)))))) ∧ (¬ (m.1 a 2) < (Int32.ofNat nl_a_0) → Q (0 : Int32) m))) : cI (d + 1) 35 [.ref a, .long p0, .long p1] w m Q := by
  subst he_a_0
  subst he_a_1
  subst hl_a_0
  refine cI_in rfl ?_
  refine mm_yrun (is := mm_k35) [] 400 rfl ?_
  refine And.intro (hk_a) ?_
  refine And.intro (And.intro (hk_a) hn_a_0) ?_
  refine And.intro (zArK3 hk_a_0) ?_
  refine And.intro (fun q => ?_) (fun q => ?_)
  · replace H := H.1 q
    refine And.intro (And.intro (hk_a) hn_a_0) ?_
    refine And.intro (hk_a) ?_
    refine And.intro (trivial) ?_
    refine cV_use (w := w) (m := m) rfl H ?_
    intro m1 H
    refine And.intro (And.intro (hk_a) hn_a_1) ?_
    refine And.intro (hk_a) ?_
    refine And.intro (trivial) ?_
    refine cV_use (w := w) (m := m1) rfl H ?_
    intro m2 H
    refine And.intro (hk_a) ?_
    refine And.intro (hk_a) ?_
    refine And.intro (Or.inr rfl) ?_
    exact rI_mk (w := w) (m := (zI m2 a 2 ((m2.1 a 2) + (1 : Int32)))) H
  · replace H := H.2 q
    refine And.intro (Or.inl rfl) ?_
    exact rI_mk (w := w) (m := m) H
theorem S_Pairs_add {a : Nat} {p0 : Int64} {p1 : Int64} {n_a : Nat} {d : Nat} {w : Nat × Nat × Nat} {m : zM} {Q : Int32 → zM → Prop} (hp_a : zPa w a n_a) (H : (((m.1 a 2) < (Int32.ofNat n_a) → cV d 159 [.ref (a + 1), .int (m.1 a 2), .long p0] w m (fun m1 => cV d 159 [.ref (a + 2), .int (m1.1 a 2), .long p1] w m1 (fun m2 => Q (1 : Int32) (zI m2 a 2 ((m2.1 a 2) + (1 : Int32)))))) ∧ (¬ (m.1 a 2) < (Int32.ofNat n_a) → Q (0 : Int32) m))) : cI (d + 1) 35 [.ref a, .long p0, .long p1] w m Q := R_Pairs_add hp_a.2.1 hp_a.2.2.1 hp_a.1 (Nat.succ_ne_zero _) (zAr_k (hp_a.2.2.2.1)) (zAr_l (hp_a.2.2.2.1)) (Nat.succ_ne_zero _) H

def W_Pairs_indexOf_2 (d : Nat) (a : Nat) (l1 : Int64) (l3 : Int32) (w : Nat × Nat × Nat) (m : zM) (Q : Int32 → zM → Prop) : Prop := mm_W (d + 1) 36 2 [some (.ref a), some (.long l1), none, some (.int l3)] [] (zE w m) (rI w Q)
theorem S_Pairs_indexOf {a : Nat} {p0 : Int64} {d : Nat} {w : Nat × Nat × Nat} {m : zM} {Q : Int32 → zM → Prop} (H : W_Pairs_indexOf_2 d a p0 (0 : Int32) w m Q) : cI (d + 1) 36 [.ref a, .long p0] w m Q := by
  refine cI_in rfl ?_
  refine mm_yrun (is := mm_k36) [2] 400 rfl ?_
  exact H
theorem R_Pairs_indexOf_2 {a : Nat} {l1 : Int64} {l3 : Int32} {a_0 : Nat} {d : Nat} {w : Nat × Nat × Nat} {m : zM} {Q : Int32 → zM → Prop} (he_a_0 : zR w.2.1 w.2.2 a 0 = a_0) (hk_a : (zK w.1 a).1 = 4) (hn_a_0 : ¬ a_0 = 0) (H : (((m.1 a 2) ≤ l3 → Q ((-1) : Int32) m) ∧ (¬ (m.1 a 2) ≤ l3 → cL d 157 [.ref a_0, .int l3] w m (fun v1 m1 => ((¬ v1 = l1 → W_Pairs_indexOf_2 d a l1 (l3 + (1 : Int32)) w m1 Q) ∧ (v1 = l1 → Q l3 m1)))))) : W_Pairs_indexOf_2 d a l1 l3 w m Q := by
  subst he_a_0
  refine mm_yrun (is := mm_k36) [2] 400 rfl ?_
  refine And.intro (hk_a) ?_
  refine And.intro (fun q => ?_) (fun q => ?_)
  · replace H := H.1 q
    exact rI_mk (w := w) (m := m) H
  · replace H := H.2 q
    refine And.intro (And.intro (hk_a) hn_a_0) ?_
    refine And.intro (trivial) ?_
    refine cL_use (w := w) (m := m) rfl H ?_
    intro v1 m1 H
    refine And.intro (fun q => ?_) (fun q => ?_)
    · replace H := H.1 q
      exact H
    · replace H := H.2 (Classical.not_not.mp q)
      exact rI_mk (w := w) (m := m1) H
theorem S_Pairs_indexOf_2 {a : Nat} {l1 : Int64} {l3 : Int32} {n_a : Nat} {d : Nat} {w : Nat × Nat × Nat} {m : zM} {Q : Int32 → zM → Prop} (hp_a : zPa w a n_a) (H : (((m.1 a 2) ≤ l3 → Q ((-1) : Int32) m) ∧ (¬ (m.1 a 2) ≤ l3 → cL d 157 [.ref (a + 1), .int l3] w m (fun v1 m1 => ((¬ v1 = l1 → W_Pairs_indexOf_2 d a l1 (l3 + (1 : Int32)) w m1 Q) ∧ (v1 = l1 → Q l3 m1)))))) : W_Pairs_indexOf_2 d a l1 l3 w m Q := R_Pairs_indexOf_2 hp_a.2.1 hp_a.1 (Nat.succ_ne_zero _) H

theorem R_Pairs_set {a : Nat} {p0 : Int64} {p1 : Int64} {a_1 : Nat} {d : Nat} {w : Nat × Nat × Nat} {m : zM} {Q : Int32 → zM → Prop} (he_a_1 : zR w.2.1 w.2.2 a 1 = a_1) (hk_a : (zK w.1 a).1 = 4) (hn_a_1 : ¬ a_1 = 0) (H : cI d 36 [.ref a, .long p0] w m (fun v1 m1 => ((0 ≤ v1 → cV d 159 [.ref a_1, .int v1, .long p1] w m1 (fun m2 => Q (1 : Int32) m2)) ∧ (¬ 0 ≤ v1 → cI d 35 [.ref a, .long p0, .long p1] w m1 (fun v3 m3 => (v3 = 0 ∨ v3 = 1) ∧ (Q v3 m3)))))) : cI (d + 1) 37 [.ref a, .long p0, .long p1] w m Q := by
  subst he_a_1
  refine cI_in rfl ?_
  refine mm_yrun (is := mm_k37) [] 400 rfl ?_
  refine And.intro (hk_a) ?_
  refine cI_use (w := w) (m := m) rfl H ?_
  intro v1 m1 H
  refine And.intro (fun q => ?_) (fun q => ?_)
  · replace H := H.1 q
    refine And.intro (And.intro (hk_a) hn_a_1) ?_
    refine And.intro (trivial) ?_
    refine cV_use (w := w) (m := m1) rfl H ?_
    intro m2 H
    refine And.intro (Or.inr rfl) ?_
    exact rI_mk (w := w) (m := m2) H
  · replace H := H.2 q
    refine And.intro (hk_a) ?_
    refine cI_use (w := w) (m := m1) rfl H ?_
    intro v3 m3 H
    refine And.intro H.1 ?_
    replace H := H.2
    exact rI_mk (w := w) (m := m3) H
theorem S_Pairs_set {a : Nat} {p0 : Int64} {p1 : Int64} {n_a : Nat} {d : Nat} {w : Nat × Nat × Nat} {m : zM} {Q : Int32 → zM → Prop} (hp_a : zPa w a n_a) (H : cI d 36 [.ref a, .long p0] w m (fun v1 m1 => ((0 ≤ v1 → cV d 159 [.ref (a + 2), .int v1, .long p1] w m1 (fun m2 => Q (1 : Int32) m2)) ∧ (¬ 0 ≤ v1 → cI d 35 [.ref a, .long p0, .long p1] w m1 (fun v3 m3 => (v3 = 0 ∨ v3 = 1) ∧ (Q v3 m3)))))) : cI (d + 1) 37 [.ref a, .long p0, .long p1] w m Q := R_Pairs_set hp_a.2.2.1 hp_a.1 (Nat.succ_ne_zero _) H

theorem R_Pattern_copyFrom {a : Nat} {p0 : Nat} {p0_0 : Nat} {a_0 : Nat} {p0_1 : Nat} {a_1 : Nat} {d : Nat} {w : Nat × Nat × Nat} {m : zM} {Q : zM → Prop} (he_p0_0 : zR w.2.1 w.2.2 p0 0 = p0_0) (he_a_0 : zR w.2.1 w.2.2 a 0 = a_0) (he_p0_1 : zR w.2.1 w.2.2 p0 1 = p0_1) (he_a_1 : zR w.2.1 w.2.2 a 1 = a_1) (hk_p0 : (zK w.1 p0).1 = 5) (hk_a : (zK w.1 a).1 = 5) (hn_p0_0 : ¬ p0_0 = 0) (hn_a_0 : ¬ a_0 = 0) (hn_p0_1 : ¬ p0_1 = 0) (hn_a_1 : ¬ a_1 = 0) (H : cV d 161 [.ref p0_0, .ref a_0, .int ((zI m a 2 (m.1 p0 2)).1 a 2)] w (zI m a 2 (m.1 p0 2)) (fun m1 => cV d 161 [.ref p0_1, .ref a_1, .int (m1.1 a 2)] w m1 (fun m2 => Q (zI (zI m2 a 3 (m2.1 p0 3)) a 4 ((zI m2 a 3 (m2.1 p0 3)).1 p0 4))))) : cV (d + 1) 39 [.ref a, .ref p0] w m Q := by
  subst he_p0_0
  subst he_a_0
  subst he_p0_1
  subst he_a_1
  refine cV_in rfl ?_
  refine mm_yrun (is := mm_k39) [] 400 rfl ?_
  refine And.intro (hk_p0) ?_
  refine And.intro (hk_a) ?_
  refine And.intro (And.intro (hk_p0) hn_p0_0) ?_
  refine And.intro (And.intro (hk_a) hn_a_0) ?_
  refine And.intro (hk_a) ?_
  refine And.intro (trivial) ?_
  refine cV_use (w := w) (m := (zI m a 2 (m.1 p0 2))) rfl H ?_
  intro m1 H
  refine And.intro (And.intro (hk_p0) hn_p0_1) ?_
  refine And.intro (And.intro (hk_a) hn_a_1) ?_
  refine And.intro (hk_a) ?_
  refine And.intro (trivial) ?_
  refine cV_use (w := w) (m := m1) rfl H ?_
  intro m2 H
  refine And.intro (hk_p0) ?_
  refine And.intro (hk_a) ?_
  refine And.intro (hk_p0) ?_
  refine And.intro (hk_a) ?_
  exact rV_mk (w := w) (m := (zI (zI m2 a 3 (m2.1 p0 3)) a 4 ((zI m2 a 3 (m2.1 p0 3)).1 p0 4))) H
theorem S_Pattern_copyFrom {a : Nat} {p0 : Nat} {d : Nat} {w : Nat × Nat × Nat} {m : zM} {Q : zM → Prop} (hp_p0 : zPt w p0) (hp_a : zPt w a) (H : cV d 161 [.ref (p0 + 1), .ref (a + 1), .int ((zI m a 2 (m.1 p0 2)).1 a 2)] w (zI m a 2 (m.1 p0 2)) (fun m1 => cV d 161 [.ref (p0 + 2), .ref (a + 2), .int (m1.1 a 2)] w m1 (fun m2 => Q (zI (zI m2 a 3 (m2.1 p0 3)) a 4 ((zI m2 a 3 (m2.1 p0 3)).1 p0 4))))) : cV (d + 1) 39 [.ref a, .ref p0] w m Q := R_Pattern_copyFrom hp_p0.2.1 hp_a.2.1 hp_p0.2.2.1 hp_a.2.2.1 hp_p0.1 hp_a.1 (Nat.succ_ne_zero _) (Nat.succ_ne_zero _) (Nat.succ_ne_zero _) (Nat.succ_ne_zero _) H

theorem R_Pattern_read {a : Nat} {d : Nat} {w : Nat × Nat × Nat} {m : zM} {Q : zM → Prop} (hk_a : (zK w.1 a).1 = 5) (H : cI d 41 [.ref a, .ref 8, .int (0 : Int32)] w (zI m a 2 (0 : Int32)) (fun v1 m1 => cI d 66 [.ref 8, .int ((-1) : Int32)] w m1 (fun v2 m2 => cI d 46 [.int v1] w m2 (fun v3 m3 => cI d 47 [.int v1] w (zI m3 a 3 v3) (fun v4 m4 => Q (zI m4 a 4 v4)))))) : cV (d + 1) 40 [.ref a, .ref 8] w m Q := by
  refine cV_in rfl ?_
  refine mm_yrun (is := mm_k40) [] 400 rfl ?_
  refine And.intro (hk_a) ?_
  refine And.intro (hk_a) ?_
  refine cI_use (w := w) (m := (zI m a 2 (0 : Int32))) rfl H ?_
  intro v1 m1 H
  refine And.intro (rfl) ?_
  refine cI_use (w := w) (m := m1) rfl H ?_
  intro v2 m2 H
  refine And.intro (trivial) ?_
  refine cI_use (w := w) (m := m2) rfl H ?_
  intro v3 m3 H
  refine And.intro (hk_a) ?_
  refine And.intro (trivial) ?_
  refine cI_use (w := w) (m := (zI m3 a 3 v3)) rfl H ?_
  intro v4 m4 H
  refine And.intro (hk_a) ?_
  exact rV_mk (w := w) (m := (zI m4 a 4 v4)) H
theorem S_Pattern_read {a : Nat} {d : Nat} {w : Nat × Nat × Nat} {m : zM} {Q : zM → Prop} (hp_a : zPt w a) (H : cI d 41 [.ref a, .ref 8, .int (0 : Int32)] w (zI m a 2 (0 : Int32)) (fun v1 m1 => cI d 66 [.ref 8, .int ((-1) : Int32)] w m1 (fun v2 m2 => cI d 46 [.int v1] w m2 (fun v3 m3 => cI d 47 [.int v1] w (zI m3 a 3 v3) (fun v4 m4 => Q (zI m4 a 4 v4)))))) : cV (d + 1) 40 [.ref a, .ref 8] w m Q := R_Pattern_read hp_a.1 H

def W_Pattern_readAlt_7 (d : Nat) (a : Nat) (l2 : Int32) (l3 : Int32) (l4 : Int32) (w : Nat × Nat × Nat) (m : zM) (Q : Int32 → zM → Prop) : Prop := mm_W (d + 1) 41 7 [some (.ref a), some (.ref 8), some (.int l2), some (.int l3), some (.int l4)] [] (zE w m) (rI w Q)
theorem R_Pattern_readAlt {a : Nat} {p1 : Int32} {d : Nat} {w : Nat × Nat × Nat} {m : zM} {Q : Int32 → zM → Prop} (hk_a : (zK w.1 a).1 = 5) (H : cI d 42 [.ref a, .ref 8, .int p1] w m (fun v1 m1 => W_Pattern_readAlt_7 d a p1 v1 (0 : Int32) w m1 Q)) : cI (d + 1) 41 [.ref a, .ref 8, .int p1] w m Q := by
  refine cI_in rfl ?_
  refine mm_yrun (is := mm_k41) [7] 400 rfl ?_
  refine And.intro (hk_a) ?_
  refine cI_use (w := w) (m := m) rfl H ?_
  intro v1 m1 H
  exact H
theorem S_Pattern_readAlt {a : Nat} {p1 : Int32} {d : Nat} {w : Nat × Nat × Nat} {m : zM} {Q : Int32 → zM → Prop} (hp_a : zPt w a) (H : cI d 42 [.ref a, .ref 8, .int p1] w m (fun v1 m1 => W_Pattern_readAlt_7 d a p1 v1 (0 : Int32) w m1 Q)) : cI (d + 1) 41 [.ref a, .ref 8, .int p1] w m Q := R_Pattern_readAlt hp_a.1 H
theorem R_Pattern_readAlt_7 {a : Nat} {l2 : Int32} {l3 : Int32} {l4 : Int32} {d : Nat} {w : Nat × Nat × Nat} {m : zM} {Q : Int32 → zM → Prop} (hk_a : (zK w.1 a).1 = 5) (H : (((600 : Int32) ≤ l4 → Q l3 m) ∧ (¬ (600 : Int32) ≤ l4 → ((¬ (m.1 8 5) = 0 → Q l3 m) ∧ ((m.1 8 5) = 0 → ((¬ (m.1 8 3) = (124 : Int32) → Q l3 m) ∧ ((m.1 8 3) = (124 : Int32) → cV d 64 [.ref 8] w m (fun m1 => cI d 42 [.ref a, .ref 8, .int l2] w m1 (fun v2 m2 => W_Pattern_readAlt_7 d a l2 (l3 ||| v2) (l4 + (1 : Int32)) w m2 Q))))))))) : W_Pattern_readAlt_7 d a l2 l3 l4 w m Q := by
  refine mm_yrun (is := mm_k41) [7] 400 rfl ?_
  refine And.intro (fun q => ?_) (fun q => ?_)
  · replace H := H.1 q
    exact rI_mk (w := w) (m := m) H
  · replace H := H.2 q
    refine And.intro (rfl) ?_
    refine And.intro (fun q => ?_) (fun q => ?_)
    · replace H := H.1 q
      exact rI_mk (w := w) (m := m) H
    · replace H := H.2 (Classical.not_not.mp q)
      refine And.intro (rfl) ?_
      refine And.intro (fun q => ?_) (fun q => ?_)
      · replace H := H.1 q
        exact rI_mk (w := w) (m := m) H
      · replace H := H.2 (Classical.not_not.mp q)
        refine And.intro (rfl) ?_
        refine cV_use (w := w) (m := m) rfl H ?_
        intro m1 H
        refine And.intro (hk_a) ?_
        refine cI_use (w := w) (m := m1) rfl H ?_
        intro v2 m2 H
        exact H
theorem S_Pattern_readAlt_7 {a : Nat} {l2 : Int32} {l3 : Int32} {l4 : Int32} {d : Nat} {w : Nat × Nat × Nat} {m : zM} {Q : Int32 → zM → Prop} (hp_a : zPt w a) (H : (((600 : Int32) ≤ l4 → Q l3 m) ∧ (¬ (600 : Int32) ≤ l4 → ((¬ (m.1 8 5) = 0 → Q l3 m) ∧ ((m.1 8 5) = 0 → ((¬ (m.1 8 3) = (124 : Int32) → Q l3 m) ∧ ((m.1 8 3) = (124 : Int32) → cV d 64 [.ref 8] w m (fun m1 => cI d 42 [.ref a, .ref 8, .int l2] w m1 (fun v2 m2 => W_Pattern_readAlt_7 d a l2 (l3 ||| v2) (l4 + (1 : Int32)) w m2 Q))))))))) : W_Pattern_readAlt_7 d a l2 l3 l4 w m Q := R_Pattern_readAlt_7 hp_a.1 H

def W_Pattern_readRow_4 (d : Nat) (a : Nat) (l2 : Int32) (l3 : Int32) (l4 : Int32) (w : Nat × Nat × Nat) (m : zM) (Q : Int32 → zM → Prop) : Prop := mm_W (d + 1) 42 4 [some (.ref a), some (.ref 8), some (.int l2), some (.int l3), some (.int l4)] [] (zE w m) (rI w Q)
theorem S_Pattern_readRow {a : Nat} {p1 : Int32} {d : Nat} {w : Nat × Nat × Nat} {m : zM} {Q : Int32 → zM → Prop} (H : W_Pattern_readRow_4 d a p1 (16777216 : Int32) (0 : Int32) w m Q) : cI (d + 1) 42 [.ref a, .ref 8, .int p1] w m Q := by
  refine cI_in rfl ?_
  refine mm_yrun (is := mm_k42) [4] 400 rfl ?_
  exact H
theorem R_Pattern_readRow_4 {a : Nat} {l2 : Int32} {l3 : Int32} {l4 : Int32} {d : Nat} {w : Nat × Nat × Nat} {m : zM} {Q : Int32 → zM → Prop} (hk_a : (zK w.1 a).1 = 5) (H : (((600 : Int32) ≤ l4 → Q l3 m) ∧ (¬ (600 : Int32) ≤ l4 → ((¬ (m.1 8 5) = 0 → Q l3 m) ∧ ((m.1 8 5) = 0 → (((m.1 8 3) = ((-1) : Int32) → Q l3 m) ∧ (¬ (m.1 8 3) = ((-1) : Int32) → (((m.1 8 3) = (124 : Int32) → Q l3 m) ∧ (¬ (m.1 8 3) = (124 : Int32) → ((¬ (m.1 8 3) = (41 : Int32) → cI d 43 [.ref a, .ref 8, .int l2] w m (fun v1 m1 => cI d 49 [.ref a, .int l3, .int v1] w m1 (fun v2 m2 => W_Pattern_readRow_4 d a l2 v2 (l4 + (1 : Int32)) w m2 Q))) ∧ ((m.1 8 3) = (41 : Int32) → Q l3 m))))))))))) : W_Pattern_readRow_4 d a l2 l3 l4 w m Q := by
  refine mm_yrun (is := mm_k42) [4] 400 rfl ?_
  refine And.intro (fun q => ?_) (fun q => ?_)
  · replace H := H.1 q
    exact rI_mk (w := w) (m := m) H
  · replace H := H.2 q
    refine And.intro (rfl) ?_
    refine And.intro (fun q => ?_) (fun q => ?_)
    · replace H := H.1 q
      exact rI_mk (w := w) (m := m) H
    · replace H := H.2 (Classical.not_not.mp q)
      refine And.intro (rfl) ?_
      refine And.intro (fun q => ?_) (fun q => ?_)
      · replace H := H.1 q
        exact rI_mk (w := w) (m := m) H
      · replace H := H.2 q
        refine And.intro (rfl) ?_
        refine And.intro (fun q => ?_) (fun q => ?_)
        · replace H := H.1 q
          exact rI_mk (w := w) (m := m) H
        · replace H := H.2 q
          refine And.intro (rfl) ?_
          refine And.intro (fun q => ?_) (fun q => ?_)
          · replace H := H.1 q
            refine And.intro (hk_a) ?_
            refine cI_use (w := w) (m := m) rfl H ?_
            intro v1 m1 H
            refine And.intro (hk_a) ?_
            refine cI_use (w := w) (m := m1) rfl H ?_
            intro v2 m2 H
            exact H
          · replace H := H.2 (Classical.not_not.mp q)
            exact rI_mk (w := w) (m := m) H
theorem S_Pattern_readRow_4 {a : Nat} {l2 : Int32} {l3 : Int32} {l4 : Int32} {d : Nat} {w : Nat × Nat × Nat} {m : zM} {Q : Int32 → zM → Prop} (hp_a : zPt w a) (H : (((600 : Int32) ≤ l4 → Q l3 m) ∧ (¬ (600 : Int32) ≤ l4 → ((¬ (m.1 8 5) = 0 → Q l3 m) ∧ ((m.1 8 5) = 0 → (((m.1 8 3) = ((-1) : Int32) → Q l3 m) ∧ (¬ (m.1 8 3) = ((-1) : Int32) → (((m.1 8 3) = (124 : Int32) → Q l3 m) ∧ (¬ (m.1 8 3) = (124 : Int32) → ((¬ (m.1 8 3) = (41 : Int32) → cI d 43 [.ref a, .ref 8, .int l2] w m (fun v1 m1 => cI d 49 [.ref a, .int l3, .int v1] w m1 (fun v2 m2 => W_Pattern_readRow_4 d a l2 v2 (l4 + (1 : Int32)) w m2 Q))) ∧ ((m.1 8 3) = (41 : Int32) → Q l3 m))))))))))) : W_Pattern_readRow_4 d a l2 l3 l4 w m Q := R_Pattern_readRow_4 hp_a.1 H
