/-! the face so far, over the invariant -/
section IFA
variable {d : Nat} {w : Nat × Nat × Nat} {C : Int}
theorem i_wide {P : Int32 → Int32 → Nat × Nat × Nat → zM → Prop} {m : zM} {v : Int} (hv : r32 v) (hI : IV C w m) (H : ∀ v w' m', w'.1 = w.1 → IV C w' m' → P v v w' m') : cIw (d + 4) 123 [.ref 3, .int (J v)] w m (fun x w1 m1 => cI (d + 4) 230 [.ref 261, .int (J v)] w1 m1 (fun y m2 => P x y w1 m2)) := by
  obtain ⟨N, h1, _⟩ := id hI
  exact p_wide hv h1 (H _ w m rfl hI) (fun w' m' h => H _ w' m' h.2.1 (hI.ch0 h))
theorem i_weight {P : Int32 → Int32 → Nat × Nat × Nat → zM → Prop} {m : zM} {l v : Int} (hl : r32 l) (hv : r32 v) (hI : IV C w m) (H : ∀ v w' m', w'.1 = w.1 → IV C w' m' → P v v w' m') : cIw (d + 4) 122 [.ref 3, .int (J l), .int (J v)] w m (fun x w1 m1 => cI (d + 4) 229 [.ref 261, .int (J l), .int (J v)] w1 m1 (fun y m2 => P x y w1 m2)) := by
  obtain ⟨N, h1, _⟩ := id hI
  exact p_weight hl hv h1 (H _ w m rfl hI) (fun w' m' h => H _ w' m' h.2.1 (hI.ch0 h))
theorem i_lengths {P : Int32 → Int32 → Nat × Nat × Nat → zM → Prop} {m : zM} {l v : Int} (hl : r32 l) (hv : r32 v) (hI : IV C w m) (H : ∀ v w' m', w'.1 = w.1 → IV C w' m' → P v v w' m') : cIw (d + 4) 121 [.ref 3, .int (J l), .int (J v)] w m (fun x w1 m1 => cI (d + 4) 228 [.ref 261, .int (J l), .int (J v)] w1 m1 (fun y m2 => P x y w1 m2)) := by
  obtain ⟨N, h1, _⟩ := id hI
  exact p_lengths hl hv h1 (H _ w m rfl hI) (fun w' m' h => H _ w' m' h.2.1 (hI.ch0 h))
theorem i_text {P : Int32 → Int32 → Nat × Nat × Nat → zM → Prop} {m : zM} {wh : Int} (hw : r32 wh) (hI : IV C w m) (H : ∀ v w' m', w'.1 = w.1 → IV C w' m' → P v v w' m') : cIw (d + 30) 117 [.ref 3, .int (J wh)] w m (fun x w1 m1 => cI (d + 30) 222 [.ref 261, .int (J wh)] w1 m1 (fun y m2 => P x y w1 m2)) := by
  obtain ⟨N, h1, ⟨T, n, hc, hm⟩, _⟩ := id hI
  exact p_text hw h1 hc hm (fun w' m' v h => H v w' m' h.2.1 (hI.txk h)) (fun w' m' v h => H v w' m' h.2.1 (hI.txu h))
theorem i_doc {P : Int32 → Int32 → Nat × Nat × Nat → zM → Prop} {m : zM} (hC : 0 ≤ C ∧ C ≤ 10000000) (hI : IV C w m) (H : ∀ v w' m' C', C ≤ C' → C' ≤ C + 602 → w'.1 = w.1 → IV C' w' m' → P v v w' m') : cIw (d + 30) 118 [.ref 3] w m (fun x w1 m1 => cI (d + 30) 224 [.ref 261] w1 m1 (fun y m2 => P x y w1 m2)) := by
  obtain ⟨N, h1, ⟨T, n, hc, hm⟩, _⟩ := id hI
  exact p_doc h1 hC hc hm (fun w' m' v h => H v w' m' (C + 602) (by omega) (by omega) h.2.1 (hI.txk h)) (fun w' m' v h => H v w' m' C (by omega) (by omega) h.2.1 (hI.txu h))
theorem i_drop {P : Int32 → Int32 → Nat × Nat × Nat → zM → Prop} {m : zM} {dc : Int} (hd : r32 dc) (hI : IV C w m) (H : ∀ v w' m', w'.1 = w.1 → IV C w' m' → P v v w' m') : cIw (d + 5) 119 [.ref 3, .int (J dc)] w m (fun x w1 m1 => cI (d + 5) 226 [.ref 261, .int (J dc)] w1 m1 (fun y m2 => P x y w1 m2)) := by
  obtain ⟨N, h1, _⟩ := id hI
  exact p_drop hd h1 (H _ w m rfl hI) (fun w' m' v h => H v w' m' h.2.1 (hI.ch0 h))
theorem i_end {P : Int32 → Int32 → zM → Prop} {m : zM} {z : Int} (hz : r32 z) (hI : IV C w m) (H : ∀ v m', IV C w m' → P v v m') : cI (d + 1) 116 [.ref 3, .int (J z)] w m (fun x m1 => cI (d + 1) 199 [.ref 261, .int (J z)] w m1 (fun y m2 => P x y m2)) := by
  obtain ⟨N, h1, ⟨T, n, hc, hm⟩, _⟩ := id hI
  exact p_end hz hc hm (H _ m hI) (fun m' f c1 c2 => H _ m' (hI.fd f c1 c2))
theorem i_fault {P : Int32 → Int32 → zM → Prop} {m : zM} {z : Int} (hz : r32 z) (hI : IV C w m) (H : ∀ v m', IV C w m' → P v v m') : cI d 120 [.ref 3, .int (J z)] w m (fun x m1 => cI d 227 [.ref 261, .int (J z)] w m1 (fun y m2 => P x y m2)) := by
  obtain ⟨N, h1, _, h3, _⟩ := id hI
  exact p_fault hz h3 (fun v => H v m hI)
theorem i_slate {P : Int32 → Int32 → zM → Prop} {m : zM} {z : Int} (hz : r32 z) (hI : IV C w m) (H : ∀ v m', IV C w m' → P v v m') : cI (d + 1) 130 [.ref 3, .int (J z)] w m (fun x m1 => cI (d + 1) 265 [.ref 261, .int (J z)] w m1 (fun y m2 => P x y m2)) := by
  obtain ⟨N, h1, _, _, _, _, h6, _⟩ := id hI
  exact p_slate hz h6 (fun v => H v m hI)
theorem i_look {P : Int32 → Int32 → zM → Prop} {m : zM} {z : Int} (hz : r32 z) (hI : IV C w m) (H : ∀ v m', IV C w m' → P v v m') : cI (d + 1) 143 [.ref 3, .int (J z)] w m (fun x m1 => cI (d + 1) 283 [.ref 261, .int (J z)] w m1 (fun y m2 => P x y m2)) := by
  obtain ⟨N, h1, ⟨T, n, hc, hm⟩, _⟩ := id hI
  exact p_look hz h1 hc hm (fun v => H v m hI)
end IFA
