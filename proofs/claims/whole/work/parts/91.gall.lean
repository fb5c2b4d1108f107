/-! the class gathers the terms: all -/
section GAL
variable {d : Nat} {w : Nat × Nat × Nat} {b : Nat} {C : Int} {N : Int → Int}
theorem opn_233 {m : zM} {T R k x : Int} (hT : 0 ≤ T) {i : Int} (h0 : 0 ≤ i) : iq (opn m T R k x) 233 i = iq m 233 i := by
  unfold opn
  simp (disch := omega) only [iq_ne]
  rfl
theorem GI.nw {o : Int → Int} {m0 m : zM} {k T run best : Int} {x wv v : Nat} (hV : TR C m0 b N) (hk : 0 ≤ k ∧ k < Mn N) (h : GI N o m0 m k T run best) (hS : SB (AM N) o 0 (Mn N)) (hx : o k = (x : Int)) (hwv : bi (wi N (mk N (x : Int)) (ml N (x : Int))) = (wv : Int)) (hd : dcN N (mk N (x : Int)) = (v : Int)) (hv : v < 8) (hnew : 0 < k → pkm N (o (k - 1)) ≠ pkm N (o k))
    {m' : zM} (hm : m' = tak (sq (sq (opn m T (pkm N (x : Int)) k x) 245 T x) 244 T 1) T x wv (if (x : Int) ≤ (x : Int) then (x : Int) else (x : Int)) ((0 ||| 2 ^ v : Nat) : Int)) : GI N o m0 m' (k + 1) (T + 1) 1 1 := by
  obtain ⟨g1, g2, g3, g4, g5, g6, g7, g8, g9, g10, g11, g12⟩ := h
  have hM := Mn_b hV
  have hT0 := g3.1
  have hxb := hS.2 k hk.1 hk.2
  have hxr := pk_r64 hV (i := (x : Int)) (by omega) (by omega)
  have hno : ∀ j, 0 ≤ j → j < k → pkm N (o j) < pkm N (o k) := fun j j0 j1 => by
    have a1 := hS.1 (k - 1) k (by omega) (by omega) hk.2
    have a2 := hnew (by omega)
    by_cases q : j = k - 1
    · rw [q]; unfold AM at a1; omega
    · have a3 := hS.1 j (k - 1) j0 (by omega) (by omega)
      unfold AM at a1 a3; omega
  have h2 := Nat.pow_lt_pow_right (a := 2) (by decide) hv
  have h2' : 2 ^ v < 256 := h2
  have hwb := bi_b (wi N (mk N (x : Int)) (ml N (x : Int)))
  rw [hwv] at hwb
  generalize hp2 : 2 ^ v = p2 at *
  generalize hmo : opn m T (pkm N (x : Int)) k x = mo at *
  have oT := opn_T (m := m) (T := T) (R := pkm N (x : Int)) (k := k) (x := (x : Int)) ⟨hT0, by omega⟩ (by unfold r32; omega) (by unfold r32; omega)
  rw [hmo] at oT
  obtain ⟨o1, o2, o3, o4, o5, o6, o7, o8, o9, o10, o11, o12, o13⟩ := oT
  generalize hm1 : sq (sq mo 245 T x) 244 T 1 = m1 at *
  have s1 : ∀ a i, 0 ≤ i → a ≠ 244 → a ≠ 245 → iq m1 a i = iq mo a i := fun a i i0 n1 n2 => by rw [← hm1, iq_ne (Or.inl n1) hT0 i0, iq_ne (Or.inl n2) hT0 i0]
  have s2 : ∀ a i, 0 ≤ i → i ≠ T → iq m1 a i = iq mo a i := fun a i i0 n1 => by rw [← hm1, iq_ne (Or.inr n1) hT0 i0, iq_ne (Or.inr n1) hT0 i0]
  have s244 : iq m1 244 T = 1 := by rw [← hm1, iq_eq (by unfold r32; omega)]
  have s245 : iq m1 245 T = x := by rw [← hm1, iq_ne (by omega) hT0 hT0, iq_eq (by unfold r32; omega)]
  have r240 : iq m1 240 T = 0 := by rw [s1 _ _ hT0 (by omega) (by omega), o3]
  have r241 : iq m1 241 T = 0 := by rw [s1 _ _ hT0 (by omega) (by omega), o4]
  rw [if_pos (Int.le_refl _)] at hm
  have tT := tak_t (m := m1) (t := T) (x := (x : Int)) (wv := (wv : Int)) (mi := (x : Int)) (dv := ((0 ||| p2 : Nat) : Int)) ⟨hT0, by omega⟩ (by rw [r240]; unfold r32; omega) (by rw [r241]; unfold r32; omega) (by unfold r32; omega) (by rw [Nat.zero_or]; unfold r32; omega)
  rw [← hm, r240, r241, Nat.zero_or] at tT
  obtain ⟨t1, t2, t3, t4⟩ := tT
  have ti : ∀ a i, a ≠ 233 → i ≠ T → 0 ≤ i → iq m' a i = iq m1 a i := fun a i n1 n2 i0 => by rw [hm]; exact tak_i hT0 (by omega) n1 n2 i0
  have tx : ∀ i, 0 ≤ i → iq m' 233 i = if i = (x : Int) then T else iq m1 233 i := fun i i0 => by rw [hm]; exact tak_x ⟨hT0, by omega⟩ (by omega) i0
  have ft : fr [233, 240, 241, 246, 248] m1 m' := by rw [hm]; exact tak_fr m1 T x wv x _
  have fs : fr [244, 245] mo m1 := by rw [← hm1]; exact ((fr.rf _ mo).si (by simp) _ _).si (by simp) _ _
  have fo : fr SG m mo := by rw [← hmo]; exact opn_fr m T _ k x
  have old : ∀ a i, a ≠ 233 → a ≠ 237 → 0 ≤ i → i < T → iq m' a i = iq m a i := fun a i n1 n2 i0 i1 => by
    rw [ti a i n1 (by omega) i0, s2 a i i0 (by omega), ← hmo, opn_i hT0 n2 (by omega) i0]
  have atT : ∀ a, a ≠ 233 → a ≠ 240 → a ≠ 241 → a ≠ 246 → a ≠ 248 → iq m' a T = iq m1 a T := fun a n1 n2 n3 n4 n5 => ft.i (by simp; exact ⟨n1, n2, n3, n4, n5⟩) T
  have l238 : ∀ i, 0 ≤ i → lq m' 238 i = if i = T then pkm N (x : Int) else lq m 238 i := fun i i0 => by
    rw [ft.l (by simp), fs.l (by simp), ← hmo]
    exact opn_l hT0 hxr.1 i0
  refine ⟨(g1.tr fo).tr ((fs.mo (by simp)).tr (ft.mo (by simp))), ?_, ?_, by omega, fun u u0 u1 => ?_, fun _ => ⟨by omega, ?_, ?_, ?_⟩, fun j j0 j1 => ?_, by omega, by omega, by omega, by omega, by omega⟩
  · rw [ft.i (by simp), fs.i (by simp), o13]
  · have := g3.ins (u' := lq m' 238) (p := T) (x := pkm N (x : Int)) ⟨hT0, by omega⟩ (fun i i0 i1 => by
      obtain ⟨j, j0, j1, e⟩ := g3.2.2.1 i i0 i1
      have := hno j j0 j1
      rw [← e, ← hx]
      exact this) (fun i i0 i1 => by omega) (fun i i0 i1 => by
      rw [l238 i i0]
      by_cases e : i = T
      · rw [if_pos e, if_neg (by omega), if_pos e]
      · rw [if_neg e, if_pos (by omega)])
    refine this.ext (fun y => ?_)
    rw [img_s _ hk.1, hx]
  · by_cases e : u = T
    · subst e
      refine ⟨1, ?_, fun _ => rfl, ?_, ?_, ?_, ?_, ?_, ?_, ?_⟩
      · rw [l238 u u0, if_pos rfl, t1, t2, t3, t4, atT 239 (by omega) (by omega) (by omega) (by omega) (by omega), atT 244 (by omega) (by omega) (by omega) (by omega) (by omega), atT 245 (by omega) (by omega) (by omega) (by omega) (by omega), s1 239 u u0 (by omega) (by omega), o1, s244, s245]
        have := TP.new (N := N) (o := o) (k := k) (R := pkm N (x : Int)) (v := v) hk.1 (fun j j0 j1 e => by have := hno j j0 j1; rw [hx] at this; omega) (by rw [hx]) (by rw [hx]; exact hd) hv
        rw [hx, hwv, hp2] at this
        rw [show (0 : Int) + 1 = 1 by omega]
        exact this
      · rw [atT 239 (by omega) (by omega) (by omega) (by omega) (by omega), s1 239 u u0 (by omega) (by omega), o1, t1]; omega
      · rw [atT 242 (by omega) (by omega) (by omega) (by omega) (by omega), s1 242 u u0 (by omega) (by omega), o5]
      · rw [atT 243 (by omega) (by omega) (by omega) (by omega) (by omega), s1 243 u u0 (by omega) (by omega), o6]
      · rw [atT 247 (by omega) (by omega) (by omega) (by omega) (by omega), s1 247 u u0 (by omega) (by omega), o8]
      · rw [atT 249 (by omega) (by omega) (by omega) (by omega) (by omega), s1 249 u u0 (by omega) (by omega), o10]
      · rw [atT 250 (by omega) (by omega) (by omega) (by omega) (by omega), s1 250 u u0 (by omega) (by omega), o11]
      · rw [atT 251 (by omega) (by omega) (by omega) (by omega) (by omega), s1 251 u u0 (by omega) (by omega), o12]
    · obtain ⟨be, h1, h2, h3, h4⟩ := g5 u u0 (by omega)
      have ne : pkm N (o k) ≠ lq m 238 u := fun z => by
        obtain ⟨j, j0, j1, e⟩ := g3.2.2.1 u u0 (by omega)
        have e' : pkm N (o j) = lq m 238 u := e
        have := hno j j0 j1
        omega
      refine ⟨be, ?_, fun z => by omega, ?_, ?_⟩
      · rw [l238 u u0, if_neg e, old 240 u (by omega) (by omega) u0 (by omega), old 241 u (by omega) (by omega) u0 (by omega), old 239 u (by omega) (by omega) u0 (by omega), old 246 u (by omega) (by omega) u0 (by omega), old 248 u (by omega) (by omega) u0 (by omega), old 244 u (by omega) (by omega) u0 (by omega), old 245 u (by omega) (by omega) u0 (by omega)]
        exact h1.skip hk.1 h3 ne
      · rw [old 240 u (by omega) (by omega) u0 (by omega), old 239 u (by omega) (by omega) u0 (by omega)]; omega
      · rw [old 242 u (by omega) (by omega) u0 (by omega), old 243 u (by omega) (by omega) u0 (by omega), old 247 u (by omega) (by omega) u0 (by omega), old 249 u (by omega) (by omega) u0 (by omega), old 250 u (by omega) (by omega) u0 (by omega), old 251 u (by omega) (by omega) u0 (by omega)]
        exact h4
  · rw [l238 _ (by omega), if_pos (by omega), show k + 1 - 1 = k by omega, hx]
  · rw [show k + 1 - 1 = k by omega, fkn_s hk.1, bi_1 ⟨rfl, rfl⟩]
    have : fkn N o k k = 0 := cnt_no _ (fun j j0 j1 q => by have := hno j j0 (by omega); have := q.1; omega)
    omega
  · rw [show T + 1 - 1 = T by omega, atT 239 (by omega) (by omega) (by omega) (by omega) (by omega), s1 239 T hT0 (by omega) (by omega), o1, t1]; omega
  · by_cases e : j = k
    · rw [e, hx, tx _ (by omega), if_pos rfl, l238 T hT0, if_pos rfl]
      exact ⟨hT0, by omega, rfl⟩
    · have ob := hS.2 j j0 (by omega)
      have ne : o j ≠ (x : Int) := fun z => by
        have := hS.1 j k j0 (by omega) hk.2
        rw [hx, z] at this
        exact (AM_ord N (Mn N)).2.1 (x : Int) (by omega) (by omega) this
      have g := g7 j j0 (by omega)
      rw [tx _ ob.1, if_neg ne, s1 233 _ ob.1 (by omega) (by omega), ← hmo, opn_233 hT0 ob.1, l238 _ g.1, if_neg (by omega)]
      exact ⟨g.1, by omega, g.2.2⟩
theorem GI.od {o : Int → Int} {m0 m : zM} {k T run best run' best' nf : Int} {x wv v V t : Nat} (hV : TR C m0 b N) (hk : 0 < k ∧ k < Mn N) (h : GI N o m0 m k T run best) (hS : SB (AM N) o 0 (Mn N)) (hx : o k = (x : Int)) (hwv : bi (wi N (mk N (x : Int)) (ml N (x : Int))) = (wv : Int)) (hd : dcN N (mk N (x : Int)) = (v : Int)) (hv : v < 8) (hold : pkm N (o (k - 1)) = pkm N (o k)) (ht : (t : Int) = T - 1) (hVt : iq m 248 (t : Int) = (V : Int)) (hV2 : V < 256)
    (e1 : (pfm N (o k) = pfm N (o (k - 1)) ∧ run' = run + 1 ∧ nf = 0) ∨ (pfm N (o k) ≠ pfm N (o (k - 1)) ∧ run' = 1 ∧ nf = 1)) {m2 : zM} (e2 : (best < run' ∧ best' = run' ∧ m2 = sq m 245 (t : Int) x) ∨ (run' ≤ best ∧ best' = best ∧ m2 = m))
    {m' : zM} (hm : m' = tak (sq m2 244 (t : Int) (iq m2 244 (t : Int) + nf)) t x wv (if iq m 246 (t : Int) ≤ (x : Int) then iq m 246 (t : Int) else (x : Int)) ((V ||| 2 ^ v : Nat) : Int)) : GI N o m0 m' (k + 1) T run' best' := by
  obtain ⟨g1, g2, g3, g4, g5, g6, g7, g8, g9, g10, g11, g12⟩ := h
  have hM := Mn_b hV
  have hT0 := g3.1
  have hxb := hS.2 k (by omega) hk.2
  obtain ⟨q1, q2, q3, q4⟩ := g6 hk.1
  rw [← ht] at q2 q4
  obtain ⟨be, p1, p2, p3, p4⟩ := g5 (t : Int) (by omega) (by omega)
  have hbe := p2 ht
  have bd := p1.bds (by omega)
  have fob := p1.fo_b (by omega)
  have hwb := bi_b (wi N (mk N (x : Int)) (ml N (x : Int)))
  have h2 := Nat.pow_lt_pow_right (a := 2) (by decide) hv
  have h2' : 2 ^ v < 256 := h2
  have hor : V ||| 2 ^ v < 256 := Nat.or_lt_two_pow (n := 8) hV2 h2
  have f2 : fr [245] m m2 := by
    rcases e2 with ⟨_, _, e⟩ | ⟨_, _, e⟩
    · rw [e]; exact (fr.rf _ m).si (by simp) _ _
    · rw [e]; exact fr.rf _ m
  have c2 : ∀ i, 0 ≤ i → i ≠ (t : Int) → iq m2 245 i = iq m 245 i := fun i i0 i1 => by
    rcases e2 with ⟨_, _, e⟩ | ⟨_, _, e⟩
    · rw [e, iq_ne (Or.inr i1) (by omega) i0]
    · rw [e]
  have e244 : iq m2 244 (t : Int) = iq m 244 (t : Int) := f2.i (by simp) _
  rw [e244] at hm
  generalize hm1 : sq m2 244 (t : Int) (iq m 244 (t : Int) + nf) = m1 at *
  have fs : fr [244] m2 m1 := by rw [← hm1]; exact (fr.rf _ m2).si (by simp) _ _
  have f12 : fr [244, 245] m m1 := (f2.mo (by simp)).tr (fs.mo (by simp))
  have r240 : iq m1 240 (t : Int) = iq m 240 (t : Int) := f12.i (by simp) _
  have r241 : iq m1 241 (t : Int) = iq m 241 (t : Int) := f12.i (by simp) _
  have hfi : r32 (if iq m 246 (t : Int) ≤ (x : Int) then iq m 246 (t : Int) else (x : Int)) := by
    split
    · exact iq_r _ _ _
    · unfold r32; omega
  have tT := tak_t (m := m1) (t := (t : Int)) (x := (x : Int)) (wv := (wv : Int)) (mi := (if iq m 246 (t : Int) ≤ (x : Int) then iq m 246 (t : Int) else (x : Int))) (dv := ((V ||| 2 ^ v : Nat) : Int)) ⟨by omega, by omega⟩ (by rw [r240]; unfold r32; omega) (by rw [r241]; unfold r32; omega) hfi (by unfold r32; omega)
  rw [← hm, r240, r241] at tT
  obtain ⟨t1, t2, t3, t4⟩ := tT
  have ti : ∀ a i, a ≠ 233 → i ≠ (t : Int) → 0 ≤ i → iq m' a i = iq m1 a i := fun a i n1 n2 i0 => by rw [hm]; exact tak_i (by omega) (by omega) n1 n2 i0
  have tx : ∀ i, 0 ≤ i → iq m' 233 i = if i = (x : Int) then (t : Int) else iq m1 233 i := fun i i0 => by rw [hm]; exact tak_x ⟨by omega, by omega⟩ (by omega) i0
  have ft : fr [233, 240, 241, 246, 248] m1 m' := by rw [hm]; exact tak_fr m1 t x wv _ _
  have old : ∀ a i, a ≠ 233 → 0 ≤ i → i ≠ (t : Int) → iq m' a i = iq m a i := fun a i n1 i0 i1 => by
    rw [ti a i n1 i1 i0, ← hm1, iq_ne (Or.inr i1) (by omega) i0]
    by_cases q : a = 245
    · rw [q]; exact c2 i i0 i1
    · exact f2.i (by simp; exact q) i
  have sam : ∀ a i, a ≠ 233 → a ≠ 240 → a ≠ 241 → a ≠ 244 → a ≠ 245 → a ≠ 246 → a ≠ 248 → iq m' a i = iq m a i := fun a i n1 n2 n3 n4 n5 n6 n7 => by rw [ft.i (by simp; exact ⟨n1, n2, n3, n6, n7⟩), f12.i (by simp; exact ⟨n4, n5⟩)]
  have l238 : ∀ i, lq m' 238 i = lq m 238 i := fun i => by rw [ft.l (by simp), f12.l (by simp)]
  have v244 : iq m' 244 (t : Int) = iq m 244 (t : Int) + nf := by rw [ft.i (by simp), ← hm1, iq_eq (by unfold r32; omega)]
  have v245 : (best < run' ∧ best' = run' ∧ iq m' 245 (t : Int) = o k) ∨ (run' ≤ best ∧ best' = best ∧ iq m' 245 (t : Int) = iq m 245 (t : Int)) := by
    rw [ft.i (by simp), fs.i (by simp)]
    rcases e2 with ⟨a1, a2, e⟩ | ⟨a1, a2, e⟩
    · exact Or.inl ⟨a1, a2, by rw [e, iq_eq (by unfold r32; omega), hx]⟩
    · exact Or.inr ⟨a1, a2, by rw [e]⟩
  have hR : lq m 238 (t : Int) = pkm N (o k) := by rw [q2, hold]
  have hsrt : ∀ j, 0 ≤ j → j < k → pkm N (o j) = lq m 238 (t : Int) → pfm N (o j) ≤ pfm N (o (k - 1)) ∧ pfm N (o (k - 1)) ≤ pfm N (o k) := fun j j0 j1 e => by
    have a1 := hS.1 (k - 1) k (by omega) (by omega) hk.2
    unfold AM at a1
    by_cases q : j = k - 1
    · rw [q]; omega
    · have a2 := hS.1 j (k - 1) j0 (by omega) (by omega)
      unfold AM at a2
      omega
  obtain ⟨w1, V', w2, w3, w4⟩ := p1.old (v := v) (run := run) (run' := run') (fo' := iq m 244 (t : Int) + nf) (co' := iq m' 245 (t : Int)) (be' := best') hk.1 q4 hR.symm (by rw [q2]) (by rw [hx]; exact hd) hv hsrt q3 (by
    rcases e1 with ⟨a1, a2, a3⟩ | ⟨a1, a2, a3⟩
    · exact Or.inl ⟨a1, a2, by omega⟩
    · exact Or.inr ⟨a1, a2, by omega⟩) (by rw [hbe]; exact v245)
  have hVV : V' = V := by omega
  rw [hVV, hx, hwv] at w4
  have rb : 0 ≤ run' ∧ run' ≤ k + 1 := by rcases e1 with ⟨_, a, _⟩ | ⟨_, a, _⟩ <;> omega
  have bb : 0 ≤ best' ∧ best' ≤ k + 1 := by rcases e2 with ⟨_, a, _⟩ | ⟨_, a, _⟩ <;> omega
  refine ⟨(g1.tr (f12.mo (by simp))).tr (ft.mo (by simp)), ?_, ?_, by omega, fun s s0 s1 => ?_, fun _ => ⟨q1, ?_, ?_, ?_⟩, fun j j0 j1 => ?_, rb.1, rb.2, bb.1, bb.2, by omega⟩
  · rw [ft.i (by simp), f12.i (by simp), g2]
  · refine (g3.fn (fun i _ _ => l238 i)).ext (fun y => ?_)
    rw [img_s _ (by omega)]
    constructor
    · intro z; exact Or.inl z
    · intro z
      rcases z with z | z
      · exact z
      · exact ⟨k - 1, by omega, by omega, by rw [z]; exact hold⟩
  · by_cases e : s = (t : Int)
    · subst e
      refine ⟨best', ?_, fun _ => rfl, ?_, ?_⟩
      · rw [l238, t1, t2, t3, t4, v244, sam 239 _ (by omega) (by omega) (by omega) (by omega) (by omega) (by omega) (by omega)]
        exact w4
      · rw [t1, sam 239 _ (by omega) (by omega) (by omega) (by omega) (by omega) (by omega) (by omega)]; omega
      · rw [sam 242 _ (by omega) (by omega) (by omega) (by omega) (by omega) (by omega) (by omega), sam 243 _ (by omega) (by omega) (by omega) (by omega) (by omega) (by omega) (by omega), sam 247 _ (by omega) (by omega) (by omega) (by omega) (by omega) (by omega) (by omega), sam 249 _ (by omega) (by omega) (by omega) (by omega) (by omega) (by omega) (by omega), sam 250 _ (by omega) (by omega) (by omega) (by omega) (by omega) (by omega) (by omega), sam 251 _ (by omega) (by omega) (by omega) (by omega) (by omega) (by omega) (by omega)]
        exact p4
    · obtain ⟨be2, h1, h2, h3, h4⟩ := g5 s s0 s1
      have ne : pkm N (o k) ≠ lq m 238 s := fun z => by
        rw [← hR] at z
        have := g3.2.1
        rcases Int.lt_trichotomy s (t : Int) with y | y | y
        · have := this s t s0 y (by omega); omega
        · exact e y
        · have := this t s (by omega) y s1; omega
      refine ⟨be2, ?_, fun z => by omega, ?_, ?_⟩
      · rw [l238, old 240 s (by omega) s0 e, old 241 s (by omega) s0 e, old 239 s (by omega) s0 e, old 246 s (by omega) s0 e, old 248 s (by omega) s0 e, old 244 s (by omega) s0 e, old 245 s (by omega) s0 e]
        exact h1.skip (by omega) h3 ne
      · rw [old 240 s (by omega) s0 e, old 239 s (by omega) s0 e]; omega
      · rw [old 242 s (by omega) s0 e, old 243 s (by omega) s0 e, old 247 s (by omega) s0 e, old 249 s (by omega) s0 e, old 250 s (by omega) s0 e, old 251 s (by omega) s0 e]
        exact h4
  · rw [l238, ← ht, show k + 1 - 1 = k by omega, hR]
  · rw [show k + 1 - 1 = k by omega]; exact w1
  · rw [← ht, t1, sam 239 _ (by omega) (by omega) (by omega) (by omega) (by omega) (by omega) (by omega)]; omega
  · by_cases e : j = k
    · rw [e, hx, tx _ (by omega), if_pos rfl, l238, hR, hx]
      exact ⟨by omega, by omega, rfl⟩
    · have ob := hS.2 j j0 (by omega)
      have ne : o j ≠ (x : Int) := fun z => by
        have := hS.1 j k j0 (by omega) hk.2
        rw [hx, z] at this
        exact (AM_ord N (Mn N)).2.1 (x : Int) (by omega) (by omega) this
      have g := g7 j j0 (by omega)
      rw [tx _ ob.1, if_neg ne, f12.i (by simp), l238]
      exact g
end GAL
