/-! the run up to the law's loop
-/
def xrun (n : Nat) : Nat → Nat → Nat → mm_Lv → List Value → xH → Option (Option Value × xH) :=
  Nat.rec (fun _ _ _ _ _ _ => none) (fun _ W d mi ip L st h => match mm_at mi ip with
    | none => none
    | some (ins, _, x, v) => match xs1 ins x v ip L st h with
      | none => none
      | some (.inl (i, L', s', h')) => W d mi i L' s' h'
      | some (.inr (.inl (m, as, rest))) => (match d with
        | 0 => none
        | e + 1 => match W e m 0 (mm_pad (mm_en as) (mm_ml m)) [] h with
          | none => none
          | some (r, h1) => W (e + 1) mi (ip + 1) L (match r with | none => rest | some v => v :: rest) h1)
      | some (.inr (.inr w)) => some (w, h)) n
theorem xrun_s (n d mi ip : Nat) (L : mm_Lv) (st : List Value) (h : xH) : xrun (n + 1) d mi ip L st h = (match mm_at mi ip with
    | none => none
    | some (ins, _, x, v) => match xs1 ins x v ip L st h with
      | none => none
      | some (.inl (i, L', s', h')) => xrun n d mi i L' s' h'
      | some (.inr (.inl (m, as, rest))) => (match d with
        | 0 => none
        | e + 1 => match xrun n e m 0 (mm_pad (mm_en as) (mm_ml m)) [] h with
          | none => none
          | some (r, h1) => xrun n (e + 1) mi (ip + 1) L (match r with | none => rest | some v => v :: rest) h1)
      | some (.inr (.inr w)) => some (w, h)) := rfl
theorem xrun_ok (len : Nat) (xs : Nat → Int32) : ∀ (n d mi ip : Nat) (L : mm_Lv) (st : List Value) (h : xH) (r : Option Value) (h1 : xH), xrun n d mi ip L st h = some (r, h1) → xV h → xV h1 ∧ mm_wp n d mi ip L st (xr len xs h) (fun r' h' => r' = r ∧ h' = xr len xs h1) := by
  intro n
  induction n with
  | zero => intro d mi ip L st h r h1 H; cases H
  | succ n ih =>
    intro d mi ip L st h r h1 H hv
    rw [xrun_s] at H
    rw [mm_wp_s]
    unfold mm_sW
    cases hc : mm_at mi ip with
    | none => rw [hc] at H; cases H
    | some q =>
      rw [hc] at H
      obtain ⟨ins, pc, x, v⟩ := q
      have hs := xs1_ok (len := len) (xs := xs) (ip := ip) (L := L) (st := st) (x := x) (v := v) ins hv
      dsimp only at H ⊢
      generalize xs1 ins x v ip L st h = o at H hs
      match o, H, hs with
      | some (.inl (i, L', s', h')), H, hs =>
        obtain ⟨a1, a2⟩ := ih _ _ _ _ _ _ _ _ H hs.1
        exact ⟨a1, hs.2 _ _ _ _ _ a2⟩
      | some (.inr (.inl (m, as, rest))), H, hs =>
        match d, H with
        | e + 1, H =>
          dsimp only at H
          cases hr : xrun n e m 0 (mm_pad (mm_en as) (mm_ml m)) [] h with
          | none => rw [hr] at H; cases H
          | some q =>
            rw [hr] at H
            obtain ⟨r0, h0⟩ := q
            obtain ⟨b1, b2⟩ := ih _ _ _ _ _ _ _ _ hr hv
            obtain ⟨a1, a2⟩ := ih _ _ _ _ _ _ _ _ H b1
            refine ⟨a1, hs _ _ _ _ _ ?_⟩
            exact mm_wp_mono _ _ _ _ _ _ _ _ _ (fun a b hab => by rw [hab.1, hab.2]; exact a2) b2 _ _ (Nat.le_refl _) (Nat.le_refl _)
      | some (.inr (.inr w)), H, hs =>
        have H : some (w, h) = some (r, h1) := H
        cases H
        exact ⟨hv, hs _ _ _ _ _ ⟨rfl, rfl⟩⟩
/-- the law's first k steps -/
def xtop (f d : Nat) (k : Nat) : Nat → mm_Lv → List Value → xH → Option (Nat × mm_Lv × List Value × xH) :=
  Nat.rec (fun ip L st h => some (ip, L, st, h)) (fun _ W ip L st h => match mm_at 293 ip with
    | none => none
    | some (ins, _, x, v) => match xs1 ins x v ip L st h with
      | none => none
      | some (.inl (i, L', s', h')) => W i L' s' h'
      | some (.inr (.inl (m, as, rest))) => (match xrun f d m 0 (mm_pad (mm_en as) (mm_ml m)) [] h with
          | none => none
          | some (r, h1) => W (ip + 1) L (match r with | none => rest | some v => v :: rest) h1)
      | some (.inr (.inr _)) => none) k
theorem xtop_s (f d k ip : Nat) (L : mm_Lv) (st : List Value) (h : xH) : xtop f d (k + 1) ip L st h = (match mm_at 293 ip with
    | none => none
    | some (ins, _, x, v) => match xs1 ins x v ip L st h with
      | none => none
      | some (.inl (i, L', s', h')) => xtop f d k i L' s' h'
      | some (.inr (.inl (m, as, rest))) => (match xrun f d m 0 (mm_pad (mm_en as) (mm_ml m)) [] h with
          | none => none
          | some (r, h1) => xtop f d k (ip + 1) L (match r with | none => rest | some v => v :: rest) h1)
      | some (.inr (.inr _)) => none) := rfl
theorem xtop_ok (len : Nat) (xs : Nat → Int32) (f d : Nat) : ∀ (k ip : Nat) (L : mm_Lv) (st : List Value) (h : xH) (i1 : Nat) (L1 : mm_Lv) (s1 : List Value) (h1 : xH), xtop f d k ip L st h = some (i1, L1, s1, h1) → xV h → ∀ Q, mm_W (d + 1) 293 i1 L1 s1 (xr len xs h1) Q → mm_W (d + 1) 293 ip L st (xr len xs h) Q := by
  intro k
  induction k with
  | zero =>
    intro ip L st h i1 L1 s1 h1 H hv Q HQ
    have H : some (ip, L, st, h) = some (i1, L1, s1, h1) := H
    cases H
    exact HQ
  | succ k ih =>
    intro ip L st h i1 L1 s1 h1 H hv Q HQ
    rw [xtop_s] at H
    cases hc : mm_at 293 ip with
    | none => rw [hc] at H; cases H
    | some q =>
      rw [hc] at H
      obtain ⟨ins, pc, x, v⟩ := q
      have hs := xs1_ok (len := len) (xs := xs) (ip := ip) (L := L) (st := st) (x := x) (v := v) ins hv
      dsimp only at H
      have key : ∀ n, mm_oW (mm_s1 ins x v ip L st (xr len xs h)) (fun i L' s' h' => mm_wp n (d + 1) 293 i L' s' h' Q) (fun m as P => mm_cG (mm_wp n) (d + 1) m as (xr len xs h) P) ip L (xr len xs h) Q → mm_wp (n + 1) (d + 1) 293 ip L st (xr len xs h) Q := fun n hh => by
        rw [mm_wp_s]
        unfold mm_sW
        rw [hc]
        exact hh
      generalize xs1 ins x v ip L st h = o at H hs
      match o, H, hs with
      | some (.inl (i, L', s', h')), H, hs =>
        obtain ⟨n, hn⟩ := ih _ _ _ _ _ _ _ _ H hs.1 Q HQ
        exact ⟨n + 1, key n (hs.2 _ _ _ _ _ hn)⟩
      | some (.inr (.inl (m, as, rest))), H, hs =>
        dsimp only at H
        cases hr : xrun f d m 0 (mm_pad (mm_en as) (mm_ml m)) [] h with
        | none => rw [hr] at H; cases H
        | some q =>
          rw [hr] at H
          obtain ⟨r0, h0⟩ := q
          obtain ⟨b1, b2⟩ := xrun_ok len xs _ _ _ _ _ _ _ _ _ hr hv
          obtain ⟨n, hn⟩ := ih _ _ _ _ _ _ _ _ H b1 Q HQ
          refine ⟨n + f + 1, key (n + f) (hs _ _ _ _ _ ?_)⟩
          exact mm_wp_mono _ _ _ _ _ _ _ _ _ (fun a b hab => by
            rw [hab.1, hab.2]
            exact mm_wp_mono _ _ _ _ _ _ _ _ _ (fun _ _ z => z) hn _ _ (by omega) (Nat.le_refl _)) b2 _ _ (by omega) (Nat.le_refl _)
def xe {α : Type} (e : α → α → Bool) : List (Nat × Nat × α) → List (Nat × Nat × α) → Bool
  | [], [] => true
  | p :: r, q :: s => Nat.beq p.1 q.1 && (Nat.beq p.2.1 q.2.1 && (e p.2.2 q.2.2 && xe e r s))
  | _, _ => false
theorem xe_o {α : Type} {e : α → α → Bool} (he : ∀ a b, e a b = true → a = b) : ∀ l l' : List (Nat × Nat × α), xe e l l' = true → l = l'
  | [], [], _ => rfl
  | [], _ :: _, h => by cases h
  | _ :: _, [], h => by cases h
  | p :: r, q :: s, h => by
    have h : (Nat.beq p.1 q.1 && (Nat.beq p.2.1 q.2.1 && (e p.2.2 q.2.2 && xe e r s))) = true := h
    rw [Bool.and_eq_true, Bool.and_eq_true, Bool.and_eq_true] at h
    obtain ⟨h1, h2, h3, h4⟩ := h
    rw [show p = q from Prod.ext (Nat.eq_of_beq_eq_true h1) (Prod.ext (Nat.eq_of_beq_eq_true h2) (he _ _ h3)), xe_o he r s h4]
def xhe (x y : xH) : Bool := Nat.beq x.1 y.1 && (Nat.beq x.2.1 y.2.1 && (xe Nat.beq x.2.2.1 y.2.2.1 && (xe (fun a b => decide (a = b)) x.2.2.2.1 y.2.2.2.1 && (xe (fun a b => decide (a = b)) x.2.2.2.2.1 y.2.2.2.2.1 && xe Nat.beq x.2.2.2.2.2 y.2.2.2.2.2))))
theorem xhe_o {x y : xH} (h : xhe x y = true) : x = y := by
  unfold xhe at h
  rw [Bool.and_eq_true, Bool.and_eq_true, Bool.and_eq_true, Bool.and_eq_true, Bool.and_eq_true] at h
  obtain ⟨h1, h2, h3, h4, h5, h6⟩ := h
  exact Prod.ext (Nat.eq_of_beq_eq_true h1) (Prod.ext (Nat.eq_of_beq_eq_true h2) (Prod.ext (xe_o (fun _ _ => Nat.eq_of_beq_eq_true) _ _ h3) (Prod.ext (xe_o (fun _ _ => of_decide_eq_true) _ _ h4) (Prod.ext (xe_o (fun _ _ => of_decide_eq_true) _ _ h5) (xe_o (fun _ _ => Nat.eq_of_beq_eq_true) _ _ h6)))))
def xFk : List (Nat × Nat × Nat) := [(302, 14, 2000), (301, 14, 400), (300, 12, 400), (299, 12, 400), (298, 12, 400), (297, 13, 6), (296, 12, 400), (295, 12, 400), (294, 12, 64), (293, 12, 2000), (292, 12, 2000), (291, 13, 2000), (290, 13, 2000), (289, 12, 400), (288, 12, 400), (287, 12, 400), (286, 13, 400), (285, 12, 2000), (284, 12, 2000), (283, 12, 2000), (282, 12, 2000), (281, 12, 2000), (280, 12, 2000), (279, 12, 2000), (278, 12, 2000), (277, 12, 2000), (276, 14, 2400), (275, 14, 2000), (274, 12, 2000), (273, 12, 2000), (272, 12, 2000), (271, 13, 400), (270, 12, 400), (269, 12, 400), (268, 13, 400), (267, 12, 12), (266, 12, 12), (265, 12, 600), (264, 13, 1906), (263, 13, 15248), (262, 13, 1906), (261, 11, 65), (260, 12, 8400), (259, 13, 1200), (258, 13, 1200), (257, 12, 1200), (256, 12, 1200), (255, 3, 9), (254, 12, 6), (253, 12, 240), (252, 12, 240), (251, 12, 1200), (250, 12, 1200), (249, 12, 1200), (248, 12, 1200), (247, 12, 1200), (246, 12, 1200), (245, 12, 1200), (244, 12, 1200), (243, 12, 1200), (242, 12, 1200), (241, 12, 1200), (240, 12, 1200), (239, 12, 1200), (238, 13, 1200), (237, 8, 20), (236, 13, 1200), (235, 13, 1200), (234, 12, 1200), (233, 12, 1200), (232, 12, 1200), (231, 12, 1200), (230, 12, 1200), (229, 12, 1200), (228, 2, 9), (227, 13, 240), (226, 13, 240), (225, 12, 240), (224, 12, 240), (223, 12, 240), (222, 12, 240), (221, 13, 240), (220, 0, 8), (219, 12, 6), (218, 12, 12), (217, 12, 12), (216, 5, 5), (215, 12, 240), (214, 13, 240), (213, 6, 3), (212, 12, 8), (211, 12, 240), (210, 13, 240), (209, 6, 3), (208, 13, 40), (207, 13, 40), (206, 4, 3), (205, 13, 8), (204, 13, 8), (203, 4, 3), (202, 13, 80), (201, 13, 80), (200, 4, 3), (199, 9, 13), (198, 12, 6), (197, 12, 12), (196, 12, 12), (195, 5, 5), (194, 12, 240), (193, 13, 240), (192, 6, 3), (191, 12, 8), (190, 12, 240), (189, 13, 240), (188, 6, 3), (187, 13, 40), (186, 13, 40), (185, 4, 3), (184, 13, 8), (183, 13, 8), (182, 4, 3), (181, 13, 80), (180, 13, 80), (179, 4, 3), (178, 9, 13), (177, 12, 6), (176, 12, 12), (175, 12, 12), (174, 5, 5), (173, 12, 240), (172, 13, 240), (171, 6, 3), (170, 12, 8), (169, 12, 240), (168, 13, 240), (167, 6, 3), (166, 13, 40), (165, 13, 40), (164, 4, 3), (163, 13, 8), (162, 13, 8), (161, 4, 3), (160, 13, 80), (159, 13, 80), (158, 4, 3), (157, 9, 13), (156, 12, 6), (155, 12, 12), (154, 12, 12), (153, 5, 5), (152, 12, 240), (151, 13, 240), (150, 6, 3), (149, 12, 8), (148, 12, 240), (147, 13, 240), (146, 6, 3), (145, 13, 40), (144, 13, 40), (143, 4, 3), (142, 13, 8), (141, 13, 8), (140, 4, 3), (139, 13, 80), (138, 13, 80), (137, 4, 3), (136, 9, 13), (135, 12, 6), (134, 12, 12), (133, 12, 12), (132, 5, 5), (131, 12, 240), (130, 13, 240), (129, 6, 3), (128, 12, 8), (127, 12, 240), (126, 13, 240), (125, 6, 3), (124, 13, 40), (123, 13, 40), (122, 4, 3), (121, 13, 8), (120, 13, 8), (119, 4, 3), (118, 13, 80), (117, 13, 80), (116, 4, 3), (115, 9, 13), (114, 12, 6), (113, 12, 12), (112, 12, 12), (111, 5, 5), (110, 12, 240), (109, 13, 240), (108, 6, 3), (107, 12, 8), (106, 12, 240), (105, 13, 240), (104, 6, 3), (103, 13, 40), (102, 13, 40), (101, 4, 3), (100, 13, 8), (99, 13, 8), (98, 4, 3), (97, 13, 80), (96, 13, 80), (95, 4, 3), (94, 9, 13), (93, 12, 6), (92, 12, 12), (91, 12, 12), (90, 5, 5), (89, 12, 240), (88, 13, 240), (87, 6, 3), (86, 12, 8), (85, 12, 240), (84, 13, 240), (83, 6, 3), (82, 13, 40), (81, 13, 40), (80, 4, 3), (79, 13, 8), (78, 13, 8), (77, 4, 3), (76, 13, 80), (75, 13, 80), (74, 4, 3), (73, 9, 13), (72, 12, 6), (71, 12, 12), (70, 12, 12), (69, 5, 5), (68, 12, 240), (67, 13, 240), (66, 6, 3), (65, 12, 8), (64, 12, 240), (63, 13, 240), (62, 6, 3), (61, 13, 40), (60, 13, 40), (59, 4, 3), (58, 13, 8), (57, 13, 8), (56, 4, 3), (55, 13, 80), (54, 13, 80), (53, 4, 3), (52, 9, 13), (51, 15, 10), (50, 12, 6), (49, 12, 12), (48, 12, 12), (47, 5, 5), (46, 12, 240), (45, 13, 240), (44, 6, 3), (43, 12, 8), (42, 12, 240), (41, 13, 240), (40, 6, 3), (39, 13, 40), (38, 13, 40), (37, 4, 3), (36, 13, 8), (35, 13, 8), (34, 4, 3), (33, 13, 80), (32, 13, 80), (31, 4, 3), (30, 9, 13), (29, 12, 6), (28, 12, 12), (27, 12, 12), (26, 5, 5), (25, 12, 240), (24, 13, 240), (23, 6, 3), (22, 12, 8), (21, 12, 240), (20, 13, 240), (19, 6, 3), (18, 13, 40), (17, 13, 40), (16, 4, 3), (15, 13, 8), (14, 13, 8), (13, 4, 3), (12, 13, 80), (11, 13, 80), (10, 4, 3), (9, 9, 13), (8, 7, 7), (7, 12, 54), (6, 1, 2), (5, 12, 600), (4, 1, 2), (3, 10, 15)]
def xFi : List (Nat × Nat × Int32) := [(261, 5, 0), (261, 19, 0), (261, 18, 4), (261, 17, 7), (267, 1, 7), (267, 0, 7), (261, 6, 7), (261, 15, 3), (261, 19, 0), (261, 18, 4), (261, 17, 4), (267, 2, 0), (266, 2, 0), (261, 19, 1), (267, 1, 3), (267, 0, 3), (261, 6, 6), (261, 16, 0), (261, 6, 5), (261, 19, 0), (261, 18, 3), (261, 17, 3), (261, 19, 0), (261, 18, 2), (261, 17, 2), (261, 6, 4), (261, 15, 2), (261, 19, 0), (261, 18, 2), (261, 17, 2), (267, 1, 0), (266, 1, 0), (261, 6, 3), (261, 19, 0), (261, 18, 1), (261, 17, 1), (261, 6, 2), (261, 15, 1), (261, 19, 0), (261, 18, 1), (261, 17, 1), (267, 0, 0), (266, 0, 1), (261, 6, 1), (261, 16, 1), (261, 16, 0), (261, 15, 0), (261, 8, (-1)), (261, 7, 0), (261, 6, 0), (261, 5, 7), (265, 6, 110), (265, 5, 42), (265, 4, 41), (265, 3, 110), (265, 2, 124), (265, 1, 97), (265, 0, 40), (261, 10, (-1)), (3, 13, (-1)), (199, 12, 1), (199, 11, 5), (199, 10, 2), (219, 5, 5), (219, 4, 4), (219, 3, 3), (219, 2, 2), (219, 1, 1), (216, 4, 4), (216, 3, 7), (216, 2, 3), (218, 1, 7), (218, 0, 7), (217, 2, 110), (217, 1, 110), (217, 0, 97), (178, 12, 1), (178, 11, 5), (178, 10, 2), (198, 5, 5), (198, 4, 4), (198, 3, 3), (198, 2, 2), (198, 1, 1), (195, 4, 4), (195, 3, 7), (195, 2, 3), (197, 1, 7), (197, 0, 7), (196, 2, 110), (196, 1, 110), (196, 0, 97), (157, 12, 1), (157, 11, 5), (157, 10, 2), (177, 5, 5), (177, 4, 4), (177, 3, 3), (177, 2, 2), (177, 1, 1), (174, 4, 4), (174, 3, 7), (174, 2, 3), (176, 1, 7), (176, 0, 7), (175, 2, 110), (175, 1, 110), (175, 0, 97), (136, 12, 1), (136, 11, 5), (136, 10, 2), (156, 5, 5), (156, 4, 4), (156, 3, 3), (156, 2, 2), (156, 1, 1), (153, 4, 4), (153, 3, 7), (153, 2, 3), (155, 1, 7), (155, 0, 7), (154, 2, 110), (154, 1, 110), (154, 0, 97), (115, 12, 1), (115, 11, 5), (115, 10, 2), (135, 5, 5), (135, 4, 4), (135, 3, 3), (135, 2, 2), (135, 1, 1), (132, 4, 4), (132, 3, 7), (132, 2, 3), (134, 1, 7), (134, 0, 7), (133, 2, 110), (133, 1, 110), (133, 0, 97), (94, 12, 1), (94, 11, 5), (94, 10, 2), (114, 5, 5), (114, 4, 4), (114, 3, 3), (114, 2, 2), (114, 1, 1), (111, 4, 4), (111, 3, 7), (111, 2, 3), (113, 1, 7), (113, 0, 7), (112, 2, 110), (112, 1, 110), (112, 0, 97), (73, 12, 1), (73, 11, 5), (73, 10, 2), (93, 5, 5), (93, 4, 4), (93, 3, 3), (93, 2, 2), (93, 1, 1), (90, 4, 4), (90, 3, 7), (90, 2, 3), (92, 1, 7), (92, 0, 7), (91, 2, 110), (91, 1, 110), (91, 0, 97), (52, 12, 1), (52, 11, 5), (52, 10, 2), (72, 5, 5), (72, 4, 4), (72, 3, 3), (72, 2, 2), (72, 1, 1), (69, 4, 4), (69, 3, 7), (69, 2, 3), (71, 1, 7), (71, 0, 7), (70, 2, 110), (70, 1, 110), (70, 0, 97), (30, 12, 1), (30, 11, 5), (30, 10, 2), (50, 5, 5), (50, 4, 4), (50, 3, 3), (50, 2, 2), (50, 1, 1), (47, 4, 4), (47, 3, 7), (47, 2, 3), (49, 1, 7), (49, 0, 7), (48, 2, 110), (48, 1, 110), (48, 0, 97), (9, 12, 1), (9, 11, 5), (9, 10, 2), (29, 5, 5), (29, 4, 4), (29, 3, 3), (29, 2, 2), (29, 1, 1), (26, 4, 4), (26, 3, 7), (26, 2, 3), (28, 1, 7), (28, 0, 7), (27, 2, 110), (27, 1, 110), (27, 0, 97)]
def xFl : List (Nat × Nat × Int64) := [(262, 1897, 0), (262, 1896, 4), (262, 1895, 7), (262, 1885, 0), (262, 1873, 0), (262, 1884, 7), (262, 1872, 0), (262, 1883, 7), (262, 1871, 1), (262, 1870, 3), (262, 1905, 5), (262, 1904, 4), (262, 1903, 3), (262, 1902, 2), (262, 1901, 1), (262, 1900, 1), (262, 1899, 5), (262, 1898, 2), (255, 8, 1)]
def xFr : List (Nat × Nat × Nat) := [(261, 64, 302), (261, 63, 301), (261, 62, 300), (261, 61, 299), (261, 60, 298), (261, 59, 297), (261, 58, 296), (261, 57, 295), (261, 53, 294), (261, 52, 293), (261, 51, 292), (261, 50, 291), (261, 49, 290), (261, 46, 289), (261, 45, 288), (261, 44, 287), (261, 42, 286), (261, 41, 285), (261, 40, 284), (261, 39, 283), (261, 38, 282), (261, 37, 281), (261, 36, 280), (261, 35, 279), (261, 34, 278), (261, 33, 277), (261, 31, 276), (261, 30, 275), (261, 29, 274), (261, 28, 273), (261, 27, 272), (261, 25, 271), (261, 24, 270), (261, 23, 269), (261, 22, 268), (261, 14, 267), (261, 13, 266), (261, 4, 265), (261, 3, 264), (261, 1, 263), (261, 0, 262), (3, 7, 255), (255, 2, 237), (255, 5, 260), (255, 4, 259), (255, 3, 258), (255, 1, 257), (255, 0, 256), (3, 6, 237), (237, 1, 228), (237, 0, 220), (237, 18, 254), (237, 17, 253), (237, 16, 252), (237, 15, 251), (237, 14, 250), (237, 13, 249), (237, 12, 248), (237, 11, 247), (237, 10, 246), (237, 9, 245), (237, 8, 244), (237, 7, 243), (237, 6, 242), (237, 5, 241), (237, 4, 240), (237, 3, 239), (237, 2, 238), (3, 5, 228), (228, 7, 236), (228, 6, 235), (228, 5, 234), (228, 4, 233), (228, 3, 232), (228, 2, 231), (228, 1, 230), (228, 0, 229), (3, 4, 220), (220, 6, 227), (220, 5, 226), (220, 4, 225), (220, 3, 224), (220, 2, 223), (220, 1, 222), (220, 0, 221), (51, 9, 199), (199, 7, 219), (199, 6, 216), (216, 1, 218), (216, 0, 217), (199, 5, 213), (213, 1, 215), (213, 0, 214), (199, 4, 212), (199, 3, 209), (209, 1, 211), (209, 0, 210), (199, 2, 206), (206, 1, 208), (206, 0, 207), (199, 1, 203), (203, 1, 205), (203, 0, 204), (199, 0, 200), (200, 1, 202), (200, 0, 201), (51, 8, 178), (178, 7, 198), (178, 6, 195), (195, 1, 197), (195, 0, 196), (178, 5, 192), (192, 1, 194), (192, 0, 193), (178, 4, 191), (178, 3, 188), (188, 1, 190), (188, 0, 189), (178, 2, 185), (185, 1, 187), (185, 0, 186), (178, 1, 182), (182, 1, 184), (182, 0, 183), (178, 0, 179), (179, 1, 181), (179, 0, 180), (51, 7, 157), (157, 7, 177), (157, 6, 174), (174, 1, 176), (174, 0, 175), (157, 5, 171), (171, 1, 173), (171, 0, 172), (157, 4, 170), (157, 3, 167), (167, 1, 169), (167, 0, 168), (157, 2, 164), (164, 1, 166), (164, 0, 165), (157, 1, 161), (161, 1, 163), (161, 0, 162), (157, 0, 158), (158, 1, 160), (158, 0, 159), (51, 6, 136), (136, 7, 156), (136, 6, 153), (153, 1, 155), (153, 0, 154), (136, 5, 150), (150, 1, 152), (150, 0, 151), (136, 4, 149), (136, 3, 146), (146, 1, 148), (146, 0, 147), (136, 2, 143), (143, 1, 145), (143, 0, 144), (136, 1, 140), (140, 1, 142), (140, 0, 141), (136, 0, 137), (137, 1, 139), (137, 0, 138), (51, 5, 115), (115, 7, 135), (115, 6, 132), (132, 1, 134), (132, 0, 133), (115, 5, 129), (129, 1, 131), (129, 0, 130), (115, 4, 128), (115, 3, 125), (125, 1, 127), (125, 0, 126), (115, 2, 122), (122, 1, 124), (122, 0, 123), (115, 1, 119), (119, 1, 121), (119, 0, 120), (115, 0, 116), (116, 1, 118), (116, 0, 117), (51, 4, 94), (94, 7, 114), (94, 6, 111), (111, 1, 113), (111, 0, 112), (94, 5, 108), (108, 1, 110), (108, 0, 109), (94, 4, 107), (94, 3, 104), (104, 1, 106), (104, 0, 105), (94, 2, 101), (101, 1, 103), (101, 0, 102), (94, 1, 98), (98, 1, 100), (98, 0, 99), (94, 0, 95), (95, 1, 97), (95, 0, 96), (51, 3, 73), (73, 7, 93), (73, 6, 90), (90, 1, 92), (90, 0, 91), (73, 5, 87), (87, 1, 89), (87, 0, 88), (73, 4, 86), (73, 3, 83), (83, 1, 85), (83, 0, 84), (73, 2, 80), (80, 1, 82), (80, 0, 81), (73, 1, 77), (77, 1, 79), (77, 0, 78), (73, 0, 74), (74, 1, 76), (74, 0, 75), (51, 2, 52), (52, 7, 72), (52, 6, 69), (69, 1, 71), (69, 0, 70), (52, 5, 66), (66, 1, 68), (66, 0, 67), (52, 4, 65), (52, 3, 62), (62, 1, 64), (62, 0, 63), (52, 2, 59), (59, 1, 61), (59, 0, 60), (52, 1, 56), (56, 1, 58), (56, 0, 57), (52, 0, 53), (53, 1, 55), (53, 0, 54), (51, 1, 30), (51, 0, 9), (3, 3, 51), (3, 9, 30), (30, 7, 50), (30, 6, 47), (47, 1, 49), (47, 0, 48), (30, 5, 44), (44, 1, 46), (44, 0, 45), (30, 4, 43), (30, 3, 40), (40, 1, 42), (40, 0, 41), (30, 2, 37), (37, 1, 39), (37, 0, 38), (30, 1, 34), (34, 1, 36), (34, 0, 35), (30, 0, 31), (31, 1, 33), (31, 0, 32), (3, 8, 9), (9, 7, 29), (9, 6, 26), (26, 1, 28), (26, 0, 27), (9, 5, 23), (23, 1, 25), (23, 0, 24), (9, 4, 22), (9, 3, 19), (19, 1, 21), (19, 0, 20), (9, 2, 16), (16, 1, 18), (16, 0, 17), (9, 1, 13), (13, 1, 15), (13, 0, 14), (9, 0, 10), (10, 1, 12), (10, 0, 11), (3, 2, 8), (8, 0, 4), (3, 1, 6), (6, 0, 7), (3, 0, 4), (4, 0, 5)]
def xF : xH := (303, 119191, xFk, xFi, xFl, xFr)
def xTop : Bool := match xtop 2000 50 10 0 [some (.ref 1), none, none, none] [] (3, 0, [], [], [], []) with
  | some (10, [some (.ref 1), some (.ref 3), some (.ref 261), some (.int i)], [], h) => decide (i = 0) && xhe h xF
  | _ => false
theorem xTop_ok : xTop = true := by decide +kernel
theorem xTop_e : xtop 2000 50 10 0 [some (.ref 1), none, none, none] [] (3, 0, [], [], [], []) = some (10, [some (.ref 1), some (.ref 3), some (.ref 261), some (.int 0)], [], xF) := by
  have h := xTop_ok
  unfold xTop at h
  split at h
  · rename_i i h1 e
    rw [Bool.and_eq_true, decide_eq_true_eq] at h
    rw [e, h.1, xhe_o h.2]
  · cases h
def xx0 : xH := (3, 0, [], [], [], [])
theorem xV0 : xV xx0 := ⟨Nat.le_refl _, fun _ h => absurd h List.not_mem_nil, fun _ h => absurd h List.not_mem_nil, fun _ h => absurd h List.not_mem_nil, fun _ h => absurd h List.not_mem_nil⟩
/-- the ints and longs behind the constructors -/
def m0 (xs : Nat → Int32) : zM := ((fun a k => bif Nat.beq a 1 then xs k else xlk 0 xFi a k), fun a k => xlk 0 xFl a k)
def xcK : Bool := (List.range 303).all fun a => Nat.beq a 1 || (Nat.beq (xkd xFk a).1 (zK1 a).1 && Nat.beq (xkd xFk a).2 (zK1 a).2)
theorem xcK_ok : xcK = true := by decide +kernel
def xcB : Bool := xFk.all fun q => Nat.ble (q.1 + 1) 303
theorem xcB_ok : xcB = true := by decide +kernel
def xcR : Bool := xFr.all fun q => Nat.beq (zR 9 30 q.1 q.2.1) q.2.2
theorem xcR_ok : xcR = true := by decide +kernel
def xcZ : Bool := (List.range 303).all fun a => (List.range 65).all fun k => Nat.beq (zR 9 30 a k) 0 || Nat.ble 1 (xlk 0 xFr a k)
theorem xcZ_ok : xcZ = true := by decide +kernel
theorem zK1_hi {a : Nat} (h : 303 ≤ a) : zK1 a = (16, 0) := by
  have e : ∀ c, c ≤ 303 → Nat.ble c a = true := fun c hc => Nat.ble_eq_true_of_le (Nat.le_trans hc h)
  unfold zK1
  simp only [e 153 (by decide), e 228 (by decide), e 266 (by decide), e 285 (by decide), e 294 (by decide), e 299 (by decide), e 301 (by decide), e 302 (by decide), e 303 (by decide), cond_true]
theorem zR1_hi {a k : Nat} (h : 262 ≤ a) : zR1 a k = 0 := by
  have e : ∀ c, c ≤ 262 → Nat.ble c a = true := fun c hc => Nat.ble_eq_true_of_le (Nat.le_trans hc h)
  unfold zR1
  simp only [e 116 (by decide), e 175 (by decide), e 204 (by decide), e 220 (by decide), e 238 (by decide), e 256 (by decide), e 261 (by decide), e 262 (by decide), cond_true]
theorem zR1_k {a k : Nat} (h : 65 ≤ k) : zR1 a k = 0 := by
  have e : ∀ c, c < 65 → Nat.beq k c = false := fun c hc => xne (by omega)
  unfold zR1
  simp only [e 0 (by decide), e 1 (by decide), e 2 (by decide), e 3 (by decide), e 4 (by decide), e 5 (by decide), e 6 (by decide), e 7 (by decide), e 8 (by decide), e 9 (by decide), e 10 (by decide), e 11 (by decide), e 12 (by decide), e 13 (by decide), e 14 (by decide), e 15 (by decide), e 16 (by decide), e 17 (by decide), e 18 (by decide), e 19 (by decide), e 20 (by decide), e 21 (by decide), e 22 (by decide), e 23 (by decide), e 24 (by decide), e 25 (by decide), e 26 (by decide), e 27 (by decide), e 28 (by decide), e 29 (by decide), e 30 (by decide), e 31 (by decide), e 32 (by decide), e 33 (by decide), e 34 (by decide), e 35 (by decide), e 36 (by decide), e 37 (by decide), e 38 (by decide), e 39 (by decide), e 40 (by decide), e 41 (by decide), e 42 (by decide), e 43 (by decide), e 44 (by decide), e 45 (by decide), e 46 (by decide), e 47 (by decide), e 48 (by decide), e 49 (by decide), e 50 (by decide), e 51 (by decide), e 52 (by decide), e 53 (by decide), e 54 (by decide), e 55 (by decide), e 56 (by decide), e 57 (by decide), e 58 (by decide), e 59 (by decide), e 60 (by decide), e 61 (by decide), e 62 (by decide), e 63 (by decide), e 64 (by decide), cond_false, Bool.cond_self]
theorem xlk_or {α : Type} (d : α) (a k : Nat) : ∀ l : List (Nat × Nat × α), xlk d l a k = d ∨ ∃ q ∈ l, q.1 = a ∧ q.2.1 = k ∧ xlk d l a k = q.2.2
  | [] => Or.inl rfl
  | q :: r => by
    have e : xlk d (q :: r) a k = bif Nat.beq q.1 a && Nat.beq q.2.1 k then q.2.2 else xlk d r a k := rfl
    rw [e]
    cases hb : (Nat.beq q.1 a && Nat.beq q.2.1 k) with
    | true =>
      rw [Bool.and_eq_true] at hb
      exact Or.inr ⟨q, List.mem_cons_self, Nat.eq_of_beq_eq_true hb.1, Nat.eq_of_beq_eq_true hb.2, rfl⟩
    | false =>
      rcases xlk_or d a k r with z | ⟨p, h1, h2, h3, h4⟩
      · exact Or.inl z
      · exact Or.inr ⟨p, List.mem_cons_of_mem _ h1, h2, h3, h4⟩
theorem xF_R (a k : Nat) : xlk 0 xFr a k = zR 9 30 a k := by
  rcases xlk_or 0 a k xFr with z | ⟨q, h1, h2, h3, h4⟩
  · rw [z]
    by_cases ha : a < 303
    · by_cases hk : k < 65
      · have h1 := List.all_eq_true.mp xcZ_ok a (List.mem_range.mpr ha)
        have h2 := List.all_eq_true.mp h1 k (List.mem_range.mpr hk)
        rw [z, Bool.or_eq_true] at h2
        rcases h2 with h2 | h2
        · exact (Nat.eq_of_beq_eq_true h2).symm
        · cases h2
      · unfold zR
        rw [xne (a := k) (b := 8) (by omega), xne (a := k) (b := 9) (by omega), Bool.and_false, cond_false, cond_false]
        exact (zR1_k (by omega)).symm
    · unfold zR
      rw [xne (a := a) (b := 3) (by omega), Bool.false_and, Bool.false_and, cond_false, cond_false]
      exact (zR1_hi (by omega)).symm
  · have := List.all_eq_true.mp xcR_ok q h1
    rw [h4, ← h2, ← h3]
    exact (Nat.eq_of_beq_eq_true this).symm
theorem xF_K (len a : Nat) : (bif Nat.beq a 1 then (20, len) else xkd xFk a) = zK len a := by
  unfold zK
  by_cases h1 : a = 1
  · rw [h1, xbr, cond_true, cond_true]
  · rw [xne h1, cond_false, cond_false]
    by_cases ha : a < 303
    · have h := List.all_eq_true.mp xcK_ok a (List.mem_range.mpr ha)
      rw [Bool.or_eq_true, Bool.and_eq_true] at h
      rcases h with h | h
      · exact absurd (Nat.eq_of_beq_eq_true h) h1
      · exact Prod.ext (Nat.eq_of_beq_eq_true h.1) (Nat.eq_of_beq_eq_true h.2)
    · rw [zK1_hi (by omega)]
      exact xkd_n (n := 303) _ (fun q hq => Nat.le_of_ble_eq_true (List.all_eq_true.mp xcB_ok q hq)) _ (by omega)
theorem xF_e (len : Nat) (xs : Nat → Int32) : xr len xs xF = zE (len, 9, 30) (m0 xs) := by
  refine Prod.ext rfl (Prod.ext rfl (Prod.ext ?_ (Prod.ext rfl (Prod.ext rfl ?_))))
  · funext a
    exact xF_K len a
  · funext a k
    exact xF_R a k
/-- from the law's first instruction to its loop -/
theorem law_start {len : Nat} {xs : Nat → Int32} {Q : mm_Q} (H : mm_W 51 293 10 [some (.ref 1), some (.ref 3), some (.ref 261), some (.int 0)] [] (zE (len, 9, 30) (m0 xs)) Q) : mm_W 51 293 0 [some (.ref 1), none, none, none] [] (xr len xs xx0) Q := by
  refine xtop_ok len xs 2000 50 _ _ _ _ _ _ _ _ _ xTop_e xV0 Q ?_
  rw [xF_e]
  exact H
