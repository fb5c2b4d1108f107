/-! the classes: their words, names, types -/
def mm_tyb (d : String) : Bool := match parseFieldDescriptor d with
  | some .int => Nat.beq (mm_dc d) 0
  | some .boolean => Nat.beq (mm_dc d) 3
  | some .long => Nat.beq (mm_dc d) 1
  | some (.object _) => Nat.beq (mm_dc d) 2
  | some (.array _) => Nat.beq (mm_dc d) 2
  | _ => false
def mm_tyo (d : String) (t : FieldType) : Prop := (mm_dc d = 0 ∧ t = .int) ∨ (mm_dc d = 3 ∧ t = .boolean) ∨ (mm_dc d = 1 ∧ t = .long) ∨ (mm_dc d = 2 ∧ ((∃ n, t = .object n) ∨ ∃ u, t = .array u))
theorem mm_tyb_o {d : String} (h : mm_tyb d = true) : ∃ t, parseFieldDescriptor d = some t ∧ mm_tyo d t := by
  unfold mm_tyb at h
  split at h
  · rename_i e; exact ⟨_, e, Or.inl ⟨Nat.eq_of_beq_eq_true h, rfl⟩⟩
  · rename_i e; exact ⟨_, e, Or.inr (Or.inl ⟨Nat.eq_of_beq_eq_true h, rfl⟩)⟩
  · rename_i e; exact ⟨_, e, Or.inr (Or.inr (Or.inl ⟨Nat.eq_of_beq_eq_true h, rfl⟩))⟩
  · rename_i n e; exact ⟨_, e, Or.inr (Or.inr (Or.inr ⟨Nat.eq_of_beq_eq_true h, Or.inl ⟨n, rfl⟩⟩))⟩
  · rename_i n e; exact ⟨_, e, Or.inr (Or.inr (Or.inr ⟨Nat.eq_of_beq_eq_true h, Or.inr ⟨n, rfl⟩⟩))⟩
  · cases h
/-- what is checked of a class -/
def mm_clb (r : vw_C) (ps : List Nat) : Bool := decide (u_ws r.1 r.2.1 r.2.2 = ps.filterMap (fun i => mm_tbl[i]?)) && (u_ws r.1 r.2.1 r.2.2).all goodWord && (List.range r.2.2).all (fun k => mm_tyb (r.2.1 k).2.2.1) && (List.range r.2.2).all (fun a => (List.range r.2.2).all (fun b => Nat.beq a b || !(decide ((r.2.1 a).2.1 = (r.2.1 b).2.1))))
def mm_clo (r : vw_C) : Prop := (∀ w ∈ u_ws r.1 r.2.1 r.2.2, w ∈ mm_gT) ∧ (∀ k, k < r.2.2 → ∃ t, parseFieldDescriptor (r.2.1 k).2.2.1 = some t ∧ mm_tyo (r.2.1 k).2.2.1 t) ∧ ∀ a, a < r.2.2 → ∀ b, b < r.2.2 → a ≠ b → (r.2.1 a).2.1 ≠ (r.2.1 b).2.1
theorem mm_clb_o {r : vw_C} {ps : List Nat} (h : mm_clb r ps = true) : mm_clo r := by
  unfold mm_clb at h
  simp only [Bool.and_eq_true, decide_eq_true_eq, List.all_eq_true, List.mem_range] at h
  obtain ⟨⟨⟨h1, h2⟩, h3⟩, h4⟩ := h
  refine ⟨fun w hw => ?_, fun k hk => mm_tyb_o (h3 k hk), fun a ha b hb hne => ?_⟩
  · have g := h2 w hw
    rw [h1] at hw
    obtain ⟨i, -, hi⟩ := List.mem_filterMap.mp hw
    exact mm_inG hi g
  · have := h4 a ha b hb
    rw [Bool.or_eq_true] at this
    rcases this with q | q
    · exact absurd (Nat.eq_of_beq_eq_true q) hne
    · simpa using q
theorem mm_clo0 : mm_clo (mm_R0, mm_T0, 8) := mm_clb_o (ps := [361, 363, 365, 367, 369, 371, 373, 375]) (by decide +kernel)
theorem mm_clo1 : mm_clo (mm_R1, mm_T1, 2) := mm_clb_o (ps := [147, 149]) (by decide +kernel)
theorem mm_clo2 : mm_clo (mm_R2, mm_T2, 9) := mm_clb_o (ps := [431, 433, 417, 419, 421, 423, 425, 427, 429]) (by decide +kernel)
theorem mm_clo3 : mm_clo (mm_R3, mm_T3, 9) := mm_clb_o (ps := [551, 552, 537, 539, 541, 543, 545, 547, 549]) (by decide +kernel)
theorem mm_clo4 : mm_clo (mm_R4, mm_T4, 3) := mm_clb_o (ps := [210, 212, 214]) (by decide +kernel)
theorem mm_clo5 : mm_clo (mm_R5, mm_T5, 5) := mm_clb_o (ps := [259, 261, 263, 265, 267]) (by decide +kernel)
theorem mm_clo6 : mm_clo (mm_R6, mm_T6, 3) := mm_clb_o (ps := [235, 237, 239]) (by decide +kernel)
theorem mm_clo7 : mm_clo (mm_R7, mm_T7, 7) := mm_clb_o (ps := [172, 174, 176, 178, 180, 182, 184]) (by decide +kernel)
theorem mm_clo8 : mm_clo (mm_R8, mm_T8, 20) := mm_clb_o (ps := [478, 480, 482, 484, 486, 488, 490, 492, 494, 496, 498, 500, 502, 504, 506, 508, 510, 512, 514, 516]) (by decide +kernel)
theorem mm_clo9 : mm_clo (mm_R9, mm_T9, 13) := mm_clb_o (ps := [309, 311, 313, 315, 317, 319, 321, 323, 325, 327, 329, 331, 333]) (by decide +kernel)
theorem mm_clo10 : mm_clo (mm_R10, mm_T10, 15) := mm_clb_o (ps := [569, 571, 573, 575, 577, 579, 581, 583, 585, 587, 589, 591, 593, 595, 597]) (by decide +kernel)
theorem mm_clo11 : mm_clo (mm_R11, mm_T11, 65) := mm_clb_o (ps := [1523, 1525, 1527, 1529, 1531, 1533, 1535, 1537, 1539, 1541, 1543, 1545, 1547, 1549, 1551, 1553, 1555, 1557, 1559, 1561, 1563, 1565, 1567, 1569, 1571, 1573, 1575, 1577, 1579, 1581, 1583, 1585, 1587, 1589, 1591, 1593, 1595, 1597, 1599, 1601, 1603, 1605, 1607, 1609, 1611, 1613, 1615, 1617, 1619, 1621, 1623, 1625, 1627, 1629, 1631, 1633, 1635, 1637, 1639, 1641, 1643, 1645, 1647, 1649, 1651]) (by decide +kernel)
theorem mm_cls : ∀ (ci : Nat) (r : vw_C), mm_cl[ci]? = some r → mm_clo r := by
  intro ci r h
  match ci, h with
  | 0, h => cases h; exact mm_clo0
  | 1, h => cases h; exact mm_clo1
  | 2, h => cases h; exact mm_clo2
  | 3, h => cases h; exact mm_clo3
  | 4, h => cases h; exact mm_clo4
  | 5, h => cases h; exact mm_clo5
  | 6, h => cases h; exact mm_clo6
  | 7, h => cases h; exact mm_clo7
  | 8, h => cases h; exact mm_clo8
  | 9, h => cases h; exact mm_clo9
  | 10, h => cases h; exact mm_clo10
  | 11, h => cases h; exact mm_clo11
  | n + 12, h => simp at h
theorem mm_acI : (.arrayClass .int : Jvm.Cond) ∈ mm_gT := mm_tA_in (i := 152) (by decide +kernel)
theorem mm_acJ : (.arrayClass .long : Jvm.Cond) ∈ mm_gT := mm_tA_in (i := 217) (by decide +kernel)
theorem mm_acZ : (.arrayClass .boolean : Jvm.Cond) ∈ mm_gT := mm_tA_in (i := 1654) (by decide +kernel)
theorem mm_oi1 : (.instanceMethod Lib.objectInit : Jvm.Cond) ∈ mm_gT := mm_tA_in (i := 132) (by decide +kernel)
theorem mm_nf1 : (.native ⟨"java/lang/Float", "floatToRawIntBits", "(F)I"⟩ : Jvm.Cond) ∈ mm_gT := mm_tA_in (i := 1903) (by decide +kernel)
theorem mm_nf2 : (.static ⟨"java/lang/Float", "floatToRawIntBits", "(F)I"⟩ : Jvm.Cond) ∈ mm_gT := mm_tA_in (i := 1902) (by decide +kernel)
theorem mm_nf3 : (.initialized "java/lang/Float" : Jvm.Cond) ∈ mm_gT := mm_tA_in (i := 124) (by decide +kernel)
theorem mm_nd1 : (.native ⟨"java/lang/Double", "doubleToRawLongBits", "(D)J"⟩ : Jvm.Cond) ∈ mm_gT := mm_tA_in (i := 1919) (by decide +kernel)
theorem mm_nd2 : (.static ⟨"java/lang/Double", "doubleToRawLongBits", "(D)J"⟩ : Jvm.Cond) ∈ mm_gT := mm_tA_in (i := 1918) (by decide +kernel)
theorem mm_nd3 : (.initialized "java/lang/Double" : Jvm.Cond) ∈ mm_gT := mm_tA_in (i := 125) (by decide +kernel)
set_option maxRecDepth 100000 in
theorem mm_oi2 : (.code Lib.objectInit ⟨#[0xb1]⟩ 1 none : Jvm.Cond) ∈ mm_gT := mm_inG (i := 133) rfl rfl
