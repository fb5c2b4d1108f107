section
-- ===== PART A: goes FIRST, ahead of the names: the tables' words, and 'selects' of the private methods out of them =====
/-- a private method of a class that the tables say can be made, by its rows of tables_1 -/
def lw_okq (q : MethodName × Nat) : Prop := (q.1.cls ≠ "java/lang/invoke/MethodHandle" ∧ q.1.cls ≠ "java/lang/invoke/VarHandle") ∧ Cond.instantiable q.1.cls q.2 ∈ tables_1 ∧ Cond.privateMethod q.1 ∈ tables_1 ∧ Cond.instanceMethod q.1 ∈ tables_1
theorem lw_p0 : lw_okq (⟨"TermDraw", "refuseUnread", "()I"⟩, 15) := ⟨⟨by decide +kernel, by decide +kernel⟩, List.mem_of_getElem? (i := 23) (by decide +kernel), List.mem_of_getElem? (i := 518) (by decide +kernel), List.mem_of_getElem? (i := 519) (by decide +kernel)⟩
theorem lw_p1 : lw_okq (⟨"TermDraw", "beginChange", "()V"⟩, 15) := ⟨⟨by decide +kernel, by decide +kernel⟩, List.mem_of_getElem? (i := 23) (by decide +kernel), List.mem_of_getElem? (i := 522) (by decide +kernel), List.mem_of_getElem? (i := 523) (by decide +kernel)⟩
theorem lw_p2 : lw_okq (⟨"TermDraw", "slotAt", "(I)LTermDraw$Told;"⟩, 15) := ⟨⟨by decide +kernel, by decide +kernel⟩, List.mem_of_getElem? (i := 23) (by decide +kernel), List.mem_of_getElem? (i := 526) (by decide +kernel), List.mem_of_getElem? (i := 527) (by decide +kernel)⟩
theorem lw_p3 : lw_okq (⟨"TermDraw", "readInto", "(LTermDraw$Told;I)V"⟩, 15) := ⟨⟨by decide +kernel, by decide +kernel⟩, List.mem_of_getElem? (i := 23) (by decide +kernel), List.mem_of_getElem? (i := 555) (by decide +kernel), List.mem_of_getElem? (i := 556) (by decide +kernel)⟩
theorem lw_p4 : lw_okq (⟨"TermDraw$Reader", "readLexiconLine", "(LTermDraw$Pairs;)V"⟩, 7) := ⟨⟨by decide +kernel, by decide +kernel⟩, List.mem_of_getElem? (i := 50) (by decide +kernel), List.mem_of_getElem? (i := 585) (by decide +kernel), List.mem_of_getElem? (i := 586) (by decide +kernel)⟩
theorem lw_p5 : lw_okq (⟨"TermDraw$Reader", "kindHere", "()I"⟩, 7) := ⟨⟨by decide +kernel, by decide +kernel⟩, List.mem_of_getElem? (i := 50) (by decide +kernel), List.mem_of_getElem? (i := 589) (by decide +kernel), List.mem_of_getElem? (i := 590) (by decide +kernel)⟩
theorem lw_p6 : lw_okq (⟨"TermDraw$Reader", "readEndingsLine", "(LTermDraw$Pairs;)V"⟩, 7) := ⟨⟨by decide +kernel, by decide +kernel⟩, List.mem_of_getElem? (i := 50) (by decide +kernel), List.mem_of_getElem? (i := 638) (by decide +kernel), List.mem_of_getElem? (i := 639) (by decide +kernel)⟩
theorem lw_p7 : lw_okq (⟨"TermDraw$Reader", "readSameLine", "(LTermDraw$Told;)V"⟩, 7) := ⟨⟨by decide +kernel, by decide +kernel⟩, List.mem_of_getElem? (i := 50) (by decide +kernel), List.mem_of_getElem? (i := 647) (by decide +kernel), List.mem_of_getElem? (i := 648) (by decide +kernel)⟩
theorem lw_p8 : lw_okq (⟨"TermDraw$Reader", "takesSame", "(LTermDraw$Told;)Z"⟩, 7) := ⟨⟨by decide +kernel, by decide +kernel⟩, List.mem_of_getElem? (i := 50) (by decide +kernel), List.mem_of_getElem? (i := 651) (by decide +kernel), List.mem_of_getElem? (i := 652) (by decide +kernel)⟩
theorem lw_p9 : lw_okq (⟨"TermDraw$Pattern", "readAlt", "(LTermDraw$Reader;I)I"⟩, 5) := ⟨⟨by decide +kernel, by decide +kernel⟩, List.mem_of_getElem? (i := 140) (by decide +kernel), List.mem_of_getElem? (i := 691) (by decide +kernel), List.mem_of_getElem? (i := 692) (by decide +kernel)⟩
theorem lw_p10 : lw_okq (⟨"TermDraw$Pattern", "readRow", "(LTermDraw$Reader;I)I"⟩, 5) := ⟨⟨by decide +kernel, by decide +kernel⟩, List.mem_of_getElem? (i := 140) (by decide +kernel), List.mem_of_getElem? (i := 695) (by decide +kernel), List.mem_of_getElem? (i := 696) (by decide +kernel)⟩
theorem lw_p11 : lw_okq (⟨"TermDraw$Pattern", "readItem", "(LTermDraw$Reader;I)I"⟩, 5) := ⟨⟨by decide +kernel, by decide +kernel⟩, List.mem_of_getElem? (i := 140) (by decide +kernel), List.mem_of_getElem? (i := 700) (by decide +kernel), List.mem_of_getElem? (i := 701) (by decide +kernel)⟩
theorem lw_p12 : lw_okq (⟨"TermDraw$Pattern", "readGroup", "(LTermDraw$Reader;I)I"⟩, 5) := ⟨⟨by decide +kernel, by decide +kernel⟩, List.mem_of_getElem? (i := 140) (by decide +kernel), List.mem_of_getElem? (i := 704) (by decide +kernel), List.mem_of_getElem? (i := 705) (by decide +kernel)⟩
theorem lw_p13 : lw_okq (⟨"TermDraw$Pattern", "readKind", "(LTermDraw$Reader;)I"⟩, 5) := ⟨⟨by decide +kernel, by decide +kernel⟩, List.mem_of_getElem? (i := 140) (by decide +kernel), List.mem_of_getElem? (i := 711) (by decide +kernel), List.mem_of_getElem? (i := 712) (by decide +kernel)⟩
theorem lw_p14 : lw_okq (⟨"TermDraw$Pattern", "link", "(II)V"⟩, 5) := ⟨⟨by decide +kernel, by decide +kernel⟩, List.mem_of_getElem? (i := 140) (by decide +kernel), List.mem_of_getElem? (i := 716) (by decide +kernel), List.mem_of_getElem? (i := 717) (by decide +kernel)⟩
theorem lw_p15 : lw_okq (⟨"TermDraw$Pattern", "joined", "(II)I"⟩, 5) := ⟨⟨by decide +kernel, by decide +kernel⟩, List.mem_of_getElem? (i := 140) (by decide +kernel), List.mem_of_getElem? (i := 727) (by decide +kernel), List.mem_of_getElem? (i := 728) (by decide +kernel)⟩
def lw_privs_1 : List (MethodName × Nat) := [(⟨"TermDraw", "refuseUnread", "()I"⟩, 15), (⟨"TermDraw", "beginChange", "()V"⟩, 15), (⟨"TermDraw", "slotAt", "(I)LTermDraw$Told;"⟩, 15), (⟨"TermDraw", "readInto", "(LTermDraw$Told;I)V"⟩, 15), (⟨"TermDraw$Reader", "readLexiconLine", "(LTermDraw$Pairs;)V"⟩, 7), (⟨"TermDraw$Reader", "kindHere", "()I"⟩, 7), (⟨"TermDraw$Reader", "readEndingsLine", "(LTermDraw$Pairs;)V"⟩, 7), (⟨"TermDraw$Reader", "readSameLine", "(LTermDraw$Told;)V"⟩, 7), (⟨"TermDraw$Reader", "takesSame", "(LTermDraw$Told;)Z"⟩, 7), (⟨"TermDraw$Pattern", "readAlt", "(LTermDraw$Reader;I)I"⟩, 5), (⟨"TermDraw$Pattern", "readRow", "(LTermDraw$Reader;I)I"⟩, 5), (⟨"TermDraw$Pattern", "readItem", "(LTermDraw$Reader;I)I"⟩, 5), (⟨"TermDraw$Pattern", "readGroup", "(LTermDraw$Reader;I)I"⟩, 5), (⟨"TermDraw$Pattern", "readKind", "(LTermDraw$Reader;)I"⟩, 5), (⟨"TermDraw$Pattern", "link", "(II)V"⟩, 5), (⟨"TermDraw$Pattern", "joined", "(II)I"⟩, 5)]
theorem lw_r1 : ∀ q ∈ lw_privs_1, lw_okq q := List.forall_mem_cons.mpr ⟨lw_p0, List.forall_mem_cons.mpr ⟨lw_p1, List.forall_mem_cons.mpr ⟨lw_p2, List.forall_mem_cons.mpr ⟨lw_p3, List.forall_mem_cons.mpr ⟨lw_p4, List.forall_mem_cons.mpr ⟨lw_p5, List.forall_mem_cons.mpr ⟨lw_p6, List.forall_mem_cons.mpr ⟨lw_p7, List.forall_mem_cons.mpr ⟨lw_p8, List.forall_mem_cons.mpr ⟨lw_p9, List.forall_mem_cons.mpr ⟨lw_p10, List.forall_mem_cons.mpr ⟨lw_p11, List.forall_mem_cons.mpr ⟨lw_p12, List.forall_mem_cons.mpr ⟨lw_p13, List.forall_mem_cons.mpr ⟨lw_p14, List.forall_mem_cons.mpr ⟨lw_p15, fun _ h => absurd h List.not_mem_nil⟩⟩⟩⟩⟩⟩⟩⟩⟩⟩⟩⟩⟩⟩⟩⟩
theorem lw_p16 : lw_okq (⟨"TermDraw", "endReading", "()Z"⟩, 15) := ⟨⟨by decide +kernel, by decide +kernel⟩, List.mem_of_getElem? (i := 23) (by decide +kernel), List.mem_of_getElem? (i := 731) (by decide +kernel), List.mem_of_getElem? (i := 732) (by decide +kernel)⟩
theorem lw_p17 : lw_okq (⟨"TermDraw", "keepChange", "()V"⟩, 15) := ⟨⟨by decide +kernel, by decide +kernel⟩, List.mem_of_getElem? (i := 23) (by decide +kernel), List.mem_of_getElem? (i := 735) (by decide +kernel), List.mem_of_getElem? (i := 736) (by decide +kernel)⟩
theorem lw_p18 : lw_okq (⟨"TermDraw", "sizeOf", "(I)I"⟩, 15) := ⟨⟨by decide +kernel, by decide +kernel⟩, List.mem_of_getElem? (i := 23) (by decide +kernel), List.mem_of_getElem? (i := 742) (by decide +kernel), List.mem_of_getElem? (i := 743) (by decide +kernel)⟩
theorem lw_p19 : lw_okq (⟨"TermDraw", "draw", "()V"⟩, 15) := ⟨⟨by decide +kernel, by decide +kernel⟩, List.mem_of_getElem? (i := 23) (by decide +kernel), List.mem_of_getElem? (i := 811) (by decide +kernel), List.mem_of_getElem? (i := 812) (by decide +kernel)⟩
theorem lw_p20 : lw_okq (⟨"TermDraw$Matches", "addFrom", "(LTermDraw$Told;LTermDraw$Bases;I)V"⟩, 9) := ⟨⟨by decide +kernel, by decide +kernel⟩, List.mem_of_getElem? (i := 275) (by decide +kernel), List.mem_of_getElem? (i := 858) (by decide +kernel), List.mem_of_getElem? (i := 859) (by decide +kernel)⟩
theorem lw_p21 : lw_okq (⟨"TermDraw$Pattern", "taking", "(II)I"⟩, 5) := ⟨⟨by decide +kernel, by decide +kernel⟩, List.mem_of_getElem? (i := 140) (by decide +kernel), List.mem_of_getElem? (i := 868) (by decide +kernel), List.mem_of_getElem? (i := 869) (by decide +kernel)⟩
theorem lw_p22 : lw_okq (⟨"TermDraw$Matches", "add", "(IIJJ)V"⟩, 9) := ⟨⟨by decide +kernel, by decide +kernel⟩, List.mem_of_getElem? (i := 275) (by decide +kernel), List.mem_of_getElem? (i := 883) (by decide +kernel), List.mem_of_getElem? (i := 884) (by decide +kernel)⟩
theorem lw_p23 : lw_okq (⟨"TermDraw$Matches", "markWithin", "()V"⟩, 9) := ⟨⟨by decide +kernel, by decide +kernel⟩, List.mem_of_getElem? (i := 275) (by decide +kernel), List.mem_of_getElem? (i := 889) (by decide +kernel), List.mem_of_getElem? (i := 890) (by decide +kernel)⟩
theorem lw_p24 : lw_okq (⟨"TermDraw$Terms", "gather", "(LTermDraw$Told;)V"⟩, 20) := ⟨⟨by decide +kernel, by decide +kernel⟩, List.mem_of_getElem? (i := 333) (by decide +kernel), List.mem_of_getElem? (i := 926) (by decide +kernel), List.mem_of_getElem? (i := 927) (by decide +kernel)⟩
theorem lw_p25 : lw_okq (⟨"TermDraw$Terms", "open", "(II)V"⟩, 20) := ⟨⟨by decide +kernel, by decide +kernel⟩, List.mem_of_getElem? (i := 333) (by decide +kernel), List.mem_of_getElem? (i := 932) (by decide +kernel), List.mem_of_getElem? (i := 933) (by decide +kernel)⟩
theorem lw_p26 : lw_okq (⟨"TermDraw$Terms", "take", "(LTermDraw$Told;II)V"⟩, 20) := ⟨⟨by decide +kernel, by decide +kernel⟩, List.mem_of_getElem? (i := 333) (by decide +kernel), List.mem_of_getElem? (i := 938) (by decide +kernel), List.mem_of_getElem? (i := 939) (by decide +kernel)⟩
theorem lw_p27 : lw_okq (⟨"TermDraw$Terms", "countLonger", "()V"⟩, 20) := ⟨⟨by decide +kernel, by decide +kernel⟩, List.mem_of_getElem? (i := 333) (by decide +kernel), List.mem_of_getElem? (i := 947) (by decide +kernel), List.mem_of_getElem? (i := 948) (by decide +kernel)⟩
theorem lw_p28 : lw_okq (⟨"TermDraw$Terms", "countGeneral", "(LTermDraw$Told;)V"⟩, 20) := ⟨⟨by decide +kernel, by decide +kernel⟩, List.mem_of_getElem? (i := 333) (by decide +kernel), List.mem_of_getElem? (i := 971) (by decide +kernel), List.mem_of_getElem? (i := 972) (by decide +kernel)⟩
theorem lw_p29 : lw_okq (⟨"TermDraw$Terms", "countAround", "(LTermDraw$Told;)V"⟩, 20) := ⟨⟨by decide +kernel, by decide +kernel⟩, List.mem_of_getElem? (i := 333) (by decide +kernel), List.mem_of_getElem? (i := 977) (by decide +kernel), List.mem_of_getElem? (i := 978) (by decide +kernel)⟩
theorem lw_p30 : lw_okq (⟨"TermDraw$Terms", "findBeside", "(LTermDraw$Told;I)I"⟩, 20) := ⟨⟨by decide +kernel, by decide +kernel⟩, List.mem_of_getElem? (i := 333) (by decide +kernel), List.mem_of_getElem? (i := 988) (by decide +kernel), List.mem_of_getElem? (i := 989) (by decide +kernel)⟩
theorem lw_p31 : lw_okq (⟨"TermDraw$Terms", "sumNear", "(LTermDraw$Told;)V"⟩, 20) := ⟨⟨by decide +kernel, by decide +kernel⟩, List.mem_of_getElem? (i := 333) (by decide +kernel), List.mem_of_getElem? (i := 992) (by decide +kernel), List.mem_of_getElem? (i := 993) (by decide +kernel)⟩
def lw_privs_2 : List (MethodName × Nat) := [(⟨"TermDraw", "endReading", "()Z"⟩, 15), (⟨"TermDraw", "keepChange", "()V"⟩, 15), (⟨"TermDraw", "sizeOf", "(I)I"⟩, 15), (⟨"TermDraw", "draw", "()V"⟩, 15), (⟨"TermDraw$Matches", "addFrom", "(LTermDraw$Told;LTermDraw$Bases;I)V"⟩, 9), (⟨"TermDraw$Pattern", "taking", "(II)I"⟩, 5), (⟨"TermDraw$Matches", "add", "(IIJJ)V"⟩, 9), (⟨"TermDraw$Matches", "markWithin", "()V"⟩, 9), (⟨"TermDraw$Terms", "gather", "(LTermDraw$Told;)V"⟩, 20), (⟨"TermDraw$Terms", "open", "(II)V"⟩, 20), (⟨"TermDraw$Terms", "take", "(LTermDraw$Told;II)V"⟩, 20), (⟨"TermDraw$Terms", "countLonger", "()V"⟩, 20), (⟨"TermDraw$Terms", "countGeneral", "(LTermDraw$Told;)V"⟩, 20), (⟨"TermDraw$Terms", "countAround", "(LTermDraw$Told;)V"⟩, 20), (⟨"TermDraw$Terms", "findBeside", "(LTermDraw$Told;I)I"⟩, 20), (⟨"TermDraw$Terms", "sumNear", "(LTermDraw$Told;)V"⟩, 20)]
theorem lw_r2 : ∀ q ∈ lw_privs_2, lw_okq q := List.forall_mem_cons.mpr ⟨lw_p16, List.forall_mem_cons.mpr ⟨lw_p17, List.forall_mem_cons.mpr ⟨lw_p18, List.forall_mem_cons.mpr ⟨lw_p19, List.forall_mem_cons.mpr ⟨lw_p20, List.forall_mem_cons.mpr ⟨lw_p21, List.forall_mem_cons.mpr ⟨lw_p22, List.forall_mem_cons.mpr ⟨lw_p23, List.forall_mem_cons.mpr ⟨lw_p24, List.forall_mem_cons.mpr ⟨lw_p25, List.forall_mem_cons.mpr ⟨lw_p26, List.forall_mem_cons.mpr ⟨lw_p27, List.forall_mem_cons.mpr ⟨lw_p28, List.forall_mem_cons.mpr ⟨lw_p29, List.forall_mem_cons.mpr ⟨lw_p30, List.forall_mem_cons.mpr ⟨lw_p31, fun _ h => absurd h List.not_mem_nil⟩⟩⟩⟩⟩⟩⟩⟩⟩⟩⟩⟩⟩⟩⟩⟩
theorem lw_p32 : lw_okq (⟨"TermDraw", "readRow", "()J"⟩, 15) := ⟨⟨by decide +kernel, by decide +kernel⟩, List.mem_of_getElem? (i := 23) (by decide +kernel), List.mem_of_getElem? (i := 1045) (by decide +kernel), List.mem_of_getElem? (i := 1046) (by decide +kernel)⟩
theorem lw_p33 : lw_okq (⟨"TermDraw", "weighed", "(II)Z"⟩, 15) := ⟨⟨by decide +kernel, by decide +kernel⟩, List.mem_of_getElem? (i := 23) (by decide +kernel), List.mem_of_getElem? (i := 1066) (by decide +kernel), List.mem_of_getElem? (i := 1067) (by decide +kernel)⟩
theorem lw_p34 : lw_okq (⟨"TermDraw$Measures", "worthAbove", "(LTermDraw$Told;I)J"⟩, 9) := ⟨⟨by decide +kernel, by decide +kernel⟩, List.mem_of_getElem? (i := 416) (by decide +kernel), List.mem_of_getElem? (i := 1084) (by decide +kernel), List.mem_of_getElem? (i := 1085) (by decide +kernel)⟩
theorem lw_p35 : lw_okq (⟨"TermDraw$Measures", "worthBelow", "(I)J"⟩, 9) := ⟨⟨by decide +kernel, by decide +kernel⟩, List.mem_of_getElem? (i := 416) (by decide +kernel), List.mem_of_getElem? (i := 1089) (by decide +kernel), List.mem_of_getElem? (i := 1090) (by decide +kernel)⟩
theorem lw_p36 : lw_okq (⟨"TermDraw$Measures", "oddAbove", "(LTermDraw$Told;I)J"⟩, 9) := ⟨⟨by decide +kernel, by decide +kernel⟩, List.mem_of_getElem? (i := 416) (by decide +kernel), List.mem_of_getElem? (i := 1094) (by decide +kernel), List.mem_of_getElem? (i := 1095) (by decide +kernel)⟩
theorem lw_p37 : lw_okq (⟨"TermDraw$Measures", "oddBelow", "(LTermDraw$Told;I)J"⟩, 9) := ⟨⟨by decide +kernel, by decide +kernel⟩, List.mem_of_getElem? (i := 416) (by decide +kernel), List.mem_of_getElem? (i := 1098) (by decide +kernel), List.mem_of_getElem? (i := 1099) (by decide +kernel)⟩
theorem lw_p38 : lw_okq (⟨"TermDraw$Measures", "setNear", "(LTermDraw$Told;I)V"⟩, 9) := ⟨⟨by decide +kernel, by decide +kernel⟩, List.mem_of_getElem? (i := 416) (by decide +kernel), List.mem_of_getElem? (i := 1102) (by decide +kernel), List.mem_of_getElem? (i := 1103) (by decide +kernel)⟩
theorem lw_p39 : lw_okq (⟨"TermDraw$Terms", "lastOf", "(I)I"⟩, 20) := ⟨⟨by decide +kernel, by decide +kernel⟩, List.mem_of_getElem? (i := 333) (by decide +kernel), List.mem_of_getElem? (i := 1221) (by decide +kernel), List.mem_of_getElem? (i := 1222) (by decide +kernel)⟩
theorem lw_p40 : lw_okq (⟨"TermDraw$Measures", "coverOne", "(I)I"⟩, 9) := ⟨⟨by decide +kernel, by decide +kernel⟩, List.mem_of_getElem? (i := 416) (by decide +kernel), List.mem_of_getElem? (i := 1241) (by decide +kernel), List.mem_of_getElem? (i := 1242) (by decide +kernel)⟩
theorem lw_p41 : lw_okq (⟨"TermDrawModel", "begins", "()V"⟩, 65) := ⟨⟨by decide +kernel, by decide +kernel⟩, List.mem_of_getElem? (i := 1249) (by decide +kernel), List.mem_of_getElem? (i := 1298) (by decide +kernel), List.mem_of_getElem? (i := 1299) (by decide +kernel)⟩
theorem lw_p42 : lw_okq (⟨"TermDrawModel", "readPattern", "()Z"⟩, 65) := ⟨⟨by decide +kernel, by decide +kernel⟩, List.mem_of_getElem? (i := 1249) (by decide +kernel), List.mem_of_getElem? (i := 1302) (by decide +kernel), List.mem_of_getElem? (i := 1303) (by decide +kernel)⟩
theorem lw_p43 : lw_okq (⟨"TermDrawModel", "readAlt", "()Z"⟩, 65) := ⟨⟨by decide +kernel, by decide +kernel⟩, List.mem_of_getElem? (i := 1249) (by decide +kernel), List.mem_of_getElem? (i := 1306) (by decide +kernel), List.mem_of_getElem? (i := 1307) (by decide +kernel)⟩
theorem lw_p44 : lw_okq (⟨"TermDrawModel", "readRow", "()Z"⟩, 65) := ⟨⟨by decide +kernel, by decide +kernel⟩, List.mem_of_getElem? (i := 1249) (by decide +kernel), List.mem_of_getElem? (i := 1310) (by decide +kernel), List.mem_of_getElem? (i := 1311) (by decide +kernel)⟩
theorem lw_p45 : lw_okq (⟨"TermDrawModel", "isAtom", "()Z"⟩, 65) := ⟨⟨by decide +kernel, by decide +kernel⟩, List.mem_of_getElem? (i := 1249) (by decide +kernel), List.mem_of_getElem? (i := 1314) (by decide +kernel), List.mem_of_getElem? (i := 1315) (by decide +kernel)⟩
theorem lw_p46 : lw_okq (⟨"TermDrawModel", "see", "()I"⟩, 65) := ⟨⟨by decide +kernel, by decide +kernel⟩, List.mem_of_getElem? (i := 1249) (by decide +kernel), List.mem_of_getElem? (i := 1318) (by decide +kernel), List.mem_of_getElem? (i := 1319) (by decide +kernel)⟩
theorem lw_p47 : lw_okq (⟨"TermDrawModel", "readItem", "()Z"⟩, 65) := ⟨⟨by decide +kernel, by decide +kernel⟩, List.mem_of_getElem? (i := 1249) (by decide +kernel), List.mem_of_getElem? (i := 1325) (by decide +kernel), List.mem_of_getElem? (i := 1326) (by decide +kernel)⟩
def lw_privs_3 : List (MethodName × Nat) := [(⟨"TermDraw", "readRow", "()J"⟩, 15), (⟨"TermDraw", "weighed", "(II)Z"⟩, 15), (⟨"TermDraw$Measures", "worthAbove", "(LTermDraw$Told;I)J"⟩, 9), (⟨"TermDraw$Measures", "worthBelow", "(I)J"⟩, 9), (⟨"TermDraw$Measures", "oddAbove", "(LTermDraw$Told;I)J"⟩, 9), (⟨"TermDraw$Measures", "oddBelow", "(LTermDraw$Told;I)J"⟩, 9), (⟨"TermDraw$Measures", "setNear", "(LTermDraw$Told;I)V"⟩, 9), (⟨"TermDraw$Terms", "lastOf", "(I)I"⟩, 20), (⟨"TermDraw$Measures", "coverOne", "(I)I"⟩, 9), (⟨"TermDrawModel", "begins", "()V"⟩, 65), (⟨"TermDrawModel", "readPattern", "()Z"⟩, 65), (⟨"TermDrawModel", "readAlt", "()Z"⟩, 65), (⟨"TermDrawModel", "readRow", "()Z"⟩, 65), (⟨"TermDrawModel", "isAtom", "()Z"⟩, 65), (⟨"TermDrawModel", "see", "()I"⟩, 65), (⟨"TermDrawModel", "readItem", "()Z"⟩, 65)]
theorem lw_r3 : ∀ q ∈ lw_privs_3, lw_okq q := List.forall_mem_cons.mpr ⟨lw_p32, List.forall_mem_cons.mpr ⟨lw_p33, List.forall_mem_cons.mpr ⟨lw_p34, List.forall_mem_cons.mpr ⟨lw_p35, List.forall_mem_cons.mpr ⟨lw_p36, List.forall_mem_cons.mpr ⟨lw_p37, List.forall_mem_cons.mpr ⟨lw_p38, List.forall_mem_cons.mpr ⟨lw_p39, List.forall_mem_cons.mpr ⟨lw_p40, List.forall_mem_cons.mpr ⟨lw_p41, List.forall_mem_cons.mpr ⟨lw_p42, List.forall_mem_cons.mpr ⟨lw_p43, List.forall_mem_cons.mpr ⟨lw_p44, List.forall_mem_cons.mpr ⟨lw_p45, List.forall_mem_cons.mpr ⟨lw_p46, List.forall_mem_cons.mpr ⟨lw_p47, fun _ h => absurd h List.not_mem_nil⟩⟩⟩⟩⟩⟩⟩⟩⟩⟩⟩⟩⟩⟩⟩⟩
theorem lw_p48 : lw_okq (⟨"TermDrawModel", "readAtom", "()Z"⟩, 65) := ⟨⟨by decide +kernel, by decide +kernel⟩, List.mem_of_getElem? (i := 1249) (by decide +kernel), List.mem_of_getElem? (i := 1329) (by decide +kernel), List.mem_of_getElem? (i := 1330) (by decide +kernel)⟩
theorem lw_p49 : lw_okq (⟨"TermDrawModel", "fails", "(II)Z"⟩, 65) := ⟨⟨by decide +kernel, by decide +kernel⟩, List.mem_of_getElem? (i := 1249) (by decide +kernel), List.mem_of_getElem? (i := 1333) (by decide +kernel), List.mem_of_getElem? (i := 1334) (by decide +kernel)⟩
theorem lw_p50 : lw_okq (⟨"TermDrawModel", "takes", "(I)Z"⟩, 65) := ⟨⟨by decide +kernel, by decide +kernel⟩, List.mem_of_getElem? (i := 1249) (by decide +kernel), List.mem_of_getElem? (i := 1337) (by decide +kernel), List.mem_of_getElem? (i := 1338) (by decide +kernel)⟩
theorem lw_p51 : lw_okq (⟨"TermDrawModel", "follows", "(II)V"⟩, 65) := ⟨⟨by decide +kernel, by decide +kernel⟩, List.mem_of_getElem? (i := 1249) (by decide +kernel), List.mem_of_getElem? (i := 1341) (by decide +kernel), List.mem_of_getElem? (i := 1342) (by decide +kernel)⟩
theorem lw_p52 : lw_okq (⟨"TermDrawModel", "keepsPattern", "()V"⟩, 65) := ⟨⟨by decide +kernel, by decide +kernel⟩, List.mem_of_getElem? (i := 1249) (by decide +kernel), List.mem_of_getElem? (i := 1348) (by decide +kernel), List.mem_of_getElem? (i := 1349) (by decide +kernel)⟩
theorem lw_p53 : lw_okq (⟨"TermDrawModel", "four", "(I)V"⟩, 65) := ⟨⟨by decide +kernel, by decide +kernel⟩, List.mem_of_getElem? (i := 1249) (by decide +kernel), List.mem_of_getElem? (i := 1561) (by decide +kernel), List.mem_of_getElem? (i := 1562) (by decide +kernel)⟩
theorem lw_p54 : lw_okq (⟨"TermDrawModel", "refuses", "()I"⟩, 65) := ⟨⟨by decide +kernel, by decide +kernel⟩, List.mem_of_getElem? (i := 1249) (by decide +kernel), List.mem_of_getElem? (i := 1577) (by decide +kernel), List.mem_of_getElem? (i := 1578) (by decide +kernel)⟩
theorem lw_p55 : lw_okq (⟨"TermDrawModel", "tries", "()V"⟩, 65) := ⟨⟨by decide +kernel, by decide +kernel⟩, List.mem_of_getElem? (i := 1249) (by decide +kernel), List.mem_of_getElem? (i := 1581) (by decide +kernel), List.mem_of_getElem? (i := 1582) (by decide +kernel)⟩
theorem lw_p56 : lw_okq (⟨"TermDrawModel", "readText", "(I)Z"⟩, 65) := ⟨⟨by decide +kernel, by decide +kernel⟩, List.mem_of_getElem? (i := 1249) (by decide +kernel), List.mem_of_getElem? (i := 1585) (by decide +kernel), List.mem_of_getElem? (i := 1586) (by decide +kernel)⟩
theorem lw_p57 : lw_okq (⟨"TermDrawModel", "readLexicon", "()Z"⟩, 65) := ⟨⟨by decide +kernel, by decide +kernel⟩, List.mem_of_getElem? (i := 1249) (by decide +kernel), List.mem_of_getElem? (i := 1589) (by decide +kernel), List.mem_of_getElem? (i := 1590) (by decide +kernel)⟩
theorem lw_p58 : lw_okq (⟨"TermDrawModel", "readWord", "()Z"⟩, 65) := ⟨⟨by decide +kernel, by decide +kernel⟩, List.mem_of_getElem? (i := 1249) (by decide +kernel), List.mem_of_getElem? (i := 1593) (by decide +kernel), List.mem_of_getElem? (i := 1594) (by decide +kernel)⟩
theorem lw_p59 : lw_okq (⟨"TermDrawModel", "isLetter", "()Z"⟩, 65) := ⟨⟨by decide +kernel, by decide +kernel⟩, List.mem_of_getElem? (i := 1249) (by decide +kernel), List.mem_of_getElem? (i := 1597) (by decide +kernel), List.mem_of_getElem? (i := 1598) (by decide +kernel)⟩
theorem lw_p60 : lw_okq (⟨"TermDrawModel", "lexiconOf", "(J)I"⟩, 65) := ⟨⟨by decide +kernel, by decide +kernel⟩, List.mem_of_getElem? (i := 1249) (by decide +kernel), List.mem_of_getElem? (i := 1611) (by decide +kernel), List.mem_of_getElem? (i := 1612) (by decide +kernel)⟩
theorem lw_p61 : lw_okq (⟨"TermDrawModel", "readEndings", "()Z"⟩, 65) := ⟨⟨by decide +kernel, by decide +kernel⟩, List.mem_of_getElem? (i := 1249) (by decide +kernel), List.mem_of_getElem? (i := 1616) (by decide +kernel), List.mem_of_getElem? (i := 1617) (by decide +kernel)⟩
theorem lw_p62 : lw_okq (⟨"TermDrawModel", "readSame", "()Z"⟩, 65) := ⟨⟨by decide +kernel, by decide +kernel⟩, List.mem_of_getElem? (i := 1249) (by decide +kernel), List.mem_of_getElem? (i := 1621) (by decide +kernel), List.mem_of_getElem? (i := 1622) (by decide +kernel)⟩
theorem lw_p63 : lw_okq (⟨"TermDrawModel", "sameOf", "(J)J"⟩, 65) := ⟨⟨by decide +kernel, by decide +kernel⟩, List.mem_of_getElem? (i := 1249) (by decide +kernel), List.mem_of_getElem? (i := 1626) (by decide +kernel), List.mem_of_getElem? (i := 1627) (by decide +kernel)⟩
def lw_privs_4 : List (MethodName × Nat) := [(⟨"TermDrawModel", "readAtom", "()Z"⟩, 65), (⟨"TermDrawModel", "fails", "(II)Z"⟩, 65), (⟨"TermDrawModel", "takes", "(I)Z"⟩, 65), (⟨"TermDrawModel", "follows", "(II)V"⟩, 65), (⟨"TermDrawModel", "keepsPattern", "()V"⟩, 65), (⟨"TermDrawModel", "four", "(I)V"⟩, 65), (⟨"TermDrawModel", "refuses", "()I"⟩, 65), (⟨"TermDrawModel", "tries", "()V"⟩, 65), (⟨"TermDrawModel", "readText", "(I)Z"⟩, 65), (⟨"TermDrawModel", "readLexicon", "()Z"⟩, 65), (⟨"TermDrawModel", "readWord", "()Z"⟩, 65), (⟨"TermDrawModel", "isLetter", "()Z"⟩, 65), (⟨"TermDrawModel", "lexiconOf", "(J)I"⟩, 65), (⟨"TermDrawModel", "readEndings", "()Z"⟩, 65), (⟨"TermDrawModel", "readSame", "()Z"⟩, 65), (⟨"TermDrawModel", "sameOf", "(J)J"⟩, 65)]
theorem lw_r4 : ∀ q ∈ lw_privs_4, lw_okq q := List.forall_mem_cons.mpr ⟨lw_p48, List.forall_mem_cons.mpr ⟨lw_p49, List.forall_mem_cons.mpr ⟨lw_p50, List.forall_mem_cons.mpr ⟨lw_p51, List.forall_mem_cons.mpr ⟨lw_p52, List.forall_mem_cons.mpr ⟨lw_p53, List.forall_mem_cons.mpr ⟨lw_p54, List.forall_mem_cons.mpr ⟨lw_p55, List.forall_mem_cons.mpr ⟨lw_p56, List.forall_mem_cons.mpr ⟨lw_p57, List.forall_mem_cons.mpr ⟨lw_p58, List.forall_mem_cons.mpr ⟨lw_p59, List.forall_mem_cons.mpr ⟨lw_p60, List.forall_mem_cons.mpr ⟨lw_p61, List.forall_mem_cons.mpr ⟨lw_p62, List.forall_mem_cons.mpr ⟨lw_p63, fun _ h => absurd h List.not_mem_nil⟩⟩⟩⟩⟩⟩⟩⟩⟩⟩⟩⟩⟩⟩⟩⟩
theorem lw_p64 : lw_okq (⟨"TermDrawModel", "readWords", "(III)I"⟩, 65) := ⟨⟨by decide +kernel, by decide +kernel⟩, List.mem_of_getElem? (i := 1249) (by decide +kernel), List.mem_of_getElem? (i := 1630) (by decide +kernel), List.mem_of_getElem? (i := 1631) (by decide +kernel)⟩
theorem lw_p65 : lw_okq (⟨"TermDrawModel", "ends", "(Z)Z"⟩, 65) := ⟨⟨by decide +kernel, by decide +kernel⟩, List.mem_of_getElem? (i := 1249) (by decide +kernel), List.mem_of_getElem? (i := 1634) (by decide +kernel), List.mem_of_getElem? (i := 1635) (by decide +kernel)⟩
theorem lw_p66 : lw_okq (⟨"TermDrawModel", "keeps", "()V"⟩, 65) := ⟨⟨by decide +kernel, by decide +kernel⟩, List.mem_of_getElem? (i := 1249) (by decide +kernel), List.mem_of_getElem? (i := 1638) (by decide +kernel), List.mem_of_getElem? (i := 1639) (by decide +kernel)⟩
theorem lw_p67 : lw_okq (⟨"TermDrawModel", "wordsOf", "()I"⟩, 65) := ⟨⟨by decide +kernel, by decide +kernel⟩, List.mem_of_getElem? (i := 1249) (by decide +kernel), List.mem_of_getElem? (i := 1646) (by decide +kernel), List.mem_of_getElem? (i := 1647) (by decide +kernel)⟩
theorem lw_p68 : lw_okq (⟨"TermDrawModel", "isDoc", "(I)Z"⟩, 65) := ⟨⟨by decide +kernel, by decide +kernel⟩, List.mem_of_getElem? (i := 1249) (by decide +kernel), List.mem_of_getElem? (i := 1654) (by decide +kernel), List.mem_of_getElem? (i := 1655) (by decide +kernel)⟩
theorem lw_p69 : lw_okq (⟨"TermDrawModel", "isTerm", "(I)Z"⟩, 65) := ⟨⟨by decide +kernel, by decide +kernel⟩, List.mem_of_getElem? (i := 1249) (by decide +kernel), List.mem_of_getElem? (i := 1680) (by decide +kernel), List.mem_of_getElem? (i := 1681) (by decide +kernel)⟩
theorem lw_p70 : lw_okq (⟨"TermDrawModel", "lays", "()V"⟩, 65) := ⟨⟨by decide +kernel, by decide +kernel⟩, List.mem_of_getElem? (i := 1249) (by decide +kernel), List.mem_of_getElem? (i := 1684) (by decide +kernel), List.mem_of_getElem? (i := 1685) (by decide +kernel)⟩
theorem lw_p71 : lw_okq (⟨"TermDrawModel", "layWords", "()V"⟩, 65) := ⟨⟨by decide +kernel, by decide +kernel⟩, List.mem_of_getElem? (i := 1249) (by decide +kernel), List.mem_of_getElem? (i := 1688) (by decide +kernel), List.mem_of_getElem? (i := 1689) (by decide +kernel)⟩
theorem lw_p72 : lw_okq (⟨"TermDrawModel", "baseOf", "(J)J"⟩, 65) := ⟨⟨by decide +kernel, by decide +kernel⟩, List.mem_of_getElem? (i := 1249) (by decide +kernel), List.mem_of_getElem? (i := 1692) (by decide +kernel), List.mem_of_getElem? (i := 1693) (by decide +kernel)⟩
theorem lw_p73 : lw_okq (⟨"TermDrawModel", "kindOf", "(J)I"⟩, 65) := ⟨⟨by decide +kernel, by decide +kernel⟩, List.mem_of_getElem? (i := 1249) (by decide +kernel), List.mem_of_getElem? (i := 1702) (by decide +kernel), List.mem_of_getElem? (i := 1703) (by decide +kernel)⟩
theorem lw_p74 : lw_okq (⟨"TermDrawModel", "basePlace", "(J)I"⟩, 65) := ⟨⟨by decide +kernel, by decide +kernel⟩, List.mem_of_getElem? (i := 1249) (by decide +kernel), List.mem_of_getElem? (i := 1706) (by decide +kernel), List.mem_of_getElem? (i := 1707) (by decide +kernel)⟩
theorem lw_p75 : lw_okq (⟨"TermDrawModel", "isSentence", "(II)Z"⟩, 65) := ⟨⟨by decide +kernel, by decide +kernel⟩, List.mem_of_getElem? (i := 1249) (by decide +kernel), List.mem_of_getElem? (i := 1710) (by decide +kernel), List.mem_of_getElem? (i := 1711) (by decide +kernel)⟩
theorem lw_p76 : lw_okq (⟨"TermDrawModel", "isPattern", "(II)Z"⟩, 65) := ⟨⟨by decide +kernel, by decide +kernel⟩, List.mem_of_getElem? (i := 1249) (by decide +kernel), List.mem_of_getElem? (i := 1714) (by decide +kernel), List.mem_of_getElem? (i := 1715) (by decide +kernel)⟩
theorem lw_p77 : lw_okq (⟨"TermDrawModel", "comes", "(II)V"⟩, 65) := ⟨⟨by decide +kernel, by decide +kernel⟩, List.mem_of_getElem? (i := 1249) (by decide +kernel), List.mem_of_getElem? (i := 1719) (by decide +kernel), List.mem_of_getElem? (i := 1720) (by decide +kernel)⟩
theorem lw_p78 : lw_okq (⟨"TermDrawModel", "placeOf", "([JII)I"⟩, 65) := ⟨⟨by decide +kernel, by decide +kernel⟩, List.mem_of_getElem? (i := 1249) (by decide +kernel), List.mem_of_getElem? (i := 1723) (by decide +kernel), List.mem_of_getElem? (i := 1724) (by decide +kernel)⟩
theorem lw_p79 : lw_okq (⟨"TermDrawModel", "beside", "([JIII)I"⟩, 65) := ⟨⟨by decide +kernel, by decide +kernel⟩, List.mem_of_getElem? (i := 1249) (by decide +kernel), List.mem_of_getElem? (i := 1727) (by decide +kernel), List.mem_of_getElem? (i := 1728) (by decide +kernel)⟩
def lw_privs_5 : List (MethodName × Nat) := [(⟨"TermDrawModel", "readWords", "(III)I"⟩, 65), (⟨"TermDrawModel", "ends", "(Z)Z"⟩, 65), (⟨"TermDrawModel", "keeps", "()V"⟩, 65), (⟨"TermDrawModel", "wordsOf", "()I"⟩, 65), (⟨"TermDrawModel", "isDoc", "(I)Z"⟩, 65), (⟨"TermDrawModel", "isTerm", "(I)Z"⟩, 65), (⟨"TermDrawModel", "lays", "()V"⟩, 65), (⟨"TermDrawModel", "layWords", "()V"⟩, 65), (⟨"TermDrawModel", "baseOf", "(J)J"⟩, 65), (⟨"TermDrawModel", "kindOf", "(J)I"⟩, 65), (⟨"TermDrawModel", "basePlace", "(J)I"⟩, 65), (⟨"TermDrawModel", "isSentence", "(II)Z"⟩, 65), (⟨"TermDrawModel", "isPattern", "(II)Z"⟩, 65), (⟨"TermDrawModel", "comes", "(II)V"⟩, 65), (⟨"TermDrawModel", "placeOf", "([JII)I"⟩, 65), (⟨"TermDrawModel", "beside", "([JIII)I"⟩, 65)]
theorem lw_r5 : ∀ q ∈ lw_privs_5, lw_okq q := List.forall_mem_cons.mpr ⟨lw_p64, List.forall_mem_cons.mpr ⟨lw_p65, List.forall_mem_cons.mpr ⟨lw_p66, List.forall_mem_cons.mpr ⟨lw_p67, List.forall_mem_cons.mpr ⟨lw_p68, List.forall_mem_cons.mpr ⟨lw_p69, List.forall_mem_cons.mpr ⟨lw_p70, List.forall_mem_cons.mpr ⟨lw_p71, List.forall_mem_cons.mpr ⟨lw_p72, List.forall_mem_cons.mpr ⟨lw_p73, List.forall_mem_cons.mpr ⟨lw_p74, List.forall_mem_cons.mpr ⟨lw_p75, List.forall_mem_cons.mpr ⟨lw_p76, List.forall_mem_cons.mpr ⟨lw_p77, List.forall_mem_cons.mpr ⟨lw_p78, List.forall_mem_cons.mpr ⟨lw_p79, fun _ h => absurd h List.not_mem_nil⟩⟩⟩⟩⟩⟩⟩⟩⟩⟩⟩⟩⟩⟩⟩⟩
theorem lw_p80 : lw_okq (⟨"TermDrawModel", "isInLonger", "(II)Z"⟩, 65) := ⟨⟨by decide +kernel, by decide +kernel⟩, List.mem_of_getElem? (i := 1249) (by decide +kernel), List.mem_of_getElem? (i := 1731) (by decide +kernel), List.mem_of_getElem? (i := 1732) (by decide +kernel)⟩
theorem lw_p81 : lw_okq (⟨"TermDrawModel", "layTerm", "(I)V"⟩, 65) := ⟨⟨by decide +kernel, by decide +kernel⟩, List.mem_of_getElem? (i := 1249) (by decide +kernel), List.mem_of_getElem? (i := 1736) (by decide +kernel), List.mem_of_getElem? (i := 1737) (by decide +kernel)⟩
theorem lw_p82 : lw_okq (⟨"TermDrawModel", "isInRow", "(II)Z"⟩, 65) := ⟨⟨by decide +kernel, by decide +kernel⟩, List.mem_of_getElem? (i := 1249) (by decide +kernel), List.mem_of_getElem? (i := 1740) (by decide +kernel), List.mem_of_getElem? (i := 1741) (by decide +kernel)⟩
theorem lw_p83 : lw_okq (⟨"TermDrawModel", "isRow", "([JII)Z"⟩, 65) := ⟨⟨by decide +kernel, by decide +kernel⟩, List.mem_of_getElem? (i := 1249) (by decide +kernel), List.mem_of_getElem? (i := 1744) (by decide +kernel), List.mem_of_getElem? (i := 1745) (by decide +kernel)⟩
theorem lw_p84 : lw_okq (⟨"TermDrawModel", "layLikely", "()V"⟩, 65) := ⟨⟨by decide +kernel, by decide +kernel⟩, List.mem_of_getElem? (i := 1249) (by decide +kernel), List.mem_of_getElem? (i := 1748) (by decide +kernel), List.mem_of_getElem? (i := 1749) (by decide +kernel)⟩
theorem lw_p85 : lw_okq (⟨"TermDrawModel", "surrounds", "(I)V"⟩, 65) := ⟨⟨by decide +kernel, by decide +kernel⟩, List.mem_of_getElem? (i := 1249) (by decide +kernel), List.mem_of_getElem? (i := 1752) (by decide +kernel), List.mem_of_getElem? (i := 1753) (by decide +kernel)⟩
theorem lw_p86 : lw_okq (⟨"TermDrawModel", "isMeasure", "(I)Z"⟩, 65) := ⟨⟨by decide +kernel, by decide +kernel⟩, List.mem_of_getElem? (i := 1249) (by decide +kernel), List.mem_of_getElem? (i := 1756) (by decide +kernel), List.mem_of_getElem? (i := 1757) (by decide +kernel)⟩
theorem lw_p87 : lw_okq (⟨"TermDrawModel", "measures", "(II)V"⟩, 65) := ⟨⟨by decide +kernel, by decide +kernel⟩, List.mem_of_getElem? (i := 1249) (by decide +kernel), List.mem_of_getElem? (i := 1762) (by decide +kernel), List.mem_of_getElem? (i := 1763) (by decide +kernel)⟩
theorem lw_p88 : lw_okq (⟨"TermDrawModel", "puts", "(JJ)V"⟩, 65) := ⟨⟨by decide +kernel, by decide +kernel⟩, List.mem_of_getElem? (i := 1249) (by decide +kernel), List.mem_of_getElem? (i := 1766) (by decide +kernel), List.mem_of_getElem? (i := 1767) (by decide +kernel)⟩
theorem lw_p89 : lw_okq (⟨"TermDrawModel", "worth", "(I)V"⟩, 65) := ⟨⟨by decide +kernel, by decide +kernel⟩, List.mem_of_getElem? (i := 1249) (by decide +kernel), List.mem_of_getElem? (i := 1773) (by decide +kernel), List.mem_of_getElem? (i := 1774) (by decide +kernel)⟩
theorem lw_p90 : lw_okq (⟨"TermDrawModel", "odd", "(I)V"⟩, 65) := ⟨⟨by decide +kernel, by decide +kernel⟩, List.mem_of_getElem? (i := 1249) (by decide +kernel), List.mem_of_getElem? (i := 1777) (by decide +kernel), List.mem_of_getElem? (i := 1778) (by decide +kernel)⟩
theorem lw_p91 : lw_okq (⟨"TermDrawModel", "near", "(I)V"⟩, 65) := ⟨⟨by decide +kernel, by decide +kernel⟩, List.mem_of_getElem? (i := 1249) (by decide +kernel), List.mem_of_getElem? (i := 1781) (by decide +kernel), List.mem_of_getElem? (i := 1782) (by decide +kernel)⟩
theorem lw_p92 : lw_okq (⟨"TermDrawModel", "ranks", "(I)V"⟩, 65) := ⟨⟨by decide +kernel, by decide +kernel⟩, List.mem_of_getElem? (i := 1249) (by decide +kernel), List.mem_of_getElem? (i := 1822) (by decide +kernel), List.mem_of_getElem? (i := 1823) (by decide +kernel)⟩
theorem lw_p93 : lw_okq (⟨"TermDrawModel", "merges", "(III)V"⟩, 65) := ⟨⟨by decide +kernel, by decide +kernel⟩, List.mem_of_getElem? (i := 1249) (by decide +kernel), List.mem_of_getElem? (i := 1827) (by decide +kernel), List.mem_of_getElem? (i := 1828) (by decide +kernel)⟩
theorem lw_p94 : lw_okq (⟨"TermDrawModel", "isAhead", "(II)Z"⟩, 65) := ⟨⟨by decide +kernel, by decide +kernel⟩, List.mem_of_getElem? (i := 1249) (by decide +kernel), List.mem_of_getElem? (i := 1831) (by decide +kernel), List.mem_of_getElem? (i := 1832) (by decide +kernel)⟩
theorem lw_p95 : lw_okq (⟨"TermDrawModel", "isWord", "(II)Z"⟩, 65) := ⟨⟨by decide +kernel, by decide +kernel⟩, List.mem_of_getElem? (i := 1249) (by decide +kernel), List.mem_of_getElem? (i := 1853) (by decide +kernel), List.mem_of_getElem? (i := 1854) (by decide +kernel)⟩
def lw_privs_6 : List (MethodName × Nat) := [(⟨"TermDrawModel", "isInLonger", "(II)Z"⟩, 65), (⟨"TermDrawModel", "layTerm", "(I)V"⟩, 65), (⟨"TermDrawModel", "isInRow", "(II)Z"⟩, 65), (⟨"TermDrawModel", "isRow", "([JII)Z"⟩, 65), (⟨"TermDrawModel", "layLikely", "()V"⟩, 65), (⟨"TermDrawModel", "surrounds", "(I)V"⟩, 65), (⟨"TermDrawModel", "isMeasure", "(I)Z"⟩, 65), (⟨"TermDrawModel", "measures", "(II)V"⟩, 65), (⟨"TermDrawModel", "puts", "(JJ)V"⟩, 65), (⟨"TermDrawModel", "worth", "(I)V"⟩, 65), (⟨"TermDrawModel", "odd", "(I)V"⟩, 65), (⟨"TermDrawModel", "near", "(I)V"⟩, 65), (⟨"TermDrawModel", "ranks", "(I)V"⟩, 65), (⟨"TermDrawModel", "merges", "(III)V"⟩, 65), (⟨"TermDrawModel", "isAhead", "(II)Z"⟩, 65), (⟨"TermDrawModel", "isWord", "(II)Z"⟩, 65)]
theorem lw_r6 : ∀ q ∈ lw_privs_6, lw_okq q := List.forall_mem_cons.mpr ⟨lw_p80, List.forall_mem_cons.mpr ⟨lw_p81, List.forall_mem_cons.mpr ⟨lw_p82, List.forall_mem_cons.mpr ⟨lw_p83, List.forall_mem_cons.mpr ⟨lw_p84, List.forall_mem_cons.mpr ⟨lw_p85, List.forall_mem_cons.mpr ⟨lw_p86, List.forall_mem_cons.mpr ⟨lw_p87, List.forall_mem_cons.mpr ⟨lw_p88, List.forall_mem_cons.mpr ⟨lw_p89, List.forall_mem_cons.mpr ⟨lw_p90, List.forall_mem_cons.mpr ⟨lw_p91, List.forall_mem_cons.mpr ⟨lw_p92, List.forall_mem_cons.mpr ⟨lw_p93, List.forall_mem_cons.mpr ⟨lw_p94, List.forall_mem_cons.mpr ⟨lw_p95, fun _ h => absurd h List.not_mem_nil⟩⟩⟩⟩⟩⟩⟩⟩⟩⟩⟩⟩⟩⟩⟩⟩
theorem lw_p96 : lw_okq (⟨"TermDrawModel", "saysWord", "(J)V"⟩, 65) := ⟨⟨by decide +kernel, by decide +kernel⟩, List.mem_of_getElem? (i := 1249) (by decide +kernel), List.mem_of_getElem? (i := 1857) (by decide +kernel), List.mem_of_getElem? (i := 1858) (by decide +kernel)⟩
theorem lw_p97 : lw_okq (⟨"TermDrawModel", "says", "(I)V"⟩, 65) := ⟨⟨by decide +kernel, by decide +kernel⟩, List.mem_of_getElem? (i := 1249) (by decide +kernel), List.mem_of_getElem? (i := 1861) (by decide +kernel), List.mem_of_getElem? (i := 1862) (by decide +kernel)⟩
theorem lw_p98 : lw_okq (⟨"TermDrawModel", "findsForms", "(I)V"⟩, 65) := ⟨⟨by decide +kernel, by decide +kernel⟩, List.mem_of_getElem? (i := 1249) (by decide +kernel), List.mem_of_getElem? (i := 1884) (by decide +kernel), List.mem_of_getElem? (i := 1885) (by decide +kernel)⟩
theorem lw_p99 : lw_okq (⟨"TermDrawModel", "isForm", "(II)Z"⟩, 65) := ⟨⟨by decide +kernel, by decide +kernel⟩, List.mem_of_getElem? (i := 1249) (by decide +kernel), List.mem_of_getElem? (i := 1888) (by decide +kernel), List.mem_of_getElem? (i := 1889) (by decide +kernel)⟩
theorem lw_p100 : lw_okq (⟨"TermDrawModel", "isFormAhead", "(II)Z"⟩, 65) := ⟨⟨by decide +kernel, by decide +kernel⟩, List.mem_of_getElem? (i := 1249) (by decide +kernel), List.mem_of_getElem? (i := 1892) (by decide +kernel), List.mem_of_getElem? (i := 1893) (by decide +kernel)⟩
theorem lw_p101 : lw_okq (⟨"TermDrawModel", "aroundOf", "(I)I"⟩, 65) := ⟨⟨by decide +kernel, by decide +kernel⟩, List.mem_of_getElem? (i := 1249) (by decide +kernel), List.mem_of_getElem? (i := 1904) (by decide +kernel), List.mem_of_getElem? (i := 1905) (by decide +kernel)⟩
def lw_privs_7 : List (MethodName × Nat) := [(⟨"TermDrawModel", "saysWord", "(J)V"⟩, 65), (⟨"TermDrawModel", "says", "(I)V"⟩, 65), (⟨"TermDrawModel", "findsForms", "(I)V"⟩, 65), (⟨"TermDrawModel", "isForm", "(II)Z"⟩, 65), (⟨"TermDrawModel", "isFormAhead", "(II)Z"⟩, 65), (⟨"TermDrawModel", "aroundOf", "(I)I"⟩, 65)]
theorem lw_r7 : ∀ q ∈ lw_privs_7, lw_okq q := List.forall_mem_cons.mpr ⟨lw_p96, List.forall_mem_cons.mpr ⟨lw_p97, List.forall_mem_cons.mpr ⟨lw_p98, List.forall_mem_cons.mpr ⟨lw_p99, List.forall_mem_cons.mpr ⟨lw_p100, List.forall_mem_cons.mpr ⟨lw_p101, fun _ h => absurd h List.not_mem_nil⟩⟩⟩⟩⟩⟩
def lw_privs : List (MethodName × Nat) := lw_privs_1 ++ (lw_privs_2 ++ (lw_privs_3 ++ (lw_privs_4 ++ (lw_privs_5 ++ (lw_privs_6 ++ (lw_privs_7))))))
def lw_tbl : List Cond := k2_sels lw_privs ++ tables_1
theorem lw_privs_ok : ∀ q ∈ lw_privs, lw_okq q := by
  show ∀ q ∈ lw_privs_1 ++ (lw_privs_2 ++ (lw_privs_3 ++ (lw_privs_4 ++ (lw_privs_5 ++ (lw_privs_6 ++ (lw_privs_7)))))), lw_okq q
  exact List.forall_mem_append.mpr ⟨lw_r1, List.forall_mem_append.mpr ⟨lw_r2, List.forall_mem_append.mpr ⟨lw_r3, List.forall_mem_append.mpr ⟨lw_r4, List.forall_mem_append.mpr ⟨lw_r5, List.forall_mem_append.mpr ⟨lw_r6, lw_r7⟩⟩⟩⟩⟩⟩
/-- the streams that the claim lets the run draw from -/
abbrev lw_cs : List Choice := [Jvm.Choice.named "NaN.bits"]
theorem lw_bits : nanBits ∈ lw_cs := by first | decide | exact List.mem_cons_self | simp [lw_cs, nanBits]
end
section
/-! my tables of the program: classes, methods, their instructions by place; made by wip/whole/gen_prog.py -/
def mm_R0 : String := "TermDraw$Bases"
def mm_T0 : u_T := fun k => match k with
  | 0 => ("TermDraw$Bases", "base", "[J", true)
  | 1 => ("TermDraw$Bases", "kind", "[I", true)
  | 2 => ("TermDraw$Bases", "id", "[I", true)
  | 3 => ("TermDraw$Bases", "form", "[I", true)
  | 4 => ("TermDraw$Bases", "generalId", "[I", true)
  | 5 => ("TermDraw$Bases", "unlike", "[J", true)
  | 6 => ("TermDraw$Bases", "unlikeForms", "[J", true)
  | _ => ("TermDraw$Bases", "size", "I", false)
def mm_R1 : String := "TermDraw$Bytes"
def mm_T1 : u_T := fun k => match k with
  | 0 => ("TermDraw$Bytes", "cells", "[I", true)
  | _ => ("TermDraw$Bytes", "size", "I", false)
def mm_R2 : String := "TermDraw$Matches"
def mm_T2 : u_T := fun k => match k with
  | 0 => ("TermDraw$Order", "order", "[I", true)
  | 1 => ("TermDraw$Order", "spare", "[I", true)
  | 2 => ("TermDraw$Matches", "first", "[I", true)
  | 3 => ("TermDraw$Matches", "length", "[I", true)
  | 4 => ("TermDraw$Matches", "term", "[I", true)
  | 5 => ("TermDraw$Matches", "within", "[I", true)
  | 6 => ("TermDraw$Matches", "row", "[J", true)
  | 7 => ("TermDraw$Matches", "form", "[J", true)
  | _ => ("TermDraw$Matches", "size", "I", false)
def mm_R3 : String := "TermDraw$Measures"
def mm_T3 : u_T := fun k => match k with
  | 0 => ("TermDraw$Order", "order", "[I", true)
  | 1 => ("TermDraw$Order", "spare", "[I", true)
  | 2 => ("TermDraw$Measures", "terms", "LTermDraw$Terms;", true)
  | 3 => ("TermDraw$Measures", "aboves", "[J", true)
  | 4 => ("TermDraw$Measures", "belows", "[J", true)
  | 5 => ("TermDraw$Measures", "ranks", "[I", true)
  | 6 => ("TermDraw$Measures", "ready", "I", false)
  | 7 => ("TermDraw$Measures", "above", "J", false)
  | _ => ("TermDraw$Measures", "below", "J", false)
def mm_R4 : String := "TermDraw$Pairs"
def mm_T4 : u_T := fun k => match k with
  | 0 => ("TermDraw$Pairs", "left", "[J", true)
  | 1 => ("TermDraw$Pairs", "right", "[J", true)
  | _ => ("TermDraw$Pairs", "size", "I", false)
def mm_R5 : String := "TermDraw$Pattern"
def mm_T5 : u_T := fun k => match k with
  | 0 => ("TermDraw$Pattern", "kinds", "[I", true)
  | 1 => ("TermDraw$Pattern", "follow", "[I", true)
  | 2 => ("TermDraw$Pattern", "size", "I", false)
  | 3 => ("TermDraw$Pattern", "first", "I", false)
  | _ => ("TermDraw$Pattern", "last", "I", false)
def mm_R6 : String := "TermDraw$Prose"
def mm_T6 : u_T := fun k => match k with
  | 0 => ("TermDraw$Prose", "words", "[J", true)
  | 1 => ("TermDraw$Prose", "sentences", "[I", true)
  | _ => ("TermDraw$Prose", "size", "I", false)
def mm_R7 : String := "TermDraw$Reader"
def mm_T7 : u_T := fun k => match k with
  | 0 => ("TermDraw$Reader", "tape", "LTermDraw$Bytes;", true)
  | 1 => ("TermDraw$Reader", "behind", "I", false)
  | 2 => ("TermDraw$Reader", "place", "I", false)
  | 3 => ("TermDraw$Reader", "sign", "I", false)
  | 4 => ("TermDraw$Reader", "word", "J", false)
  | 5 => ("TermDraw$Reader", "fault", "I", false)
  | _ => ("TermDraw$Reader", "faultPlace", "I", false)
def mm_R8 : String := "TermDraw$Terms"
def mm_T8 : u_T := fun k => match k with
  | 0 => ("TermDraw$Terms", "bases", "LTermDraw$Bases;", true)
  | 1 => ("TermDraw$Terms", "matches", "LTermDraw$Matches;", true)
  | 2 => ("TermDraw$Terms", "row", "[J", true)
  | 3 => ("TermDraw$Terms", "start", "[I", true)
  | 4 => ("TermDraw$Terms", "count", "[I", true)
  | 5 => ("TermDraw$Terms", "free", "[I", true)
  | 6 => ("TermDraw$Terms", "longer", "[I", true)
  | 7 => ("TermDraw$Terms", "taken", "[I", true)
  | 8 => ("TermDraw$Terms", "forms", "[I", true)
  | 9 => ("TermDraw$Terms", "common", "[I", true)
  | 10 => ("TermDraw$Terms", "first", "[I", true)
  | 11 => ("TermDraw$Terms", "general", "[I", true)
  | 12 => ("TermDraw$Terms", "docs", "[I", true)
  | 13 => ("TermDraw$Terms", "unlikeAround", "[I", true)
  | 14 => ("TermDraw$Terms", "near", "[I", true)
  | 15 => ("TermDraw$Terms", "seen", "[I", true)
  | 16 => ("TermDraw$Terms", "likelyTerms", "[I", true)
  | 17 => ("TermDraw$Terms", "tally", "[I", true)
  | 18 => ("TermDraw$Terms", "beside", "[I", true)
  | _ => ("TermDraw$Terms", "size", "I", false)
def mm_R9 : String := "TermDraw$Told"
def mm_T9 : u_T := fun k => match k with
  | 0 => ("TermDraw$Told", "lexicon", "LTermDraw$Pairs;", true)
  | 1 => ("TermDraw$Told", "endings", "LTermDraw$Pairs;", true)
  | 2 => ("TermDraw$Told", "same", "LTermDraw$Pairs;", true)
  | 3 => ("TermDraw$Told", "docs", "LTermDraw$Prose;", true)
  | 4 => ("TermDraw$Told", "docEnds", "[I", true)
  | 5 => ("TermDraw$Told", "general", "LTermDraw$Prose;", true)
  | 6 => ("TermDraw$Told", "pattern", "LTermDraw$Pattern;", true)
  | 7 => ("TermDraw$Told", "weights", "[I", true)
  | 8 => ("TermDraw$Told", "sameWords", "I", false)
  | 9 => ("TermDraw$Told", "docCount", "I", false)
  | 10 => ("TermDraw$Told", "least", "I", false)
  | 11 => ("TermDraw$Told", "most", "I", false)
  | _ => ("TermDraw$Told", "wide", "I", false)
def mm_R10 : String := "TermDraw"
def mm_T10 : u_T := fun k => match k with
  | 0 => ("TermDraw", "tape", "LTermDraw$Bytes;", true)
  | 1 => ("TermDraw", "slate", "LTermDraw$Bytes;", true)
  | 2 => ("TermDraw", "reader", "LTermDraw$Reader;", true)
  | 3 => ("TermDraw", "ring", "[LTermDraw$Told;", true)
  | 4 => ("TermDraw", "bases", "LTermDraw$Bases;", true)
  | 5 => ("TermDraw", "matches", "LTermDraw$Matches;", true)
  | 6 => ("TermDraw", "terms", "LTermDraw$Terms;", true)
  | 7 => ("TermDraw", "measures", "LTermDraw$Measures;", true)
  | 8 => ("TermDraw", "now", "LTermDraw$Told;", false)
  | 9 => ("TermDraw", "draft", "LTermDraw$Told;", false)
  | 10 => ("TermDraw", "top", "I", false)
  | 11 => ("TermDraw", "undos", "I", false)
  | 12 => ("TermDraw", "fault", "I", false)
  | 13 => ("TermDraw", "faultPlace", "I", false)
  | _ => ("TermDraw", "drawn", "Z", false)
def mm_R11 : String := "TermDrawModel"
def mm_T11 : u_T := fun k => match k with
  | 0 => ("TermDrawModel", "now", "[J", true)
  | 1 => ("TermDrawModel", "past", "[J", true)
  | 2 => ("TermDrawModel", "pasts", "I", false)
  | 3 => ("TermDrawModel", "aside", "[J", true)
  | 4 => ("TermDrawModel", "tape", "[I", true)
  | 5 => ("TermDrawModel", "taped", "I", false)
  | 6 => ("TermDrawModel", "at", "I", false)
  | 7 => ("TermDrawModel", "bad", "I", false)
  | 8 => ("TermDrawModel", "badPlace", "I", false)
  | 9 => ("TermDrawModel", "fault", "I", false)
  | 10 => ("TermDrawModel", "faultPlace", "I", false)
  | 11 => ("TermDrawModel", "word", "J", false)
  | 12 => ("TermDrawModel", "wordAt", "I", false)
  | 13 => ("TermDrawModel", "placeKind", "[I", true)
  | 14 => ("TermDrawModel", "behind", "[I", true)
  | 15 => ("TermDrawModel", "places", "I", false)
  | 16 => ("TermDrawModel", "open", "I", false)
  | 17 => ("TermDrawModel", "firstSet", "I", false)
  | 18 => ("TermDrawModel", "lastSet", "I", false)
  | 19 => ("TermDrawModel", "canBeNone", "Z", false)
  | 20 => ("TermDrawModel", "isLaid", "Z", false)
  | 21 => ("TermDrawModel", "words", "I", false)
  | 22 => ("TermDrawModel", "base", "[J", true)
  | 23 => ("TermDrawModel", "kind", "[I", true)
  | 24 => ("TermDrawModel", "docOf", "[I", true)
  | 25 => ("TermDrawModel", "generalBase", "[J", true)
  | 26 => ("TermDrawModel", "matches", "I", false)
  | 27 => ("TermDrawModel", "start", "[I", true)
  | 28 => ("TermDrawModel", "length", "[I", true)
  | 29 => ("TermDrawModel", "term", "[I", true)
  | 30 => ("TermDrawModel", "isWithin", "[Z", true)
  | 31 => ("TermDrawModel", "isMatch", "[Z", true)
  | 32 => ("TermDrawModel", "terms", "I", false)
  | 33 => ("TermDrawModel", "rowAt", "[I", true)
  | 34 => ("TermDrawModel", "rowLong", "[I", true)
  | 35 => ("TermDrawModel", "count", "[I", true)
  | 36 => ("TermDrawModel", "free", "[I", true)
  | 37 => ("TermDrawModel", "firstMatch", "[I", true)
  | 38 => ("TermDrawModel", "docs", "[I", true)
  | 39 => ("TermDrawModel", "longers", "[I", true)
  | 40 => ("TermDrawModel", "taken", "[I", true)
  | 41 => ("TermDrawModel", "general", "[I", true)
  | 42 => ("TermDrawModel", "bases", "[J", true)
  | 43 => ("TermDrawModel", "baseMany", "I", false)
  | 44 => ("TermDrawModel", "baseAt", "[I", true)
  | 45 => ("TermDrawModel", "likely", "[I", true)
  | 46 => ("TermDrawModel", "times", "[I", true)
  | 47 => ("TermDrawModel", "above", "J", false)
  | 48 => ("TermDrawModel", "under", "J", false)
  | 49 => ("TermDrawModel", "ups", "[J", true)
  | 50 => ("TermDrawModel", "downs", "[J", true)
  | 51 => ("TermDrawModel", "order", "[I", true)
  | 52 => ("TermDrawModel", "merged", "[I", true)
  | 53 => ("TermDrawModel", "slate", "[I", true)
  | 54 => ("TermDrawModel", "slated", "I", false)
  | 55 => ("TermDrawModel", "forms", "I", false)
  | 56 => ("TermDrawModel", "common", "I", false)
  | 57 => ("TermDrawModel", "formOf", "[I", true)
  | 58 => ("TermDrawModel", "formMany", "[I", true)
  | 59 => ("TermDrawModel", "asked", "[J", true)
  | 60 => ("TermDrawModel", "headMany", "[I", true)
  | 61 => ("TermDrawModel", "headSum", "[I", true)
  | 62 => ("TermDrawModel", "headFirst", "[I", true)
  | 63 => ("TermDrawModel", "isCovered", "[Z", true)
  | _ => ("TermDrawModel", "isTop", "[Z", true)
abbrev mm_cl : List vw_C := [(mm_R0, mm_T0, 8), (mm_R1, mm_T1, 2), (mm_R2, mm_T2, 9), (mm_R3, mm_T3, 9), (mm_R4, mm_T4, 3), (mm_R5, mm_T5, 5), (mm_R6, mm_T6, 3), (mm_R7, mm_T7, 7), (mm_R8, mm_T8, 20), (mm_R9, mm_T9, 13), (mm_R10, mm_T10, 15), (mm_R11, mm_T11, 65)]
abbrev mm_Ins : Type := Instr × Nat × List Nat × Value
/-- TermDraw$Bases.<init>()V -/
abbrev mi_Bases_init : Nat := 0
def mm_k0 : List mm_Ins := [(.aload_n 0, 0, [0], .null), (.invokespecial 3, 1, [7], .null), (.aload_n 0, 4, [0], .null), (.sipush 240, 5, [], .int 240), (.invokestatic 9, 8, [0,155,1], .null), (.putfield 13, 11, [0,2,1,0], .null), (.aload_n 0, 14, [0], .null), (.sipush 240, 15, [], .int 240), (.invokestatic 19, 18, [0,154,1], .null), (.putfield 23, 21, [1,2,1,0], .null), (.aload_n 0, 24, [0], .null), (.sipush 240, 25, [], .int 240), (.invokestatic 19, 28, [0,154,1], .null), (.putfield 27, 31, [2,2,1,0], .null), (.aload_n 0, 34, [0], .null), (.sipush 240, 35, [], .int 240), (.invokestatic 19, 38, [0,154,1], .null), (.putfield 30, 41, [3,2,1,0], .null), (.aload_n 0, 44, [0], .null), (.sipush 240, 45, [], .int 240), (.invokestatic 19, 48, [0,154,1], .null), (.putfield 33, 51, [4,2,1,0], .null), (.aload_n 0, 54, [0], .null), (.sipush 240, 55, [], .int 240), (.invokestatic 9, 58, [0,155,1], .null), (.putfield 36, 61, [5,2,1,0], .null), (.aload_n 0, 64, [0], .null), (.sipush 240, 65, [], .int 240), (.invokestatic 9, 68, [0,155,1], .null), (.putfield 39, 71, [6,2,1,0], .null), (.return_, 74, [0], .null)]
/-- TermDraw$Bases.build(LTermDraw$Told;)V -/
abbrev mi_Bases_build : Nat := 1
def mm_k1 : List mm_Ins := [(.iconst 0, 0, [], .int 0), (.istore_n 2, 1, [2], .null), (.aload_n 0, 2, [0], .null), (.iconst 0, 3, [], .int 0), (.putfield 42, 4, [7,0,0,0], .null), (.iconst 0, 7, [], .int 0), (.istore_n 3, 8, [3], .null), (.iload_n 3, 9, [3], .null), (.aload_n 1, 10, [1], .null), (.getfield 46, 11, [3,2,9], .null), (.getfield 52, 14, [2,0,6], .null), (.if_icmp .ge 81, 17, [50], .null), (.aload_n 1, 20, [1], .null), (.getfield 46, 21, [3,2,9], .null), (.iload_n 3, 24, [3], .null), (.invokevirtual 55, 25, [1,57,2,6], .null), (.lstore 4, 28, [4], .null), (.aload_n 1, 30, [1], .null), (.lload 4, 31, [4], .null), (.invokevirtual 59, 33, [1,105,2,9], .null), (.lstore 6, 36, [6], .null), (.aload_n 0, 38, [0], .null), (.getfield 13, 39, [0,2,0], .null), (.iload_n 3, 42, [3], .null), (.lload 6, 43, [6], .null), (.invokestatic 63, 45, [0,159,3], .null), (.aload_n 0, 48, [0], .null), (.getfield 23, 49, [1,2,0], .null), (.iload_n 3, 52, [3], .null), (.aload_n 1, 53, [1], .null), (.lload 4, 54, [4], .null), (.lload 6, 56, [6], .null), (.invokevirtual 67, 58, [1,106,3,9], .null), (.invokestatic 71, 61, [0,158,3], .null), (.aload_n 0, 64, [0], .null), (.aload_n 0, 65, [0], .null), (.getfield 36, 66, [5,2,0], .null), (.aload_n 0, 69, [0], .null), (.getfield 42, 70, [7,0,0], .null), (.lload 6, 73, [6], .null), (.invokestatic 74, 75, [0,164,3], .null), (.putfield 42, 78, [7,0,0,0], .null), (.aload_n 0, 81, [0], .null), (.getfield 39, 82, [6,2,0], .null), (.iload_n 2, 85, [2], .null), (.lload 4, 86, [4], .null), (.invokestatic 74, 88, [0,164,3], .null), (.istore_n 2, 91, [2], .null), (.iinc 3 1, 92, [3], .int 1), (.goto (-86), 95, [7], .null), (.iconst 0, 98, [], .int 0), (.istore_n 3, 99, [3], .null), (.iload_n 3, 100, [3], .null), (.aload_n 1, 101, [1], .null), (.getfield 46, 102, [3,2,9], .null), (.getfield 52, 105, [2,0,6], .null), (.if_icmp .ge 53, 108, [81], .null), (.aload_n 0, 111, [0], .null), (.getfield 27, 112, [2,2,0], .null), (.iload_n 3, 115, [3], .null), (.aload_n 0, 116, [0], .null), (.aload_n 0, 117, [0], .null), (.getfield 13, 118, [0,2,0], .null), (.iload_n 3, 121, [3], .null), (.invokestatic 78, 122, [0,157,2], .null), (.invokevirtual 82, 125, [1,2,2,0], .null), (.invokestatic 71, 128, [0,158,3], .null), (.aload_n 0, 131, [0], .null), (.getfield 30, 132, [3,2,0], .null), (.iload_n 3, 135, [3], .null), (.aload_n 0, 136, [0], .null), (.getfield 39, 137, [6,2,0], .null), (.iload_n 2, 140, [2], .null), (.aload_n 1, 141, [1], .null), (.getfield 46, 142, [3,2,9], .null), (.iload_n 3, 145, [3], .null), (.invokevirtual 55, 146, [1,57,2,6], .null), (.invokestatic 86, 149, [0,165,3], .null), (.invokestatic 71, 152, [0,158,3], .null), (.iinc 3 1, 155, [3], .int 1), (.goto (-58), 158, [52], .null), (.iconst 0, 161, [], .int 0), (.istore_n 3, 162, [3], .null), (.iload_n 3, 163, [3], .null), (.aload_n 1, 164, [1], .null), (.getfield 89, 165, [5,2,9], .null), (.getfield 52, 168, [2,0,6], .null), (.if_icmp .ge 33, 171, [102], .null), (.aload_n 0, 174, [0], .null), (.getfield 33, 175, [4,2,0], .null), (.iload_n 3, 178, [3], .null), (.aload_n 0, 179, [0], .null), (.aload_n 1, 180, [1], .null), (.aload_n 1, 181, [1], .null), (.getfield 89, 182, [5,2,9], .null), (.iload_n 3, 185, [3], .null), (.invokevirtual 55, 186, [1,57,2,6], .null), (.invokevirtual 59, 189, [1,105,2,9], .null), (.invokevirtual 82, 192, [1,2,2,0], .null), (.invokestatic 71, 195, [0,158,3], .null), (.iinc 3 1, 198, [3], .int 1), (.goto (-38), 201, [83], .null), (.return_, 204, [0], .null)]
/-- TermDraw$Bases.idOf(J)I -/
abbrev mi_Bases_idOf : Nat := 2
def mm_k2 : List mm_Ins := [(.aload_n 0, 0, [0], .null), (.getfield 36, 1, [5,2,0], .null), (.aload_n 0, 4, [0], .null), (.getfield 42, 5, [7,0,0], .null), (.lload_n 1, 8, [1], .null), (.invokestatic 86, 9, [0,165,3], .null), (.ireturn, 12, [1], .null)]
/-- TermDraw$Bytes.<init>(I)V -/
abbrev mi_Bytes_init : Nat := 3
def mm_k3 : List mm_Ins := [(.aload_n 0, 0, [0], .null), (.invokespecial 3, 1, [7], .null), (.aload_n 0, 4, [0], .null), (.iload_n 1, 5, [1], .null), (.invokestatic 9, 6, [0,154,1], .null), (.putfield 13, 9, [0,2,1,1], .null), (.return_, 12, [0], .null)]
/-- TermDraw$Bytes.add(I)V -/
abbrev mi_Bytes_add : Nat := 4
def mm_k4 : List mm_Ins := [(.aload_n 0, 0, [0], .null), (.getfield 19, 1, [1,0,1], .null), (.aload_n 0, 4, [0], .null), (.getfield 13, 5, [0,2,1], .null), (.arraylength, 8, [], .null), (.if_icmp .ge 29, 9, [20], .null), (.aload_n 0, 12, [0], .null), (.getfield 13, 13, [0,2,1], .null), (.aload_n 0, 16, [0], .null), (.getfield 19, 17, [1,0,1], .null), (.iload_n 1, 20, [1], .null), (.sipush 255, 21, [], .int 255), (.iand, 24, [], .null), (.invokestatic 23, 25, [0,158,3], .null), (.aload_n 0, 28, [0], .null), (.dup, 29, [], .null), (.getfield 19, 30, [1,0,1], .null), (.iconst 1, 33, [], .int 1), (.iadd, 34, [], .null), (.putfield 19, 35, [1,0,0,1], .null), (.return_, 38, [0], .null)]
/-- TermDraw$Bytes.addNumber(I)V -/
abbrev mi_Bytes_addNumber : Nat := 5
def mm_k5 : List mm_Ins := [(.aload_n 0, 0, [0], .null), (.iload_n 1, 1, [1], .null), (.bipush 24, 2, [], .int 24), (.iushr, 4, [], .null), (.invokevirtual 27, 5, [1,4,2,1], .null), (.aload_n 0, 8, [0], .null), (.iload_n 1, 9, [1], .null), (.bipush 16, 10, [], .int 16), (.iushr, 12, [], .null), (.invokevirtual 27, 13, [1,4,2,1], .null), (.aload_n 0, 16, [0], .null), (.iload_n 1, 17, [1], .null), (.bipush 8, 18, [], .int 8), (.iushr, 20, [], .null), (.invokevirtual 27, 21, [1,4,2,1], .null), (.aload_n 0, 24, [0], .null), (.iload_n 1, 25, [1], .null), (.invokevirtual 27, 26, [1,4,2,1], .null), (.return_, 29, [0], .null)]
/-- TermDraw$Bytes.addWord(J)V -/
abbrev mi_Bytes_addWord : Nat := 6
def mm_k6 : List mm_Ins := [(.lload_n 1, 0, [1], .null), (.invokestatic 31, 1, [0,168,1], .null), (.istore_n 3, 4, [3], .null), (.iconst 0, 5, [], .int 0), (.istore 4, 6, [4], .null), (.iload 4, 8, [4], .null), (.iload_n 3, 10, [3], .null), (.if_icmp .ge 29, 11, [20], .null), (.iload 4, 14, [4], .null), (.bipush 10, 16, [], .int 10), (.if_icmp .ge 22, 18, [20], .null), (.aload_n 0, 21, [0], .null), (.bipush 96, 22, [], .int 96), (.lload_n 1, 24, [1], .null), (.iload 4, 25, [4], .null), (.invokestatic 35, 27, [0,167,2], .null), (.iadd, 30, [], .null), (.invokevirtual 27, 31, [1,4,2,1], .null), (.iinc 4 1, 34, [4], .int 1), (.goto (-29), 37, [5], .null), (.return_, 40, [0], .null)]
/-- TermDraw$Bytes.byteAt(I)I -/
abbrev mi_Bytes_byteAt : Nat := 7
def mm_k7 : List mm_Ins := [(.iload_n 1, 0, [1], .null), (.ifCond .lt 20, 1, [11], .null), (.iload_n 1, 4, [1], .null), (.aload_n 0, 5, [0], .null), (.getfield 19, 6, [1,0,1], .null), (.if_icmp .ge 12, 9, [11], .null), (.iload_n 1, 12, [1], .null), (.aload_n 0, 13, [0], .null), (.getfield 13, 14, [0,2,1], .null), (.arraylength, 17, [], .null), (.if_icmp .lt 7, 18, [13], .null), (.iconst (-1), 21, [], .int (-1)), (.goto 9, 22, [17], .null), (.aload_n 0, 25, [0], .null), (.getfield 13, 26, [0,2,1], .null), (.iload_n 1, 29, [1], .null), (.iaload, 30, [], .null), (.ireturn, 31, [1], .null)]
/-- TermDraw$Bytes.asWord()J -/
abbrev mi_Bytes_asWord : Nat := 8
def mm_k8 : List mm_Ins := [(.aload_n 0, 0, [0], .null), (.getfield 19, 1, [1,0,1], .null), (.bipush 10, 4, [], .int 10), (.if_icmp .le 5, 6, [6], .null), (.lconst 0, 9, [], .long 0), (.lreturn, 10, [2], .null), (.lconst 0, 11, [], .long 0), (.lstore_n 1, 12, [1], .null), (.iconst 0, 13, [], .int 0), (.istore_n 3, 14, [3], .null), (.iload_n 3, 15, [3], .null), (.aload_n 0, 16, [0], .null), (.getfield 19, 17, [1,0,1], .null), (.if_icmp .ge 40, 20, [35], .null), (.aload_n 0, 23, [0], .null), (.iload_n 3, 24, [3], .null), (.invokevirtual 39, 25, [1,7,2,1], .null), (.istore 4, 28, [4], .null), (.iload 4, 30, [4], .null), (.invokestatic 43, 32, [0,169,1], .null), (.ifCond .ne 5, 35, [23], .null), (.lconst 0, 38, [], .long 0), (.lreturn, 39, [2], .null), (.lload_n 1, 40, [1], .null), (.iload 4, 41, [4], .null), (.bipush 96, 43, [], .int 96), (.isub, 45, [], .null), (.i2l, 46, [], .null), (.iload_n 3, 47, [3], .null), (.invokestatic 47, 48, [0,166,1], .null), (.lshl, 51, [], .null), (.lor, 52, [], .null), (.lstore_n 1, 53, [1], .null), (.iinc 3 1, 54, [3], .int 1), (.goto (-42), 57, [10], .null), (.lload_n 1, 60, [1], .null), (.lreturn, 61, [2], .null)]
/-- TermDraw$Matches.<init>()V -/
abbrev mi_Matches_init : Nat := 9
def mm_k9 : List mm_Ins := [(.aload_n 0, 0, [0], .null), (.invokespecial 3, 1, [8,30,1,2], .null), (.aload_n 0, 4, [0], .null), (.sipush 1200, 5, [], .int 1200), (.invokestatic 9, 8, [0,154,1], .null), (.putfield 13, 11, [2,2,1,2], .null), (.aload_n 0, 14, [0], .null), (.sipush 1200, 15, [], .int 1200), (.invokestatic 9, 18, [0,154,1], .null), (.putfield 19, 21, [3,2,1,2], .null), (.aload_n 0, 24, [0], .null), (.sipush 1200, 25, [], .int 1200), (.invokestatic 9, 28, [0,154,1], .null), (.putfield 22, 31, [4,2,1,2], .null), (.aload_n 0, 34, [0], .null), (.sipush 1200, 35, [], .int 1200), (.invokestatic 9, 38, [0,154,1], .null), (.putfield 25, 41, [5,2,1,2], .null), (.aload_n 0, 44, [0], .null), (.sipush 1200, 45, [], .int 1200), (.invokestatic 28, 48, [0,155,1], .null), (.putfield 32, 51, [6,2,1,2], .null), (.aload_n 0, 54, [0], .null), (.sipush 1200, 55, [], .int 1200), (.invokestatic 28, 58, [0,155,1], .null), (.putfield 36, 61, [7,2,1,2], .null), (.return_, 64, [0], .null)]
/-- TermDraw$Matches.build(LTermDraw$Told;LTermDraw$Bases;)V -/
abbrev mi_Matches_build : Nat := 10
def mm_k10 : List mm_Ins := [(.aload_n 0, 0, [0], .null), (.iconst 0, 1, [], .int 0), (.putfield 39, 2, [8,0,0,2], .null), (.iconst 0, 5, [], .int 0), (.istore_n 3, 6, [3], .null), (.iload_n 3, 7, [3], .null), (.aload_n 1, 8, [1], .null), (.getfield 43, 9, [3,2,9], .null), (.getfield 49, 12, [2,0,6], .null), (.if_icmp .ge 16, 15, [17], .null), (.aload_n 0, 18, [0], .null), (.aload_n 1, 19, [1], .null), (.aload_n 2, 20, [2], .null), (.iload_n 3, 21, [3], .null), (.invokevirtual 52, 22, [1,11,4,2], .null), (.iinc 3 1, 25, [3], .int 1), (.goto (-21), 28, [5], .null), (.aload_n 0, 31, [0], .null), (.invokevirtual 56, 32, [1,13,1,2], .null), (.aload_n 0, 35, [0], .null), (.aload_n 0, 36, [0], .null), (.getfield 39, 37, [8,0,2], .null), (.invokevirtual 59, 40, [3,31,2,2], .null), (.return_, 43, [0], .null)]
/-- TermDraw$Matches.addFrom(LTermDraw$Told;LTermDraw$Bases;I)V -/
abbrev mi_Matches_addFrom : Nat := 11
def mm_k11 : List mm_Ins := [(.lconst 0, 0, [], .long 0), (.lstore 4, 1, [4], .null), (.lconst 0, 3, [], .long 0), (.lstore 6, 4, [6], .null), (.iconst 0, 6, [], .int 0), (.istore 8, 7, [8], .null), (.iconst 0, 9, [], .int 0), (.istore 9, 10, [9], .null), (.iload 9, 12, [9], .null), (.aload_n 1, 14, [1], .null), (.getfield 63, 15, [11,0,9], .null), (.if_icmp .ge 150, 18, [83], .null), (.iload 9, 21, [9], .null), (.iconst 5, 23, [], .int 5), (.if_icmp .ge 144, 24, [83], .null), (.iload_n 3, 27, [3], .null), (.iload 9, 28, [9], .null), (.iadd, 30, [], .null), (.istore 10, 31, [10], .null), (.aload_n 1, 33, [1], .null), (.getfield 43, 34, [3,2,9], .null), (.iload_n 3, 37, [3], .null), (.iload 10, 38, [10], .null), (.invokevirtual 66, 40, [1,59,3,6], .null), (.ifCond .ne 4, 43, [26], .null), (.return_, 46, [0], .null), (.aload_n 2, 47, [2], .null), (.getfield 70, 48, [1,2,0], .null), (.iload 10, 51, [10], .null), (.invokestatic 75, 53, [0,156,2], .null), (.istore 11, 56, [11], .null), (.iload 9, 58, [9], .null), (.ifCond .ne 15, 60, [38], .null), (.aload_n 1, 63, [1], .null), (.getfield 79, 64, [6,2,9], .null), (.iload 11, 67, [11], .null), (.invokevirtual 83, 69, [1,51,2,5], .null), (.goto 14, 72, [43], .null), (.aload_n 1, 75, [1], .null), (.getfield 79, 76, [6,2,9], .null), (.iload 8, 79, [8], .null), (.iload 11, 81, [11], .null), (.invokevirtual 89, 83, [1,52,3,5], .null), (.istore 8, 86, [8], .null), (.lload 4, 88, [4], .null), (.aload_n 2, 90, [2], .null), (.getfield 93, 91, [2,2,0], .null), (.iload 10, 94, [10], .null), (.invokestatic 75, 96, [0,156,2], .null), (.iload 9, 99, [9], .null), (.invokestatic 96, 101, [0,171,2], .null), (.lor, 104, [], .null), (.lstore 4, 105, [4], .null), (.lload 6, 107, [6], .null), (.aload_n 2, 109, [2], .null), (.getfield 100, 110, [3,2,0], .null), (.iload 10, 113, [10], .null), (.invokestatic 75, 115, [0,156,2], .null), (.iload 9, 118, [9], .null), (.invokestatic 96, 120, [0,171,2], .null), (.lor, 123, [], .null), (.lstore 6, 124, [6], .null), (.iload 9, 126, [9], .null), (.iconst 1, 128, [], .int 1), (.iadd, 129, [], .null), (.aload_n 1, 130, [1], .null), (.getfield 102, 131, [10,0,9], .null), (.if_icmp .lt 28, 134, [81], .null), (.aload_n 1, 137, [1], .null), (.getfield 79, 138, [6,2,9], .null), (.iload 8, 141, [8], .null), (.invokevirtual 105, 143, [1,53,2,5], .null), (.ifCond .eq 16, 146, [81], .null), (.aload_n 0, 149, [0], .null), (.iload_n 3, 150, [3], .null), (.iload 9, 151, [9], .null), (.iconst 1, 153, [], .int 1), (.iadd, 154, [], .null), (.lload 4, 155, [4], .null), (.lload 6, 157, [6], .null), (.invokevirtual 109, 159, [1,12,5,2], .null), (.iinc 9 1, 162, [9], .int 1), (.goto (-153), 165, [8], .null), (.return_, 168, [0], .null)]
/-- TermDraw$Matches.add(IIJJ)V -/
abbrev mi_Matches_add : Nat := 12
def mm_k12 : List mm_Ins := [(.aload_n 0, 0, [0], .null), (.getfield 39, 1, [8,0,2], .null), (.sipush 1200, 4, [], .int 1200), (.if_icmp .lt 4, 7, [5], .null), (.return_, 10, [0], .null), (.aload_n 0, 11, [0], .null), (.getfield 13, 12, [2,2,2], .null), (.aload_n 0, 15, [0], .null), (.getfield 39, 16, [8,0,2], .null), (.iload_n 1, 19, [1], .null), (.invokestatic 113, 20, [0,158,3], .null), (.aload_n 0, 23, [0], .null), (.getfield 19, 24, [3,2,2], .null), (.aload_n 0, 27, [0], .null), (.getfield 39, 28, [8,0,2], .null), (.iload_n 2, 31, [2], .null), (.invokestatic 113, 32, [0,158,3], .null), (.aload_n 0, 35, [0], .null), (.getfield 32, 36, [6,2,2], .null), (.aload_n 0, 39, [0], .null), (.getfield 39, 40, [8,0,2], .null), (.lload_n 3, 43, [3], .null), (.invokestatic 117, 44, [0,159,3], .null), (.aload_n 0, 47, [0], .null), (.getfield 36, 48, [7,2,2], .null), (.aload_n 0, 51, [0], .null), (.getfield 39, 52, [8,0,2], .null), (.lload 5, 55, [5], .null), (.invokestatic 117, 57, [0,159,3], .null), (.aload_n 0, 60, [0], .null), (.dup, 61, [], .null), (.getfield 39, 62, [8,0,2], .null), (.iconst 1, 65, [], .int 1), (.iadd, 66, [], .null), (.putfield 39, 67, [8,0,0,2], .null), (.return_, 70, [0], .null)]
/-- TermDraw$Matches.markWithin()V -/
abbrev mi_Matches_markWithin : Nat := 13
def mm_k13 : List mm_Ins := [(.iconst 0, 0, [], .int 0), (.istore_n 1, 1, [1], .null), (.iconst 0, 2, [], .int 0), (.istore_n 2, 3, [2], .null), (.iconst 0, 4, [], .int 0), (.istore_n 3, 5, [3], .null), (.iload_n 3, 6, [3], .null), (.aload_n 0, 7, [0], .null), (.getfield 39, 8, [8,0,2], .null), (.if_icmp .ge 119, 11, [72], .null), (.iload_n 3, 14, [3], .null), (.ifCond .le 30, 15, [27], .null), (.aload_n 0, 18, [0], .null), (.getfield 13, 19, [2,2,2], .null), (.iload_n 3, 22, [3], .null), (.invokestatic 75, 23, [0,156,2], .null), (.aload_n 0, 26, [0], .null), (.getfield 13, 27, [2,2,2], .null), (.iload_n 3, 30, [3], .null), (.iconst 1, 31, [], .int 1), (.isub, 32, [], .null), (.invokestatic 75, 33, [0,156,2], .null), (.if_icmp .eq 9, 36, [27], .null), (.iload_n 1, 39, [1], .null), (.iload_n 2, 40, [2], .null), (.invokestatic 120, 41, [0,291,2], .null), (.istore_n 1, 44, [1], .null), (.aload_n 0, 45, [0], .null), (.getfield 13, 46, [2,2,2], .null), (.iload_n 3, 49, [3], .null), (.invokestatic 75, 50, [0,156,2], .null), (.aload_n 0, 53, [0], .null), (.getfield 19, 54, [3,2,2], .null), (.iload_n 3, 57, [3], .null), (.invokestatic 75, 58, [0,156,2], .null), (.iadd, 61, [], .null), (.istore_n 2, 62, [2], .null), (.iload_n 3, 63, [3], .null), (.iconst 1, 64, [], .int 1), (.iadd, 65, [], .null), (.aload_n 0, 66, [0], .null), (.getfield 39, 67, [8,0,2], .null), (.if_icmp .ge 28, 70, [56], .null), (.aload_n 0, 73, [0], .null), (.getfield 13, 74, [2,2,2], .null), (.iload_n 3, 77, [3], .null), (.iconst 1, 78, [], .int 1), (.iadd, 79, [], .null), (.invokestatic 75, 80, [0,156,2], .null), (.aload_n 0, 83, [0], .null), (.getfield 13, 84, [2,2,2], .null), (.iload_n 3, 87, [3], .null), (.invokestatic 75, 88, [0,156,2], .null), (.if_icmp .ne 7, 91, [56], .null), (.iconst 1, 94, [], .int 1), (.goto 4, 95, [57], .null), (.iconst 0, 98, [], .int 0), (.istore 4, 99, [4], .null), (.aload_n 0, 101, [0], .null), (.getfield 25, 102, [5,2,2], .null), (.iload_n 3, 105, [3], .null), (.iload 4, 106, [4], .null), (.ifCond .ne 8, 108, [66], .null), (.iload_n 1, 111, [1], .null), (.iload_n 2, 112, [2], .null), (.if_icmp .lt 7, 113, [68], .null), (.iconst 1, 116, [], .int 1), (.goto 4, 117, [69], .null), (.iconst 0, 120, [], .int 0), (.invokestatic 113, 121, [0,158,3], .null), (.iinc 3 1, 124, [3], .int 1), (.goto (-121), 127, [6], .null), (.return_, 130, [0], .null)]
/-- TermDraw$Matches.ahead(II)Z -/
abbrev mi_Matches_ahead : Nat := 14
def mm_k14 : List mm_Ins := [(.aload_n 0, 0, [0], .null), (.getfield 32, 1, [6,2,2], .null), (.iload_n 1, 4, [1], .null), (.invokestatic 125, 5, [0,157,2], .null), (.lstore_n 3, 8, [3], .null), (.aload_n 0, 9, [0], .null), (.getfield 32, 10, [6,2,2], .null), (.iload_n 2, 13, [2], .null), (.invokestatic 125, 14, [0,157,2], .null), (.lstore 5, 17, [5], .null), (.lload_n 3, 19, [3], .null), (.lload 5, 20, [5], .null), (.lcmp, 22, [0,20], .null), (.lload_n 3, 26, [3], .null), (.lload 5, 27, [5], .null), (.lcmp, 29, [3,18], .null), (.iconst 1, 33, [], .int 1), (.goto 32, 34, [32], .null), (.iconst 0, 37, [], .int 0), (.goto 28, 38, [32], .null), (.aload_n 0, 41, [0], .null), (.getfield 36, 42, [7,2,2], .null), (.iload_n 1, 45, [1], .null), (.invokestatic 125, 46, [0,157,2], .null), (.aload_n 0, 49, [0], .null), (.getfield 36, 50, [7,2,2], .null), (.iload_n 2, 53, [2], .null), (.invokestatic 125, 54, [0,157,2], .null), (.lcmp, 57, [3,31], .null), (.iconst 1, 61, [], .int 1), (.goto 4, 62, [32], .null), (.iconst 0, 65, [], .int 0), (.ireturn, 66, [3], .null)]
/-- TermDraw$Matches.startingIn(II)I -/
abbrev mi_Matches_startingIn : Nat := 15
def mm_k15 : List mm_Ins := [(.iconst 0, 0, [], .int 0), (.istore_n 3, 1, [3], .null), (.iconst 0, 2, [], .int 0), (.istore 4, 3, [4], .null), (.iload 4, 5, [4], .null), (.aload_n 0, 7, [0], .null), (.getfield 39, 8, [8,0,2], .null), (.if_icmp .ge 38, 11, [23], .null), (.aload_n 0, 14, [0], .null), (.getfield 13, 15, [2,2,2], .null), (.iload 4, 18, [4], .null), (.invokestatic 75, 20, [0,156,2], .null), (.iload_n 1, 23, [1], .null), (.if_icmp .lt 19, 24, [21], .null), (.aload_n 0, 27, [0], .null), (.getfield 13, 28, [2,2,2], .null), (.iload 4, 31, [4], .null), (.invokestatic 75, 33, [0,156,2], .null), (.iload_n 2, 36, [2], .null), (.if_icmp .ge 6, 37, [21], .null), (.iinc 3 1, 40, [3], .int 1), (.iinc 4 1, 43, [4], .int 1), (.goto (-41), 46, [4], .null), (.iload_n 3, 49, [3], .null), (.ireturn, 50, [1], .null)]
/-- TermDraw$Measures.<init>(LTermDraw$Terms;)V -/
abbrev mi_Measures_init : Nat := 16
def mm_k16 : List mm_Ins := [(.aload_n 0, 0, [0], .null), (.invokespecial 3, 1, [8,30,1,3], .null), (.aload_n 0, 4, [0], .null), (.sipush 1200, 5, [], .int 1200), (.invokestatic 9, 8, [0,155,1], .null), (.putfield 13, 11, [3,2,1,3], .null), (.aload_n 0, 14, [0], .null), (.sipush 1200, 15, [], .int 1200), (.invokestatic 9, 18, [0,155,1], .null), (.putfield 19, 21, [4,2,1,3], .null), (.aload_n 0, 24, [0], .null), (.sipush 8400, 25, [], .int 8400), (.invokestatic 22, 28, [0,154,1], .null), (.putfield 26, 31, [5,2,1,3], .null), (.aload_n 0, 34, [0], .null), (.lconst 1, 35, [], .long 1), (.putfield 30, 36, [8,1,0,3], .null), (.aload_n 0, 39, [0], .null), (.aload_n 1, 40, [1], .null), (.putfield 34, 41, [2,2,1,3], .null), (.return_, 44, [0], .null)]
/-- TermDraw$Measures.set(JJ)V -/
abbrev mi_Measures_set : Nat := 17
def mm_k17 : List mm_Ins := [(.lload_n 1, 0, [1], .null), (.lload_n 3, 1, [3], .null), (.invokestatic 38, 2, [0,180,2], .null), (.lstore 5, 5, [5], .null), (.lload_n 3, 7, [3], .null), (.lconst 0, 8, [], .long 0), (.lcmp, 9, [5,10], .null), (.lload 5, 13, [5], .null), (.lconst 0, 15, [], .long 0), (.lcmp, 16, [4,17], .null), (.aload_n 0, 20, [0], .null), (.lconst 0, 21, [], .long 0), (.putfield 42, 22, [7,1,0,3], .null), (.aload_n 0, 25, [0], .null), (.lconst 1, 26, [], .long 1), (.putfield 30, 27, [8,1,0,3], .null), (.return_, 30, [0], .null), (.aload_n 0, 31, [0], .null), (.lload_n 1, 32, [1], .null), (.lload 5, 33, [5], .null), (.ldiv, 35, [], .null), (.putfield 42, 36, [7,1,0,3], .null), (.aload_n 0, 39, [0], .null), (.lload_n 3, 40, [3], .null), (.lload 5, 41, [5], .null), (.ldiv, 43, [], .null), (.putfield 30, 44, [8,1,0,3], .null), (.return_, 47, [0], .null)]
/-- TermDraw$Measures.weigh(LTermDraw$Told;II)V -/
abbrev mi_Measures_weigh : Nat := 18
def mm_k18 : List mm_Ins := [(.iload_n 3, 0, [3], .null), (.tableswitch 157 0 5 #[39, 59, 79, 97, 116, 148], 1, [68,2,12,22,32,43,63], .null), (.aload_n 0, 40, [0], .null), (.aload_n 0, 41, [0], .null), (.getfield 34, 42, [2,2,3], .null), (.getfield 45, 45, [4,2,8], .null), (.iload_n 2, 48, [2], .null), (.invokestatic 50, 49, [0,156,2], .null), (.i2l, 52, [], .null), (.lconst 1, 53, [], .long 1), (.invokevirtual 54, 54, [1,17,3,3], .null), (.goto 121, 57, [78], .null), (.aload_n 0, 60, [0], .null), (.aload_n 0, 61, [0], .null), (.getfield 34, 62, [2,2,3], .null), (.getfield 58, 65, [5,2,8], .null), (.iload_n 2, 68, [2], .null), (.invokestatic 50, 69, [0,156,2], .null), (.i2l, 72, [], .null), (.lconst 1, 73, [], .long 1), (.invokevirtual 54, 74, [1,17,3,3], .null), (.goto 101, 77, [78], .null), (.aload_n 0, 80, [0], .null), (.aload_n 0, 81, [0], .null), (.aload_n 1, 82, [1], .null), (.iload_n 2, 83, [2], .null), (.invokevirtual 61, 84, [1,19,3,3], .null), (.aload_n 0, 87, [0], .null), (.iload_n 2, 88, [2], .null), (.invokevirtual 65, 89, [1,20,2,3], .null), (.invokevirtual 54, 92, [1,17,3,3], .null), (.goto 83, 95, [78], .null), (.aload_n 0, 98, [0], .null), (.aload_n 0, 99, [0], .null), (.aload_n 1, 100, [1], .null), (.iload_n 2, 101, [2], .null), (.invokevirtual 69, 102, [1,21,3,3], .null), (.aload_n 0, 105, [0], .null), (.aload_n 1, 106, [1], .null), (.iload_n 2, 107, [2], .null), (.invokevirtual 72, 108, [1,22,3,3], .null), (.invokevirtual 54, 111, [1,17,3,3], .null), (.goto 64, 114, [78], .null), (.aload_n 0, 117, [0], .null), (.aload_n 0, 118, [0], .null), (.aload_n 1, 119, [1], .null), (.iload_n 2, 120, [2], .null), (.invokevirtual 61, 121, [1,19,3,3], .null), (.aload_n 0, 124, [0], .null), (.aload_n 1, 125, [1], .null), (.iload_n 2, 126, [2], .null), (.invokevirtual 69, 127, [1,21,3,3], .null), (.lmul, 130, [], .null), (.aload_n 0, 131, [0], .null), (.iload_n 2, 132, [2], .null), (.invokevirtual 65, 133, [1,20,2,3], .null), (.aload_n 0, 136, [0], .null), (.aload_n 1, 137, [1], .null), (.iload_n 2, 138, [2], .null), (.invokevirtual 72, 139, [1,22,3,3], .null), (.lmul, 142, [], .null), (.invokevirtual 54, 143, [1,17,3,3], .null), (.goto 32, 146, [78], .null), (.aload_n 0, 149, [0], .null), (.aload_n 1, 150, [1], .null), (.iload_n 2, 151, [2], .null), (.invokevirtual 75, 152, [1,23,3,3], .null), (.goto 23, 155, [78], .null), (.aload_n 0, 158, [0], .null), (.aload_n 0, 159, [0], .null), (.getfield 34, 160, [2,2,3], .null), (.getfield 79, 163, [12,2,8], .null), (.iload_n 2, 166, [2], .null), (.invokestatic 50, 167, [0,156,2], .null), (.invokestatic 82, 170, [0,288,1], .null), (.i2l, 173, [], .null), (.lconst 1, 174, [], .long 1), (.invokevirtual 54, 175, [1,17,3,3], .null), (.return_, 178, [0], .null)]
/-- TermDraw$Measures.worthAbove(LTermDraw$Told;I)J -/
abbrev mi_Measures_worthAbove : Nat := 19
def mm_k19 : List mm_Ins := [(.aload_n 1, 0, [1], .null), (.getfield 88, 1, [7,2,9], .null), (.aload_n 0, 4, [0], .null), (.getfield 34, 5, [2,2,3], .null), (.iload_n 2, 8, [2], .null), (.invokevirtual 93, 9, [1,90,2,8], .null), (.invokestatic 50, 12, [0,156,2], .null), (.i2l, 15, [], .null), (.lstore_n 3, 16, [3], .null), (.lload_n 3, 17, [3], .null), (.aload_n 0, 18, [0], .null), (.getfield 34, 19, [2,2,3], .null), (.getfield 45, 22, [4,2,8], .null), (.iload_n 2, 25, [2], .null), (.invokestatic 50, 26, [0,156,2], .null), (.i2l, 29, [], .null), (.aload_n 0, 30, [0], .null), (.iload_n 2, 31, [2], .null), (.invokevirtual 65, 32, [1,20,2,3], .null), (.lmul, 35, [], .null), (.aload_n 0, 36, [0], .null), (.getfield 34, 37, [2,2,3], .null), (.getfield 96, 40, [7,2,8], .null), (.iload_n 2, 43, [2], .null), (.invokestatic 50, 44, [0,156,2], .null), (.i2l, 47, [], .null), (.lsub, 48, [], .null), (.lmul, 49, [], .null), (.lreturn, 50, [2], .null)]
/-- TermDraw$Measures.worthBelow(I)J -/
abbrev mi_Measures_worthBelow : Nat := 20
def mm_k20 : List mm_Ins := [(.iconst 1, 0, [], .int 1), (.aload_n 0, 1, [0], .null), (.getfield 34, 2, [2,2,3], .null), (.getfield 99, 5, [6,2,8], .null), (.iload_n 1, 8, [1], .null), (.invokestatic 50, 9, [0,156,2], .null), (.invokestatic 102, 12, [0,291,2], .null), (.i2l, 15, [], .null), (.lreturn, 16, [2], .null)]
/-- TermDraw$Measures.oddAbove(LTermDraw$Told;I)J -/
abbrev mi_Measures_oddAbove : Nat := 21
def mm_k21 : List mm_Ins := [(.aload_n 0, 0, [0], .null), (.getfield 34, 1, [2,2,3], .null), (.getfield 45, 4, [4,2,8], .null), (.iload_n 2, 7, [2], .null), (.invokestatic 50, 8, [0,156,2], .null), (.i2l, 11, [], .null), (.aload_n 1, 12, [1], .null), (.getfield 108, 13, [5,2,9], .null), (.getfield 112, 16, [2,0,6], .null), (.iconst 1, 19, [], .int 1), (.iadd, 20, [], .null), (.i2l, 21, [], .null), (.lmul, 22, [], .null), (.lreturn, 23, [2], .null)]
/-- TermDraw$Measures.oddBelow(LTermDraw$Told;I)J -/
abbrev mi_Measures_oddBelow : Nat := 22
def mm_k22 : List mm_Ins := [(.aload_n 0, 0, [0], .null), (.getfield 34, 1, [2,2,3], .null), (.getfield 118, 4, [11,2,8], .null), (.iload_n 2, 7, [2], .null), (.invokestatic 50, 8, [0,156,2], .null), (.iconst 1, 11, [], .int 1), (.iadd, 12, [], .null), (.i2l, 13, [], .null), (.aload_n 1, 14, [1], .null), (.getfield 120, 15, [3,2,9], .null), (.getfield 112, 18, [2,0,6], .null), (.iconst 1, 21, [], .int 1), (.iadd, 22, [], .null), (.i2l, 23, [], .null), (.lmul, 24, [], .null), (.lreturn, 25, [2], .null)]
/-- TermDraw$Measures.setNear(LTermDraw$Told;I)V -/
abbrev mi_Measures_setNear : Nat := 23
def mm_k23 : List mm_Ins := [(.aload_n 0, 0, [0], .null), (.getfield 34, 1, [2,2,3], .null), (.getfield 122, 4, [19,0,8], .null), (.i2l, 7, [], .null), (.lstore_n 3, 8, [3], .null), (.aload_n 0, 9, [0], .null), (.iload_n 2, 10, [2], .null), (.invokevirtual 65, 11, [1,20,2,3], .null), (.lstore 5, 14, [5], .null), (.aload_n 0, 16, [0], .null), (.ldc2_w 123, 17, [], .long 4), (.aload_n 0, 20, [0], .null), (.aload_n 1, 21, [1], .null), (.iload_n 2, 22, [2], .null), (.invokevirtual 61, 23, [1,19,3,3], .null), (.lmul, 26, [], .null), (.lload_n 3, 27, [3], .null), (.lmul, 28, [], .null), (.aload_n 0, 29, [0], .null), (.getfield 34, 30, [2,2,3], .null), (.getfield 125, 33, [14,2,8], .null), (.iload_n 2, 36, [2], .null), (.invokestatic 50, 37, [0,156,2], .null), (.i2l, 40, [], .null), (.lload 5, 41, [5], .null), (.lmul, 43, [], .null), (.ladd, 44, [], .null), (.ldc2_w 128, 45, [], .long 5), (.lload 5, 48, [5], .null), (.lmul, 50, [], .null), (.lload_n 3, 51, [3], .null), (.lmul, 52, [], .null), (.invokevirtual 54, 53, [1,17,3,3], .null), (.return_, 56, [0], .null)]
/-- TermDraw$Measures.prepare(LTermDraw$Told;I)V -/
abbrev mi_Measures_prepare : Nat := 24
def mm_k24 : List mm_Ins := [(.aload_n 0, 0, [0], .null), (.getfield 130, 1, [6,0,3], .null), (.iload_n 2, 4, [2], .null), (.iushr, 5, [], .null), (.iconst 1, 6, [], .int 1), (.iand, 7, [], .null), (.ifCond .eq 4, 8, [8], .null), (.return_, 11, [0], .null), (.iconst 0, 12, [], .int 0), (.istore_n 3, 13, [3], .null), (.iload_n 3, 14, [3], .null), (.aload_n 0, 15, [0], .null), (.getfield 34, 16, [2,2,3], .null), (.getfield 122, 19, [19,0,8], .null), (.if_icmp .ge 40, 22, [34], .null), (.aload_n 0, 25, [0], .null), (.aload_n 1, 26, [1], .null), (.iload_n 3, 27, [3], .null), (.iload_n 2, 28, [2], .null), (.invokevirtual 133, 29, [1,18,4,3], .null), (.aload_n 0, 32, [0], .null), (.getfield 13, 33, [3,2,3], .null), (.iload_n 3, 36, [3], .null), (.aload_n 0, 37, [0], .null), (.getfield 42, 38, [7,1,3], .null), (.invokestatic 137, 41, [0,159,3], .null), (.aload_n 0, 44, [0], .null), (.getfield 19, 45, [4,2,3], .null), (.iload_n 3, 48, [3], .null), (.aload_n 0, 49, [0], .null), (.getfield 30, 50, [8,1,3], .null), (.invokestatic 137, 53, [0,159,3], .null), (.iinc 3 1, 56, [3], .int 1), (.goto (-45), 59, [10], .null), (.aload_n 0, 62, [0], .null), (.aload_n 0, 63, [0], .null), (.getfield 34, 64, [2,2,3], .null), (.getfield 122, 67, [19,0,8], .null), (.invokevirtual 141, 70, [3,31,2,3], .null), (.iconst 0, 73, [], .int 0), (.istore_n 3, 74, [3], .null), (.iload_n 3, 75, [3], .null), (.aload_n 0, 76, [0], .null), (.getfield 34, 77, [2,2,3], .null), (.getfield 122, 80, [19,0,8], .null), (.if_icmp .ge 31, 83, [60], .null), (.aload_n 0, 86, [0], .null), (.getfield 26, 87, [5,2,3], .null), (.iload_n 2, 90, [2], .null), (.sipush 1200, 91, [], .int 1200), (.imul, 94, [], .null), (.iload_n 3, 95, [3], .null), (.iadd, 96, [], .null), (.aload_n 0, 97, [0], .null), (.getfield 145, 98, [0,2,3], .null), (.iload_n 3, 101, [3], .null), (.invokestatic 50, 102, [0,156,2], .null), (.invokestatic 148, 105, [0,158,3], .null), (.iinc 3 1, 108, [3], .int 1), (.goto (-36), 111, [41], .null), (.aload_n 0, 114, [0], .null), (.dup, 115, [], .null), (.getfield 130, 116, [6,0,3], .null), (.iconst 1, 119, [], .int 1), (.iload_n 2, 120, [2], .null), (.ishl, 121, [], .null), (.ior, 122, [], .null), (.putfield 130, 123, [6,0,0,3], .null), (.return_, 126, [0], .null)]
/-- TermDraw$Measures.ahead(II)Z -/
abbrev mi_Measures_ahead : Nat := 25
def mm_k25 : List mm_Ins := [(.aload_n 0, 0, [0], .null), (.getfield 13, 1, [3,2,3], .null), (.iload_n 1, 4, [1], .null), (.invokestatic 151, 5, [0,157,2], .null), (.aload_n 0, 8, [0], .null), (.getfield 19, 9, [4,2,3], .null), (.iload_n 2, 12, [2], .null), (.invokestatic 151, 13, [0,157,2], .null), (.lmul, 16, [], .null), (.lstore_n 3, 17, [3], .null), (.aload_n 0, 18, [0], .null), (.getfield 13, 19, [3,2,3], .null), (.iload_n 2, 22, [2], .null), (.invokestatic 151, 23, [0,157,2], .null), (.aload_n 0, 26, [0], .null), (.getfield 19, 27, [4,2,3], .null), (.iload_n 1, 30, [1], .null), (.invokestatic 151, 31, [0,157,2], .null), (.lmul, 34, [], .null), (.lstore 5, 35, [5], .null), (.lload_n 3, 37, [3], .null), (.lload 5, 38, [5], .null), (.lcmp, 40, [0,30], .null), (.lload_n 3, 44, [3], .null), (.lload 5, 45, [5], .null), (.lcmp, 47, [5,28], .null), (.iconst 1, 51, [], .int 1), (.goto 4, 52, [29], .null), (.iconst 0, 55, [], .int 0), (.ireturn, 56, [3], .null), (.aload_n 0, 57, [0], .null), (.getfield 34, 58, [2,2,3], .null), (.getfield 45, 61, [4,2,8], .null), (.iload_n 1, 64, [1], .null), (.invokestatic 50, 65, [0,156,2], .null), (.istore 7, 68, [7], .null), (.aload_n 0, 70, [0], .null), (.getfield 34, 71, [2,2,3], .null), (.getfield 45, 74, [4,2,8], .null), (.iload_n 2, 77, [2], .null), (.invokestatic 50, 78, [0,156,2], .null), (.istore 8, 81, [8], .null), (.iload 7, 83, [7], .null), (.iload 8, 85, [8], .null), (.if_icmp .eq 18, 87, [52], .null), (.iload 7, 90, [7], .null), (.iload 8, 92, [8], .null), (.if_icmp .le 7, 94, [50], .null), (.iconst 1, 97, [], .int 1), (.goto 17, 98, [58], .null), (.iconst 0, 101, [], .int 0), (.goto 13, 102, [58], .null), (.iload_n 1, 105, [1], .null), (.iload_n 2, 106, [2], .null), (.if_icmp .ge 7, 107, [57], .null), (.iconst 1, 110, [], .int 1), (.goto 4, 111, [58], .null), (.iconst 0, 114, [], .int 0), (.ireturn, 115, [3], .null)]
/-- TermDraw$Measures.termAt(II)I -/
abbrev mi_Measures_termAt : Nat := 26
def mm_k26 : List mm_Ins := [(.aload_n 0, 0, [0], .null), (.getfield 26, 1, [5,2,3], .null), (.iload_n 1, 4, [1], .null), (.sipush 1200, 5, [], .int 1200), (.imul, 8, [], .null), (.iload_n 2, 9, [2], .null), (.iadd, 10, [], .null), (.invokestatic 50, 11, [0,156,2], .null), (.ireturn, 14, [1], .null)]
/-- TermDraw$Measures.rankOf(II)I -/
abbrev mi_Measures_rankOf : Nat := 27
def mm_k27 : List mm_Ins := [(.iconst 0, 0, [], .int 0), (.istore_n 3, 1, [3], .null), (.iload_n 3, 2, [3], .null), (.aload_n 0, 3, [0], .null), (.getfield 34, 4, [2,2,3], .null), (.getfield 122, 7, [19,0,8], .null), (.if_icmp .ge 21, 10, [17], .null), (.aload_n 0, 13, [0], .null), (.iload_n 1, 14, [1], .null), (.iload_n 3, 15, [3], .null), (.invokevirtual 154, 16, [1,26,3,3], .null), (.iload_n 2, 19, [2], .null), (.if_icmp .ne 5, 20, [15], .null), (.iload_n 3, 23, [3], .null), (.ireturn, 24, [1], .null), (.iinc 3 1, 25, [3], .int 1), (.goto (-26), 28, [2], .null), (.iconst (-1), 31, [], .int (-1)), (.ireturn, 32, [1], .null)]
/-- TermDraw$Measures.coveredBy(II)I -/
abbrev mi_Measures_coveredBy : Nat := 28
def mm_k28 : List mm_Ins := [(.aload_n 0, 0, [0], .null), (.getfield 34, 1, [2,2,3], .null), (.getfield 157, 4, [17,2,8], .null), (.sipush 240, 7, [], .int 240), (.invokestatic 160, 10, [0,160,2], .null), (.iconst 0, 13, [], .int 0), (.istore_n 3, 14, [3], .null), (.iconst 0, 15, [], .int 0), (.istore 4, 16, [4], .null), (.iload 4, 18, [4], .null), (.iload_n 2, 20, [2], .null), (.if_icmp .ge 74, 21, [45], .null), (.iload 4, 24, [4], .null), (.aload_n 0, 26, [0], .null), (.getfield 34, 27, [2,2,3], .null), (.getfield 122, 30, [19,0,8], .null), (.if_icmp .ge 62, 33, [45], .null), (.aload_n 0, 36, [0], .null), (.iload_n 1, 37, [1], .null), (.iload 4, 38, [4], .null), (.invokevirtual 154, 40, [1,26,3,3], .null), (.istore 5, 43, [5], .null), (.iconst 0, 45, [], .int 0), (.istore 6, 46, [6], .null), (.iload 6, 48, [6], .null), (.aload_n 0, 50, [0], .null), (.getfield 34, 51, [2,2,3], .null), (.getfield 45, 54, [4,2,8], .null), (.iload 5, 57, [5], .null), (.invokestatic 50, 59, [0,156,2], .null), (.if_icmp .ge 27, 62, [43], .null), (.iload_n 3, 65, [3], .null), (.aload_n 0, 66, [0], .null), (.aload_n 0, 67, [0], .null), (.getfield 34, 68, [2,2,3], .null), (.iload 5, 71, [5], .null), (.iload 6, 73, [6], .null), (.invokevirtual 164, 75, [1,89,3,8], .null), (.invokevirtual 167, 78, [1,29,2,3], .null), (.iadd, 81, [], .null), (.istore_n 3, 82, [3], .null), (.iinc 6 1, 83, [6], .int 1), (.goto (-38), 86, [24], .null), (.iinc 4 1, 89, [4], .int 1), (.goto (-74), 92, [9], .null), (.iload_n 3, 95, [3], .null), (.ireturn, 96, [1], .null)]
/-- TermDraw$Measures.coverOne(I)I -/
abbrev mi_Measures_coverOne : Nat := 29
def mm_k29 : List mm_Ins := [(.aload_n 0, 0, [0], .null), (.getfield 34, 1, [2,2,3], .null), (.getfield 170, 4, [1,2,8], .null), (.getfield 174, 7, [2,2,2], .null), (.iload_n 1, 10, [1], .null), (.invokestatic 50, 11, [0,156,2], .null), (.istore_n 2, 14, [2], .null), (.aload_n 0, 15, [0], .null), (.getfield 34, 16, [2,2,3], .null), (.getfield 170, 19, [1,2,8], .null), (.getfield 179, 22, [3,2,2], .null), (.iload_n 1, 25, [1], .null), (.invokestatic 50, 26, [0,156,2], .null), (.istore_n 3, 29, [3], .null), (.iconst 0, 30, [], .int 0), (.istore 4, 31, [4], .null), (.iload_n 2, 33, [2], .null), (.istore 5, 34, [5], .null), (.iload 5, 36, [5], .null), (.iload_n 2, 38, [2], .null), (.iload_n 3, 39, [3], .null), (.iadd, 40, [], .null), (.if_icmp .ge 41, 41, [41], .null), (.iload 4, 44, [4], .null), (.iconst 1, 46, [], .int 1), (.aload_n 0, 47, [0], .null), (.getfield 34, 48, [2,2,3], .null), (.getfield 157, 51, [17,2,8], .null), (.iload 5, 54, [5], .null), (.invokestatic 50, 56, [0,156,2], .null), (.isub, 59, [], .null), (.iadd, 60, [], .null), (.istore 4, 61, [4], .null), (.aload_n 0, 63, [0], .null), (.getfield 34, 64, [2,2,3], .null), (.getfield 157, 67, [17,2,8], .null), (.iload 5, 70, [5], .null), (.iconst 1, 72, [], .int 1), (.invokestatic 148, 73, [0,158,3], .null), (.iinc 5 1, 76, [5], .int 1), (.goto (-43), 79, [18], .null), (.iload 4, 82, [4], .null), (.ireturn, 84, [1], .null)]
/-- TermDraw$Order.<init>()V -/
abbrev mi_Order_init : Nat := 30
def mm_k30 : List mm_Ins := [(.aload_n 0, 0, [0], .null), (.invokespecial 3, 1, [7], .null), (.aload_n 0, 4, [0], .null), (.sipush 1200, 5, [], .int 1200), (.invokestatic 9, 8, [0,154,1], .null), (.putfield 13, 11, [0,2,1,2,3], .null), (.aload_n 0, 14, [0], .null), (.sipush 1200, 15, [], .int 1200), (.invokestatic 9, 18, [0,154,1], .null), (.putfield 19, 21, [1,2,1,2,3], .null), (.return_, 24, [0], .null)]
/-- TermDraw$Order.sort(I)V -/
abbrev mi_Order_sort : Nat := 31
def mm_k31 : List mm_Ins := [(.iconst 0, 0, [], .int 0), (.istore_n 2, 1, [2], .null), (.iload_n 2, 2, [2], .null), (.iload_n 1, 3, [1], .null), (.if_icmp .ge 18, 4, [12], .null), (.aload_n 0, 7, [0], .null), (.getfield 13, 8, [0,2,2,3], .null), (.iload_n 2, 11, [2], .null), (.iload_n 2, 12, [2], .null), (.invokestatic 22, 13, [0,158,3], .null), (.iinc 2 1, 16, [2], .int 1), (.goto (-17), 19, [2], .null), (.iconst 1, 22, [], .int 1), (.istore_n 2, 23, [2], .null), (.iload_n 2, 24, [2], .null), (.iload_n 1, 25, [1], .null), (.if_icmp .ge 66, 26, [58], .null), (.iload_n 2, 29, [2], .null), (.sipush 1200, 30, [], .int 1200), (.if_icmp .ge 59, 33, [58], .null), (.iconst 0, 36, [], .int 0), (.istore_n 3, 37, [3], .null), (.iload_n 3, 38, [3], .null), (.iload_n 1, 39, [1], .null), (.if_icmp .ge 33, 40, [47], .null), (.aload_n 0, 43, [0], .null), (.iload_n 3, 44, [3], .null), (.iload_n 3, 45, [3], .null), (.iload_n 2, 46, [2], .null), (.iadd, 47, [], .null), (.iload_n 1, 48, [1], .null), (.invokestatic 26, 49, [0,292,2], .null), (.iload_n 3, 52, [3], .null), (.iconst 2, 53, [], .int 2), (.iload_n 2, 54, [2], .null), (.imul, 55, [], .null), (.iadd, 56, [], .null), (.iload_n 1, 57, [1], .null), (.invokestatic 26, 58, [0,292,2], .null), (.invokevirtual 32, 61, [3,32,4,2,3], .null), (.iload_n 3, 64, [3], .null), (.iconst 2, 65, [], .int 2), (.iload_n 2, 66, [2], .null), (.imul, 67, [], .null), (.iadd, 68, [], .null), (.istore_n 3, 69, [3], .null), (.goto (-32), 70, [22], .null), (.aload_n 0, 73, [0], .null), (.getfield 19, 74, [1,2,2,3], .null), (.aload_n 0, 77, [0], .null), (.getfield 13, 78, [0,2,2,3], .null), (.iload_n 1, 81, [1], .null), (.invokestatic 36, 82, [0,161,3], .null), (.iload_n 2, 85, [2], .null), (.iconst 2, 86, [], .int 2), (.imul, 87, [], .null), (.istore_n 2, 88, [2], .null), (.goto (-65), 89, [14], .null), (.return_, 92, [0], .null)]
/-- TermDraw$Order.merge(III)V -/
abbrev mi_Order_merge : Nat := 32
def mm_k32 : List mm_Ins := [(.iload_n 1, 0, [1], .null), (.istore 4, 1, [4], .null), (.iload_n 2, 3, [2], .null), (.istore 5, 4, [5], .null), (.iload_n 1, 6, [1], .null), (.istore 6, 7, [6], .null), (.iload 6, 9, [6], .null), (.iload_n 3, 11, [3], .null), (.if_icmp .ge 95, 12, [49], .null), (.iload 5, 15, [5], .null), (.iload_n 3, 17, [3], .null), (.if_icmp .ge 34, 18, [26], .null), (.iload 4, 21, [4], .null), (.iload_n 2, 23, [2], .null), (.if_icmp .ge 32, 24, [28], .null), (.aload_n 0, 27, [0], .null), (.aload_n 0, 28, [0], .null), (.getfield 13, 29, [0,2,2,3], .null), (.iload 5, 32, [5], .null), (.invokestatic 40, 34, [0,156,2], .null), (.aload_n 0, 37, [0], .null), (.getfield 13, 38, [0,2,2,3], .null), (.iload 4, 41, [4], .null), (.invokestatic 40, 43, [0,156,2], .null), (.invokevirtual 44, 46, [2,3,2,14,3,25], .null), (.ifCond .ne 7, 49, [28], .null), (.iconst 1, 52, [], .int 1), (.goto 4, 53, [29], .null), (.iconst 0, 56, [], .int 0), (.istore 7, 57, [7], .null), (.aload_n 0, 59, [0], .null), (.getfield 19, 60, [1,2,2,3], .null), (.iload 6, 63, [6], .null), (.aload_n 0, 65, [0], .null), (.getfield 13, 66, [0,2,2,3], .null), (.iload 7, 69, [7], .null), (.ifCond .eq 8, 71, [39], .null), (.iload 4, 74, [4], .null), (.goto 5, 76, [40], .null), (.iload 5, 79, [5], .null), (.invokestatic 40, 81, [0,156,2], .null), (.invokestatic 22, 84, [0,158,3], .null), (.iload 7, 87, [7], .null), (.ifCond .eq 9, 89, [46], .null), (.iinc 4 1, 92, [4], .int 1), (.goto 6, 95, [47], .null), (.iinc 5 1, 98, [5], .int 1), (.iinc 6 1, 101, [6], .int 1), (.goto (-95), 104, [6], .null), (.return_, 107, [0], .null)]
/-- TermDraw$Pairs.<init>(I)V -/
abbrev mi_Pairs_init : Nat := 33
def mm_k33 : List mm_Ins := [(.aload_n 0, 0, [0], .null), (.invokespecial 3, 1, [7], .null), (.aload_n 0, 4, [0], .null), (.iload_n 1, 5, [1], .null), (.invokestatic 9, 6, [0,155,1], .null), (.putfield 13, 9, [0,2,1,4], .null), (.aload_n 0, 12, [0], .null), (.iload_n 1, 13, [1], .null), (.invokestatic 9, 14, [0,155,1], .null), (.putfield 19, 17, [1,2,1,4], .null), (.return_, 20, [0], .null)]
/-- TermDraw$Pairs.copyFrom(LTermDraw$Pairs;)V -/
abbrev mi_Pairs_copyFrom : Nat := 34
def mm_k34 : List mm_Ins := [(.aload_n 0, 0, [0], .null), (.aload_n 1, 1, [1], .null), (.getfield 22, 2, [2,0,4], .null), (.putfield 22, 5, [2,0,0,4], .null), (.aload_n 1, 8, [1], .null), (.getfield 13, 9, [0,2,4], .null), (.aload_n 0, 12, [0], .null), (.getfield 13, 13, [0,2,4], .null), (.aload_n 0, 16, [0], .null), (.getfield 22, 17, [2,0,4], .null), (.invokestatic 26, 20, [0,162,3], .null), (.aload_n 1, 23, [1], .null), (.getfield 19, 24, [1,2,4], .null), (.aload_n 0, 27, [0], .null), (.getfield 19, 28, [1,2,4], .null), (.aload_n 0, 31, [0], .null), (.getfield 22, 32, [2,0,4], .null), (.invokestatic 26, 35, [0,162,3], .null), (.return_, 38, [0], .null)]
/-- TermDraw$Pairs.add(JJ)Z -/
abbrev mi_Pairs_add : Nat := 35
def mm_k35 : List mm_Ins := [(.aload_n 0, 0, [0], .null), (.getfield 22, 1, [2,0,4], .null), (.aload_n 0, 4, [0], .null), (.getfield 13, 5, [0,2,4], .null), (.arraylength, 8, [], .null), (.if_icmp .lt 5, 9, [8], .null), (.iconst 0, 12, [], .int 0), (.ireturn, 13, [3], .null), (.aload_n 0, 14, [0], .null), (.getfield 13, 15, [0,2,4], .null), (.aload_n 0, 18, [0], .null), (.getfield 22, 19, [2,0,4], .null), (.lload_n 1, 22, [1], .null), (.invokestatic 30, 23, [0,159,3], .null), (.aload_n 0, 26, [0], .null), (.getfield 19, 27, [1,2,4], .null), (.aload_n 0, 30, [0], .null), (.getfield 22, 31, [2,0,4], .null), (.lload_n 3, 34, [3], .null), (.invokestatic 30, 35, [0,159,3], .null), (.aload_n 0, 38, [0], .null), (.dup, 39, [], .null), (.getfield 22, 40, [2,0,4], .null), (.iconst 1, 43, [], .int 1), (.iadd, 44, [], .null), (.putfield 22, 45, [2,0,0,4], .null), (.iconst 1, 48, [], .int 1), (.ireturn, 49, [3], .null)]
/-- TermDraw$Pairs.indexOf(J)I -/
abbrev mi_Pairs_indexOf : Nat := 36
def mm_k36 : List mm_Ins := [(.iconst 0, 0, [], .int 0), (.istore_n 3, 1, [3], .null), (.iload_n 3, 2, [3], .null), (.aload_n 0, 3, [0], .null), (.getfield 22, 4, [2,0,4], .null), (.if_icmp .ge 24, 7, [16], .null), (.aload_n 0, 10, [0], .null), (.getfield 13, 11, [0,2,4], .null), (.iload_n 3, 14, [3], .null), (.invokestatic 34, 15, [0,157,2], .null), (.lload_n 1, 18, [1], .null), (.lcmp, 19, [1,14], .null), (.iload_n 3, 23, [3], .null), (.ireturn, 24, [1], .null), (.iinc 3 1, 25, [3], .int 1), (.goto (-26), 28, [2], .null), (.iconst (-1), 31, [], .int (-1)), (.ireturn, 32, [1], .null)]
/-- TermDraw$Pairs.set(JJ)Z -/
abbrev mi_Pairs_set : Nat := 37
def mm_k37 : List mm_Ins := [(.aload_n 0, 0, [0], .null), (.lload_n 1, 1, [1], .null), (.invokevirtual 38, 2, [1,36,2,4], .null), (.istore 5, 5, [5], .null), (.iload 5, 7, [5], .null), (.ifCond .ge 10, 9, [11], .null), (.aload_n 0, 12, [0], .null), (.lload_n 1, 13, [1], .null), (.lload_n 3, 14, [3], .null), (.invokevirtual 42, 15, [1,35,3,4], .null), (.ireturn, 18, [3], .null), (.aload_n 0, 19, [0], .null), (.getfield 19, 20, [1,2,4], .null), (.iload 5, 23, [5], .null), (.lload_n 3, 25, [3], .null), (.invokestatic 30, 26, [0,159,3], .null), (.iconst 1, 29, [], .int 1), (.ireturn, 30, [3], .null)]
/-- TermDraw$Pattern.<init>()V -/
abbrev mi_Pattern_init : Nat := 38
def mm_k38 : List mm_Ins := [(.aload_n 0, 0, [0], .null), (.invokespecial 3, 1, [7], .null), (.aload_n 0, 4, [0], .null), (.bipush 12, 5, [], .int 12), (.invokestatic 9, 7, [0,154,1], .null), (.putfield 13, 10, [0,2,1,5], .null), (.aload_n 0, 13, [0], .null), (.bipush 12, 14, [], .int 12), (.invokestatic 9, 16, [0,154,1], .null), (.putfield 19, 19, [1,2,1,5], .null), (.aload_n 0, 22, [0], .null), (.getfield 13, 23, [0,2,5], .null), (.iconst 0, 26, [], .int 0), (.bipush 97, 27, [], .int 97), (.invokestatic 22, 29, [0,158,3], .null), (.aload_n 0, 32, [0], .null), (.getfield 13, 33, [0,2,5], .null), (.iconst 1, 36, [], .int 1), (.bipush 110, 37, [], .int 110), (.invokestatic 22, 39, [0,158,3], .null), (.aload_n 0, 42, [0], .null), (.getfield 13, 43, [0,2,5], .null), (.iconst 2, 46, [], .int 2), (.bipush 110, 47, [], .int 110), (.invokestatic 22, 49, [0,158,3], .null), (.aload_n 0, 52, [0], .null), (.getfield 19, 53, [1,2,5], .null), (.iconst 0, 56, [], .int 0), (.bipush 7, 57, [], .int 7), (.invokestatic 22, 59, [0,158,3], .null), (.aload_n 0, 62, [0], .null), (.getfield 19, 63, [1,2,5], .null), (.iconst 1, 66, [], .int 1), (.bipush 7, 67, [], .int 7), (.invokestatic 22, 69, [0,158,3], .null), (.aload_n 0, 72, [0], .null), (.iconst 3, 73, [], .int 3), (.putfield 26, 74, [2,0,0,5], .null), (.aload_n 0, 77, [0], .null), (.bipush 7, 78, [], .int 7), (.putfield 30, 80, [3,0,0,5], .null), (.aload_n 0, 83, [0], .null), (.iconst 4, 84, [], .int 4), (.putfield 33, 85, [4,0,0,5], .null), (.return_, 88, [0], .null)]
/-- TermDraw$Pattern.copyFrom(LTermDraw$Pattern;)V -/
abbrev mi_Pattern_copyFrom : Nat := 39
def mm_k39 : List mm_Ins := [(.aload_n 0, 0, [0], .null), (.aload_n 1, 1, [1], .null), (.getfield 26, 2, [2,0,5], .null), (.putfield 26, 5, [2,0,0,5], .null), (.aload_n 1, 8, [1], .null), (.getfield 13, 9, [0,2,5], .null), (.aload_n 0, 12, [0], .null), (.getfield 13, 13, [0,2,5], .null), (.aload_n 0, 16, [0], .null), (.getfield 26, 17, [2,0,5], .null), (.invokestatic 36, 20, [0,161,3], .null), (.aload_n 1, 23, [1], .null), (.getfield 19, 24, [1,2,5], .null), (.aload_n 0, 27, [0], .null), (.getfield 19, 28, [1,2,5], .null), (.aload_n 0, 31, [0], .null), (.getfield 26, 32, [2,0,5], .null), (.invokestatic 36, 35, [0,161,3], .null), (.aload_n 0, 38, [0], .null), (.aload_n 1, 39, [1], .null), (.getfield 30, 40, [3,0,5], .null), (.putfield 30, 43, [3,0,0,5], .null), (.aload_n 0, 46, [0], .null), (.aload_n 1, 47, [1], .null), (.getfield 33, 48, [4,0,5], .null), (.putfield 33, 51, [4,0,0,5], .null), (.return_, 54, [0], .null)]
/-- TermDraw$Pattern.read(LTermDraw$Reader;)V -/
abbrev mi_Pattern_read : Nat := 40
def mm_k40 : List mm_Ins := [(.aload_n 0, 0, [0], .null), (.iconst 0, 1, [], .int 0), (.putfield 26, 2, [2,0,0,5], .null), (.aload_n 0, 5, [0], .null), (.aload_n 1, 6, [1], .null), (.iconst 0, 7, [], .int 0), (.invokevirtual 40, 8, [1,41,3,5], .null), (.istore_n 2, 11, [2], .null), (.aload_n 1, 12, [1], .null), (.iconst (-1), 13, [], .int (-1)), (.invokevirtual 44, 14, [1,66,2,7], .null), (.pop, 17, [], .null), (.aload_n 0, 18, [0], .null), (.iload_n 2, 19, [2], .null), (.invokestatic 50, 20, [0,46,1], .null), (.putfield 30, 23, [3,0,0,5], .null), (.aload_n 0, 26, [0], .null), (.iload_n 2, 27, [2], .null), (.invokestatic 54, 28, [0,47,1], .null), (.putfield 33, 31, [4,0,0,5], .null), (.return_, 34, [0], .null)]
/-- TermDraw$Pattern.readAlt(LTermDraw$Reader;I)I -/
abbrev mi_Pattern_readAlt : Nat := 41
def mm_k41 : List mm_Ins := [(.aload_n 0, 0, [0], .null), (.aload_n 1, 1, [1], .null), (.iload_n 2, 2, [2], .null), (.invokevirtual 57, 3, [1,42,3,5], .null), (.istore_n 3, 6, [3], .null), (.iconst 0, 7, [], .int 0), (.istore 4, 8, [4], .null), (.iload 4, 10, [4], .null), (.sipush 600, 12, [], .int 600), (.if_icmp .ge 38, 15, [28], .null), (.aload_n 1, 18, [1], .null), (.getfield 60, 19, [5,0,7], .null), (.ifCond .ne 31, 22, [28], .null), (.aload_n 1, 25, [1], .null), (.getfield 63, 26, [3,0,7], .null), (.bipush 124, 29, [], .int 124), (.if_icmp .ne 22, 31, [28], .null), (.aload_n 1, 34, [1], .null), (.invokevirtual 66, 35, [1,64,1,7], .null), (.iload_n 3, 38, [3], .null), (.aload_n 0, 39, [0], .null), (.aload_n 1, 40, [1], .null), (.iload_n 2, 41, [2], .null), (.invokevirtual 57, 42, [1,42,3,5], .null), (.ior, 45, [], .null), (.istore_n 3, 46, [3], .null), (.iinc 4 1, 47, [4], .int 1), (.goto (-40), 50, [7], .null), (.iload_n 3, 53, [3], .null), (.ireturn, 54, [1], .null)]
/-- TermDraw$Pattern.readRow(LTermDraw$Reader;I)I -/
abbrev mi_Pattern_readRow : Nat := 42
def mm_k42 : List mm_Ins := [(.ldc 69, 0, [], .int 16777216), (.istore_n 3, 2, [3], .null), (.iconst 0, 3, [], .int 0), (.istore 4, 4, [4], .null), (.iload 4, 6, [4], .null), (.sipush 600, 8, [], .int 600), (.if_icmp .ge 57, 11, [33], .null), (.aload_n 1, 14, [1], .null), (.getfield 60, 15, [5,0,7], .null), (.ifCond .ne 50, 18, [33], .null), (.aload_n 1, 21, [1], .null), (.getfield 63, 22, [3,0,7], .null), (.iconst (-1), 25, [], .int (-1)), (.if_icmp .eq 42, 26, [33], .null), (.aload_n 1, 29, [1], .null), (.getfield 63, 30, [3,0,7], .null), (.bipush 124, 33, [], .int 124), (.if_icmp .eq 33, 35, [33], .null), (.aload_n 1, 38, [1], .null), (.getfield 63, 39, [3,0,7], .null), (.bipush 41, 42, [], .int 41), (.if_icmp .ne 6, 44, [23], .null), (.goto 21, 47, [33], .null), (.aload_n 0, 50, [0], .null), (.iload_n 3, 51, [3], .null), (.aload_n 0, 52, [0], .null), (.aload_n 1, 53, [1], .null), (.iload_n 2, 54, [2], .null), (.invokevirtual 70, 55, [1,43,3,5], .null), (.invokevirtual 73, 58, [1,49,3,5], .null), (.istore_n 3, 61, [3], .null), (.iinc 4 1, 62, [4], .int 1), (.goto (-59), 65, [4], .null), (.iload_n 3, 68, [3], .null), (.ireturn, 69, [1], .null)]
/-- TermDraw$Pattern.readItem(LTermDraw$Reader;I)I -/
abbrev mi_Pattern_readItem : Nat := 43
def mm_k43 : List mm_Ins := [(.aload_n 1, 0, [1], .null), (.getfield 63, 1, [3,0,7], .null), (.bipush 40, 4, [], .int 40), (.if_icmp .ne 12, 6, [9], .null), (.aload_n 0, 9, [0], .null), (.aload_n 1, 10, [1], .null), (.iload_n 2, 11, [2], .null), (.invokevirtual 77, 12, [1,44,3,5], .null), (.goto 8, 15, [12], .null), (.aload_n 0, 18, [0], .null), (.aload_n 1, 19, [1], .null), (.invokevirtual 80, 20, [1,45,2,5], .null), (.istore_n 3, 23, [3], .null), (.aload_n 1, 24, [1], .null), (.getfield 60, 25, [5,0,7], .null), (.ifCond .eq 5, 28, [18], .null), (.iload_n 3, 31, [3], .null), (.ireturn, 32, [1], .null), (.aload_n 1, 33, [1], .null), (.getfield 63, 34, [3,0,7], .null), (.bipush 42, 37, [], .int 42), (.if_icmp .eq 12, 39, [26], .null), (.aload_n 1, 42, [1], .null), (.getfield 63, 43, [3,0,7], .null), (.bipush 43, 46, [], .int 43), (.if_icmp .ne 7, 48, [28], .null), (.iconst 1, 51, [], .int 1), (.goto 4, 52, [29], .null), (.iconst 0, 55, [], .int 0), (.istore 4, 56, [4], .null), (.aload_n 1, 58, [1], .null), (.getfield 63, 59, [3,0,7], .null), (.bipush 42, 62, [], .int 42), (.if_icmp .eq 12, 64, [38], .null), (.aload_n 1, 67, [1], .null), (.getfield 63, 68, [3,0,7], .null), (.bipush 63, 71, [], .int 63), (.if_icmp .ne 7, 73, [40], .null), (.iconst 1, 76, [], .int 1), (.goto 4, 77, [41], .null), (.iconst 0, 80, [], .int 0), (.istore 5, 81, [5], .null), (.iload 4, 83, [4], .null), (.ifCond .eq 9, 85, [48], .null), (.aload_n 0, 88, [0], .null), (.iload_n 3, 89, [3], .null), (.iload_n 3, 90, [3], .null), (.invokevirtual 84, 91, [1,48,3,5], .null), (.iload 4, 94, [4], .null), (.ifCond .ne 8, 96, [52], .null), (.iload 5, 99, [5], .null), (.ifCond .eq 7, 101, [54], .null), (.aload_n 1, 104, [1], .null), (.invokevirtual 66, 105, [1,64,1,7], .null), (.iload 5, 108, [5], .null), (.ifCond .eq 10, 110, [60], .null), (.iload_n 3, 113, [3], .null), (.ldc 69, 114, [], .int 16777216), (.ior, 116, [], .null), (.goto 4, 117, [61], .null), (.iload_n 3, 120, [3], .null), (.ireturn, 121, [1], .null)]
/-- TermDraw$Pattern.readGroup(LTermDraw$Reader;I)I -/
abbrev mi_Pattern_readGroup : Nat := 44
def mm_k44 : List mm_Ins := [(.iload_n 2, 0, [2], .null), (.iconst 4, 1, [], .int 4), (.if_icmp .lt 10, 2, [8], .null), (.aload_n 1, 5, [1], .null), (.iconst 2, 6, [], .int 2), (.invokevirtual 88, 7, [1,63,2,7], .null), (.iconst 0, 10, [], .int 0), (.ireturn, 11, [1], .null), (.aload_n 1, 12, [1], .null), (.invokevirtual 66, 13, [1,64,1,7], .null), (.aload_n 0, 16, [0], .null), (.aload_n 1, 17, [1], .null), (.iload_n 2, 18, [2], .null), (.iconst 1, 19, [], .int 1), (.iadd, 20, [], .null), (.invokevirtual 40, 21, [1,41,3,5], .null), (.istore_n 3, 24, [3], .null), (.aload_n 1, 25, [1], .null), (.bipush 41, 26, [], .int 41), (.invokevirtual 44, 28, [1,66,2,7], .null), (.ifCond .eq 7, 31, [23], .null), (.aload_n 1, 34, [1], .null), (.invokevirtual 66, 35, [1,64,1,7], .null), (.iload_n 3, 38, [3], .null), (.ireturn, 39, [1], .null)]
/-- TermDraw$Pattern.readKind(LTermDraw$Reader;)I -/
abbrev mi_Pattern_readKind : Nat := 45
def mm_k45 : List mm_Ins := [(.aload_n 1, 0, [1], .null), (.getfield 63, 1, [3,0,7], .null), (.bipush 46, 4, [], .int 46), (.if_icmp .eq 20, 6, [13], .null), (.aload_n 1, 9, [1], .null), (.getfield 63, 10, [3,0,7], .null), (.invokestatic 92, 13, [0,69,1], .null), (.ifCond .ne 10, 16, [13], .null), (.aload_n 1, 19, [1], .null), (.iconst 1, 20, [], .int 1), (.invokevirtual 88, 21, [1,63,2,7], .null), (.iconst 0, 24, [], .int 0), (.ireturn, 25, [1], .null), (.aload_n 0, 26, [0], .null), (.getfield 26, 27, [2,0,5], .null), (.bipush 12, 30, [], .int 12), (.if_icmp .lt 10, 32, [22], .null), (.aload_n 1, 35, [1], .null), (.iconst 2, 36, [], .int 2), (.invokevirtual 88, 37, [1,63,2,7], .null), (.iconst 0, 40, [], .int 0), (.ireturn, 41, [1], .null), (.aload_n 0, 42, [0], .null), (.getfield 13, 43, [0,2,5], .null), (.aload_n 0, 46, [0], .null), (.getfield 26, 47, [2,0,5], .null), (.aload_n 1, 50, [1], .null), (.getfield 63, 51, [3,0,7], .null), (.invokestatic 22, 54, [0,158,3], .null), (.aload_n 0, 57, [0], .null), (.getfield 19, 58, [1,2,5], .null), (.aload_n 0, 61, [0], .null), (.getfield 26, 62, [2,0,5], .null), (.iconst 0, 65, [], .int 0), (.invokestatic 22, 66, [0,158,3], .null), (.iconst 1, 69, [], .int 1), (.aload_n 0, 70, [0], .null), (.getfield 26, 71, [2,0,5], .null), (.ishl, 74, [], .null), (.istore_n 2, 75, [2], .null), (.aload_n 0, 76, [0], .null), (.dup, 77, [], .null), (.getfield 26, 78, [2,0,5], .null), (.iconst 1, 81, [], .int 1), (.iadd, 82, [], .null), (.putfield 26, 83, [2,0,0,5], .null), (.aload_n 1, 86, [1], .null), (.invokevirtual 66, 87, [1,64,1,7], .null), (.iload_n 2, 90, [2], .null), (.iload_n 2, 91, [2], .null), (.bipush 12, 92, [], .int 12), (.ishl, 94, [], .null), (.ior, 95, [], .null), (.ireturn, 96, [1], .null)]
/-- TermDraw$Pattern.firstOf(I)I -/
abbrev mi_Pattern_firstOf : Nat := 46
def mm_k46 : List mm_Ins := [(.iload_n 0, 0, [0], .null), (.sipush 4095, 1, [], .int 4095), (.iand, 4, [], .null), (.ireturn, 5, [1], .null)]
/-- TermDraw$Pattern.lastOf(I)I -/
abbrev mi_Pattern_lastOf : Nat := 47
def mm_k47 : List mm_Ins := [(.iload_n 0, 0, [0], .null), (.bipush 12, 1, [], .int 12), (.iushr, 3, [], .null), (.sipush 4095, 4, [], .int 4095), (.iand, 7, [], .null), (.ireturn, 8, [1], .null)]
/-- TermDraw$Pattern.link(II)V -/
abbrev mi_Pattern_link : Nat := 48
def mm_k48 : List mm_Ins := [(.iload_n 1, 0, [1], .null), (.invokestatic 54, 1, [0,47,1], .null), (.istore_n 3, 4, [3], .null), (.iconst 0, 5, [], .int 0), (.istore 4, 6, [4], .null), (.iload 4, 8, [4], .null), (.aload_n 0, 10, [0], .null), (.getfield 26, 11, [2,0,5], .null), (.if_icmp .ge 48, 14, [31], .null), (.iload 4, 17, [4], .null), (.bipush 12, 19, [], .int 12), (.if_icmp .ge 41, 21, [31], .null), (.iload_n 3, 24, [3], .null), (.iload 4, 25, [4], .null), (.iushr, 27, [], .null), (.iconst 1, 28, [], .int 1), (.iand, 29, [], .null), (.ifCond .eq 26, 30, [29], .null), (.aload_n 0, 33, [0], .null), (.getfield 19, 34, [1,2,5], .null), (.iload 4, 37, [4], .null), (.aload_n 0, 39, [0], .null), (.getfield 19, 40, [1,2,5], .null), (.iload 4, 43, [4], .null), (.invokestatic 95, 45, [0,156,2], .null), (.iload_n 2, 48, [2], .null), (.invokestatic 50, 49, [0,46,1], .null), (.ior, 52, [], .null), (.invokestatic 22, 53, [0,158,3], .null), (.iinc 4 1, 56, [4], .int 1), (.goto (-51), 59, [5], .null), (.return_, 62, [0], .null)]
/-- TermDraw$Pattern.joined(II)I -/
abbrev mi_Pattern_joined : Nat := 49
def mm_k49 : List mm_Ins := [(.aload_n 0, 0, [0], .null), (.iload_n 1, 1, [1], .null), (.iload_n 2, 2, [2], .null), (.invokevirtual 84, 3, [1,48,3,5], .null), (.iload_n 1, 6, [1], .null), (.invokestatic 50, 7, [0,46,1], .null), (.iload_n 1, 10, [1], .null), (.ldc 69, 11, [], .int 16777216), (.iand, 13, [], .null), (.ifCond .eq 10, 14, [13], .null), (.iload_n 2, 17, [2], .null), (.invokestatic 50, 18, [0,46,1], .null), (.goto 4, 21, [14], .null), (.iconst 0, 24, [], .int 0), (.ior, 25, [], .null), (.istore_n 3, 26, [3], .null), (.iload_n 2, 27, [2], .null), (.invokestatic 54, 28, [0,47,1], .null), (.iload_n 2, 31, [2], .null), (.ldc 69, 32, [], .int 16777216), (.iand, 34, [], .null), (.ifCond .eq 10, 35, [25], .null), (.iload_n 1, 38, [1], .null), (.invokestatic 54, 39, [0,47,1], .null), (.goto 4, 42, [26], .null), (.iconst 0, 45, [], .int 0), (.ior, 46, [], .null), (.istore 4, 47, [4], .null), (.iload_n 3, 49, [3], .null), (.iload 4, 50, [4], .null), (.bipush 12, 52, [], .int 12), (.ishl, 54, [], .null), (.ior, 55, [], .null), (.iload_n 1, 56, [1], .null), (.iload_n 2, 57, [2], .null), (.iand, 58, [], .null), (.ldc 69, 59, [], .int 16777216), (.iand, 61, [], .null), (.ior, 62, [], .null), (.ireturn, 63, [1], .null)]
/-- TermDraw$Pattern.taking(II)I -/
abbrev mi_Pattern_taking : Nat := 50
def mm_k50 : List mm_Ins := [(.iconst 0, 0, [], .int 0), (.istore_n 3, 1, [3], .null), (.iconst 0, 2, [], .int 0), (.istore 4, 3, [4], .null), (.iload 4, 5, [4], .null), (.aload_n 0, 7, [0], .null), (.getfield 26, 8, [2,0,5], .null), (.if_icmp .ge 56, 11, [36], .null), (.iload 4, 14, [4], .null), (.bipush 12, 16, [], .int 12), (.if_icmp .ge 49, 18, [36], .null), (.aload_n 0, 21, [0], .null), (.getfield 13, 22, [0,2,5], .null), (.iload 4, 25, [4], .null), (.invokestatic 95, 27, [0,156,2], .null), (.istore 5, 30, [5], .null), (.iload_n 1, 32, [1], .null), (.iload 4, 33, [4], .null), (.iushr, 35, [], .null), (.iconst 1, 36, [], .int 1), (.iand, 37, [], .null), (.ifCond .eq 23, 38, [34], .null), (.iload 5, 41, [5], .null), (.bipush 46, 43, [], .int 46), (.if_icmp .eq 9, 45, [28], .null), (.iload 5, 48, [5], .null), (.iload_n 2, 50, [2], .null), (.if_icmp .ne 10, 51, [34], .null), (.iload_n 3, 54, [3], .null), (.iconst 1, 55, [], .int 1), (.iload 4, 56, [4], .null), (.ishl, 58, [], .null), (.ior, 59, [], .null), (.istore_n 3, 60, [3], .null), (.iinc 4 1, 61, [4], .int 1), (.goto (-59), 64, [4], .null), (.iload_n 3, 67, [3], .null), (.ireturn, 68, [1], .null)]
/-- TermDraw$Pattern.startBy(I)I -/
abbrev mi_Pattern_startBy : Nat := 51
def mm_k51 : List mm_Ins := [(.aload_n 0, 0, [0], .null), (.aload_n 0, 1, [0], .null), (.getfield 30, 2, [3,0,5], .null), (.iload_n 1, 5, [1], .null), (.invokevirtual 99, 6, [1,50,3,5], .null), (.ireturn, 9, [1], .null)]
/-- TermDraw$Pattern.goOn(II)I -/
abbrev mi_Pattern_goOn : Nat := 52
def mm_k52 : List mm_Ins := [(.iconst 0, 0, [], .int 0), (.istore_n 3, 1, [3], .null), (.iconst 0, 2, [], .int 0), (.istore 4, 3, [4], .null), (.iload 4, 5, [4], .null), (.aload_n 0, 7, [0], .null), (.getfield 26, 8, [2,0,5], .null), (.if_icmp .ge 37, 11, [26], .null), (.iload 4, 14, [4], .null), (.bipush 12, 16, [], .int 12), (.if_icmp .ge 30, 18, [26], .null), (.iload_n 1, 21, [1], .null), (.iload 4, 22, [4], .null), (.iushr, 24, [], .null), (.iconst 1, 25, [], .int 1), (.iand, 26, [], .null), (.ifCond .eq 15, 27, [24], .null), (.iload_n 3, 30, [3], .null), (.aload_n 0, 31, [0], .null), (.getfield 19, 32, [1,2,5], .null), (.iload 4, 35, [4], .null), (.invokestatic 95, 37, [0,156,2], .null), (.ior, 40, [], .null), (.istore_n 3, 41, [3], .null), (.iinc 4 1, 42, [4], .int 1), (.goto (-40), 45, [4], .null), (.aload_n 0, 48, [0], .null), (.iload_n 3, 49, [3], .null), (.iload_n 2, 50, [2], .null), (.invokevirtual 99, 51, [1,50,3,5], .null), (.ireturn, 54, [1], .null)]
/-- TermDraw$Pattern.endsWith(I)Z -/
abbrev mi_Pattern_endsWith : Nat := 53
def mm_k53 : List mm_Ins := [(.iload_n 1, 0, [1], .null), (.aload_n 0, 1, [0], .null), (.getfield 33, 2, [4,0,5], .null), (.iand, 5, [], .null), (.ifCond .eq 7, 6, [7], .null), (.iconst 1, 9, [], .int 1), (.goto 4, 10, [8], .null), (.iconst 0, 13, [], .int 0), (.ireturn, 14, [3], .null)]
/-- TermDraw$Prose.<init>()V -/
abbrev mi_Prose_init : Nat := 54
def mm_k54 : List mm_Ins := [(.aload_n 0, 0, [0], .null), (.invokespecial 3, 1, [7], .null), (.aload_n 0, 4, [0], .null), (.sipush 240, 5, [], .int 240), (.invokestatic 9, 8, [0,155,1], .null), (.putfield 13, 11, [0,2,1,6], .null), (.aload_n 0, 14, [0], .null), (.sipush 240, 15, [], .int 240), (.invokestatic 19, 18, [0,154,1], .null), (.putfield 23, 21, [1,2,1,6], .null), (.return_, 24, [0], .null)]
/-- TermDraw$Prose.copyFrom(LTermDraw$Prose;)V -/
abbrev mi_Prose_copyFrom : Nat := 55
def mm_k55 : List mm_Ins := [(.aload_n 0, 0, [0], .null), (.aload_n 1, 1, [1], .null), (.getfield 27, 2, [2,0,6], .null), (.putfield 27, 5, [2,0,0,6], .null), (.aload_n 1, 8, [1], .null), (.getfield 13, 9, [0,2,6], .null), (.aload_n 0, 12, [0], .null), (.getfield 13, 13, [0,2,6], .null), (.aload_n 0, 16, [0], .null), (.getfield 27, 17, [2,0,6], .null), (.invokestatic 31, 20, [0,162,3], .null), (.aload_n 1, 23, [1], .null), (.getfield 23, 24, [1,2,6], .null), (.aload_n 0, 27, [0], .null), (.getfield 23, 28, [1,2,6], .null), (.aload_n 0, 31, [0], .null), (.getfield 27, 32, [2,0,6], .null), (.invokestatic 35, 35, [0,161,3], .null), (.return_, 38, [0], .null)]
/-- TermDraw$Prose.add(JI)Z -/
abbrev mi_Prose_add : Nat := 56
def mm_k56 : List mm_Ins := [(.aload_n 0, 0, [0], .null), (.getfield 27, 1, [2,0,6], .null), (.sipush 240, 4, [], .int 240), (.if_icmp .lt 5, 7, [6], .null), (.iconst 0, 10, [], .int 0), (.ireturn, 11, [3], .null), (.aload_n 0, 12, [0], .null), (.getfield 13, 13, [0,2,6], .null), (.aload_n 0, 16, [0], .null), (.getfield 27, 17, [2,0,6], .null), (.lload_n 1, 20, [1], .null), (.invokestatic 38, 21, [0,159,3], .null), (.aload_n 0, 24, [0], .null), (.getfield 23, 25, [1,2,6], .null), (.aload_n 0, 28, [0], .null), (.getfield 27, 29, [2,0,6], .null), (.iload_n 3, 32, [3], .null), (.invokestatic 42, 33, [0,158,3], .null), (.aload_n 0, 36, [0], .null), (.dup, 37, [], .null), (.getfield 27, 38, [2,0,6], .null), (.iconst 1, 41, [], .int 1), (.iadd, 42, [], .null), (.putfield 27, 43, [2,0,0,6], .null), (.iconst 1, 46, [], .int 1), (.ireturn, 47, [3], .null)]
/-- TermDraw$Prose.wordAt(I)J -/
abbrev mi_Prose_wordAt : Nat := 57
def mm_k57 : List mm_Ins := [(.aload_n 0, 0, [0], .null), (.getfield 13, 1, [0,2,6], .null), (.iload_n 1, 4, [1], .null), (.invokestatic 45, 5, [0,157,2], .null), (.lreturn, 8, [2], .null)]
/-- TermDraw$Prose.nextSentence()I -/
abbrev mi_Prose_nextSentence : Nat := 58
def mm_k58 : List mm_Ins := [(.aload_n 0, 0, [0], .null), (.getfield 27, 1, [2,0,6], .null), (.ifCond .ne 7, 4, [5], .null), (.iconst 0, 7, [], .int 0), (.goto 18, 8, [14], .null), (.aload_n 0, 11, [0], .null), (.getfield 23, 12, [1,2,6], .null), (.aload_n 0, 15, [0], .null), (.getfield 27, 16, [2,0,6], .null), (.iconst 1, 19, [], .int 1), (.isub, 20, [], .null), (.invokestatic 49, 21, [0,156,2], .null), (.iconst 1, 24, [], .int 1), (.iadd, 25, [], .null), (.ireturn, 26, [1], .null)]
/-- TermDraw$Prose.oneSentence(II)Z -/
abbrev mi_Prose_oneSentence : Nat := 59
def mm_k59 : List mm_Ins := [(.iload_n 1, 0, [1], .null), (.ifCond .lt 46, 1, [23], .null), (.iload_n 2, 4, [2], .null), (.ifCond .lt 42, 5, [23], .null), (.iload_n 1, 8, [1], .null), (.aload_n 0, 9, [0], .null), (.getfield 27, 10, [2,0,6], .null), (.if_icmp .ge 34, 13, [23], .null), (.iload_n 2, 16, [2], .null), (.aload_n 0, 17, [0], .null), (.getfield 27, 18, [2,0,6], .null), (.if_icmp .ge 26, 21, [23], .null), (.aload_n 0, 24, [0], .null), (.getfield 23, 25, [1,2,6], .null), (.iload_n 1, 28, [1], .null), (.invokestatic 49, 29, [0,156,2], .null), (.aload_n 0, 32, [0], .null), (.getfield 23, 33, [1,2,6], .null), (.iload_n 2, 36, [2], .null), (.invokestatic 49, 37, [0,156,2], .null), (.if_icmp .ne 7, 40, [23], .null), (.iconst 1, 43, [], .int 1), (.goto 4, 44, [24], .null), (.iconst 0, 47, [], .int 0), (.ireturn, 48, [3], .null)]
/-- TermDraw$Prose.remove(II)V -/
abbrev mi_Prose_remove : Nat := 60
def mm_k60 : List mm_Ins := [(.iload_n 1, 0, [1], .null), (.istore_n 3, 1, [3], .null), (.iload_n 3, 2, [3], .null), (.iload_n 2, 3, [2], .null), (.iadd, 4, [], .null), (.aload_n 0, 5, [0], .null), (.getfield 27, 6, [2,0,6], .null), (.if_icmp .ge 45, 9, [30], .null), (.aload_n 0, 12, [0], .null), (.getfield 13, 13, [0,2,6], .null), (.iload_n 3, 16, [3], .null), (.aload_n 0, 17, [0], .null), (.getfield 13, 18, [0,2,6], .null), (.iload_n 3, 21, [3], .null), (.iload_n 2, 22, [2], .null), (.iadd, 23, [], .null), (.invokestatic 45, 24, [0,157,2], .null), (.invokestatic 38, 27, [0,159,3], .null), (.aload_n 0, 30, [0], .null), (.getfield 23, 31, [1,2,6], .null), (.iload_n 3, 34, [3], .null), (.aload_n 0, 35, [0], .null), (.getfield 23, 36, [1,2,6], .null), (.iload_n 3, 39, [3], .null), (.iload_n 2, 40, [2], .null), (.iadd, 41, [], .null), (.invokestatic 49, 42, [0,156,2], .null), (.invokestatic 42, 45, [0,158,3], .null), (.iinc 3 1, 48, [3], .int 1), (.goto (-49), 51, [2], .null), (.aload_n 0, 54, [0], .null), (.dup, 55, [], .null), (.getfield 27, 56, [2,0,6], .null), (.iload_n 2, 59, [2], .null), (.isub, 60, [], .null), (.putfield 27, 61, [2,0,0,6], .null), (.return_, 64, [0], .null)]
/-- TermDraw$Reader.<init>(LTermDraw$Bytes;)V -/
abbrev mi_Reader_init : Nat := 61
def mm_k61 : List mm_Ins := [(.aload_n 0, 0, [0], .null), (.invokespecial 3, 1, [7], .null), (.aload_n 0, 4, [0], .null), (.aload_n 1, 5, [1], .null), (.putfield 9, 6, [0,2,1,7], .null), (.return_, 9, [0], .null)]
/-- TermDraw$Reader.begin()V -/
abbrev mi_Reader_begin : Nat := 62
def mm_k62 : List mm_Ins := [(.aload_n 0, 0, [0], .null), (.iconst 0, 1, [], .int 0), (.putfield 15, 2, [1,0,0,7], .null), (.aload_n 0, 5, [0], .null), (.iconst 0, 6, [], .int 0), (.putfield 19, 7, [5,0,0,7], .null), (.aload_n 0, 10, [0], .null), (.iconst (-1), 11, [], .int (-1)), (.putfield 22, 12, [6,0,0,7], .null), (.return_, 15, [0], .null)]
/-- TermDraw$Reader.refuse(I)V -/
abbrev mi_Reader_refuse : Nat := 63
def mm_k63 : List mm_Ins := [(.aload_n 0, 0, [0], .null), (.getfield 19, 1, [5,0,7], .null), (.ifCond .ne 16, 4, [10], .null), (.aload_n 0, 7, [0], .null), (.iload_n 1, 8, [1], .null), (.putfield 19, 9, [5,0,0,7], .null), (.aload_n 0, 12, [0], .null), (.aload_n 0, 13, [0], .null), (.getfield 25, 14, [2,0,7], .null), (.putfield 22, 17, [6,0,0,7], .null), (.return_, 20, [0], .null)]
/-- TermDraw$Reader.nextByte()V -/
abbrev mi_Reader_nextByte : Nat := 64
def mm_k64 : List mm_Ins := [(.aload_n 0, 0, [0], .null), (.getfield 9, 1, [0,2,7], .null), (.aload_n 0, 4, [0], .null), (.getfield 15, 5, [1,0,7], .null), (.invokevirtual 28, 8, [1,7,2,1], .null), (.istore_n 1, 11, [1], .null), (.iconst 0, 12, [], .int 0), (.istore_n 2, 13, [2], .null), (.iload_n 2, 14, [2], .null), (.sipush 600, 15, [], .int 600), (.if_icmp .ge 43, 18, [31], .null), (.iload_n 1, 21, [1], .null), (.bipush 32, 22, [], .int 32), (.if_icmp .eq 9, 24, [17], .null), (.iload_n 1, 27, [1], .null), (.bipush 10, 28, [], .int 10), (.if_icmp .ne 31, 30, [31], .null), (.aload_n 0, 33, [0], .null), (.dup, 34, [], .null), (.getfield 15, 35, [1,0,7], .null), (.iconst 1, 38, [], .int 1), (.iadd, 39, [], .null), (.putfield 15, 40, [1,0,0,7], .null), (.aload_n 0, 43, [0], .null), (.getfield 9, 44, [0,2,7], .null), (.aload_n 0, 47, [0], .null), (.getfield 15, 48, [1,0,7], .null), (.invokevirtual 28, 51, [1,7,2,1], .null), (.istore_n 1, 54, [1], .null), (.iinc 2 1, 55, [2], .int 1), (.goto (-44), 58, [8], .null), (.aload_n 0, 61, [0], .null), (.aload_n 0, 62, [0], .null), (.getfield 15, 63, [1,0,7], .null), (.putfield 25, 66, [2,0,0,7], .null), (.aload_n 0, 69, [0], .null), (.iload_n 1, 70, [1], .null), (.putfield 34, 71, [3,0,0,7], .null), (.iload_n 1, 74, [1], .null), (.iconst (-1), 75, [], .int (-1)), (.if_icmp .eq 13, 76, [47], .null), (.aload_n 0, 79, [0], .null), (.dup, 80, [], .null), (.getfield 15, 81, [1,0,7], .null), (.iconst 1, 84, [], .int 1), (.iadd, 85, [], .null), (.putfield 15, 86, [1,0,0,7], .null), (.return_, 89, [0], .null)]
/-- TermDraw$Reader.next()V -/
abbrev mi_Reader_next : Nat := 65
def mm_k65 : List mm_Ins := [(.aload_n 0, 0, [0], .null), (.invokevirtual 37, 1, [1,64,1,7], .null), (.aload_n 0, 4, [0], .null), (.getfield 34, 5, [3,0,7], .null), (.invokestatic 40, 8, [0,169,1], .null), (.ifCond .ne 4, 11, [7], .null), (.return_, 14, [0], .null), (.iconst 0, 15, [], .int 0), (.istore_n 1, 16, [1], .null), (.aload_n 0, 17, [0], .null), (.lconst 0, 18, [], .long 0), (.putfield 44, 19, [4,1,0,7], .null), (.aload_n 0, 22, [0], .null), (.aload_n 0, 23, [0], .null), (.getfield 25, 24, [2,0,7], .null), (.putfield 15, 27, [1,0,0,7], .null), (.iconst 0, 30, [], .int 0), (.istore_n 2, 31, [2], .null), (.iload_n 2, 32, [2], .null), (.sipush 600, 33, [], .int 600), (.if_icmp .ge 74, 36, [56], .null), (.aload_n 0, 39, [0], .null), (.getfield 9, 40, [0,2,7], .null), (.aload_n 0, 43, [0], .null), (.getfield 15, 44, [1,0,7], .null), (.invokevirtual 28, 47, [1,7,2,1], .null), (.invokestatic 40, 50, [0,169,1], .null), (.ifCond .eq 57, 53, [56], .null), (.iload_n 1, 56, [1], .null), (.bipush 10, 57, [], .int 10), (.if_icmp .ge 32, 59, [47], .null), (.aload_n 0, 62, [0], .null), (.dup, 63, [], .null), (.getfield 44, 64, [4,1,7], .null), (.aload_n 0, 67, [0], .null), (.getfield 9, 68, [0,2,7], .null), (.aload_n 0, 71, [0], .null), (.getfield 15, 72, [1,0,7], .null), (.invokevirtual 28, 75, [1,7,2,1], .null), (.bipush 96, 78, [], .int 96), (.isub, 80, [], .null), (.i2l, 81, [], .null), (.iload_n 1, 82, [1], .null), (.invokestatic 48, 83, [0,166,1], .null), (.lshl, 86, [], .null), (.lor, 87, [], .null), (.putfield 44, 88, [4,1,0,7], .null), (.iinc 1 1, 91, [1], .int 1), (.aload_n 0, 94, [0], .null), (.dup, 95, [], .null), (.getfield 15, 96, [1,0,7], .null), (.iconst 1, 99, [], .int 1), (.iadd, 100, [], .null), (.putfield 15, 101, [1,0,0,7], .null), (.iinc 2 1, 104, [2], .int 1), (.goto (-75), 107, [18], .null), (.aload_n 0, 110, [0], .null), (.iload_n 1, 111, [1], .null), (.bipush 10, 112, [], .int 10), (.if_icmp .le 8, 114, [62], .null), (.bipush (-3), 117, [], .int (-3)), (.goto 5, 119, [63], .null), (.bipush (-2), 122, [], .int (-2)), (.putfield 34, 124, [3,0,0,7], .null), (.return_, 127, [0], .null)]
/-- TermDraw$Reader.needs(I)Z -/
abbrev mi_Reader_needs : Nat := 66
def mm_k66 : List mm_Ins := [(.aload_n 0, 0, [0], .null), (.getfield 34, 1, [3,0,7], .null), (.iload_n 1, 4, [1], .null), (.if_icmp .eq 8, 5, [7], .null), (.aload_n 0, 8, [0], .null), (.iconst 1, 9, [], .int 1), (.invokevirtual 51, 10, [1,63,2,7], .null), (.aload_n 0, 13, [0], .null), (.getfield 19, 14, [5,0,7], .null), (.ifCond .ne 7, 17, [12], .null), (.iconst 1, 20, [], .int 1), (.goto 4, 21, [13], .null), (.iconst 0, 24, [], .int 0), (.ireturn, 25, [3], .null)]
/-- TermDraw$Reader.passes(I)Z -/
abbrev mi_Reader_passes : Nat := 67
def mm_k67 : List mm_Ins := [(.aload_n 0, 0, [0], .null), (.iload_n 1, 1, [1], .null), (.invokevirtual 55, 2, [1,66,2,7], .null), (.ifCond .ne 5, 5, [6], .null), (.iconst 0, 8, [], .int 0), (.ireturn, 9, [3], .null), (.aload_n 0, 10, [0], .null), (.invokevirtual 58, 11, [1,65,1,7], .null), (.iconst 1, 14, [], .int 1), (.ireturn, 15, [3], .null)]
/-- TermDraw$Reader.kindHere()I -/
abbrev mi_Reader_kindHere : Nat := 68
def mm_k68 : List mm_Ins := [(.aload_n 0, 0, [0], .null), (.getfield 34, 1, [3,0,7], .null), (.bipush (-2), 4, [], .int (-2)), (.if_icmp .ne 14, 6, [9], .null), (.aload_n 0, 9, [0], .null), (.getfield 44, 10, [4,1,7], .null), (.invokestatic 61, 13, [0,168,1], .null), (.iconst 1, 16, [], .int 1), (.if_icmp .eq 5, 17, [11], .null), (.iconst 0, 20, [], .int 0), (.ireturn, 21, [1], .null), (.bipush 96, 22, [], .int 96), (.aload_n 0, 24, [0], .null), (.getfield 44, 25, [4,1,7], .null), (.iconst 0, 28, [], .int 0), (.invokestatic 65, 29, [0,167,2], .null), (.iadd, 32, [], .null), (.istore_n 1, 33, [1], .null), (.iload_n 1, 34, [1], .null), (.invokestatic 69, 35, [0,69,1], .null), (.ifCond .eq 13, 38, [26], .null), (.iload_n 1, 41, [1], .null), (.bipush 120, 42, [], .int 120), (.if_icmp .eq 7, 44, [26], .null), (.iload_n 1, 47, [1], .null), (.goto 4, 48, [27], .null), (.iconst 0, 51, [], .int 0), (.ireturn, 52, [1], .null)]
/-- TermDraw$Reader.isKind(I)Z -/
abbrev mi_Reader_isKind : Nat := 69
def mm_k69 : List mm_Ins := [(.iload_n 0, 0, [0], .null), (.tableswitch 113 97 120 #[111, 113, 113, 111, 113, 113, 113, 113, 113, 113, 113, 113, 113, 111, 111, 111, 113, 113, 113, 113, 113, 111, 113, 111], 1, [4,2,4,4,2,4,4,4,4,4,4,4,4,4,2,2,2,4,4,4,4,4,2,4,2], .null), (.iconst 1, 112, [], .int 1), (.ireturn, 113, [3], .null), (.iconst 0, 114, [], .int 0), (.ireturn, 115, [3], .null)]
/-- TermDraw$Reader.readLexicon(LTermDraw$Pairs;)V -/
abbrev mi_Reader_readLexicon : Nat := 70
def mm_k70 : List mm_Ins := [(.aload_n 0, 0, [0], .null), (.invokevirtual 72, 1, [1,62,1,7], .null), (.aload_n 0, 4, [0], .null), (.invokevirtual 58, 5, [1,65,1,7], .null), (.iconst 0, 8, [], .int 0), (.istore_n 2, 9, [2], .null), (.iload_n 2, 10, [2], .null), (.sipush 601, 11, [], .int 601), (.if_icmp .ge 29, 14, [21], .null), (.aload_n 0, 17, [0], .null), (.getfield 19, 18, [5,0,7], .null), (.ifCond .ne 22, 21, [21], .null), (.aload_n 0, 24, [0], .null), (.getfield 34, 25, [3,0,7], .null), (.iconst (-1), 28, [], .int (-1)), (.if_icmp .eq 14, 29, [21], .null), (.aload_n 0, 32, [0], .null), (.aload_n 1, 33, [1], .null), (.invokevirtual 75, 34, [1,71,2,7], .null), (.iinc 2 1, 37, [2], .int 1), (.goto (-30), 40, [6], .null), (.return_, 43, [0], .null)]
/-- TermDraw$Reader.readLexiconLine(LTermDraw$Pairs;)V -/
abbrev mi_Reader_readLexiconLine : Nat := 71
def mm_k71 : List mm_Ins := [(.aload_n 0, 0, [0], .null), (.invokevirtual 79, 1, [1,68,1,7], .null), (.istore_n 2, 4, [2], .null), (.iload_n 2, 5, [2], .null), (.ifCond .ne 9, 6, [9], .null), (.aload_n 0, 9, [0], .null), (.iconst 1, 10, [], .int 1), (.invokevirtual 51, 11, [1,63,2,7], .null), (.return_, 14, [0], .null), (.aload_n 0, 15, [0], .null), (.invokevirtual 58, 16, [1,65,1,7], .null), (.aload_n 0, 19, [0], .null), (.bipush 58, 20, [], .int 58), (.invokevirtual 83, 22, [1,67,2,7], .null), (.ifCond .eq 12, 25, [19], .null), (.aload_n 0, 28, [0], .null), (.bipush (-2), 29, [], .int (-2)), (.invokevirtual 55, 31, [1,66,2,7], .null), (.ifCond .ne 4, 34, [20], .null), (.return_, 37, [0], .null), (.iconst 0, 38, [], .int 0), (.istore_n 3, 39, [3], .null), (.iload_n 3, 40, [3], .null), (.sipush 601, 41, [], .int 601), (.if_icmp .ge 41, 44, [44], .null), (.aload_n 0, 47, [0], .null), (.getfield 34, 48, [3,0,7], .null), (.bipush (-2), 51, [], .int (-2)), (.if_icmp .ne 32, 53, [44], .null), (.aload_n 1, 56, [1], .null), (.aload_n 0, 57, [0], .null), (.getfield 44, 58, [4,1,7], .null), (.iload_n 2, 61, [2], .null), (.i2l, 62, [], .null), (.invokevirtual 86, 63, [1,37,3,4], .null), (.ifCond .ne 9, 66, [40], .null), (.aload_n 0, 69, [0], .null), (.iconst 2, 70, [], .int 2), (.invokevirtual 51, 71, [1,63,2,7], .null), (.return_, 74, [0], .null), (.aload_n 0, 75, [0], .null), (.invokevirtual 58, 76, [1,65,1,7], .null), (.iinc 3 1, 79, [3], .int 1), (.goto (-42), 82, [22], .null), (.aload_n 0, 85, [0], .null), (.bipush 59, 86, [], .int 59), (.invokevirtual 83, 88, [1,67,2,7], .null), (.pop, 91, [], .null), (.return_, 92, [0], .null)]
/-- TermDraw$Reader.readEndings(LTermDraw$Pairs;)V -/
abbrev mi_Reader_readEndings : Nat := 72
def mm_k72 : List mm_Ins := [(.aload_n 0, 0, [0], .null), (.invokevirtual 72, 1, [1,62,1,7], .null), (.aload_n 1, 4, [1], .null), (.iconst 0, 5, [], .int 0), (.putfield 92, 6, [2,0,0,4], .null), (.aload_n 0, 9, [0], .null), (.invokevirtual 58, 10, [1,65,1,7], .null), (.iconst 0, 13, [], .int 0), (.istore_n 2, 14, [2], .null), (.iload_n 2, 15, [2], .null), (.sipush 601, 16, [], .int 601), (.if_icmp .ge 29, 19, [24], .null), (.aload_n 0, 22, [0], .null), (.getfield 19, 23, [5,0,7], .null), (.ifCond .ne 22, 26, [24], .null), (.aload_n 0, 29, [0], .null), (.getfield 34, 30, [3,0,7], .null), (.iconst (-1), 33, [], .int (-1)), (.if_icmp .eq 14, 34, [24], .null), (.aload_n 0, 37, [0], .null), (.aload_n 1, 38, [1], .null), (.invokevirtual 95, 39, [1,73,2,7], .null), (.iinc 2 1, 42, [2], .int 1), (.goto (-30), 45, [9], .null), (.return_, 48, [0], .null)]
/-- TermDraw$Reader.readEndingsLine(LTermDraw$Pairs;)V -/
abbrev mi_Reader_readEndingsLine : Nat := 73
def mm_k73 : List mm_Ins := [(.aload_n 0, 0, [0], .null), (.bipush (-2), 1, [], .int (-2)), (.invokevirtual 55, 3, [1,66,2,7], .null), (.ifCond .ne 4, 6, [5], .null), (.return_, 9, [0], .null), (.aload_n 1, 10, [1], .null), (.getfield 92, 11, [2,0,4], .null), (.bipush 8, 14, [], .int 8), (.if_icmp .lt 9, 16, [13], .null), (.aload_n 0, 19, [0], .null), (.iconst 2, 20, [], .int 2), (.invokevirtual 51, 21, [1,63,2,7], .null), (.return_, 24, [0], .null), (.aload_n 0, 25, [0], .null), (.getfield 44, 26, [4,1,7], .null), (.lstore_n 2, 29, [2], .null), (.aload_n 0, 30, [0], .null), (.invokevirtual 58, 31, [1,65,1,7], .null), (.aload_n 0, 34, [0], .null), (.bipush 61, 35, [], .int 61), (.invokevirtual 83, 37, [1,67,2,7], .null), (.ifCond .ne 4, 40, [23], .null), (.return_, 43, [0], .null), (.lconst 0, 44, [], .long 0), (.lstore 4, 45, [4], .null), (.aload_n 0, 47, [0], .null), (.getfield 34, 48, [3,0,7], .null), (.bipush (-2), 51, [], .int (-2)), (.if_icmp .ne 13, 53, [34], .null), (.aload_n 0, 56, [0], .null), (.getfield 44, 57, [4,1,7], .null), (.lstore 4, 60, [4], .null), (.aload_n 0, 62, [0], .null), (.invokevirtual 58, 63, [1,65,1,7], .null), (.aload_n 0, 66, [0], .null), (.bipush 59, 67, [], .int 59), (.invokevirtual 83, 69, [1,67,2,7], .null), (.ifCond .eq 11, 72, [43], .null), (.aload_n 1, 75, [1], .null), (.lload_n 2, 76, [2], .null), (.lload 4, 77, [4], .null), (.invokevirtual 98, 79, [1,35,3,4], .null), (.pop, 82, [], .null), (.return_, 83, [0], .null)]
/-- TermDraw$Reader.readSame(LTermDraw$Told;)V -/
abbrev mi_Reader_readSame : Nat := 74
def mm_k74 : List mm_Ins := [(.aload_n 0, 0, [0], .null), (.invokevirtual 72, 1, [1,62,1,7], .null), (.aload_n 1, 4, [1], .null), (.getfield 101, 5, [2,2,9], .null), (.iconst 0, 8, [], .int 0), (.putfield 92, 9, [2,0,0,4], .null), (.aload_n 1, 12, [1], .null), (.iconst 0, 13, [], .int 0), (.putfield 107, 14, [8,0,0,9], .null), (.aload_n 0, 17, [0], .null), (.invokevirtual 58, 18, [1,65,1,7], .null), (.iconst 0, 21, [], .int 0), (.istore_n 2, 22, [2], .null), (.iload_n 2, 23, [2], .null), (.sipush 601, 24, [], .int 601), (.if_icmp .ge 29, 27, [28], .null), (.aload_n 0, 30, [0], .null), (.getfield 19, 31, [5,0,7], .null), (.ifCond .ne 22, 34, [28], .null), (.aload_n 0, 37, [0], .null), (.getfield 34, 38, [3,0,7], .null), (.iconst (-1), 41, [], .int (-1)), (.if_icmp .eq 14, 42, [28], .null), (.aload_n 0, 45, [0], .null), (.aload_n 1, 46, [1], .null), (.invokevirtual 110, 47, [1,75,2,7], .null), (.iinc 2 1, 50, [2], .int 1), (.goto (-30), 53, [13], .null), (.return_, 56, [0], .null)]
/-- TermDraw$Reader.readSameLine(LTermDraw$Told;)V -/
abbrev mi_Reader_readSameLine : Nat := 75
def mm_k75 : List mm_Ins := [(.aload_n 0, 0, [0], .null), (.aload_n 1, 1, [1], .null), (.invokevirtual 114, 2, [1,76,2,7], .null), (.ifCond .ne 4, 5, [5], .null), (.return_, 8, [0], .null), (.aload_n 1, 9, [1], .null), (.aload_n 0, 10, [0], .null), (.getfield 44, 11, [4,1,7], .null), (.invokevirtual 118, 14, [1,103,2,9], .null), (.lstore_n 2, 17, [2], .null), (.aload_n 0, 18, [0], .null), (.invokevirtual 58, 19, [1,65,1,7], .null), (.aload_n 0, 22, [0], .null), (.bipush (-2), 23, [], .int (-2)), (.invokevirtual 55, 25, [1,66,2,7], .null), (.ifCond .ne 4, 28, [17], .null), (.return_, 31, [0], .null), (.iconst 0, 32, [], .int 0), (.istore 4, 33, [4], .null), (.iload 4, 35, [4], .null), (.sipush 601, 37, [], .int 601), (.if_icmp .ge 40, 40, [40], .null), (.aload_n 0, 43, [0], .null), (.getfield 34, 44, [3,0,7], .null), (.bipush (-2), 47, [], .int (-2)), (.if_icmp .ne 31, 49, [40], .null), (.aload_n 0, 52, [0], .null), (.aload_n 1, 53, [1], .null), (.invokevirtual 114, 54, [1,76,2,7], .null), (.ifCond .ne 4, 57, [31], .null), (.return_, 60, [0], .null), (.aload_n 1, 61, [1], .null), (.aload_n 0, 62, [0], .null), (.getfield 44, 63, [4,1,7], .null), (.lload_n 2, 66, [2], .null), (.invokevirtual 122, 67, [1,104,3,9], .null), (.aload_n 0, 70, [0], .null), (.invokevirtual 58, 71, [1,65,1,7], .null), (.iinc 4 1, 74, [4], .int 1), (.goto (-42), 77, [19], .null), (.aload_n 0, 80, [0], .null), (.bipush 59, 81, [], .int 59), (.invokevirtual 83, 83, [1,67,2,7], .null), (.pop, 86, [], .null), (.return_, 87, [0], .null)]
/-- TermDraw$Reader.takesSame(LTermDraw$Told;)Z -/
abbrev mi_Reader_takesSame : Nat := 76
def mm_k76 : List mm_Ins := [(.aload_n 0, 0, [0], .null), (.bipush (-2), 1, [], .int (-2)), (.invokevirtual 55, 3, [1,66,2,7], .null), (.ifCond .ne 5, 6, [6], .null), (.iconst 0, 9, [], .int 0), (.ireturn, 10, [3], .null), (.aload_n 1, 11, [1], .null), (.getfield 107, 12, [8,0,9], .null), (.bipush 40, 15, [], .int 40), (.if_icmp .lt 10, 17, [15], .null), (.aload_n 0, 20, [0], .null), (.iconst 2, 21, [], .int 2), (.invokevirtual 51, 22, [1,63,2,7], .null), (.iconst 0, 25, [], .int 0), (.ireturn, 26, [3], .null), (.aload_n 1, 27, [1], .null), (.dup, 28, [], .null), (.getfield 107, 29, [8,0,9], .null), (.iconst 1, 32, [], .int 1), (.iadd, 33, [], .null), (.putfield 107, 34, [8,0,0,9], .null), (.iconst 1, 37, [], .int 1), (.ireturn, 38, [3], .null)]
/-- TermDraw$Reader.readProse(LTermDraw$Prose;)V -/
abbrev mi_Reader_readProse : Nat := 77
def mm_k77 : List mm_Ins := [(.aload_n 0, 0, [0], .null), (.invokevirtual 72, 1, [1,62,1,7], .null), (.aload_n 1, 4, [1], .null), (.invokevirtual 126, 5, [1,58,1,6], .null), (.istore_n 2, 8, [2], .null), (.aload_n 0, 9, [0], .null), (.invokevirtual 58, 10, [1,65,1,7], .null), (.iconst 0, 13, [], .int 0), (.istore_n 3, 14, [3], .null), (.iload_n 3, 15, [3], .null), (.sipush 601, 16, [], .int 601), (.if_icmp .ge 76, 19, [45], .null), (.aload_n 0, 22, [0], .null), (.getfield 19, 23, [5,0,7], .null), (.ifCond .ne 69, 26, [45], .null), (.aload_n 0, 29, [0], .null), (.getfield 34, 30, [3,0,7], .null), (.iconst (-1), 33, [], .int (-1)), (.if_icmp .eq 61, 34, [45], .null), (.aload_n 0, 37, [0], .null), (.getfield 34, 38, [3,0,7], .null), (.bipush 46, 41, [], .int 46), (.if_icmp .ne 9, 43, [25], .null), (.iinc 2 1, 46, [2], .int 1), (.goto 29, 49, [38], .null), (.aload_n 0, 52, [0], .null), (.bipush (-2), 53, [], .int (-2)), (.invokevirtual 55, 55, [1,66,2,7], .null), (.ifCond .eq 20, 58, [38], .null), (.aload_n 1, 61, [1], .null), (.aload_n 0, 62, [0], .null), (.getfield 44, 63, [4,1,7], .null), (.iload_n 2, 66, [2], .null), (.invokevirtual 131, 67, [1,56,3,6], .null), (.ifCond .ne 8, 70, [38], .null), (.aload_n 0, 73, [0], .null), (.iconst 2, 74, [], .int 2), (.invokevirtual 51, 75, [1,63,2,7], .null), (.aload_n 0, 78, [0], .null), (.getfield 19, 79, [5,0,7], .null), (.ifCond .ne 7, 82, [43], .null), (.aload_n 0, 85, [0], .null), (.invokevirtual 58, 86, [1,65,1,7], .null), (.iinc 3 1, 89, [3], .int 1), (.goto (-77), 92, [9], .null), (.return_, 95, [0], .null)]
/-- TermDraw$Reader.readPattern(LTermDraw$Pattern;)V -/
abbrev mi_Reader_readPattern : Nat := 78
def mm_k78 : List mm_Ins := [(.aload_n 0, 0, [0], .null), (.invokevirtual 72, 1, [1,62,1,7], .null), (.aload_n 0, 4, [0], .null), (.invokevirtual 37, 5, [1,64,1,7], .null), (.aload_n 1, 8, [1], .null), (.aload_n 0, 9, [0], .null), (.invokevirtual 134, 10, [1,40,2,5], .null), (.return_, 13, [0], .null)]
/-- TermDraw$Terms.<init>(LTermDraw$Bases;LTermDraw$Matches;)V -/
abbrev mi_Terms_init : Nat := 79
def mm_k79 : List mm_Ins := [(.aload_n 0, 0, [0], .null), (.invokespecial 3, 1, [7], .null), (.aload_n 0, 4, [0], .null), (.sipush 1200, 5, [], .int 1200), (.invokestatic 9, 8, [0,155,1], .null), (.putfield 13, 11, [2,2,1,8], .null), (.aload_n 0, 14, [0], .null), (.sipush 1200, 15, [], .int 1200), (.invokestatic 19, 18, [0,154,1], .null), (.putfield 23, 21, [3,2,1,8], .null), (.aload_n 0, 24, [0], .null), (.sipush 1200, 25, [], .int 1200), (.invokestatic 19, 28, [0,154,1], .null), (.putfield 27, 31, [4,2,1,8], .null), (.aload_n 0, 34, [0], .null), (.sipush 1200, 35, [], .int 1200), (.invokestatic 19, 38, [0,154,1], .null), (.putfield 30, 41, [5,2,1,8], .null), (.aload_n 0, 44, [0], .null), (.sipush 1200, 45, [], .int 1200), (.invokestatic 19, 48, [0,154,1], .null), (.putfield 33, 51, [6,2,1,8], .null), (.aload_n 0, 54, [0], .null), (.sipush 1200, 55, [], .int 1200), (.invokestatic 19, 58, [0,154,1], .null), (.putfield 36, 61, [7,2,1,8], .null), (.aload_n 0, 64, [0], .null), (.sipush 1200, 65, [], .int 1200), (.invokestatic 19, 68, [0,154,1], .null), (.putfield 39, 71, [8,2,1,8], .null), (.aload_n 0, 74, [0], .null), (.sipush 1200, 75, [], .int 1200), (.invokestatic 19, 78, [0,154,1], .null), (.putfield 42, 81, [9,2,1,8], .null), (.aload_n 0, 84, [0], .null), (.sipush 1200, 85, [], .int 1200), (.invokestatic 19, 88, [0,154,1], .null), (.putfield 45, 91, [10,2,1,8], .null), (.aload_n 0, 94, [0], .null), (.sipush 1200, 95, [], .int 1200), (.invokestatic 19, 98, [0,154,1], .null), (.putfield 48, 101, [11,2,1,8], .null), (.aload_n 0, 104, [0], .null), (.sipush 1200, 105, [], .int 1200), (.invokestatic 19, 108, [0,154,1], .null), (.putfield 51, 111, [12,2,1,8], .null), (.aload_n 0, 114, [0], .null), (.sipush 1200, 115, [], .int 1200), (.invokestatic 19, 118, [0,154,1], .null), (.putfield 54, 121, [13,2,1,8], .null), (.aload_n 0, 124, [0], .null), (.sipush 1200, 125, [], .int 1200), (.invokestatic 19, 128, [0,154,1], .null), (.putfield 57, 131, [14,2,1,8], .null), (.aload_n 0, 134, [0], .null), (.sipush 1200, 135, [], .int 1200), (.invokestatic 19, 138, [0,154,1], .null), (.putfield 60, 141, [15,2,1,8], .null), (.aload_n 0, 144, [0], .null), (.sipush 240, 145, [], .int 240), (.invokestatic 19, 148, [0,154,1], .null), (.putfield 63, 151, [16,2,1,8], .null), (.aload_n 0, 154, [0], .null), (.sipush 240, 155, [], .int 240), (.invokestatic 19, 158, [0,154,1], .null), (.putfield 66, 161, [17,2,1,8], .null), (.aload_n 0, 164, [0], .null), (.bipush 6, 165, [], .int 6), (.invokestatic 19, 167, [0,154,1], .null), (.putfield 69, 170, [18,2,1,8], .null), (.aload_n 0, 173, [0], .null), (.aload_n 1, 174, [1], .null), (.putfield 72, 175, [0,2,1,8], .null), (.aload_n 0, 178, [0], .null), (.aload_n 2, 179, [2], .null), (.putfield 76, 180, [1,2,1,8], .null), (.return_, 183, [0], .null)]
/-- TermDraw$Terms.build(LTermDraw$Told;)V -/
abbrev mi_Terms_build : Nat := 80
def mm_k80 : List mm_Ins := [(.aload_n 0, 0, [0], .null), (.aload_n 1, 1, [1], .null), (.invokevirtual 80, 2, [1,81,2,8], .null), (.aload_n 0, 5, [0], .null), (.invokevirtual 84, 6, [1,84,1,8], .null), (.aload_n 0, 9, [0], .null), (.aload_n 1, 10, [1], .null), (.invokevirtual 87, 11, [1,85,2,8], .null), (.aload_n 0, 14, [0], .null), (.aload_n 1, 15, [1], .null), (.invokevirtual 90, 16, [1,86,2,8], .null), (.aload_n 0, 19, [0], .null), (.aload_n 1, 20, [1], .null), (.invokevirtual 93, 21, [1,87,2,8], .null), (.return_, 24, [0], .null)]
/-- TermDraw$Terms.gather(LTermDraw$Told;)V -/
abbrev mi_Terms_gather : Nat := 81
def mm_k81 : List mm_Ins := [(.aload_n 0, 0, [0], .null), (.iconst 0, 1, [], .int 0), (.putfield 96, 2, [19,0,0,8], .null), (.iconst 0, 5, [], .int 0), (.istore_n 2, 6, [2], .null), (.iconst 0, 7, [], .int 0), (.istore_n 3, 8, [3], .null), (.iconst 0, 9, [], .int 0), (.istore 4, 10, [4], .null), (.iload 4, 12, [4], .null), (.aload_n 0, 14, [0], .null), (.getfield 76, 15, [1,2,8], .null), (.getfield 100, 18, [8,0,2], .null), (.if_icmp .ge 211, 21, [114], .null), (.aload_n 0, 24, [0], .null), (.getfield 76, 25, [1,2,8], .null), (.getfield 103, 28, [0,2,2], .null), (.iload 4, 31, [4], .null), (.invokestatic 106, 33, [0,156,2], .null), (.istore 5, 36, [5], .null), (.aload_n 0, 38, [0], .null), (.getfield 76, 39, [1,2,8], .null), (.getfield 103, 42, [0,2,2], .null), (.iload 4, 45, [4], .null), (.iconst 1, 47, [], .int 1), (.isub, 48, [], .null), (.invokestatic 106, 49, [0,156,2], .null), (.istore 6, 52, [6], .null), (.iload 4, 54, [4], .null), (.ifCond .eq 31, 56, [41], .null), (.aload_n 0, 59, [0], .null), (.getfield 76, 60, [1,2,8], .null), (.getfield 110, 63, [6,2,2], .null), (.iload 5, 66, [5], .null), (.invokestatic 111, 68, [0,157,2], .null), (.aload_n 0, 71, [0], .null), (.getfield 76, 72, [1,2,8], .null), (.getfield 110, 75, [6,2,2], .null), (.iload 6, 78, [6], .null), (.invokestatic 111, 80, [0,157,2], .null), (.lcmp, 83, [0,43], .null), (.iconst 1, 87, [], .int 1), (.goto 4, 88, [44], .null), (.iconst 0, 91, [], .int 0), (.istore 7, 92, [7], .null), (.iload 7, 94, [7], .null), (.ifCond .ne 31, 96, [58], .null), (.aload_n 0, 99, [0], .null), (.getfield 76, 100, [1,2,8], .null), (.getfield 114, 103, [7,2,2], .null), (.iload 5, 106, [5], .null), (.invokestatic 111, 108, [0,157,2], .null), (.aload_n 0, 111, [0], .null), (.getfield 76, 112, [1,2,8], .null), (.getfield 114, 115, [7,2,2], .null), (.iload 6, 118, [6], .null), (.invokestatic 111, 120, [0,157,2], .null), (.lcmp, 123, [0,60], .null), (.iconst 1, 127, [], .int 1), (.goto 4, 128, [61], .null), (.iconst 0, 131, [], .int 0), (.istore 8, 132, [8], .null), (.iload 7, 134, [7], .null), (.ifCond .eq 13, 136, [70], .null), (.aload_n 0, 139, [0], .null), (.iload 5, 140, [5], .null), (.iload 4, 142, [4], .null), (.invokevirtual 117, 144, [1,82,3,8], .null), (.iconst 0, 147, [], .int 0), (.istore_n 3, 148, [3], .null), (.aload_n 0, 149, [0], .null), (.getfield 96, 150, [19,0,8], .null), (.iconst 1, 153, [], .int 1), (.isub, 154, [], .null), (.istore 9, 155, [9], .null), (.iload 8, 157, [8], .null), (.ifCond .eq 7, 159, [79], .null), (.iconst 1, 162, [], .int 1), (.goto 6, 163, [82], .null), (.iload_n 2, 166, [2], .null), (.iconst 1, 167, [], .int 1), (.iadd, 168, [], .null), (.istore_n 2, 169, [2], .null), (.iload_n 2, 170, [2], .null), (.iload_n 3, 171, [3], .null), (.if_icmp .le 16, 172, [93], .null), (.iload_n 2, 175, [2], .null), (.istore_n 3, 176, [3], .null), (.aload_n 0, 177, [0], .null), (.getfield 42, 178, [9,2,8], .null), (.iload 9, 181, [9], .null), (.iload 5, 183, [5], .null), (.invokestatic 121, 185, [0,158,3], .null), (.aload_n 0, 188, [0], .null), (.getfield 39, 189, [8,2,8], .null), (.iload 9, 192, [9], .null), (.aload_n 0, 194, [0], .null), (.getfield 39, 195, [8,2,8], .null), (.iload 9, 198, [9], .null), (.invokestatic 106, 200, [0,156,2], .null), (.iload 8, 203, [8], .null), (.ifCond .eq 7, 205, [104], .null), (.iconst 1, 208, [], .int 1), (.goto 4, 209, [105], .null), (.iconst 0, 212, [], .int 0), (.iadd, 213, [], .null), (.invokestatic 121, 214, [0,158,3], .null), (.aload_n 0, 217, [0], .null), (.aload_n 1, 218, [1], .null), (.iload 9, 219, [9], .null), (.iload 5, 221, [5], .null), (.invokevirtual 125, 223, [1,83,4,8], .null), (.iinc 4 1, 226, [4], .int 1), (.goto (-217), 229, [9], .null), (.return_, 232, [0], .null)]
/-- TermDraw$Terms.open(II)V -/
abbrev mi_Terms_open : Nat := 82
def mm_k82 : List mm_Ins := [(.aload_n 0, 0, [0], .null), (.getfield 96, 1, [19,0,8], .null), (.istore_n 3, 4, [3], .null), (.aload_n 0, 5, [0], .null), (.getfield 13, 6, [2,2,8], .null), (.iload_n 3, 9, [3], .null), (.aload_n 0, 10, [0], .null), (.getfield 76, 11, [1,2,8], .null), (.getfield 110, 14, [6,2,2], .null), (.iload_n 1, 17, [1], .null), (.invokestatic 111, 18, [0,157,2], .null), (.invokestatic 129, 21, [0,159,3], .null), (.aload_n 0, 24, [0], .null), (.getfield 23, 25, [3,2,8], .null), (.iload_n 3, 28, [3], .null), (.iload_n 2, 29, [2], .null), (.invokestatic 121, 30, [0,158,3], .null), (.aload_n 0, 33, [0], .null), (.getfield 45, 34, [10,2,8], .null), (.iload_n 3, 37, [3], .null), (.iload_n 1, 38, [1], .null), (.invokestatic 121, 39, [0,158,3], .null), (.aload_n 0, 42, [0], .null), (.getfield 27, 43, [4,2,8], .null), (.iload_n 3, 46, [3], .null), (.iconst 0, 47, [], .int 0), (.invokestatic 121, 48, [0,158,3], .null), (.aload_n 0, 51, [0], .null), (.getfield 30, 52, [5,2,8], .null), (.iload_n 3, 55, [3], .null), (.iconst 0, 56, [], .int 0), (.invokestatic 121, 57, [0,158,3], .null), (.aload_n 0, 60, [0], .null), (.getfield 33, 61, [6,2,8], .null), (.iload_n 3, 64, [3], .null), (.iconst 0, 65, [], .int 0), (.invokestatic 121, 66, [0,158,3], .null), (.aload_n 0, 69, [0], .null), (.getfield 36, 70, [7,2,8], .null), (.iload_n 3, 73, [3], .null), (.iconst 0, 74, [], .int 0), (.invokestatic 121, 75, [0,158,3], .null), (.aload_n 0, 78, [0], .null), (.getfield 39, 79, [8,2,8], .null), (.iload_n 3, 82, [3], .null), (.iconst 0, 83, [], .int 0), (.invokestatic 121, 84, [0,158,3], .null), (.aload_n 0, 87, [0], .null), (.getfield 48, 88, [11,2,8], .null), (.iload_n 3, 91, [3], .null), (.iconst 0, 92, [], .int 0), (.invokestatic 121, 93, [0,158,3], .null), (.aload_n 0, 96, [0], .null), (.getfield 51, 97, [12,2,8], .null), (.iload_n 3, 100, [3], .null), (.iconst 0, 101, [], .int 0), (.invokestatic 121, 102, [0,158,3], .null), (.aload_n 0, 105, [0], .null), (.getfield 54, 106, [13,2,8], .null), (.iload_n 3, 109, [3], .null), (.iconst 0, 110, [], .int 0), (.invokestatic 121, 111, [0,158,3], .null), (.aload_n 0, 114, [0], .null), (.getfield 57, 115, [14,2,8], .null), (.iload_n 3, 118, [3], .null), (.iconst 0, 119, [], .int 0), (.invokestatic 121, 120, [0,158,3], .null), (.aload_n 0, 123, [0], .null), (.getfield 60, 124, [15,2,8], .null), (.iload_n 3, 127, [3], .null), (.iconst (-1), 128, [], .int (-1)), (.invokestatic 121, 129, [0,158,3], .null), (.aload_n 0, 132, [0], .null), (.dup, 133, [], .null), (.getfield 96, 134, [19,0,8], .null), (.iconst 1, 137, [], .int 1), (.iadd, 138, [], .null), (.putfield 96, 139, [19,0,0,8], .null), (.return_, 142, [0], .null)]
/-- TermDraw$Terms.take(LTermDraw$Told;II)V -/
abbrev mi_Terms_take : Nat := 83
def mm_k83 : List mm_Ins := [(.aload_n 0, 0, [0], .null), (.getfield 76, 1, [1,2,8], .null), (.getfield 132, 4, [4,2,2], .null), (.iload_n 3, 7, [3], .null), (.iload_n 2, 8, [2], .null), (.invokestatic 121, 9, [0,158,3], .null), (.aload_n 0, 12, [0], .null), (.getfield 27, 13, [4,2,8], .null), (.iload_n 2, 16, [2], .null), (.aload_n 0, 17, [0], .null), (.getfield 27, 18, [4,2,8], .null), (.iload_n 2, 21, [2], .null), (.invokestatic 106, 22, [0,156,2], .null), (.iconst 1, 25, [], .int 1), (.iadd, 26, [], .null), (.invokestatic 121, 27, [0,158,3], .null), (.aload_n 0, 30, [0], .null), (.getfield 30, 31, [5,2,8], .null), (.iload_n 2, 34, [2], .null), (.aload_n 0, 35, [0], .null), (.getfield 30, 36, [5,2,8], .null), (.iload_n 2, 39, [2], .null), (.invokestatic 106, 40, [0,156,2], .null), (.iconst 1, 43, [], .int 1), (.iadd, 44, [], .null), (.aload_n 0, 45, [0], .null), (.getfield 76, 46, [1,2,8], .null), (.getfield 135, 49, [5,2,2], .null), (.iload_n 3, 52, [3], .null), (.invokestatic 106, 53, [0,156,2], .null), (.isub, 56, [], .null), (.invokestatic 121, 57, [0,158,3], .null), (.aload_n 0, 60, [0], .null), (.getfield 45, 61, [10,2,8], .null), (.iload_n 2, 64, [2], .null), (.aload_n 0, 65, [0], .null), (.getfield 45, 66, [10,2,8], .null), (.iload_n 2, 69, [2], .null), (.invokestatic 106, 70, [0,156,2], .null), (.iload_n 3, 73, [3], .null), (.invokestatic 138, 74, [0,292,2], .null), (.invokestatic 121, 77, [0,158,3], .null), (.aload_n 0, 80, [0], .null), (.getfield 51, 81, [12,2,8], .null), (.iload_n 2, 84, [2], .null), (.aload_n 0, 85, [0], .null), (.getfield 51, 86, [12,2,8], .null), (.iload_n 2, 89, [2], .null), (.invokestatic 106, 90, [0,156,2], .null), (.iconst 1, 93, [], .int 1), (.aload_n 1, 94, [1], .null), (.aload_n 0, 95, [0], .null), (.getfield 76, 96, [1,2,8], .null), (.getfield 144, 99, [2,2,2], .null), (.iload_n 3, 102, [3], .null), (.invokestatic 106, 103, [0,156,2], .null), (.invokevirtual 145, 106, [1,113,2,9], .null), (.ishl, 109, [], .null), (.ior, 110, [], .null), (.invokestatic 121, 111, [0,158,3], .null), (.return_, 114, [0], .null)]
/-- TermDraw$Terms.countLonger()V -/
abbrev mi_Terms_countLonger : Nat := 84
def mm_k84 : List mm_Ins := [(.iconst 0, 0, [], .int 0), (.istore_n 1, 1, [1], .null), (.iload_n 1, 2, [1], .null), (.aload_n 0, 3, [0], .null), (.getfield 96, 4, [19,0,8], .null), (.if_icmp .ge 140, 7, [74], .null), (.aload_n 0, 10, [0], .null), (.iload_n 1, 11, [1], .null), (.invokevirtual 151, 12, [1,90,2,8], .null), (.istore_n 2, 15, [2], .null), (.iconst 1, 16, [], .int 1), (.istore_n 3, 17, [3], .null), (.iload_n 3, 18, [3], .null), (.iload_n 2, 19, [2], .null), (.if_icmp .ge 121, 20, [72], .null), (.iconst 0, 23, [], .int 0), (.istore 4, 24, [4], .null), (.iload 4, 26, [4], .null), (.iload_n 3, 28, [3], .null), (.iadd, 29, [], .null), (.iload_n 2, 30, [2], .null), (.if_icmp .gt 104, 31, [70], .null), (.aload_n 0, 34, [0], .null), (.aload_n 0, 35, [0], .null), (.getfield 13, 36, [2,2,8], .null), (.iload_n 1, 39, [1], .null), (.invokestatic 111, 40, [0,157,2], .null), (.iload 4, 43, [4], .null), (.iload_n 3, 45, [3], .null), (.invokestatic 154, 46, [0,174,3], .null), (.invokevirtual 158, 49, [1,91,2,8], .null), (.istore 5, 52, [5], .null), (.iload 5, 54, [5], .null), (.ifCond .lt 73, 56, [68], .null), (.aload_n 0, 59, [0], .null), (.getfield 60, 60, [15,2,8], .null), (.iload 5, 63, [5], .null), (.invokestatic 106, 65, [0,156,2], .null), (.iload_n 1, 68, [1], .null), (.if_icmp .eq 60, 69, [68], .null), (.aload_n 0, 72, [0], .null), (.getfield 60, 73, [15,2,8], .null), (.iload 5, 76, [5], .null), (.iload_n 1, 78, [1], .null), (.invokestatic 121, 79, [0,158,3], .null), (.aload_n 0, 82, [0], .null), (.getfield 33, 83, [6,2,8], .null), (.iload 5, 86, [5], .null), (.aload_n 0, 88, [0], .null), (.getfield 33, 89, [6,2,8], .null), (.iload 5, 92, [5], .null), (.invokestatic 106, 94, [0,156,2], .null), (.iconst 1, 97, [], .int 1), (.iadd, 98, [], .null), (.invokestatic 121, 99, [0,158,3], .null), (.aload_n 0, 102, [0], .null), (.getfield 36, 103, [7,2,8], .null), (.iload 5, 106, [5], .null), (.aload_n 0, 108, [0], .null), (.getfield 36, 109, [7,2,8], .null), (.iload 5, 112, [5], .null), (.invokestatic 106, 114, [0,156,2], .null), (.aload_n 0, 117, [0], .null), (.getfield 27, 118, [4,2,8], .null), (.iload_n 1, 121, [1], .null), (.invokestatic 106, 122, [0,156,2], .null), (.iadd, 125, [], .null), (.invokestatic 121, 126, [0,158,3], .null), (.iinc 4 1, 129, [4], .int 1), (.goto (-106), 132, [17], .null), (.iinc 3 1, 135, [3], .int 1), (.goto (-120), 138, [12], .null), (.iinc 1 1, 141, [1], .int 1), (.goto (-142), 144, [2], .null), (.return_, 147, [0], .null)]
/-- TermDraw$Terms.countGeneral(LTermDraw$Told;)V -/
abbrev mi_Terms_countGeneral : Nat := 85
def mm_k85 : List mm_Ins := [(.iconst 0, 0, [], .int 0), (.istore_n 2, 1, [2], .null), (.iload_n 2, 2, [2], .null), (.aload_n 1, 3, [1], .null), (.getfield 162, 4, [5,2,9], .null), (.getfield 165, 7, [2,0,6], .null), (.if_icmp .ge 115, 10, [63], .null), (.lconst 0, 13, [], .long 0), (.lstore_n 3, 14, [3], .null), (.iconst 0, 15, [], .int 0), (.istore 5, 16, [5], .null), (.iload 5, 18, [5], .null), (.iconst 5, 20, [], .int 5), (.if_icmp .ge 98, 21, [61], .null), (.aload_n 1, 24, [1], .null), (.getfield 162, 25, [5,2,9], .null), (.iload_n 2, 28, [2], .null), (.iload_n 2, 29, [2], .null), (.iload 5, 30, [5], .null), (.iadd, 32, [], .null), (.invokevirtual 168, 33, [1,59,3,6], .null), (.istore 6, 36, [6], .null), (.iload 6, 38, [6], .null), (.ifCond .eq 20, 40, [32], .null), (.aload_n 0, 43, [0], .null), (.getfield 72, 44, [0,2,8], .null), (.getfield 172, 47, [4,2,0], .null), (.iload_n 2, 50, [2], .null), (.iload 5, 51, [5], .null), (.iadd, 53, [], .null), (.invokestatic 106, 54, [0,156,2], .null), (.goto 4, 57, [33], .null), (.iconst (-1), 60, [], .int (-1)), (.istore 7, 61, [7], .null), (.iload 7, 63, [7], .null), (.ifCond .ge 6, 65, [37], .null), (.goto 51, 68, [61], .null), (.lload_n 3, 71, [3], .null), (.iload 7, 72, [7], .null), (.iload 5, 74, [5], .null), (.invokestatic 177, 76, [0,171,2], .null), (.lor, 79, [], .null), (.lstore_n 3, 80, [3], .null), (.aload_n 0, 81, [0], .null), (.lload_n 3, 82, [3], .null), (.invokevirtual 158, 83, [1,91,2,8], .null), (.istore 8, 86, [8], .null), (.iload 8, 88, [8], .null), (.ifCond .lt 23, 90, [59], .null), (.aload_n 0, 93, [0], .null), (.getfield 48, 94, [11,2,8], .null), (.iload 8, 97, [8], .null), (.aload_n 0, 99, [0], .null), (.getfield 48, 100, [11,2,8], .null), (.iload 8, 103, [8], .null), (.invokestatic 106, 105, [0,156,2], .null), (.iconst 1, 108, [], .int 1), (.iadd, 109, [], .null), (.invokestatic 121, 110, [0,158,3], .null), (.iinc 5 1, 113, [5], .int 1), (.goto (-98), 116, [11], .null), (.iinc 2 1, 119, [2], .int 1), (.goto (-120), 122, [2], .null), (.return_, 125, [0], .null)]
/-- TermDraw$Terms.countAround(LTermDraw$Told;)V -/
abbrev mi_Terms_countAround : Nat := 86
def mm_k86 : List mm_Ins := [(.aload_n 0, 0, [0], .null), (.getfield 63, 1, [16,2,8], .null), (.sipush 240, 4, [], .int 240), (.invokestatic 181, 7, [0,160,2], .null), (.aload_n 0, 10, [0], .null), (.getfield 66, 11, [17,2,8], .null), (.sipush 240, 14, [], .int 240), (.invokestatic 181, 17, [0,160,2], .null), (.iconst 0, 20, [], .int 0), (.istore_n 2, 21, [2], .null), (.iload_n 2, 22, [2], .null), (.aload_n 0, 23, [0], .null), (.getfield 96, 24, [19,0,8], .null), (.if_icmp .ge 134, 27, [81], .null), (.iconst 0, 30, [], .int 0), (.istore_n 3, 31, [3], .null), (.iload_n 3, 32, [3], .null), (.aload_n 0, 33, [0], .null), (.getfield 27, 34, [4,2,8], .null), (.iload_n 2, 37, [2], .null), (.invokestatic 106, 38, [0,156,2], .null), (.if_icmp .ge 114, 41, [79], .null), (.aload_n 0, 44, [0], .null), (.aload_n 1, 45, [1], .null), (.aload_n 0, 46, [0], .null), (.iload_n 2, 47, [2], .null), (.iload_n 3, 48, [3], .null), (.invokevirtual 185, 49, [1,89,3,8], .null), (.invokevirtual 188, 52, [1,88,3,8], .null), (.istore 4, 55, [4], .null), (.iconst 0, 57, [], .int 0), (.istore 5, 58, [5], .null), (.iload 5, 60, [5], .null), (.iload 4, 62, [4], .null), (.if_icmp .ge 85, 64, [77], .null), (.aload_n 0, 67, [0], .null), (.getfield 69, 68, [18,2,8], .null), (.iload 5, 71, [5], .null), (.invokestatic 106, 73, [0,156,2], .null), (.istore 6, 76, [6], .null), (.aload_n 0, 78, [0], .null), (.getfield 66, 79, [17,2,8], .null), (.iload 6, 82, [6], .null), (.invokestatic 106, 84, [0,156,2], .null), (.iload_n 2, 87, [2], .null), (.iconst 1, 88, [], .int 1), (.iadd, 89, [], .null), (.if_icmp .eq 53, 90, [75], .null), (.aload_n 0, 93, [0], .null), (.getfield 66, 94, [17,2,8], .null), (.iload 6, 97, [6], .null), (.iload_n 2, 99, [2], .null), (.iconst 1, 100, [], .int 1), (.iadd, 101, [], .null), (.invokestatic 121, 102, [0,158,3], .null), (.aload_n 0, 105, [0], .null), (.getfield 63, 106, [16,2,8], .null), (.iload 6, 109, [6], .null), (.aload_n 0, 111, [0], .null), (.getfield 63, 112, [16,2,8], .null), (.iload 6, 115, [6], .null), (.invokestatic 106, 117, [0,156,2], .null), (.iconst 1, 120, [], .int 1), (.iadd, 121, [], .null), (.invokestatic 121, 122, [0,158,3], .null), (.aload_n 0, 125, [0], .null), (.getfield 54, 126, [13,2,8], .null), (.iload_n 2, 129, [2], .null), (.aload_n 0, 130, [0], .null), (.getfield 54, 131, [13,2,8], .null), (.iload_n 2, 134, [2], .null), (.invokestatic 106, 135, [0,156,2], .null), (.iconst 1, 138, [], .int 1), (.iadd, 139, [], .null), (.invokestatic 121, 140, [0,158,3], .null), (.iinc 5 1, 143, [5], .int 1), (.goto (-86), 146, [32], .null), (.iinc 3 1, 149, [3], .int 1), (.goto (-120), 152, [16], .null), (.iinc 2 1, 155, [2], .int 1), (.goto (-136), 158, [10], .null), (.return_, 161, [0], .null)]
/-- TermDraw$Terms.sumNear(LTermDraw$Told;)V -/
abbrev mi_Terms_sumNear : Nat := 87
def mm_k87 : List mm_Ins := [(.iconst 0, 0, [], .int 0), (.istore_n 2, 1, [2], .null), (.iload_n 2, 2, [2], .null), (.aload_n 0, 3, [0], .null), (.getfield 76, 4, [1,2,8], .null), (.getfield 100, 7, [8,0,2], .null), (.if_icmp .ge 78, 10, [43], .null), (.aload_n 0, 13, [0], .null), (.getfield 76, 14, [1,2,8], .null), (.getfield 132, 17, [4,2,2], .null), (.iload_n 2, 20, [2], .null), (.invokestatic 106, 21, [0,156,2], .null), (.istore_n 3, 24, [3], .null), (.aload_n 0, 25, [0], .null), (.aload_n 1, 26, [1], .null), (.iload_n 2, 27, [2], .null), (.invokevirtual 188, 28, [1,88,3,8], .null), (.istore 4, 31, [4], .null), (.iconst 0, 33, [], .int 0), (.istore 5, 34, [5], .null), (.iload 5, 36, [5], .null), (.iload 4, 38, [4], .null), (.if_icmp .ge 42, 40, [41], .null), (.aload_n 0, 43, [0], .null), (.getfield 57, 44, [14,2,8], .null), (.iload_n 3, 47, [3], .null), (.aload_n 0, 48, [0], .null), (.getfield 57, 49, [14,2,8], .null), (.iload_n 3, 52, [3], .null), (.invokestatic 106, 53, [0,156,2], .null), (.aload_n 0, 56, [0], .null), (.getfield 63, 57, [16,2,8], .null), (.aload_n 0, 60, [0], .null), (.getfield 69, 61, [18,2,8], .null), (.iload 5, 64, [5], .null), (.invokestatic 106, 66, [0,156,2], .null), (.invokestatic 106, 69, [0,156,2], .null), (.iadd, 72, [], .null), (.invokestatic 121, 73, [0,158,3], .null), (.iinc 5 1, 76, [5], .int 1), (.goto (-43), 79, [20], .null), (.iinc 2 1, 82, [2], .int 1), (.goto (-83), 85, [2], .null), (.return_, 88, [0], .null)]
/-- TermDraw$Terms.findBeside(LTermDraw$Told;I)I -/
abbrev mi_Terms_findBeside : Nat := 88
def mm_k88 : List mm_Ins := [(.aload_n 0, 0, [0], .null), (.getfield 76, 1, [1,2,8], .null), (.getfield 144, 4, [2,2,2], .null), (.iload_n 2, 7, [2], .null), (.invokestatic 106, 8, [0,156,2], .null), (.istore_n 3, 11, [3], .null), (.iload_n 3, 12, [3], .null), (.aload_n 0, 13, [0], .null), (.getfield 76, 14, [1,2,8], .null), (.getfield 192, 17, [3,2,2], .null), (.iload_n 2, 20, [2], .null), (.invokestatic 106, 21, [0,156,2], .null), (.iadd, 24, [], .null), (.iconst 1, 25, [], .int 1), (.isub, 26, [], .null), (.istore 4, 27, [4], .null), (.iconst 0, 29, [], .int 0), (.istore 5, 30, [5], .null), (.iconst 1, 32, [], .int 1), (.istore 6, 33, [6], .null), (.iload 6, 35, [6], .null), (.aload_n 1, 37, [1], .null), (.getfield 195, 38, [12,0,9], .null), (.if_icmp .gt 100, 41, [69], .null), (.iload 6, 44, [6], .null), (.iconst 3, 46, [], .int 3), (.if_icmp .gt 94, 47, [69], .null), (.aload_n 1, 50, [1], .null), (.getfield 198, 51, [3,2,9], .null), (.iload_n 3, 54, [3], .null), (.iload 6, 55, [6], .null), (.isub, 57, [], .null), (.iload_n 3, 58, [3], .null), (.invokevirtual 168, 59, [1,59,3,6], .null), (.ifCond .eq 29, 62, [47], .null), (.aload_n 0, 65, [0], .null), (.getfield 69, 66, [18,2,8], .null), (.iload 5, 69, [5], .null), (.aload_n 0, 71, [0], .null), (.getfield 72, 72, [0,2,8], .null), (.getfield 200, 75, [2,2,0], .null), (.iload_n 3, 78, [3], .null), (.iload 6, 79, [6], .null), (.isub, 81, [], .null), (.invokestatic 106, 82, [0,156,2], .null), (.invokestatic 121, 85, [0,158,3], .null), (.iinc 5 1, 88, [5], .int 1), (.aload_n 1, 91, [1], .null), (.getfield 198, 92, [3,2,9], .null), (.iload 4, 95, [4], .null), (.iload 4, 97, [4], .null), (.iload 6, 99, [6], .null), (.iadd, 101, [], .null), (.invokevirtual 168, 102, [1,59,3,6], .null), (.ifCond .eq 30, 105, [67], .null), (.aload_n 0, 108, [0], .null), (.getfield 69, 109, [18,2,8], .null), (.iload 5, 112, [5], .null), (.aload_n 0, 114, [0], .null), (.getfield 72, 115, [0,2,8], .null), (.getfield 200, 118, [2,2,0], .null), (.iload 4, 121, [4], .null), (.iload 6, 123, [6], .null), (.iadd, 125, [], .null), (.invokestatic 106, 126, [0,156,2], .null), (.invokestatic 121, 129, [0,158,3], .null), (.iinc 5 1, 132, [5], .int 1), (.iinc 6 1, 135, [6], .int 1), (.goto (-103), 138, [20], .null), (.iload 5, 141, [5], .null), (.ireturn, 143, [1], .null)]
/-- TermDraw$Terms.matchOf(II)I -/
abbrev mi_Terms_matchOf : Nat := 89
def mm_k89 : List mm_Ins := [(.aload_n 0, 0, [0], .null), (.getfield 76, 1, [1,2,8], .null), (.getfield 103, 4, [0,2,2], .null), (.aload_n 0, 7, [0], .null), (.getfield 23, 8, [3,2,8], .null), (.iload_n 1, 11, [1], .null), (.invokestatic 106, 12, [0,156,2], .null), (.iload_n 2, 15, [2], .null), (.iadd, 16, [], .null), (.invokestatic 106, 17, [0,156,2], .null), (.ireturn, 20, [1], .null)]
/-- TermDraw$Terms.lengthOf(I)I -/
abbrev mi_Terms_lengthOf : Nat := 90
def mm_k90 : List mm_Ins := [(.aload_n 0, 0, [0], .null), (.getfield 13, 1, [2,2,8], .null), (.iload_n 1, 4, [1], .null), (.invokestatic 111, 5, [0,157,2], .null), (.invokestatic 203, 8, [0,173,1], .null), (.ireturn, 11, [1], .null)]
/-- TermDraw$Terms.placeOf(J)I -/
abbrev mi_Terms_placeOf : Nat := 91
def mm_k91 : List mm_Ins := [(.aload_n 0, 0, [0], .null), (.getfield 13, 1, [2,2,8], .null), (.aload_n 0, 4, [0], .null), (.getfield 96, 5, [19,0,8], .null), (.lload_n 1, 8, [1], .null), (.invokestatic 206, 9, [0,165,3], .null), (.ireturn, 12, [1], .null)]
/-- TermDraw$Terms.inDoc(I)I -/
abbrev mi_Terms_inDoc : Nat := 92
def mm_k92 : List mm_Ins := [(.iconst 0, 0, [], .int 0), (.istore_n 2, 1, [2], .null), (.iconst 0, 2, [], .int 0), (.istore_n 3, 3, [3], .null), (.iload_n 3, 4, [3], .null), (.aload_n 0, 5, [0], .null), (.getfield 96, 6, [19,0,8], .null), (.if_icmp .ge 24, 9, [21], .null), (.iload_n 2, 12, [2], .null), (.aload_n 0, 13, [0], .null), (.getfield 51, 14, [12,2,8], .null), (.iload_n 3, 17, [3], .null), (.invokestatic 106, 18, [0,156,2], .null), (.iload_n 1, 21, [1], .null), (.iushr, 22, [], .null), (.iconst 1, 23, [], .int 1), (.iand, 24, [], .null), (.iadd, 25, [], .null), (.istore_n 2, 26, [2], .null), (.iinc 3 1, 27, [3], .int 1), (.goto (-26), 30, [4], .null), (.iload_n 2, 33, [2], .null), (.ireturn, 34, [1], .null)]
/-- TermDraw$Terms.toldOf(II)I -/
abbrev mi_Terms_toldOf : Nat := 93
def mm_k93 : List mm_Ins := [(.iload_n 2, 0, [2], .null), (.tableswitch 142 0 9 #[55, 64, 73, 82, 91, 100, 109, 115, 124, 133], 1, [51,2,7,12,17,22,27,32,36,41,46], .null), (.aload_n 0, 56, [0], .null), (.getfield 27, 57, [4,2,8], .null), (.iload_n 1, 60, [1], .null), (.invokestatic 106, 61, [0,156,2], .null), (.ireturn, 64, [1], .null), (.aload_n 0, 65, [0], .null), (.getfield 30, 66, [5,2,8], .null), (.iload_n 1, 69, [1], .null), (.invokestatic 106, 70, [0,156,2], .null), (.ireturn, 73, [1], .null), (.aload_n 0, 74, [0], .null), (.getfield 33, 75, [6,2,8], .null), (.iload_n 1, 78, [1], .null), (.invokestatic 106, 79, [0,156,2], .null), (.ireturn, 82, [1], .null), (.aload_n 0, 83, [0], .null), (.getfield 36, 84, [7,2,8], .null), (.iload_n 1, 87, [1], .null), (.invokestatic 106, 88, [0,156,2], .null), (.ireturn, 91, [1], .null), (.aload_n 0, 92, [0], .null), (.getfield 39, 93, [8,2,8], .null), (.iload_n 1, 96, [1], .null), (.invokestatic 106, 97, [0,156,2], .null), (.ireturn, 100, [1], .null), (.aload_n 0, 101, [0], .null), (.getfield 48, 102, [11,2,8], .null), (.iload_n 1, 105, [1], .null), (.invokestatic 106, 106, [0,156,2], .null), (.ireturn, 109, [1], .null), (.aload_n 0, 110, [0], .null), (.iload_n 1, 111, [1], .null), (.invokevirtual 151, 112, [1,90,2,8], .null), (.ireturn, 115, [1], .null), (.aload_n 0, 116, [0], .null), (.getfield 51, 117, [12,2,8], .null), (.iload_n 1, 120, [1], .null), (.invokestatic 106, 121, [0,156,2], .null), (.ireturn, 124, [1], .null), (.aload_n 0, 125, [0], .null), (.getfield 54, 126, [13,2,8], .null), (.iload_n 1, 129, [1], .null), (.invokestatic 106, 130, [0,156,2], .null), (.ireturn, 133, [1], .null), (.aload_n 0, 134, [0], .null), (.getfield 45, 135, [10,2,8], .null), (.iload_n 1, 138, [1], .null), (.invokestatic 106, 139, [0,156,2], .null), (.ireturn, 142, [1], .null), (.iconst (-1), 143, [], .int (-1)), (.ireturn, 144, [1], .null)]
/-- TermDraw$Terms.longerAt(II)I -/
abbrev mi_Terms_longerAt : Nat := 94
def mm_k94 : List mm_Ins := [(.iconst 0, 0, [], .int 0), (.istore_n 3, 1, [3], .null), (.iconst 0, 2, [], .int 0), (.istore 4, 3, [4], .null), (.iload 4, 5, [4], .null), (.aload_n 0, 7, [0], .null), (.getfield 96, 8, [19,0,8], .null), (.if_icmp .ge 57, 11, [33], .null), (.aload_n 0, 14, [0], .null), (.iload 4, 15, [4], .null), (.invokevirtual 151, 17, [1,90,2,8], .null), (.aload_n 0, 20, [0], .null), (.iload_n 1, 21, [1], .null), (.invokevirtual 151, 22, [1,90,2,8], .null), (.if_icmp .le 37, 25, [31], .null), (.aload_n 0, 28, [0], .null), (.getfield 13, 29, [2,2,8], .null), (.iload 4, 32, [4], .null), (.invokestatic 111, 34, [0,157,2], .null), (.aload_n 0, 37, [0], .null), (.getfield 13, 38, [2,2,8], .null), (.iload_n 1, 41, [1], .null), (.invokestatic 111, 42, [0,157,2], .null), (.invokestatic 210, 45, [0,175,2], .null), (.ifCond .eq 14, 48, [31], .null), (.iload_n 3, 51, [3], .null), (.iload_n 2, 52, [2], .null), (.if_icmp .ne 6, 53, [30], .null), (.iload 4, 56, [4], .null), (.ireturn, 58, [1], .null), (.iinc 3 1, 59, [3], .int 1), (.iinc 4 1, 62, [4], .int 1), (.goto (-60), 65, [4], .null), (.iconst (-1), 68, [], .int (-1)), (.ireturn, 69, [1], .null)]
/-- TermDraw$Terms.baseAround(LTermDraw$Told;II)I -/
abbrev mi_Terms_baseAround : Nat := 95
def mm_k95 : List mm_Ins := [(.aload_n 0, 0, [0], .null), (.getfield 66, 1, [17,2,8], .null), (.sipush 240, 4, [], .int 240), (.invokestatic 181, 7, [0,160,2], .null), (.iconst 0, 10, [], .int 0), (.istore 4, 11, [4], .null), (.iload 4, 13, [4], .null), (.aload_n 0, 15, [0], .null), (.getfield 27, 16, [4,2,8], .null), (.iload_n 2, 19, [2], .null), (.invokestatic 106, 20, [0,156,2], .null), (.if_icmp .ge 70, 23, [44], .null), (.aload_n 0, 26, [0], .null), (.aload_n 1, 27, [1], .null), (.aload_n 0, 28, [0], .null), (.iload_n 2, 29, [2], .null), (.iload 4, 30, [4], .null), (.invokevirtual 185, 32, [1,89,3,8], .null), (.invokevirtual 188, 35, [1,88,3,8], .null), (.istore 5, 38, [5], .null), (.iconst 0, 40, [], .int 0), (.istore 6, 41, [6], .null), (.iload 6, 43, [6], .null), (.iload 5, 45, [5], .null), (.if_icmp .ge 40, 47, [42], .null), (.aload_n 0, 50, [0], .null), (.getfield 69, 51, [18,2,8], .null), (.iload 6, 54, [6], .null), (.invokestatic 106, 56, [0,156,2], .null), (.istore 7, 59, [7], .null), (.aload_n 0, 61, [0], .null), (.getfield 66, 62, [17,2,8], .null), (.iload 7, 65, [7], .null), (.aload_n 0, 67, [0], .null), (.getfield 66, 68, [17,2,8], .null), (.iload 7, 71, [7], .null), (.invokestatic 106, 73, [0,156,2], .null), (.iconst 1, 76, [], .int 1), (.iadd, 77, [], .null), (.invokestatic 121, 78, [0,158,3], .null), (.iinc 6 1, 81, [6], .int 1), (.goto (-41), 84, [22], .null), (.iinc 4 1, 87, [4], .int 1), (.goto (-77), 90, [6], .null), (.aload_n 0, 93, [0], .null), (.iload_n 3, 94, [3], .null), (.invokevirtual 214, 95, [1,96,2,8], .null), (.ireturn, 98, [1], .null)]
/-- TermDraw$Terms.tallied(I)I -/
abbrev mi_Terms_tallied : Nat := 96
def mm_k96 : List mm_Ins := [(.iconst 0, 0, [], .int 0), (.istore_n 2, 1, [2], .null), (.iconst 0, 2, [], .int 0), (.istore_n 3, 3, [3], .null), (.iload_n 3, 4, [3], .null), (.aload_n 0, 5, [0], .null), (.getfield 72, 6, [0,2,8], .null), (.getfield 217, 9, [7,0,0], .null), (.if_icmp .ge 30, 12, [22], .null), (.aload_n 0, 15, [0], .null), (.getfield 66, 16, [17,2,8], .null), (.iload_n 3, 19, [3], .null), (.invokestatic 106, 20, [0,156,2], .null), (.ifCond .le 13, 23, [20], .null), (.iload_n 2, 26, [2], .null), (.iload_n 1, 27, [1], .null), (.if_icmp .ne 5, 28, [19], .null), (.iload_n 3, 31, [3], .null), (.ireturn, 32, [1], .null), (.iinc 2 1, 33, [2], .int 1), (.iinc 3 1, 36, [3], .int 1), (.goto (-35), 39, [4], .null), (.iconst (-1), 42, [], .int (-1)), (.ireturn, 43, [1], .null)]
/-- TermDraw$Terms.likelyOf(I)I -/
abbrev mi_Terms_likelyOf : Nat := 97
def mm_k97 : List mm_Ins := [(.aload_n 0, 0, [0], .null), (.getfield 63, 1, [16,2,8], .null), (.iload_n 1, 4, [1], .null), (.invokestatic 106, 5, [0,156,2], .null), (.ireturn, 8, [1], .null)]
/-- TermDraw$Terms.lastOf(I)I -/
abbrev mi_Terms_lastOf : Nat := 98
def mm_k98 : List mm_Ins := [(.aload_n 0, 0, [0], .null), (.getfield 13, 1, [2,2,8], .null), (.iload_n 1, 4, [1], .null), (.invokestatic 111, 5, [0,157,2], .null), (.aload_n 0, 8, [0], .null), (.iload_n 1, 9, [1], .null), (.invokevirtual 151, 10, [1,90,2,8], .null), (.iconst 1, 13, [], .int 1), (.isub, 14, [], .null), (.invokestatic 218, 15, [0,172,2], .null), (.ireturn, 18, [1], .null)]
/-- TermDraw$Terms.tallyHeads()I -/
abbrev mi_Terms_tallyHeads : Nat := 99
def mm_k99 : List mm_Ins := [(.aload_n 0, 0, [0], .null), (.getfield 66, 1, [17,2,8], .null), (.sipush 240, 4, [], .int 240), (.invokestatic 181, 7, [0,160,2], .null), (.iconst 0, 10, [], .int 0), (.istore_n 1, 11, [1], .null), (.iconst 0, 12, [], .int 0), (.istore_n 2, 13, [2], .null), (.iload_n 2, 14, [2], .null), (.aload_n 0, 15, [0], .null), (.getfield 96, 16, [19,0,8], .null), (.if_icmp .ge 47, 19, [34], .null), (.aload_n 0, 22, [0], .null), (.iload_n 2, 23, [2], .null), (.invokevirtual 222, 24, [1,98,2,8], .null), (.istore_n 3, 27, [3], .null), (.aload_n 0, 28, [0], .null), (.getfield 66, 29, [17,2,8], .null), (.iload_n 3, 32, [3], .null), (.invokestatic 106, 33, [0,156,2], .null), (.ifCond .ne 6, 36, [22], .null), (.iinc 1 1, 39, [1], .int 1), (.aload_n 0, 42, [0], .null), (.getfield 66, 43, [17,2,8], .null), (.iload_n 3, 46, [3], .null), (.aload_n 0, 47, [0], .null), (.getfield 66, 48, [17,2,8], .null), (.iload_n 3, 51, [3], .null), (.invokestatic 106, 52, [0,156,2], .null), (.iconst 1, 55, [], .int 1), (.iadd, 56, [], .null), (.invokestatic 121, 57, [0,158,3], .null), (.iinc 2 1, 60, [2], .int 1), (.goto (-49), 63, [8], .null), (.iload_n 1, 66, [1], .null), (.ireturn, 67, [1], .null)]
/-- TermDraw$Terms.headTold(II)I -/
abbrev mi_Terms_headTold : Nat := 100
def mm_k100 : List mm_Ins := [(.iload_n 2, 0, [2], .null), (.ifCond .ne 12, 1, [7], .null), (.aload_n 0, 4, [0], .null), (.getfield 66, 5, [17,2,8], .null), (.iload_n 1, 8, [1], .null), (.invokestatic 106, 9, [0,156,2], .null), (.ireturn, 12, [1], .null), (.iconst 0, 13, [], .int 0), (.istore_n 3, 14, [3], .null), (.iconst (-1), 15, [], .int (-1)), (.istore 4, 16, [4], .null), (.iconst 0, 18, [], .int 0), (.istore 5, 19, [5], .null), (.iload 5, 21, [5], .null), (.aload_n 0, 23, [0], .null), (.getfield 96, 24, [19,0,8], .null), (.if_icmp .ge 45, 27, [37], .null), (.aload_n 0, 30, [0], .null), (.iload 5, 31, [5], .null), (.invokevirtual 222, 33, [1,98,2,8], .null), (.iload_n 1, 36, [1], .null), (.if_icmp .ne 29, 37, [35], .null), (.iload_n 3, 40, [3], .null), (.aload_n 0, 41, [0], .null), (.getfield 27, 42, [4,2,8], .null), (.iload 5, 45, [5], .null), (.invokestatic 106, 47, [0,156,2], .null), (.iadd, 50, [], .null), (.istore_n 3, 51, [3], .null), (.iload 4, 52, [4], .null), (.ifCond .ge 8, 54, [33], .null), (.iload 5, 57, [5], .null), (.goto 5, 59, [34], .null), (.iload 4, 62, [4], .null), (.istore 4, 64, [4], .null), (.iinc 5 1, 66, [5], .int 1), (.goto (-48), 69, [13], .null), (.iload_n 2, 72, [2], .null), (.iconst 1, 73, [], .int 1), (.if_icmp .ne 5, 74, [42], .null), (.iload_n 3, 77, [3], .null), (.ireturn, 78, [1], .null), (.iload_n 2, 79, [2], .null), (.iconst 2, 80, [], .int 2), (.if_icmp .ne 8, 81, [47], .null), (.iload 4, 84, [4], .null), (.goto 4, 86, [48], .null), (.iconst (-1), 89, [], .int (-1)), (.ireturn, 90, [1], .null)]
/-- TermDraw$Told.<init>()V -/
abbrev mi_Told_init : Nat := 101
def mm_k101 : List mm_Ins := [(.aload_n 0, 0, [0], .null), (.invokespecial 3, 1, [7], .null), (.aload_n 0, 4, [0], .null), (.new 9, 5, [4,3], .null), (.dup, 8, [], .null), (.bipush 80, 9, [], .int 80), (.invokespecial 11, 11, [8,33,2,4], .null), (.putfield 14, 14, [0,2,1,9], .null), (.aload_n 0, 17, [0], .null), (.new 9, 18, [4,3], .null), (.dup, 21, [], .null), (.bipush 8, 22, [], .int 8), (.invokespecial 11, 24, [8,33,2,4], .null), (.putfield 20, 27, [1,2,1,9], .null), (.aload_n 0, 30, [0], .null), (.new 9, 31, [4,3], .null), (.dup, 34, [], .null), (.bipush 40, 35, [], .int 40), (.invokespecial 11, 37, [8,33,2,4], .null), (.putfield 23, 40, [2,2,1,9], .null), (.aload_n 0, 43, [0], .null), (.new 26, 44, [6,3], .null), (.dup, 47, [], .null), (.invokespecial 28, 48, [8,54,1,6], .null), (.putfield 29, 51, [3,2,1,9], .null), (.aload_n 0, 54, [0], .null), (.bipush 8, 55, [], .int 8), (.invokestatic 33, 57, [0,154,1], .null), (.putfield 37, 60, [4,2,1,9], .null), (.aload_n 0, 63, [0], .null), (.new 26, 64, [6,3], .null), (.dup, 67, [], .null), (.invokespecial 28, 68, [8,54,1,6], .null), (.putfield 41, 71, [5,2,1,9], .null), (.aload_n 0, 74, [0], .null), (.new 44, 75, [5,5], .null), (.dup, 78, [], .null), (.invokespecial 46, 79, [8,38,1,5], .null), (.putfield 47, 82, [6,2,1,9], .null), (.aload_n 0, 85, [0], .null), (.bipush 6, 86, [], .int 6), (.invokestatic 33, 88, [0,154,1], .null), (.putfield 51, 91, [7,2,1,9], .null), (.iconst 1, 94, [], .int 1), (.istore_n 1, 95, [1], .null), (.iload_n 1, 96, [1], .null), (.iconst 5, 97, [], .int 5), (.if_icmp .gt 18, 98, [55], .null), (.aload_n 0, 101, [0], .null), (.getfield 51, 102, [7,2,9], .null), (.iload_n 1, 105, [1], .null), (.iload_n 1, 106, [1], .null), (.invokestatic 54, 107, [0,158,3], .null), (.iinc 1 1, 110, [1], .int 1), (.goto (-17), 113, [45], .null), (.aload_n 0, 116, [0], .null), (.iconst 2, 117, [], .int 2), (.putfield 58, 118, [10,0,0,9], .null), (.aload_n 0, 121, [0], .null), (.iconst 5, 122, [], .int 5), (.putfield 62, 123, [11,0,0,9], .null), (.aload_n 0, 126, [0], .null), (.iconst 1, 127, [], .int 1), (.putfield 65, 128, [12,0,0,9], .null), (.return_, 131, [0], .null)]
/-- TermDraw$Told.copyFrom(LTermDraw$Told;)V -/
abbrev mi_Told_copyFrom : Nat := 102
def mm_k102 : List mm_Ins := [(.aload_n 0, 0, [0], .null), (.getfield 14, 1, [0,2,9], .null), (.aload_n 1, 4, [1], .null), (.getfield 14, 5, [0,2,9], .null), (.invokevirtual 68, 8, [1,34,2,4], .null), (.aload_n 0, 11, [0], .null), (.getfield 20, 12, [1,2,9], .null), (.aload_n 1, 15, [1], .null), (.getfield 20, 16, [1,2,9], .null), (.invokevirtual 68, 19, [1,34,2,4], .null), (.aload_n 0, 22, [0], .null), (.getfield 23, 23, [2,2,9], .null), (.aload_n 1, 26, [1], .null), (.getfield 23, 27, [2,2,9], .null), (.invokevirtual 68, 30, [1,34,2,4], .null), (.aload_n 0, 33, [0], .null), (.getfield 29, 34, [3,2,9], .null), (.aload_n 1, 37, [1], .null), (.getfield 29, 38, [3,2,9], .null), (.invokevirtual 72, 41, [1,55,2,6], .null), (.aload_n 1, 44, [1], .null), (.getfield 37, 45, [4,2,9], .null), (.aload_n 0, 48, [0], .null), (.getfield 37, 49, [4,2,9], .null), (.bipush 8, 52, [], .int 8), (.invokestatic 75, 54, [0,161,3], .null), (.aload_n 0, 57, [0], .null), (.getfield 41, 58, [5,2,9], .null), (.aload_n 1, 61, [1], .null), (.getfield 41, 62, [5,2,9], .null), (.invokevirtual 72, 65, [1,55,2,6], .null), (.aload_n 0, 68, [0], .null), (.getfield 47, 69, [6,2,9], .null), (.aload_n 1, 72, [1], .null), (.getfield 47, 73, [6,2,9], .null), (.invokevirtual 79, 76, [1,39,2,5], .null), (.aload_n 1, 79, [1], .null), (.getfield 51, 80, [7,2,9], .null), (.aload_n 0, 83, [0], .null), (.getfield 51, 84, [7,2,9], .null), (.bipush 6, 87, [], .int 6), (.invokestatic 75, 89, [0,161,3], .null), (.aload_n 0, 92, [0], .null), (.aload_n 1, 93, [1], .null), (.getfield 82, 94, [8,0,9], .null), (.putfield 82, 97, [8,0,0,9], .null), (.aload_n 0, 100, [0], .null), (.aload_n 1, 101, [1], .null), (.getfield 85, 102, [9,0,9], .null), (.putfield 85, 105, [9,0,0,9], .null), (.aload_n 0, 108, [0], .null), (.aload_n 1, 109, [1], .null), (.getfield 58, 110, [10,0,9], .null), (.putfield 58, 113, [10,0,0,9], .null), (.aload_n 0, 116, [0], .null), (.aload_n 1, 117, [1], .null), (.getfield 62, 118, [11,0,9], .null), (.putfield 62, 121, [11,0,0,9], .null), (.aload_n 0, 124, [0], .null), (.aload_n 1, 125, [1], .null), (.getfield 65, 126, [12,0,9], .null), (.putfield 65, 129, [12,0,0,9], .null), (.return_, 132, [0], .null)]
/-- TermDraw$Told.sameAs(J)J -/
abbrev mi_Told_sameAs : Nat := 103
def mm_k103 : List mm_Ins := [(.aload_n 0, 0, [0], .null), (.getfield 23, 1, [2,2,9], .null), (.lload_n 1, 4, [1], .null), (.invokevirtual 88, 5, [1,36,2,4], .null), (.istore_n 3, 8, [3], .null), (.iload_n 3, 9, [3], .null), (.ifCond .ge 7, 10, [9], .null), (.lload_n 1, 13, [1], .null), (.goto 14, 14, [14], .null), (.aload_n 0, 17, [0], .null), (.getfield 23, 18, [2,2,9], .null), (.getfield 92, 21, [1,2,4], .null), (.iload_n 3, 24, [3], .null), (.invokestatic 96, 25, [0,157,2], .null), (.lreturn, 28, [2], .null)]
/-- TermDraw$Told.tellSame(JJ)V -/
abbrev mi_Told_tellSame : Nat := 104
def mm_k104 : List mm_Ins := [(.lload_n 1, 0, [1], .null), (.lload_n 3, 1, [3], .null), (.lcmp, 2, [0,14], .null), (.aload_n 0, 6, [0], .null), (.getfield 23, 7, [2,2,9], .null), (.lload_n 1, 10, [1], .null), (.invokevirtual 88, 11, [1,36,2,4], .null), (.ifCond .ge 13, 14, [14], .null), (.aload_n 0, 17, [0], .null), (.getfield 23, 18, [2,2,9], .null), (.lload_n 1, 21, [1], .null), (.lload_n 3, 22, [3], .null), (.invokevirtual 100, 23, [1,35,3,4], .null), (.pop, 26, [], .null), (.return_, 27, [0], .null)]
/-- TermDraw$Told.baseOf(J)J -/
abbrev mi_Told_baseOf : Nat := 105
def mm_k105 : List mm_Ins := [(.aload_n 0, 0, [0], .null), (.getfield 23, 1, [2,2,9], .null), (.lload_n 1, 4, [1], .null), (.invokevirtual 88, 5, [1,36,2,4], .null), (.ifCond .lt 9, 8, [9], .null), (.aload_n 0, 11, [0], .null), (.lload_n 1, 12, [1], .null), (.invokevirtual 104, 13, [1,103,2,9], .null), (.lreturn, 16, [2], .null), (.iconst 0, 17, [], .int 0), (.istore_n 3, 18, [3], .null), (.iload_n 3, 19, [3], .null), (.aload_n 0, 20, [0], .null), (.getfield 20, 21, [1,2,9], .null), (.getfield 108, 24, [2,0,4], .null), (.if_icmp .ge 63, 27, [43], .null), (.lload_n 1, 30, [1], .null), (.aload_n 0, 31, [0], .null), (.getfield 20, 32, [1,2,9], .null), (.getfield 111, 35, [0,2,4], .null), (.iload_n 3, 38, [3], .null), (.invokestatic 96, 39, [0,157,2], .null), (.aload_n 0, 42, [0], .null), (.getfield 20, 43, [1,2,9], .null), (.getfield 92, 46, [1,2,4], .null), (.iload_n 3, 49, [3], .null), (.invokestatic 96, 50, [0,157,2], .null), (.invokestatic 114, 53, [0,170,3], .null), (.lstore 4, 56, [4], .null), (.lload 4, 58, [4], .null), (.lconst 0, 60, [], .long 0), (.lcmp, 61, [0,41], .null), (.aload_n 0, 65, [0], .null), (.getfield 14, 66, [0,2,9], .null), (.lload 4, 69, [4], .null), (.invokevirtual 88, 71, [1,36,2,4], .null), (.ifCond .lt 10, 74, [41], .null), (.aload_n 0, 77, [0], .null), (.lload 4, 78, [4], .null), (.invokevirtual 104, 80, [1,103,2,9], .null), (.lreturn, 83, [2], .null), (.iinc 3 1, 84, [3], .int 1), (.goto (-68), 87, [11], .null), (.lload_n 1, 90, [1], .null), (.lreturn, 91, [2], .null)]
/-- TermDraw$Told.kindOf(JJ)I -/
abbrev mi_Told_kindOf : Nat := 106
def mm_k106 : List mm_Ins := [(.aload_n 0, 0, [0], .null), (.getfield 14, 1, [0,2,9], .null), (.lload_n 1, 4, [1], .null), (.invokevirtual 88, 5, [1,36,2,4], .null), (.istore 5, 8, [5], .null), (.iload 5, 10, [5], .null), (.ifCond .ge 13, 12, [12], .null), (.aload_n 0, 15, [0], .null), (.getfield 14, 16, [0,2,9], .null), (.lload_n 3, 19, [3], .null), (.invokevirtual 88, 20, [1,36,2,4], .null), (.istore 5, 23, [5], .null), (.iload 5, 25, [5], .null), (.ifCond .ge 8, 27, [16], .null), (.bipush 120, 30, [], .int 120), (.goto 16, 32, [22], .null), (.aload_n 0, 35, [0], .null), (.getfield 14, 36, [0,2,9], .null), (.getfield 92, 39, [1,2,4], .null), (.iload 5, 42, [5], .null), (.invokestatic 96, 44, [0,157,2], .null), (.l2i, 47, [], .null), (.ireturn, 48, [1], .null)]
/-- TermDraw$Told.closeDoc()V -/
abbrev mi_Told_closeDoc : Nat := 107
def mm_k107 : List mm_Ins := [(.aload_n 0, 0, [0], .null), (.getfield 37, 1, [4,2,9], .null), (.aload_n 0, 4, [0], .null), (.getfield 85, 5, [9,0,9], .null), (.aload_n 0, 8, [0], .null), (.getfield 29, 9, [3,2,9], .null), (.getfield 118, 12, [2,0,6], .null), (.invokestatic 54, 15, [0,158,3], .null), (.aload_n 0, 18, [0], .null), (.dup, 19, [], .null), (.getfield 85, 20, [9,0,9], .null), (.iconst 1, 23, [], .int 1), (.iadd, 24, [], .null), (.putfield 85, 25, [9,0,0,9], .null), (.return_, 28, [0], .null)]
/-- TermDraw$Told.removeDoc(I)V -/
abbrev mi_Told_removeDoc : Nat := 108
def mm_k108 : List mm_Ins := [(.aload_n 0, 0, [0], .null), (.iload_n 1, 1, [1], .null), (.invokevirtual 119, 2, [1,110,2,9], .null), (.istore_n 2, 5, [2], .null), (.aload_n 0, 6, [0], .null), (.getfield 29, 7, [3,2,9], .null), (.aload_n 0, 10, [0], .null), (.iload_n 1, 11, [1], .null), (.invokevirtual 123, 12, [1,109,2,9], .null), (.iload_n 2, 15, [2], .null), (.invokevirtual 126, 16, [1,60,3,6], .null), (.iload_n 1, 19, [1], .null), (.istore_n 3, 20, [3], .null), (.iload_n 3, 21, [3], .null), (.iconst 1, 22, [], .int 1), (.iadd, 23, [], .null), (.aload_n 0, 24, [0], .null), (.getfield 85, 25, [9,0,9], .null), (.if_icmp .ge 29, 28, [33], .null), (.aload_n 0, 31, [0], .null), (.getfield 37, 32, [4,2,9], .null), (.iload_n 3, 35, [3], .null), (.aload_n 0, 36, [0], .null), (.getfield 37, 37, [4,2,9], .null), (.iload_n 3, 40, [3], .null), (.iconst 1, 41, [], .int 1), (.iadd, 42, [], .null), (.invokestatic 130, 43, [0,156,2], .null), (.iload_n 2, 46, [2], .null), (.isub, 47, [], .null), (.invokestatic 54, 48, [0,158,3], .null), (.iinc 3 1, 51, [3], .int 1), (.goto (-33), 54, [13], .null), (.aload_n 0, 57, [0], .null), (.dup, 58, [], .null), (.getfield 85, 59, [9,0,9], .null), (.iconst 1, 62, [], .int 1), (.isub, 63, [], .null), (.putfield 85, 64, [9,0,0,9], .null), (.return_, 67, [0], .null)]
/-- TermDraw$Told.docFirst(I)I -/
abbrev mi_Told_docFirst : Nat := 109
def mm_k109 : List mm_Ins := [(.aload_n 0, 0, [0], .null), (.getfield 37, 1, [4,2,9], .null), (.iload_n 1, 4, [1], .null), (.iconst 1, 5, [], .int 1), (.isub, 6, [], .null), (.invokestatic 130, 7, [0,156,2], .null), (.ireturn, 10, [1], .null)]
/-- TermDraw$Told.docSize(I)I -/
abbrev mi_Told_docSize : Nat := 110
def mm_k110 : List mm_Ins := [(.aload_n 0, 0, [0], .null), (.getfield 37, 1, [4,2,9], .null), (.iload_n 1, 4, [1], .null), (.invokestatic 130, 5, [0,156,2], .null), (.aload_n 0, 8, [0], .null), (.iload_n 1, 9, [1], .null), (.invokevirtual 123, 10, [1,109,2,9], .null), (.isub, 13, [], .null), (.ireturn, 14, [1], .null)]
/-- TermDraw$Told.docSentences(I)I -/
abbrev mi_Told_docSentences : Nat := 111
def mm_k111 : List mm_Ins := [(.aload_n 0, 0, [0], .null), (.iload_n 1, 1, [1], .null), (.invokevirtual 123, 2, [1,109,2,9], .null), (.istore_n 2, 5, [2], .null), (.iconst 0, 6, [], .int 0), (.istore_n 3, 7, [3], .null), (.iload_n 2, 8, [2], .null), (.istore 4, 9, [4], .null), (.iload 4, 11, [4], .null), (.aload_n 0, 13, [0], .null), (.getfield 37, 14, [4,2,9], .null), (.iload_n 1, 17, [1], .null), (.invokestatic 130, 18, [0,156,2], .null), (.if_icmp .ge 42, 21, [31], .null), (.iload 4, 24, [4], .null), (.sipush 240, 26, [], .int 240), (.if_icmp .ge 34, 29, [31], .null), (.iload 4, 32, [4], .null), (.iload_n 2, 34, [2], .null), (.if_icmp .eq 19, 35, [28], .null), (.aload_n 0, 38, [0], .null), (.getfield 29, 39, [3,2,9], .null), (.iload 4, 42, [4], .null), (.iconst 1, 44, [], .int 1), (.isub, 45, [], .null), (.iload 4, 46, [4], .null), (.invokevirtual 133, 48, [1,59,3,6], .null), (.ifCond .ne 6, 51, [29], .null), (.iinc 3 1, 54, [3], .int 1), (.iinc 4 1, 57, [4], .int 1), (.goto (-49), 60, [8], .null), (.iload_n 3, 63, [3], .null), (.ireturn, 64, [1], .null)]
/-- TermDraw$Told.placeOf(II)I -/
abbrev mi_Told_placeOf : Nat := 112
def mm_k112 : List mm_Ins := [(.iload_n 1, 0, [1], .null), (.ifCond .lt 24, 1, [13], .null), (.iload_n 1, 4, [1], .null), (.aload_n 0, 5, [0], .null), (.getfield 85, 6, [9,0,9], .null), (.if_icmp .ge 16, 9, [13], .null), (.iload_n 2, 12, [2], .null), (.ifCond .lt 12, 13, [13], .null), (.iload_n 2, 16, [2], .null), (.aload_n 0, 17, [0], .null), (.iload_n 1, 18, [1], .null), (.invokevirtual 119, 19, [1,110,2,9], .null), (.if_icmp .lt 5, 22, [15], .null), (.iconst (-1), 25, [], .int (-1)), (.ireturn, 26, [1], .null), (.aload_n 0, 27, [0], .null), (.iload_n 1, 28, [1], .null), (.invokevirtual 123, 29, [1,109,2,9], .null), (.iload_n 2, 32, [2], .null), (.iadd, 33, [], .null), (.ireturn, 34, [1], .null)]
/-- TermDraw$Told.docAt(I)I -/
abbrev mi_Told_docAt : Nat := 113
def mm_k113 : List mm_Ins := [(.iconst 0, 0, [], .int 0), (.istore_n 2, 1, [2], .null), (.iload_n 2, 2, [2], .null), (.bipush 7, 3, [], .int 7), (.if_icmp .ge 21, 5, [13], .null), (.iload_n 1, 8, [1], .null), (.aload_n 0, 9, [0], .null), (.getfield 37, 10, [4,2,9], .null), (.iload_n 2, 13, [2], .null), (.invokestatic 130, 14, [0,156,2], .null), (.if_icmp .lt 9, 17, [13], .null), (.iinc 2 1, 20, [2], .int 1), (.goto (-21), 23, [2], .null), (.iload_n 2, 26, [2], .null), (.ireturn, 27, [1], .null)]
/-- TermDraw.<init>()V -/
abbrev mi_T_init : Nat := 114
def mm_k114 : List mm_Ins := [(.aload_n 0, 0, [0], .null), (.invokespecial 3, 1, [7], .null), (.aload_n 0, 4, [0], .null), (.new 9, 5, [1,2], .null), (.dup, 8, [], .null), (.sipush 600, 9, [], .int 600), (.invokespecial 11, 12, [8,3,2,1], .null), (.putfield 14, 15, [0,2,1,10], .null), (.aload_n 0, 18, [0], .null), (.new 9, 19, [1,2], .null), (.dup, 22, [], .null), (.bipush 54, 23, [], .int 54), (.invokespecial 11, 25, [8,3,2,1], .null), (.putfield 18, 28, [1,2,1,10], .null), (.aload_n 0, 31, [0], .null), (.new 21, 32, [7,7], .null), (.dup, 35, [], .null), (.aload_n 0, 36, [0], .null), (.getfield 14, 37, [0,2,10], .null), (.invokespecial 23, 40, [8,61,2,7], .null), (.putfield 26, 43, [2,2,1,10], .null), (.aload_n 0, 46, [0], .null), (.new 30, 47, [9,13], .null), (.dup, 50, [], .null), (.invokespecial 32, 51, [8,101,1,9], .null), (.putfield 33, 54, [8,2,0,10], .null), (.aload_n 0, 57, [0], .null), (.new 30, 58, [9,13], .null), (.dup, 61, [], .null), (.invokespecial 32, 62, [8,101,1,9], .null), (.putfield 37, 65, [9,2,0,10], .null), (.aload_n 0, 68, [0], .null), (.bipush 10, 69, [], .int 10), (.anewarray 30, 71, [15], .null), (.putfield 40, 74, [3,2,1,10], .null), (.iconst 0, 77, [], .int 0), (.istore_n 1, 78, [1], .null), (.iload_n 1, 79, [1], .null), (.aload_n 0, 80, [0], .null), (.getfield 40, 81, [3,2,10], .null), (.arraylength, 84, [], .null), (.if_icmp .ge 45, 85, [62], .null), (.aload_n 0, 88, [0], .null), (.getfield 40, 89, [3,2,10], .null), (.iload_n 1, 92, [1], .null), (.iload_n 1, 93, [1], .null), (.ifCond .ne 10, 94, [50], .null), (.aload_n 0, 97, [0], .null), (.getfield 33, 98, [8,2,10], .null), (.goto 22, 101, [59], .null), (.iload_n 1, 104, [1], .null), (.iconst 1, 105, [], .int 1), (.if_icmp .ne 10, 106, [56], .null), (.aload_n 0, 109, [0], .null), (.getfield 37, 110, [9,2,10], .null), (.goto 10, 113, [59], .null), (.new 30, 116, [9,13], .null), (.dup, 119, [], .null), (.invokespecial 32, 120, [8,101,1,9], .null), (.aastore, 123, [], .null), (.iinc 1 1, 124, [1], .int 1), (.goto (-48), 127, [37], .null), (.aload_n 0, 130, [0], .null), (.new 44, 131, [0,8], .null), (.dup, 134, [], .null), (.invokespecial 46, 135, [8,0,1,0], .null), (.putfield 47, 138, [4,2,1,10], .null), (.aload_n 0, 141, [0], .null), (.new 51, 142, [2,9], .null), (.dup, 145, [], .null), (.invokespecial 53, 146, [8,9,1,2], .null), (.putfield 54, 149, [5,2,1,10], .null), (.aload_n 0, 152, [0], .null), (.new 58, 153, [8,20], .null), (.dup, 156, [], .null), (.aload_n 0, 157, [0], .null), (.getfield 47, 158, [4,2,10], .null), (.aload_n 0, 161, [0], .null), (.getfield 54, 162, [5,2,10], .null), (.invokespecial 60, 165, [8,79,3,8], .null), (.putfield 63, 168, [6,2,1,10], .null), (.aload_n 0, 171, [0], .null), (.new 67, 172, [3,9], .null), (.dup, 175, [], .null), (.aload_n 0, 176, [0], .null), (.getfield 63, 177, [6,2,10], .null), (.invokespecial 69, 180, [8,16,2,3], .null), (.putfield 72, 183, [7,2,1,10], .null), (.aload_n 0, 186, [0], .null), (.iconst (-1), 187, [], .int (-1)), (.putfield 76, 188, [13,0,0,10], .null), (.return_, 191, [0], .null)]
/-- TermDraw.feed(IIIII)I -/
abbrev mi_T_feed : Nat := 115
def mm_k115 : List mm_Ins := [(.aload_n 0, 0, [0], .null), (.getfield 14, 1, [0,2,10], .null), (.getfield 80, 4, [1,0,1], .null), (.sipush 580, 7, [], .int 580), (.if_icmp .le 5, 10, [7], .null), (.iconst (-1), 13, [], .int (-1)), (.ireturn, 14, [1], .null), (.aload_n 0, 15, [0], .null), (.getfield 14, 16, [0,2,10], .null), (.iload_n 1, 19, [1], .null), (.invokevirtual 83, 20, [1,5,2,1], .null), (.aload_n 0, 23, [0], .null), (.getfield 14, 24, [0,2,10], .null), (.iload_n 2, 27, [2], .null), (.invokevirtual 83, 28, [1,5,2,1], .null), (.aload_n 0, 31, [0], .null), (.getfield 14, 32, [0,2,10], .null), (.iload_n 3, 35, [3], .null), (.invokevirtual 83, 36, [1,5,2,1], .null), (.aload_n 0, 39, [0], .null), (.getfield 14, 40, [0,2,10], .null), (.iload 4, 43, [4], .null), (.invokevirtual 83, 45, [1,5,2,1], .null), (.aload_n 0, 48, [0], .null), (.getfield 14, 49, [0,2,10], .null), (.iload 5, 52, [5], .null), (.invokevirtual 83, 54, [1,5,2,1], .null), (.aload_n 0, 57, [0], .null), (.getfield 14, 58, [0,2,10], .null), (.getfield 80, 61, [1,0,1], .null), (.ireturn, 64, [1], .null)]
/-- TermDraw.end(I)Z -/
abbrev mi_T_end : Nat := 116
def mm_k116 : List mm_Ins := [(.iload_n 1, 0, [1], .null), (.ifCond .lt 14, 1, [7], .null), (.iload_n 1, 4, [1], .null), (.aload_n 0, 5, [0], .null), (.getfield 14, 6, [0,2,10], .null), (.getfield 80, 9, [1,0,1], .null), (.if_icmp .le 5, 12, [9], .null), (.iconst 0, 15, [], .int 0), (.ireturn, 16, [3], .null), (.aload_n 0, 17, [0], .null), (.getfield 14, 18, [0,2,10], .null), (.iload_n 1, 21, [1], .null), (.putfield 80, 22, [1,0,0,1], .null), (.iconst 1, 25, [], .int 1), (.ireturn, 26, [3], .null)]
/-- TermDraw.text(I)I -/
abbrev mi_T_text : Nat := 117
def mm_k117 : List mm_Ins := [(.iload_n 1, 0, [1], .null), (.ifCond .lt 8, 1, [5], .null), (.iload_n 1, 4, [1], .null), (.iconst 4, 5, [], .int 4), (.if_icmp .le 8, 6, [8], .null), (.aload_n 0, 9, [0], .null), (.invokevirtual 86, 10, [1,147,1,10], .null), (.ireturn, 13, [1], .null), (.aload_n 0, 14, [0], .null), (.invokevirtual 90, 15, [1,145,1,10], .null), (.aload_n 0, 18, [0], .null), (.aload_n 0, 19, [0], .null), (.getfield 37, 20, [9,2,10], .null), (.iload_n 1, 23, [1], .null), (.invokevirtual 93, 24, [1,148,3,10], .null), (.aload_n 0, 27, [0], .null), (.invokevirtual 97, 28, [1,149,1,10], .null), (.ifCond .ne 5, 31, [20], .null), (.iconst (-1), 34, [], .int (-1)), (.ireturn, 35, [1], .null), (.aload_n 0, 36, [0], .null), (.iload_n 1, 37, [1], .null), (.invokevirtual 101, 38, [1,150,2,10], .null), (.ireturn, 41, [1], .null)]
/-- TermDraw.doc()I -/
abbrev mi_T_doc : Nat := 118
def mm_k118 : List mm_Ins := [(.aload_n 0, 0, [0], .null), (.getfield 33, 1, [8,2,10], .null), (.getfield 105, 4, [9,0,9], .null), (.bipush 8, 7, [], .int 8), (.if_icmp .lt 8, 9, [8], .null), (.aload_n 0, 12, [0], .null), (.invokevirtual 86, 13, [1,147,1,10], .null), (.ireturn, 16, [1], .null), (.aload_n 0, 17, [0], .null), (.invokevirtual 90, 18, [1,145,1,10], .null), (.aload_n 0, 21, [0], .null), (.getfield 26, 22, [2,2,10], .null), (.aload_n 0, 25, [0], .null), (.getfield 37, 26, [9,2,10], .null), (.getfield 108, 29, [3,2,9], .null), (.invokevirtual 112, 32, [1,77,2,7], .null), (.aload_n 0, 35, [0], .null), (.getfield 37, 36, [9,2,10], .null), (.invokevirtual 116, 39, [1,107,1,9], .null), (.aload_n 0, 42, [0], .null), (.invokevirtual 97, 43, [1,149,1,10], .null), (.ifCond .ne 5, 46, [24], .null), (.iconst (-1), 49, [], .int (-1)), (.ireturn, 50, [1], .null), (.aload_n 0, 51, [0], .null), (.getfield 33, 52, [8,2,10], .null), (.getfield 105, 55, [9,0,9], .null), (.iconst 1, 58, [], .int 1), (.isub, 59, [], .null), (.ireturn, 60, [1], .null)]
/-- TermDraw.drop(I)I -/
abbrev mi_T_drop : Nat := 119
def mm_k119 : List mm_Ins := [(.iload_n 1, 0, [1], .null), (.ifCond .lt 14, 1, [7], .null), (.iload_n 1, 4, [1], .null), (.aload_n 0, 5, [0], .null), (.getfield 33, 6, [8,2,10], .null), (.getfield 105, 9, [9,0,9], .null), (.if_icmp .lt 5, 12, [9], .null), (.iconst (-1), 15, [], .int (-1)), (.ireturn, 16, [1], .null), (.aload_n 0, 17, [0], .null), (.invokevirtual 90, 18, [1,145,1,10], .null), (.aload_n 0, 21, [0], .null), (.getfield 37, 22, [9,2,10], .null), (.iload_n 1, 25, [1], .null), (.invokevirtual 119, 26, [1,108,2,9], .null), (.aload_n 0, 29, [0], .null), (.invokevirtual 122, 30, [1,146,1,10], .null), (.aload_n 0, 33, [0], .null), (.getfield 33, 34, [8,2,10], .null), (.getfield 105, 37, [9,0,9], .null), (.ireturn, 40, [1], .null)]
/-- TermDraw.fault(I)I -/
abbrev mi_T_fault : Nat := 120
def mm_k120 : List mm_Ins := [(.iload_n 1, 0, [1], .null), (.ifCond .ne 8, 1, [5], .null), (.aload_n 0, 4, [0], .null), (.getfield 125, 5, [12,0,10], .null), (.ireturn, 8, [1], .null), (.iload_n 1, 9, [1], .null), (.iconst 1, 10, [], .int 1), (.if_icmp .ne 10, 11, [11], .null), (.aload_n 0, 14, [0], .null), (.getfield 76, 15, [13,0,10], .null), (.goto 4, 18, [12], .null), (.iconst (-1), 21, [], .int (-1)), (.ireturn, 22, [1], .null)]
/-- TermDraw.lengths(II)Z -/
abbrev mi_T_lengths : Nat := 121
def mm_k121 : List mm_Ins := [(.iload_n 1, 0, [1], .null), (.iconst 1, 1, [], .int 1), (.if_icmp .lt 13, 2, [9], .null), (.iload_n 2, 5, [2], .null), (.iconst 5, 6, [], .int 5), (.if_icmp .gt 8, 7, [9], .null), (.iload_n 1, 10, [1], .null), (.iload_n 2, 11, [2], .null), (.if_icmp .le 5, 12, [11], .null), (.iconst 0, 15, [], .int 0), (.ireturn, 16, [3], .null), (.iload_n 1, 17, [1], .null), (.aload_n 0, 18, [0], .null), (.getfield 33, 19, [8,2,10], .null), (.getfield 128, 22, [10,0,9], .null), (.if_icmp .ne 16, 25, [23], .null), (.iload_n 2, 28, [2], .null), (.aload_n 0, 29, [0], .null), (.getfield 33, 30, [8,2,10], .null), (.getfield 131, 33, [11,0,9], .null), (.if_icmp .ne 5, 36, [23], .null), (.iconst 0, 39, [], .int 0), (.ireturn, 40, [3], .null), (.aload_n 0, 41, [0], .null), (.invokevirtual 90, 42, [1,145,1,10], .null), (.aload_n 0, 45, [0], .null), (.getfield 37, 46, [9,2,10], .null), (.iload_n 1, 49, [1], .null), (.putfield 128, 50, [10,0,0,9], .null), (.aload_n 0, 53, [0], .null), (.getfield 37, 54, [9,2,10], .null), (.iload_n 2, 57, [2], .null), (.putfield 131, 58, [11,0,0,9], .null), (.aload_n 0, 61, [0], .null), (.invokevirtual 122, 62, [1,146,1,10], .null), (.iconst 1, 65, [], .int 1), (.ireturn, 66, [3], .null)]
/-- TermDraw.weight(II)Z -/
abbrev mi_T_weight : Nat := 122
def mm_k122 : List mm_Ins := [(.iload_n 1, 0, [1], .null), (.iconst 1, 1, [], .int 1), (.if_icmp .lt 18, 2, [11], .null), (.iload_n 1, 5, [1], .null), (.iconst 5, 6, [], .int 5), (.if_icmp .gt 13, 7, [11], .null), (.iload_n 2, 10, [2], .null), (.ifCond .lt 9, 11, [11], .null), (.iload_n 2, 14, [2], .null), (.bipush 9, 15, [], .int 9), (.if_icmp .le 5, 17, [13], .null), (.iconst 0, 20, [], .int 0), (.ireturn, 21, [3], .null), (.aload_n 0, 22, [0], .null), (.getfield 33, 23, [8,2,10], .null), (.getfield 134, 26, [7,2,9], .null), (.iload_n 1, 29, [1], .null), (.invokestatic 138, 30, [0,156,2], .null), (.iload_n 2, 33, [2], .null), (.if_icmp .ne 5, 34, [22], .null), (.iconst 0, 37, [], .int 0), (.ireturn, 38, [3], .null), (.aload_n 0, 39, [0], .null), (.invokevirtual 90, 40, [1,145,1,10], .null), (.aload_n 0, 43, [0], .null), (.getfield 37, 44, [9,2,10], .null), (.getfield 134, 47, [7,2,9], .null), (.iload_n 1, 50, [1], .null), (.iload_n 2, 51, [2], .null), (.invokestatic 142, 52, [0,158,3], .null), (.aload_n 0, 55, [0], .null), (.invokevirtual 122, 56, [1,146,1,10], .null), (.iconst 1, 59, [], .int 1), (.ireturn, 60, [3], .null)]
/-- TermDraw.wide(I)Z -/
abbrev mi_T_wide : Nat := 123
def mm_k123 : List mm_Ins := [(.iload_n 1, 0, [1], .null), (.ifCond .lt 19, 1, [10], .null), (.iload_n 1, 4, [1], .null), (.iconst 3, 5, [], .int 3), (.if_icmp .gt 14, 6, [10], .null), (.iload_n 1, 9, [1], .null), (.aload_n 0, 10, [0], .null), (.getfield 33, 11, [8,2,10], .null), (.getfield 146, 14, [12,0,9], .null), (.if_icmp .ne 5, 17, [12], .null), (.iconst 0, 20, [], .int 0), (.ireturn, 21, [3], .null), (.aload_n 0, 22, [0], .null), (.invokevirtual 90, 23, [1,145,1,10], .null), (.aload_n 0, 26, [0], .null), (.getfield 37, 27, [9,2,10], .null), (.iload_n 1, 30, [1], .null), (.putfield 146, 31, [12,0,0,9], .null), (.aload_n 0, 34, [0], .null), (.invokevirtual 122, 35, [1,146,1,10], .null), (.iconst 1, 38, [], .int 1), (.ireturn, 39, [3], .null)]
/-- TermDraw.undo()Z -/
abbrev mi_T_undo : Nat := 124
def mm_k124 : List mm_Ins := [(.aload_n 0, 0, [0], .null), (.getfield 149, 1, [11,0,10], .null), (.ifCond .gt 5, 4, [5], .null), (.iconst 0, 7, [], .int 0), (.ireturn, 8, [3], .null), (.aload_n 0, 9, [0], .null), (.dup, 10, [], .null), (.getfield 149, 11, [11,0,10], .null), (.iconst 1, 14, [], .int 1), (.isub, 15, [], .null), (.putfield 149, 16, [11,0,0,10], .null), (.aload_n 0, 19, [0], .null), (.aload_n 0, 20, [0], .null), (.getfield 152, 21, [10,0,10], .null), (.bipush 10, 24, [], .int 10), (.iadd, 26, [], .null), (.iconst 1, 27, [], .int 1), (.isub, 28, [], .null), (.bipush 10, 29, [], .int 10), (.irem, 31, [], .null), (.putfield 152, 32, [10,0,0,10], .null), (.aload_n 0, 35, [0], .null), (.aload_n 0, 36, [0], .null), (.aload_n 0, 37, [0], .null), (.getfield 152, 38, [10,0,10], .null), (.invokevirtual 155, 41, [1,144,2,10], .null), (.putfield 33, 44, [8,2,0,10], .null), (.aload_n 0, 47, [0], .null), (.iconst 0, 48, [], .int 0), (.putfield 159, 49, [14,3,0,10], .null), (.iconst 1, 52, [], .int 1), (.ireturn, 53, [3], .null)]
/-- TermDraw.of(II)I -/
abbrev mi_T_of : Nat := 125
def mm_k125 : List mm_Ins := [(.iload_n 1, 0, [1], .null), (.ifCond .lt 14, 1, [7], .null), (.iload_n 1, 4, [1], .null), (.aload_n 0, 5, [0], .null), (.getfield 33, 6, [8,2,10], .null), (.getfield 105, 9, [9,0,9], .null), (.if_icmp .lt 5, 12, [9], .null), (.iconst (-1), 15, [], .int (-1)), (.ireturn, 16, [1], .null), (.iload_n 2, 17, [2], .null), (.tableswitch 98 0 3 #[30, 39, 48, 85], 18, [47,11,16,21,40], .null), (.aload_n 0, 48, [0], .null), (.getfield 33, 49, [8,2,10], .null), (.iload_n 1, 52, [1], .null), (.invokevirtual 163, 53, [1,110,2,9], .null), (.ireturn, 56, [1], .null), (.aload_n 0, 57, [0], .null), (.getfield 33, 58, [8,2,10], .null), (.iload_n 1, 61, [1], .null), (.invokevirtual 166, 62, [1,111,2,9], .null), (.ireturn, 65, [1], .null), (.aload_n 0, 66, [0], .null), (.invokevirtual 169, 67, [1,151,1,10], .null), (.aload_n 0, 70, [0], .null), (.getfield 54, 71, [5,2,10], .null), (.aload_n 0, 74, [0], .null), (.getfield 33, 75, [8,2,10], .null), (.iload_n 1, 78, [1], .null), (.invokevirtual 172, 79, [1,109,2,9], .null), (.aload_n 0, 82, [0], .null), (.getfield 33, 83, [8,2,10], .null), (.iload_n 1, 86, [1], .null), (.invokevirtual 172, 87, [1,109,2,9], .null), (.aload_n 0, 90, [0], .null), (.getfield 33, 91, [8,2,10], .null), (.iload_n 1, 94, [1], .null), (.invokevirtual 163, 95, [1,110,2,9], .null), (.iadd, 98, [], .null), (.invokevirtual 175, 99, [1,15,3,2], .null), (.ireturn, 102, [1], .null), (.aload_n 0, 103, [0], .null), (.invokevirtual 169, 104, [1,151,1,10], .null), (.aload_n 0, 107, [0], .null), (.getfield 63, 108, [6,2,10], .null), (.iload_n 1, 111, [1], .null), (.invokevirtual 179, 112, [1,92,2,8], .null), (.ireturn, 115, [1], .null), (.iconst (-1), 116, [], .int (-1)), (.ireturn, 117, [1], .null)]
/-- TermDraw.word(IIZ)I -/
abbrev mi_T_word : Nat := 126
def mm_k126 : List mm_Ins := [(.aload_n 0, 0, [0], .null), (.getfield 33, 1, [8,2,10], .null), (.iload_n 1, 4, [1], .null), (.iload_n 2, 5, [2], .null), (.invokevirtual 182, 6, [1,112,3,9], .null), (.istore 4, 9, [4], .null), (.iload 4, 11, [4], .null), (.ifCond .ge 5, 13, [10], .null), (.iconst (-1), 16, [], .int (-1)), (.ireturn, 17, [1], .null), (.aload_n 0, 18, [0], .null), (.getfield 33, 19, [8,2,10], .null), (.getfield 108, 22, [3,2,9], .null), (.iload 4, 25, [4], .null), (.invokevirtual 185, 27, [1,57,2,6], .null), (.lstore 5, 30, [5], .null), (.aload_n 0, 32, [0], .null), (.getfield 18, 33, [1,2,10], .null), (.iconst 0, 36, [], .int 0), (.putfield 80, 37, [1,0,0,1], .null), (.aload_n 0, 40, [0], .null), (.getfield 18, 41, [1,2,10], .null), (.iload_n 3, 44, [3], .null), (.ifCond .eq 15, 45, [29], .null), (.aload_n 0, 48, [0], .null), (.getfield 33, 49, [8,2,10], .null), (.lload 5, 52, [5], .null), (.invokevirtual 191, 54, [1,105,2,9], .null), (.goto 5, 57, [30], .null), (.lload 5, 60, [5], .null), (.invokevirtual 195, 62, [1,6,2,1], .null), (.aload_n 0, 65, [0], .null), (.getfield 18, 66, [1,2,10], .null), (.getfield 80, 69, [1,0,1], .null), (.ireturn, 72, [1], .null)]
/-- TermDraw.kindAt(II)I -/
abbrev mi_T_kindAt : Nat := 127
def mm_k127 : List mm_Ins := [(.aload_n 0, 0, [0], .null), (.getfield 33, 1, [8,2,10], .null), (.iload_n 1, 4, [1], .null), (.iload_n 2, 5, [2], .null), (.invokevirtual 182, 6, [1,112,3,9], .null), (.istore_n 3, 9, [3], .null), (.iload_n 3, 10, [3], .null), (.ifCond .ge 5, 11, [10], .null), (.iconst (-1), 14, [], .int (-1)), (.ireturn, 15, [1], .null), (.aload_n 0, 16, [0], .null), (.getfield 33, 17, [8,2,10], .null), (.getfield 108, 20, [3,2,9], .null), (.iload_n 3, 23, [3], .null), (.invokevirtual 185, 24, [1,57,2,6], .null), (.lstore 4, 27, [4], .null), (.aload_n 0, 29, [0], .null), (.getfield 33, 30, [8,2,10], .null), (.lload 4, 33, [4], .null), (.aload_n 0, 35, [0], .null), (.getfield 33, 36, [8,2,10], .null), (.lload 4, 39, [4], .null), (.invokevirtual 191, 41, [1,105,2,9], .null), (.invokevirtual 199, 44, [1,106,3,9], .null), (.ireturn, 47, [1], .null)]
/-- TermDraw.match(II)I -/
abbrev mi_T_match : Nat := 128
def mm_k128 : List mm_Ins := [(.aload_n 0, 0, [0], .null), (.invokevirtual 169, 1, [1,151,1,10], .null), (.iload_n 1, 4, [1], .null), (.iconst (-1), 5, [], .int (-1)), (.if_icmp .ne 11, 6, [9], .null), (.aload_n 0, 9, [0], .null), (.getfield 54, 10, [5,2,10], .null), (.getfield 203, 13, [8,0,2], .null), (.ireturn, 16, [1], .null), (.iload_n 1, 17, [1], .null), (.ifCond .lt 14, 18, [16], .null), (.iload_n 1, 21, [1], .null), (.aload_n 0, 22, [0], .null), (.getfield 54, 23, [5,2,10], .null), (.getfield 203, 26, [8,0,2], .null), (.if_icmp .lt 5, 29, [18], .null), (.iconst (-1), 32, [], .int (-1)), (.ireturn, 33, [1], .null), (.aload_n 0, 34, [0], .null), (.getfield 54, 35, [5,2,10], .null), (.getfield 204, 38, [2,2,2], .null), (.iload_n 1, 41, [1], .null), (.invokestatic 138, 42, [0,156,2], .null), (.istore_n 3, 45, [3], .null), (.iload_n 2, 46, [2], .null), (.tableswitch 96 0 4 #[33, 42, 60, 72, 84], 47, [59,26,31,41,47,53], .null), (.aload_n 0, 80, [0], .null), (.getfield 33, 81, [8,2,10], .null), (.iload_n 3, 84, [3], .null), (.invokevirtual 207, 85, [1,113,2,9], .null), (.ireturn, 88, [1], .null), (.iload_n 3, 89, [3], .null), (.aload_n 0, 90, [0], .null), (.getfield 33, 91, [8,2,10], .null), (.aload_n 0, 94, [0], .null), (.getfield 33, 95, [8,2,10], .null), (.iload_n 3, 98, [3], .null), (.invokevirtual 207, 99, [1,113,2,9], .null), (.invokevirtual 172, 102, [1,109,2,9], .null), (.isub, 105, [], .null), (.ireturn, 106, [1], .null), (.aload_n 0, 107, [0], .null), (.getfield 54, 108, [5,2,10], .null), (.getfield 210, 111, [3,2,2], .null), (.iload_n 1, 114, [1], .null), (.invokestatic 138, 115, [0,156,2], .null), (.ireturn, 118, [1], .null), (.aload_n 0, 119, [0], .null), (.getfield 54, 120, [5,2,10], .null), (.getfield 213, 123, [4,2,2], .null), (.iload_n 1, 126, [1], .null), (.invokestatic 138, 127, [0,156,2], .null), (.ireturn, 130, [1], .null), (.aload_n 0, 131, [0], .null), (.getfield 54, 132, [5,2,10], .null), (.getfield 216, 135, [5,2,2], .null), (.iload_n 1, 138, [1], .null), (.invokestatic 138, 139, [0,156,2], .null), (.ireturn, 142, [1], .null), (.iconst (-1), 143, [], .int (-1)), (.ireturn, 144, [1], .null)]
/-- TermDraw.term(IZ)I -/
abbrev mi_T_term : Nat := 129
def mm_k129 : List mm_Ins := [(.aload_n 0, 0, [0], .null), (.invokevirtual 169, 1, [1,151,1,10], .null), (.iload_n 1, 4, [1], .null), (.ifCond .lt 14, 5, [9], .null), (.iload_n 1, 8, [1], .null), (.aload_n 0, 9, [0], .null), (.getfield 63, 10, [6,2,10], .null), (.getfield 219, 13, [19,0,8], .null), (.if_icmp .lt 5, 16, [11], .null), (.iconst (-1), 19, [], .int (-1)), (.ireturn, 20, [1], .null), (.aload_n 0, 21, [0], .null), (.getfield 54, 22, [5,2,10], .null), (.getfield 204, 25, [2,2,2], .null), (.aload_n 0, 28, [0], .null), (.getfield 63, 29, [6,2,10], .null), (.getfield 220, 32, [9,2,8], .null), (.iload_n 1, 35, [1], .null), (.invokestatic 138, 36, [0,156,2], .null), (.invokestatic 138, 39, [0,156,2], .null), (.istore_n 3, 42, [3], .null), (.aload_n 0, 43, [0], .null), (.getfield 63, 44, [6,2,10], .null), (.iload_n 1, 47, [1], .null), (.invokevirtual 223, 48, [1,90,2,8], .null), (.istore 4, 51, [4], .null), (.aload_n 0, 53, [0], .null), (.getfield 18, 54, [1,2,10], .null), (.iconst 0, 57, [], .int 0), (.putfield 80, 58, [1,0,0,1], .null), (.iconst 0, 61, [], .int 0), (.istore 5, 62, [5], .null), (.iload 5, 64, [5], .null), (.iload 4, 66, [4], .null), (.if_icmp .ge 71, 68, [66], .null), (.iload 5, 71, [5], .null), (.iconst 5, 73, [], .int 5), (.if_icmp .ge 65, 74, [66], .null), (.iload 5, 77, [5], .null), (.ifCond .le 12, 79, [44], .null), (.aload_n 0, 82, [0], .null), (.getfield 18, 83, [1,2,10], .null), (.bipush 32, 86, [], .int 32), (.invokevirtual 226, 88, [1,4,2,1], .null), (.aload_n 0, 91, [0], .null), (.getfield 18, 92, [1,2,10], .null), (.iload_n 2, 95, [2], .null), (.ifCond .eq 20, 96, [56], .null), (.aload_n 0, 99, [0], .null), (.getfield 33, 100, [8,2,10], .null), (.getfield 108, 103, [3,2,9], .null), (.iload_n 3, 106, [3], .null), (.iload 5, 107, [5], .null), (.iadd, 109, [], .null), (.invokevirtual 185, 110, [1,57,2,6], .null), (.goto 17, 113, [63], .null), (.aload_n 0, 116, [0], .null), (.getfield 47, 117, [4,2,10], .null), (.getfield 229, 120, [0,2,0], .null), (.iload_n 3, 123, [3], .null), (.iload 5, 124, [5], .null), (.iadd, 126, [], .null), (.invokestatic 233, 127, [0,157,2], .null), (.invokevirtual 195, 130, [1,6,2,1], .null), (.iinc 5 1, 133, [5], .int 1), (.goto (-72), 136, [32], .null), (.aload_n 0, 139, [0], .null), (.getfield 18, 140, [1,2,10], .null), (.getfield 80, 143, [1,0,1], .null), (.ireturn, 146, [1], .null)]
/-- TermDraw.slate(I)I -/
abbrev mi_T_slate : Nat := 130
def mm_k130 : List mm_Ins := [(.iload_n 1, 0, [1], .null), (.iconst (-1), 1, [], .int (-1)), (.if_icmp .ne 11, 2, [7], .null), (.aload_n 0, 5, [0], .null), (.getfield 18, 6, [1,2,10], .null), (.getfield 80, 9, [1,0,1], .null), (.ireturn, 12, [1], .null), (.iload_n 1, 13, [1], .null), (.ifCond .lt 14, 14, [14], .null), (.iload_n 1, 17, [1], .null), (.aload_n 0, 18, [0], .null), (.getfield 18, 19, [1,2,10], .null), (.getfield 80, 22, [1,0,1], .null), (.if_icmp .lt 8, 25, [16], .null), (.bipush (-2), 28, [], .int (-2)), (.goto 14, 30, [21], .null), (.aload_n 0, 33, [0], .null), (.getfield 18, 34, [1,2,10], .null), (.getfield 236, 37, [0,2,1], .null), (.iload_n 1, 40, [1], .null), (.invokestatic 138, 41, [0,156,2], .null), (.ireturn, 44, [1], .null)]
/-- TermDraw.find()I -/
abbrev mi_T_find : Nat := 131
def mm_k131 : List mm_Ins := [(.aload_n 0, 0, [0], .null), (.invokevirtual 169, 1, [1,151,1,10], .null), (.aload_n 0, 4, [0], .null), (.invokevirtual 239, 5, [1,153,1,10], .null), (.lstore_n 1, 8, [1], .null), (.aload_n 0, 9, [0], .null), (.getfield 14, 10, [0,2,10], .null), (.iconst 0, 13, [], .int 0), (.putfield 80, 14, [1,0,0,1], .null), (.lload_n 1, 17, [1], .null), (.lconst 0, 18, [], .long 0), (.lcmp, 19, [1,14], .null), (.iconst (-1), 23, [], .int (-1)), (.goto 11, 24, [18], .null), (.aload_n 0, 27, [0], .null), (.getfield 63, 28, [6,2,10], .null), (.lload_n 1, 31, [1], .null), (.invokevirtual 243, 32, [1,91,2,8], .null), (.ireturn, 35, [1], .null)]
/-- TermDraw.told(II)I -/
abbrev mi_T_told : Nat := 132
def mm_k132 : List mm_Ins := [(.aload_n 0, 0, [0], .null), (.invokevirtual 169, 1, [1,151,1,10], .null), (.iload_n 1, 4, [1], .null), (.iconst (-1), 5, [], .int (-1)), (.if_icmp .ne 11, 6, [9], .null), (.aload_n 0, 9, [0], .null), (.getfield 63, 10, [6,2,10], .null), (.getfield 219, 13, [19,0,8], .null), (.ireturn, 16, [1], .null), (.iload_n 1, 17, [1], .null), (.ifCond .lt 14, 18, [16], .null), (.iload_n 1, 21, [1], .null), (.aload_n 0, 22, [0], .null), (.getfield 63, 23, [6,2,10], .null), (.getfield 219, 26, [19,0,8], .null), (.if_icmp .lt 5, 29, [18], .null), (.iconst (-1), 32, [], .int (-1)), (.ireturn, 33, [1], .null), (.aload_n 0, 34, [0], .null), (.getfield 63, 35, [6,2,10], .null), (.iload_n 1, 38, [1], .null), (.iload_n 2, 39, [2], .null), (.invokevirtual 246, 40, [1,93,3,8], .null), (.ireturn, 43, [1], .null)]
/-- TermDraw.measure(IIZ)J -/
abbrev mi_T_measure : Nat := 133
def mm_k133 : List mm_Ins := [(.aload_n 0, 0, [0], .null), (.iload_n 1, 1, [1], .null), (.iload_n 2, 2, [2], .null), (.invokevirtual 249, 3, [1,152,3,10], .null), (.ifCond .ne 7, 6, [7], .null), (.ldc2_w 255, 9, [], .long (-9223372036854775808)), (.lreturn, 12, [2], .null), (.iload_n 3, 13, [3], .null), (.ifCond .eq 13, 14, [13], .null), (.aload_n 0, 17, [0], .null), (.getfield 72, 18, [7,2,10], .null), (.getfield 257, 21, [8,1,3], .null), (.goto 10, 24, [16], .null), (.aload_n 0, 27, [0], .null), (.getfield 72, 28, [7,2,10], .null), (.getfield 261, 31, [7,1,3], .null), (.lreturn, 34, [2], .null)]
/-- TermDraw.share(II)I -/
abbrev mi_T_share : Nat := 134
def mm_k134 : List mm_Ins := [(.aload_n 0, 0, [0], .null), (.iload_n 1, 1, [1], .null), (.iload_n 2, 2, [2], .null), (.invokevirtual 249, 3, [1,152,3,10], .null), (.ifCond .ne 5, 6, [7], .null), (.iconst (-1), 9, [], .int (-1)), (.ireturn, 10, [1], .null), (.aload_n 0, 11, [0], .null), (.getfield 72, 12, [7,2,10], .null), (.getfield 257, 15, [8,1,3], .null), (.l2f, 18, [], .null), (.fstore_n 3, 19, [3], .null), (.fload_n 3, 20, [3], .null), (.fconst 0, 21, [], .float FP.fconst0), (.fcmp .l, 22, [], .null), (.ifCond .le 19, 23, [24], .null), (.aload_n 0, 26, [0], .null), (.getfield 72, 27, [7,2,10], .null), (.getfield 261, 30, [7,1,3], .null), (.l2f, 33, [], .null), (.fload_n 3, 34, [3], .null), (.fdiv, 35, [], .null), (.invokestatic 264, 36, [0,178,1], .null), (.goto 4, 39, [25], .null), (.iconst (-1), 42, [], .int (-1)), (.ireturn, 43, [1], .null)]
/-- TermDraw.rest(II)J -/
abbrev mi_T_rest : Nat := 135
def mm_k135 : List mm_Ins := [(.aload_n 0, 0, [0], .null), (.iload_n 1, 1, [1], .null), (.iload_n 2, 2, [2], .null), (.invokevirtual 249, 3, [1,152,3,10], .null), (.ifCond .ne 7, 6, [7], .null), (.ldc2_w 268, 9, [], .long (-1)), (.lreturn, 12, [2], .null), (.aload_n 0, 13, [0], .null), (.getfield 72, 14, [7,2,10], .null), (.getfield 257, 17, [8,1,3], .null), (.l2d, 20, [], .null), (.dstore_n 3, 21, [3], .null), (.dload_n 3, 22, [3], .null), (.dconst 0, 23, [], .double FP.dconst0), (.dcmp .l, 24, [], .null), (.ifCond .le 19, 25, [24], .null), (.aload_n 0, 28, [0], .null), (.getfield 72, 29, [7,2,10], .null), (.getfield 261, 32, [7,1,3], .null), (.l2d, 35, [], .null), (.dload_n 3, 36, [3], .null), (.ddiv, 37, [], .null), (.invokestatic 270, 38, [0,179,1], .null), (.goto 6, 41, [25], .null), (.ldc2_w 268, 44, [], .long (-1)), (.lreturn, 47, [2], .null)]
/-- TermDraw.ranked(II)I -/
abbrev mi_T_ranked : Nat := 136
def mm_k136 : List mm_Ins := [(.aload_n 0, 0, [0], .null), (.invokevirtual 169, 1, [1,151,1,10], .null), (.iload_n 1, 4, [1], .null), (.ifCond .lt 24, 5, [14], .null), (.iload_n 1, 8, [1], .null), (.bipush 7, 9, [], .int 7), (.if_icmp .ge 18, 11, [14], .null), (.iload_n 2, 14, [2], .null), (.ifCond .lt 14, 15, [14], .null), (.iload_n 2, 18, [2], .null), (.aload_n 0, 19, [0], .null), (.getfield 63, 20, [6,2,10], .null), (.getfield 219, 23, [19,0,8], .null), (.if_icmp .lt 5, 26, [16], .null), (.iconst (-1), 29, [], .int (-1)), (.ireturn, 30, [1], .null), (.aload_n 0, 31, [0], .null), (.getfield 72, 32, [7,2,10], .null), (.aload_n 0, 35, [0], .null), (.getfield 33, 36, [8,2,10], .null), (.iload_n 1, 39, [1], .null), (.invokevirtual 274, 40, [1,24,3,3], .null), (.aload_n 0, 43, [0], .null), (.getfield 72, 44, [7,2,10], .null), (.iload_n 1, 47, [1], .null), (.iload_n 2, 48, [2], .null), (.invokevirtual 277, 49, [1,26,3,3], .null), (.ireturn, 52, [1], .null)]
/-- TermDraw.rank(II)I -/
abbrev mi_T_rank : Nat := 137
def mm_k137 : List mm_Ins := [(.aload_n 0, 0, [0], .null), (.invokevirtual 169, 1, [1,151,1,10], .null), (.iload_n 2, 4, [2], .null), (.ifCond .lt 24, 5, [14], .null), (.iload_n 2, 8, [2], .null), (.bipush 7, 9, [], .int 7), (.if_icmp .ge 18, 11, [14], .null), (.iload_n 1, 14, [1], .null), (.ifCond .lt 14, 15, [14], .null), (.iload_n 1, 18, [1], .null), (.aload_n 0, 19, [0], .null), (.getfield 63, 20, [6,2,10], .null), (.getfield 219, 23, [19,0,8], .null), (.if_icmp .lt 5, 26, [16], .null), (.iconst (-1), 29, [], .int (-1)), (.ireturn, 30, [1], .null), (.aload_n 0, 31, [0], .null), (.getfield 72, 32, [7,2,10], .null), (.aload_n 0, 35, [0], .null), (.getfield 33, 36, [8,2,10], .null), (.iload_n 2, 39, [2], .null), (.invokevirtual 274, 40, [1,24,3,3], .null), (.aload_n 0, 43, [0], .null), (.getfield 72, 44, [7,2,10], .null), (.iload_n 2, 47, [2], .null), (.iload_n 1, 48, [1], .null), (.invokevirtual 280, 49, [1,27,3,3], .null), (.ireturn, 52, [1], .null)]
/-- TermDraw.longer(II)I -/
abbrev mi_T_longer : Nat := 138
def mm_k138 : List mm_Ins := [(.aload_n 0, 0, [0], .null), (.invokevirtual 169, 1, [1,151,1,10], .null), (.iload_n 1, 4, [1], .null), (.ifCond .lt 14, 5, [9], .null), (.iload_n 1, 8, [1], .null), (.aload_n 0, 9, [0], .null), (.getfield 63, 10, [6,2,10], .null), (.getfield 219, 13, [19,0,8], .null), (.if_icmp .lt 5, 16, [11], .null), (.iconst (-1), 19, [], .int (-1)), (.ireturn, 20, [1], .null), (.iload_n 2, 21, [2], .null), (.iconst (-1), 22, [], .int (-1)), (.if_icmp .ne 15, 23, [20], .null), (.aload_n 0, 26, [0], .null), (.getfield 63, 27, [6,2,10], .null), (.getfield 283, 30, [6,2,8], .null), (.iload_n 1, 33, [1], .null), (.invokestatic 138, 34, [0,156,2], .null), (.ireturn, 37, [1], .null), (.aload_n 0, 38, [0], .null), (.getfield 63, 39, [6,2,10], .null), (.iload_n 1, 42, [1], .null), (.iload_n 2, 43, [2], .null), (.invokevirtual 286, 44, [1,94,3,8], .null), (.ireturn, 47, [1], .null)]
/-- TermDraw.around(II)I -/
abbrev mi_T_around : Nat := 139
def mm_k139 : List mm_Ins := [(.aload_n 0, 0, [0], .null), (.invokevirtual 169, 1, [1,151,1,10], .null), (.iload_n 1, 4, [1], .null), (.ifCond .lt 18, 5, [11], .null), (.iload_n 1, 8, [1], .null), (.aload_n 0, 9, [0], .null), (.getfield 63, 10, [6,2,10], .null), (.getfield 219, 13, [19,0,8], .null), (.if_icmp .ge 7, 16, [11], .null), (.iload_n 2, 19, [2], .null), (.ifCond .ge 5, 20, [13], .null), (.iconst (-1), 23, [], .int (-1)), (.ireturn, 24, [1], .null), (.aload_n 0, 25, [0], .null), (.getfield 63, 26, [6,2,10], .null), (.aload_n 0, 29, [0], .null), (.getfield 33, 30, [8,2,10], .null), (.iload_n 1, 33, [1], .null), (.iload_n 2, 34, [2], .null), (.invokevirtual 289, 35, [1,95,4,8], .null), (.istore_n 3, 38, [3], .null), (.iload_n 3, 39, [3], .null), (.ifCond .ge 5, 40, [25], .null), (.iconst (-1), 43, [], .int (-1)), (.ireturn, 44, [1], .null), (.aload_n 0, 45, [0], .null), (.getfield 18, 46, [1,2,10], .null), (.iconst 0, 49, [], .int 0), (.putfield 80, 50, [1,0,0,1], .null), (.aload_n 0, 53, [0], .null), (.getfield 18, 54, [1,2,10], .null), (.aload_n 0, 57, [0], .null), (.getfield 47, 58, [4,2,10], .null), (.getfield 293, 61, [5,2,0], .null), (.iload_n 3, 64, [3], .null), (.invokestatic 233, 65, [0,157,2], .null), (.invokevirtual 195, 68, [1,6,2,1], .null), (.aload_n 0, 71, [0], .null), (.getfield 63, 72, [6,2,10], .null), (.getfield 296, 75, [17,2,8], .null), (.iload_n 3, 78, [3], .null), (.invokestatic 138, 79, [0,156,2], .null), (.ireturn, 82, [1], .null)]
/-- TermDraw.likely(Z)J -/
abbrev mi_T_likely : Nat := 140
def mm_k140 : List mm_Ins := [(.aload_n 0, 0, [0], .null), (.getfield 18, 1, [1,2,10], .null), (.invokevirtual 299, 4, [1,8,1,1], .null), (.lstore_n 2, 7, [2], .null), (.lload_n 2, 8, [2], .null), (.lconst 0, 9, [], .long 0), (.lcmp, 10, [1,9], .null), (.ldc2_w 268, 14, [], .long (-1)), (.lreturn, 17, [2], .null), (.aload_n 0, 18, [0], .null), (.invokevirtual 169, 19, [1,151,1,10], .null), (.aload_n 0, 22, [0], .null), (.getfield 72, 23, [7,2,10], .null), (.aload_n 0, 26, [0], .null), (.getfield 63, 27, [6,2,10], .null), (.aload_n 0, 30, [0], .null), (.getfield 47, 31, [4,2,10], .null), (.lload_n 2, 34, [2], .null), (.invokevirtual 302, 35, [1,2,2,0], .null), (.invokevirtual 305, 38, [1,97,2,8], .null), (.i2l, 41, [], .null), (.aload_n 0, 42, [0], .null), (.getfield 63, 43, [6,2,10], .null), (.getfield 219, 46, [19,0,8], .null), (.i2l, 49, [], .null), (.invokevirtual 308, 50, [1,17,3,3], .null), (.iload_n 1, 53, [1], .null), (.ifCond .eq 13, 54, [32], .null), (.aload_n 0, 57, [0], .null), (.getfield 72, 58, [7,2,10], .null), (.getfield 257, 61, [8,1,3], .null), (.goto 10, 64, [35], .null), (.aload_n 0, 67, [0], .null), (.getfield 72, 68, [7,2,10], .null), (.getfield 261, 71, [7,1,3], .null), (.lreturn, 74, [2], .null)]
/-- TermDraw.head(II)I -/
abbrev mi_T_head : Nat := 141
def mm_k141 : List mm_Ins := [(.aload_n 0, 0, [0], .null), (.invokevirtual 169, 1, [1,151,1,10], .null), (.aload_n 0, 4, [0], .null), (.getfield 63, 5, [6,2,10], .null), (.invokevirtual 312, 8, [1,99,1,8], .null), (.istore_n 3, 11, [3], .null), (.iload_n 1, 12, [1], .null), (.iconst (-1), 13, [], .int (-1)), (.if_icmp .ne 5, 14, [11], .null), (.iload_n 3, 17, [3], .null), (.ireturn, 18, [1], .null), (.iload_n 1, 19, [1], .null), (.ifCond .lt 8, 20, [16], .null), (.iload_n 1, 23, [1], .null), (.iload_n 3, 24, [3], .null), (.if_icmp .lt 5, 25, [18], .null), (.iconst (-1), 28, [], .int (-1)), (.ireturn, 29, [1], .null), (.aload_n 0, 30, [0], .null), (.getfield 63, 31, [6,2,10], .null), (.aload_n 0, 34, [0], .null), (.getfield 63, 35, [6,2,10], .null), (.iload_n 1, 38, [1], .null), (.invokevirtual 315, 39, [1,96,2,8], .null), (.iload_n 2, 42, [2], .null), (.invokevirtual 318, 43, [1,100,3,8], .null), (.ireturn, 46, [1], .null)]
/-- TermDraw.cover(II)I -/
abbrev mi_T_cover : Nat := 142
def mm_k142 : List mm_Ins := [(.aload_n 0, 0, [0], .null), (.invokevirtual 169, 1, [1,151,1,10], .null), (.iload_n 1, 4, [1], .null), (.ifCond .lt 24, 5, [14], .null), (.iload_n 1, 8, [1], .null), (.bipush 7, 9, [], .int 7), (.if_icmp .ge 18, 11, [14], .null), (.iload_n 2, 14, [2], .null), (.ifCond .lt 14, 15, [14], .null), (.iload_n 2, 18, [2], .null), (.aload_n 0, 19, [0], .null), (.getfield 63, 20, [6,2,10], .null), (.getfield 219, 23, [19,0,8], .null), (.if_icmp .le 5, 26, [16], .null), (.iconst (-1), 29, [], .int (-1)), (.ireturn, 30, [1], .null), (.aload_n 0, 31, [0], .null), (.getfield 72, 32, [7,2,10], .null), (.aload_n 0, 35, [0], .null), (.getfield 33, 36, [8,2,10], .null), (.iload_n 1, 39, [1], .null), (.invokevirtual 274, 40, [1,24,3,3], .null), (.aload_n 0, 43, [0], .null), (.getfield 72, 44, [7,2,10], .null), (.iload_n 1, 47, [1], .null), (.iload_n 2, 48, [2], .null), (.invokevirtual 321, 49, [1,28,3,3], .null), (.ireturn, 52, [1], .null)]
/-- TermDraw.look(I)I -/
abbrev mi_T_look : Nat := 143
def mm_k143 : List mm_Ins := [(.iload_n 1, 0, [1], .null), (.tableswitch 132 0 10 #[59, 59, 59, 65, 73, 84, 95, 103, 111, 119, 124], 1, [39,2,2,2,6,10,15,20,24,28,32,35], .null), (.aload_n 0, 60, [0], .null), (.iload_n 1, 61, [1], .null), (.invokevirtual 101, 62, [1,150,2,10], .null), (.ireturn, 65, [1], .null), (.aload_n 0, 66, [0], .null), (.getfield 33, 67, [8,2,10], .null), (.getfield 105, 70, [9,0,9], .null), (.ireturn, 73, [1], .null), (.aload_n 0, 74, [0], .null), (.getfield 33, 75, [8,2,10], .null), (.getfield 108, 78, [3,2,9], .null), (.getfield 324, 81, [2,0,6], .null), (.ireturn, 84, [1], .null), (.aload_n 0, 85, [0], .null), (.getfield 33, 86, [8,2,10], .null), (.getfield 325, 89, [5,2,9], .null), (.getfield 324, 92, [2,0,6], .null), (.ireturn, 95, [1], .null), (.aload_n 0, 96, [0], .null), (.getfield 33, 97, [8,2,10], .null), (.getfield 128, 100, [10,0,9], .null), (.ireturn, 103, [1], .null), (.aload_n 0, 104, [0], .null), (.getfield 33, 105, [8,2,10], .null), (.getfield 131, 108, [11,0,9], .null), (.ireturn, 111, [1], .null), (.aload_n 0, 112, [0], .null), (.getfield 33, 113, [8,2,10], .null), (.getfield 146, 116, [12,0,9], .null), (.ireturn, 119, [1], .null), (.aload_n 0, 120, [0], .null), (.getfield 149, 121, [11,0,10], .null), (.ireturn, 124, [1], .null), (.aload_n 0, 125, [0], .null), (.getfield 14, 126, [0,2,10], .null), (.getfield 80, 129, [1,0,1], .null), (.ireturn, 132, [1], .null), (.iconst (-1), 133, [], .int (-1)), (.ireturn, 134, [1], .null)]
/-- TermDraw.slotAt(I)LTermDraw$Told; -/
abbrev mi_T_slotAt : Nat := 144
def mm_k144 : List mm_Ins := [(.iload_n 1, 0, [1], .null), (.ifCond .lt 21, 1, [12], .null), (.iload_n 1, 4, [1], .null), (.aload_n 0, 5, [0], .null), (.getfield 40, 6, [3,2,10], .null), (.arraylength, 9, [], .null), (.if_icmp .ge 12, 10, [12], .null), (.aload_n 0, 13, [0], .null), (.getfield 40, 14, [3,2,10], .null), (.iload_n 1, 17, [1], .null), (.aaload, 18, [], .null), (.goto 4, 19, [13], .null), (.aconst_null, 22, [], .null), (.astore_n 2, 23, [2], .null), (.aload_n 2, 24, [2], .null), (.ifnonnull 10, 25, [19], .null), (.aload_n 0, 28, [0], .null), (.getfield 33, 29, [8,2,10], .null), (.goto 4, 32, [20], .null), (.aload_n 2, 35, [2], .null), (.areturn, 36, [4], .null)]
/-- TermDraw.beginChange()V -/
abbrev mi_T_beginChange : Nat := 145
def mm_k145 : List mm_Ins := [(.aload_n 0, 0, [0], .null), (.aload_n 0, 1, [0], .null), (.aload_n 0, 2, [0], .null), (.getfield 152, 3, [10,0,10], .null), (.iconst 1, 6, [], .int 1), (.iadd, 7, [], .null), (.bipush 10, 8, [], .int 10), (.irem, 10, [], .null), (.invokevirtual 155, 11, [1,144,2,10], .null), (.putfield 37, 14, [9,2,0,10], .null), (.aload_n 0, 17, [0], .null), (.getfield 37, 18, [9,2,10], .null), (.aload_n 0, 21, [0], .null), (.getfield 33, 22, [8,2,10], .null), (.invokevirtual 328, 25, [1,102,2,9], .null), (.return_, 28, [0], .null)]
/-- TermDraw.keepChange()V -/
abbrev mi_T_keepChange : Nat := 146
def mm_k146 : List mm_Ins := [(.aload_n 0, 0, [0], .null), (.aload_n 0, 1, [0], .null), (.getfield 152, 2, [10,0,10], .null), (.iconst 1, 5, [], .int 1), (.iadd, 6, [], .null), (.bipush 10, 7, [], .int 10), (.irem, 9, [], .null), (.putfield 152, 10, [10,0,0,10], .null), (.aload_n 0, 13, [0], .null), (.aload_n 0, 14, [0], .null), (.getfield 37, 15, [9,2,10], .null), (.putfield 33, 18, [8,2,0,10], .null), (.aload_n 0, 21, [0], .null), (.aload_n 0, 22, [0], .null), (.getfield 149, 23, [11,0,10], .null), (.iconst 1, 26, [], .int 1), (.iadd, 27, [], .null), (.bipush 8, 28, [], .int 8), (.invokestatic 332, 30, [0,292,2], .null), (.putfield 149, 33, [11,0,0,10], .null), (.aload_n 0, 36, [0], .null), (.iconst 0, 37, [], .int 0), (.putfield 159, 38, [14,3,0,10], .null), (.return_, 41, [0], .null)]
/-- TermDraw.refuseUnread()I -/
abbrev mi_T_refuseUnread : Nat := 147
def mm_k147 : List mm_Ins := [(.aload_n 0, 0, [0], .null), (.getfield 14, 1, [0,2,10], .null), (.iconst 0, 4, [], .int 0), (.putfield 80, 5, [1,0,0,1], .null), (.aload_n 0, 8, [0], .null), (.iconst 0, 9, [], .int 0), (.putfield 125, 10, [12,0,0,10], .null), (.aload_n 0, 13, [0], .null), (.iconst (-1), 14, [], .int (-1)), (.putfield 76, 15, [13,0,0,10], .null), (.bipush (-2), 18, [], .int (-2)), (.ireturn, 20, [1], .null)]
/-- TermDraw.readInto(LTermDraw$Told;I)V -/
abbrev mi_T_readInto : Nat := 148
def mm_k148 : List mm_Ins := [(.iload_n 2, 0, [2], .null), (.tableswitch 92 0 3 #[31, 45, 59, 70], 1, [29,2,8,14,19], .null), (.aload_n 0, 32, [0], .null), (.getfield 26, 33, [2,2,10], .null), (.aload_n 1, 36, [1], .null), (.getfield 337, 37, [0,2,9], .null), (.invokevirtual 341, 40, [1,70,2,7], .null), (.goto 61, 43, [34], .null), (.aload_n 0, 46, [0], .null), (.getfield 26, 47, [2,2,10], .null), (.aload_n 1, 50, [1], .null), (.getfield 345, 51, [1,2,9], .null), (.invokevirtual 348, 54, [1,72,2,7], .null), (.goto 47, 57, [34], .null), (.aload_n 0, 60, [0], .null), (.getfield 26, 61, [2,2,10], .null), (.aload_n 1, 64, [1], .null), (.invokevirtual 351, 65, [1,74,2,7], .null), (.goto 36, 68, [34], .null), (.aload_n 1, 71, [1], .null), (.getfield 325, 72, [5,2,9], .null), (.iconst 0, 75, [], .int 0), (.putfield 324, 76, [2,0,0,6], .null), (.aload_n 0, 79, [0], .null), (.getfield 26, 80, [2,2,10], .null), (.aload_n 1, 83, [1], .null), (.getfield 325, 84, [5,2,9], .null), (.invokevirtual 112, 87, [1,77,2,7], .null), (.goto 14, 90, [34], .null), (.aload_n 0, 93, [0], .null), (.getfield 26, 94, [2,2,10], .null), (.aload_n 1, 97, [1], .null), (.getfield 354, 98, [6,2,9], .null), (.invokevirtual 358, 101, [1,78,2,7], .null), (.return_, 104, [0], .null)]
/-- TermDraw.endReading()Z -/
abbrev mi_T_endReading : Nat := 149
def mm_k149 : List mm_Ins := [(.aload_n 0, 0, [0], .null), (.getfield 14, 1, [0,2,10], .null), (.iconst 0, 4, [], .int 0), (.putfield 80, 5, [1,0,0,1], .null), (.aload_n 0, 8, [0], .null), (.aload_n 0, 9, [0], .null), (.getfield 26, 10, [2,2,10], .null), (.getfield 362, 13, [5,0,7], .null), (.putfield 125, 16, [12,0,0,10], .null), (.aload_n 0, 19, [0], .null), (.aload_n 0, 20, [0], .null), (.getfield 125, 21, [12,0,10], .null), (.ifCond .ne 7, 24, [15], .null), (.iconst (-1), 27, [], .int (-1)), (.goto 10, 28, [18], .null), (.aload_n 0, 31, [0], .null), (.getfield 26, 32, [2,2,10], .null), (.getfield 363, 35, [6,0,7], .null), (.putfield 76, 38, [13,0,0,10], .null), (.aload_n 0, 41, [0], .null), (.getfield 125, 42, [12,0,10], .null), (.ifCond .eq 5, 45, [24], .null), (.iconst 0, 48, [], .int 0), (.ireturn, 49, [3], .null), (.aload_n 0, 50, [0], .null), (.invokevirtual 122, 51, [1,146,1,10], .null), (.iconst 1, 54, [], .int 1), (.ireturn, 55, [3], .null)]
/-- TermDraw.sizeOf(I)I -/
abbrev mi_T_sizeOf : Nat := 150
def mm_k150 : List mm_Ins := [(.iload_n 1, 0, [1], .null), (.tableswitch 72 0 3 #[31, 42, 53, 61], 1, [21,2,7,12,16], .null), (.aload_n 0, 32, [0], .null), (.getfield 33, 33, [8,2,10], .null), (.getfield 337, 36, [0,2,9], .null), (.getfield 364, 39, [2,0,4], .null), (.ireturn, 42, [1], .null), (.aload_n 0, 43, [0], .null), (.getfield 33, 44, [8,2,10], .null), (.getfield 345, 47, [1,2,9], .null), (.getfield 364, 50, [2,0,4], .null), (.ireturn, 53, [1], .null), (.aload_n 0, 54, [0], .null), (.getfield 33, 55, [8,2,10], .null), (.getfield 367, 58, [8,0,9], .null), (.ireturn, 61, [1], .null), (.aload_n 0, 62, [0], .null), (.getfield 33, 63, [8,2,10], .null), (.getfield 325, 66, [5,2,9], .null), (.getfield 324, 69, [2,0,6], .null), (.ireturn, 72, [1], .null), (.aload_n 0, 73, [0], .null), (.getfield 33, 74, [8,2,10], .null), (.getfield 354, 77, [6,2,9], .null), (.getfield 370, 80, [2,0,5], .null), (.ireturn, 83, [1], .null)]
/-- TermDraw.draw()V -/
abbrev mi_T_draw : Nat := 151
def mm_k151 : List mm_Ins := [(.aload_n 0, 0, [0], .null), (.getfield 159, 1, [14,3,10], .null), (.ifCond .eq 4, 4, [4], .null), (.return_, 7, [0], .null), (.aload_n 0, 8, [0], .null), (.getfield 47, 9, [4,2,10], .null), (.aload_n 0, 12, [0], .null), (.getfield 33, 13, [8,2,10], .null), (.invokevirtual 373, 16, [1,1,2,0], .null), (.aload_n 0, 19, [0], .null), (.getfield 54, 20, [5,2,10], .null), (.aload_n 0, 23, [0], .null), (.getfield 33, 24, [8,2,10], .null), (.aload_n 0, 27, [0], .null), (.getfield 47, 28, [4,2,10], .null), (.invokevirtual 376, 31, [1,10,3,2], .null), (.aload_n 0, 34, [0], .null), (.getfield 63, 35, [6,2,10], .null), (.aload_n 0, 38, [0], .null), (.getfield 33, 39, [8,2,10], .null), (.invokevirtual 379, 42, [1,80,2,8], .null), (.aload_n 0, 45, [0], .null), (.getfield 72, 46, [7,2,10], .null), (.iconst 0, 49, [], .int 0), (.putfield 380, 50, [6,0,0,3], .null), (.aload_n 0, 53, [0], .null), (.iconst 1, 54, [], .int 1), (.putfield 159, 55, [14,3,0,10], .null), (.return_, 58, [0], .null)]
/-- TermDraw.weighed(II)Z -/
abbrev mi_T_weighed : Nat := 152
def mm_k152 : List mm_Ins := [(.aload_n 0, 0, [0], .null), (.invokevirtual 169, 1, [1,151,1,10], .null), (.iload_n 1, 4, [1], .null), (.ifCond .lt 24, 5, [14], .null), (.iload_n 1, 8, [1], .null), (.aload_n 0, 9, [0], .null), (.getfield 63, 10, [6,2,10], .null), (.getfield 219, 13, [19,0,8], .null), (.if_icmp .ge 13, 16, [14], .null), (.iload_n 2, 19, [2], .null), (.ifCond .lt 9, 20, [14], .null), (.iload_n 2, 23, [2], .null), (.bipush 7, 24, [], .int 7), (.if_icmp .lt 5, 26, [16], .null), (.iconst 0, 29, [], .int 0), (.ireturn, 30, [3], .null), (.aload_n 0, 31, [0], .null), (.getfield 72, 32, [7,2,10], .null), (.aload_n 0, 35, [0], .null), (.getfield 33, 36, [8,2,10], .null), (.iload_n 1, 39, [1], .null), (.iload_n 2, 40, [2], .null), (.invokevirtual 383, 41, [1,18,4,3], .null), (.iconst 1, 44, [], .int 1), (.ireturn, 45, [3], .null)]
/-- TermDraw.readRow()J -/
abbrev mi_T_readRow : Nat := 153
def mm_k153 : List mm_Ins := [(.lconst 0, 0, [], .long 0), (.lstore_n 1, 1, [1], .null), (.iconst 0, 2, [], .int 0), (.istore_n 3, 3, [3], .null), (.aload_n 0, 4, [0], .null), (.getfield 26, 5, [2,2,10], .null), (.invokevirtual 387, 8, [1,62,1,7], .null), (.aload_n 0, 11, [0], .null), (.getfield 26, 12, [2,2,10], .null), (.invokevirtual 390, 15, [1,65,1,7], .null), (.iconst 0, 18, [], .int 0), (.istore 4, 19, [4], .null), (.iload 4, 21, [4], .null), (.sipush 601, 23, [], .int 601), (.if_icmp .ge 75, 26, [49], .null), (.aload_n 0, 29, [0], .null), (.getfield 26, 30, [2,2,10], .null), (.getfield 393, 33, [3,0,7], .null), (.bipush (-2), 36, [], .int (-2)), (.if_icmp .ne 63, 38, [49], .null), (.aload_n 0, 41, [0], .null), (.getfield 47, 42, [4,2,10], .null), (.aload_n 0, 45, [0], .null), (.getfield 33, 46, [8,2,10], .null), (.aload_n 0, 49, [0], .null), (.getfield 26, 50, [2,2,10], .null), (.getfield 396, 53, [4,1,7], .null), (.invokevirtual 191, 56, [1,105,2,9], .null), (.invokevirtual 302, 59, [1,2,2,0], .null), (.istore 5, 62, [5], .null), (.iload 5, 64, [5], .null), (.ifCond .lt 8, 66, [35], .null), (.iload_n 3, 69, [3], .null), (.iconst 5, 70, [], .int 5), (.if_icmp .lt 5, 71, [37], .null), (.lconst 0, 74, [], .long 0), (.lreturn, 75, [2], .null), (.lload_n 1, 76, [1], .null), (.iload 5, 77, [5], .null), (.iload_n 3, 79, [3], .null), (.invokestatic 399, 80, [0,171,2], .null), (.lor, 83, [], .null), (.lstore_n 1, 84, [1], .null), (.iinc 3 1, 85, [3], .int 1), (.aload_n 0, 88, [0], .null), (.getfield 26, 89, [2,2,10], .null), (.invokevirtual 390, 92, [1,65,1,7], .null), (.iinc 4 1, 95, [4], .int 1), (.goto (-77), 98, [12], .null), (.aload_n 0, 101, [0], .null), (.getfield 26, 102, [2,2,10], .null), (.getfield 393, 105, [3,0,7], .null), (.iconst (-1), 108, [], .int (-1)), (.if_icmp .ne 7, 109, [56], .null), (.lload_n 1, 112, [1], .null), (.goto 4, 113, [57], .null), (.lconst 0, 116, [], .long 0), (.lreturn, 117, [2], .null)]
/-- TermDraw.ints(I)[I -/
abbrev mi_T_ints : Nat := 154
def mm_k154 : List mm_Ins := [(.iload_n 0, 0, [0], .null), (.ifCond .le 7, 1, [4], .null), (.iload_n 0, 4, [0], .null), (.goto 4, 5, [5], .null), (.iconst 0, 8, [], .int 0), (.newarray .int, 9, [12], .null), (.areturn, 11, [4], .null)]
/-- TermDraw.longs(I)[J -/
abbrev mi_T_longs : Nat := 155
def mm_k155 : List mm_Ins := [(.iload_n 0, 0, [0], .null), (.ifCond .le 7, 1, [4], .null), (.iload_n 0, 4, [0], .null), (.goto 4, 5, [5], .null), (.iconst 0, 8, [], .int 0), (.newarray .long, 9, [13], .null), (.areturn, 11, [4], .null)]
/-- TermDraw.at([II)I -/
abbrev mi_T_at : Nat := 156
def mm_k156 : List mm_Ins := [(.iload_n 1, 0, [1], .null), (.ifCond .lt 15, 1, [10], .null), (.iload_n 1, 4, [1], .null), (.aload_n 0, 5, [0], .null), (.arraylength, 6, [], .null), (.if_icmp .ge 9, 7, [10], .null), (.aload_n 0, 10, [0], .null), (.iload_n 1, 11, [1], .null), (.iaload, 12, [], .null), (.goto 4, 13, [11], .null), (.iconst 0, 16, [], .int 0), (.ireturn, 17, [1], .null)]
/-- TermDraw.at([JI)J -/
abbrev mi_T_at_ : Nat := 157
def mm_k157 : List mm_Ins := [(.iload_n 1, 0, [1], .null), (.ifCond .lt 15, 1, [10], .null), (.iload_n 1, 4, [1], .null), (.aload_n 0, 5, [0], .null), (.arraylength, 6, [], .null), (.if_icmp .ge 9, 7, [10], .null), (.aload_n 0, 10, [0], .null), (.iload_n 1, 11, [1], .null), (.laload, 12, [], .null), (.goto 4, 13, [11], .null), (.lconst 0, 16, [], .long 0), (.lreturn, 17, [2], .null)]
/-- TermDraw.put([III)V -/
abbrev mi_T_put : Nat := 158
def mm_k158 : List mm_Ins := [(.iload_n 1, 0, [1], .null), (.ifCond .lt 13, 1, [10], .null), (.iload_n 1, 4, [1], .null), (.aload_n 0, 5, [0], .null), (.arraylength, 6, [], .null), (.if_icmp .ge 7, 7, [10], .null), (.aload_n 0, 10, [0], .null), (.iload_n 1, 11, [1], .null), (.iload_n 2, 12, [2], .null), (.iastore, 13, [], .null), (.return_, 14, [0], .null)]
/-- TermDraw.put([JIJ)V -/
abbrev mi_T_put_ : Nat := 159
def mm_k159 : List mm_Ins := [(.iload_n 1, 0, [1], .null), (.ifCond .lt 13, 1, [10], .null), (.iload_n 1, 4, [1], .null), (.aload_n 0, 5, [0], .null), (.arraylength, 6, [], .null), (.if_icmp .ge 7, 7, [10], .null), (.aload_n 0, 10, [0], .null), (.iload_n 1, 11, [1], .null), (.lload_n 2, 12, [2], .null), (.lastore, 13, [], .null), (.return_, 14, [0], .null)]
/-- TermDraw.clear([II)V -/
abbrev mi_T_clear : Nat := 160
def mm_k160 : List mm_Ins := [(.iconst 0, 0, [], .int 0), (.istore_n 2, 1, [2], .null), (.iload_n 2, 2, [2], .null), (.iload_n 1, 3, [1], .null), (.if_icmp .ge 19, 4, [15], .null), (.iload_n 2, 7, [2], .null), (.aload_n 0, 8, [0], .null), (.arraylength, 9, [], .null), (.if_icmp .ge 13, 10, [15], .null), (.aload_n 0, 13, [0], .null), (.iload_n 2, 14, [2], .null), (.iconst 0, 15, [], .int 0), (.iastore, 16, [], .null), (.iinc 2 1, 17, [2], .int 1), (.goto (-18), 20, [2], .null), (.return_, 23, [0], .null)]
/-- TermDraw.copy([I[II)V -/
abbrev mi_T_copy : Nat := 161
def mm_k161 : List mm_Ins := [(.iconst 0, 0, [], .int 0), (.istore_n 3, 1, [3], .null), (.iload_n 3, 2, [3], .null), (.iload_n 2, 3, [2], .null), (.if_icmp .ge 27, 4, [21], .null), (.iload_n 3, 7, [3], .null), (.aload_n 0, 8, [0], .null), (.arraylength, 9, [], .null), (.if_icmp .ge 21, 10, [21], .null), (.iload_n 3, 13, [3], .null), (.aload_n 1, 14, [1], .null), (.arraylength, 15, [], .null), (.if_icmp .ge 15, 16, [21], .null), (.aload_n 1, 19, [1], .null), (.iload_n 3, 20, [3], .null), (.aload_n 0, 21, [0], .null), (.iload_n 3, 22, [3], .null), (.iaload, 23, [], .null), (.iastore, 24, [], .null), (.iinc 3 1, 25, [3], .int 1), (.goto (-26), 28, [2], .null), (.return_, 31, [0], .null)]
/-- TermDraw.copy([J[JI)V -/
abbrev mi_T_copy_ : Nat := 162
def mm_k162 : List mm_Ins := [(.iconst 0, 0, [], .int 0), (.istore_n 3, 1, [3], .null), (.iload_n 3, 2, [3], .null), (.iload_n 2, 3, [2], .null), (.if_icmp .ge 27, 4, [21], .null), (.iload_n 3, 7, [3], .null), (.aload_n 0, 8, [0], .null), (.arraylength, 9, [], .null), (.if_icmp .ge 21, 10, [21], .null), (.iload_n 3, 13, [3], .null), (.aload_n 1, 14, [1], .null), (.arraylength, 15, [], .null), (.if_icmp .ge 15, 16, [21], .null), (.aload_n 1, 19, [1], .null), (.iload_n 3, 20, [3], .null), (.aload_n 0, 21, [0], .null), (.iload_n 3, 22, [3], .null), (.laload, 23, [], .null), (.lastore, 24, [], .null), (.iinc 3 1, 25, [3], .int 1), (.goto (-26), 28, [2], .null), (.return_, 31, [0], .null)]
/-- TermDraw.lowest([JIJ)I -/
abbrev mi_T_lowest : Nat := 163
def mm_k163 : List mm_Ins := [(.iconst 0, 0, [], .int 0), (.istore 4, 1, [4], .null), (.iload_n 1, 3, [1], .null), (.istore 5, 4, [5], .null), (.iconst 0, 6, [], .int 0), (.istore 6, 7, [6], .null), (.iload 6, 9, [6], .null), (.bipush 32, 11, [], .int 32), (.if_icmp .ge 49, 13, [32], .null), (.iload 4, 16, [4], .null), (.iload 5, 18, [5], .null), (.if_icmp .ge 42, 20, [32], .null), (.iload 4, 23, [4], .null), (.iload 5, 25, [5], .null), (.iadd, 27, [], .null), (.iconst 1, 28, [], .int 1), (.iushr, 29, [], .null), (.istore 7, 30, [7], .null), (.aload_n 0, 32, [0], .null), (.iload 7, 33, [7], .null), (.invokestatic 233, 35, [0,157,2], .null), (.lload_n 2, 38, [2], .null), (.lcmp, 39, [3,28], .null), (.iload 7, 43, [7], .null), (.iconst 1, 45, [], .int 1), (.iadd, 46, [], .null), (.istore 4, 47, [4], .null), (.goto 7, 49, [30], .null), (.iload 7, 52, [7], .null), (.istore 5, 54, [5], .null), (.iinc 6 1, 56, [6], .int 1), (.goto (-50), 59, [6], .null), (.iload 4, 62, [4], .null), (.ireturn, 64, [1], .null)]
/-- TermDraw.insert([JIJ)I -/
abbrev mi_T_insert : Nat := 164
def mm_k164 : List mm_Ins := [(.aload_n 0, 0, [0], .null), (.iload_n 1, 1, [1], .null), (.lload_n 2, 2, [2], .null), (.invokestatic 403, 3, [0,163,3], .null), (.istore 4, 6, [4], .null), (.iload_n 1, 8, [1], .null), (.aload_n 0, 9, [0], .null), (.arraylength, 10, [], .null), (.if_icmp .ge 20, 11, [17], .null), (.iload 4, 14, [4], .null), (.iload_n 1, 16, [1], .null), (.if_icmp .ge 16, 17, [19], .null), (.aload_n 0, 20, [0], .null), (.iload 4, 21, [4], .null), (.invokestatic 233, 23, [0,157,2], .null), (.lload_n 2, 26, [2], .null), (.lcmp, 27, [1,19], .null), (.iload_n 1, 31, [1], .null), (.ireturn, 32, [1], .null), (.iload_n 1, 33, [1], .null), (.istore 5, 34, [5], .null), (.iload 5, 36, [5], .null), (.iload 4, 38, [4], .null), (.if_icmp .le 23, 40, [34], .null), (.aload_n 0, 43, [0], .null), (.iload 5, 44, [5], .null), (.aload_n 0, 46, [0], .null), (.iload 5, 47, [5], .null), (.iconst 1, 49, [], .int 1), (.isub, 50, [], .null), (.invokestatic 233, 51, [0,157,2], .null), (.invokestatic 407, 54, [0,159,3], .null), (.iinc 5 (-1), 57, [5], .int (-1)), (.goto (-24), 60, [21], .null), (.aload_n 0, 63, [0], .null), (.iload 4, 64, [4], .null), (.lload_n 2, 66, [2], .null), (.invokestatic 407, 67, [0,159,3], .null), (.iload_n 1, 70, [1], .null), (.iconst 1, 71, [], .int 1), (.iadd, 72, [], .null), (.ireturn, 73, [1], .null)]
/-- TermDraw.exact([JIJ)I -/
abbrev mi_T_exact : Nat := 165
def mm_k165 : List mm_Ins := [(.aload_n 0, 0, [0], .null), (.iload_n 1, 1, [1], .null), (.lload_n 2, 2, [2], .null), (.invokestatic 403, 3, [0,163,3], .null), (.istore 4, 6, [4], .null), (.iload 4, 8, [4], .null), (.iload_n 1, 10, [1], .null), (.if_icmp .ge 19, 11, [15], .null), (.aload_n 0, 14, [0], .null), (.iload 4, 15, [4], .null), (.invokestatic 233, 17, [0,157,2], .null), (.lload_n 2, 20, [2], .null), (.lcmp, 21, [1,15], .null), (.iload 4, 25, [4], .null), (.goto 4, 27, [16], .null), (.iconst (-1), 30, [], .int (-1)), (.ireturn, 31, [1], .null)]
/-- TermDraw.letterShift(I)I -/
abbrev mi_T_letterShift : Nat := 166
def mm_k166 : List mm_Ins := [(.iconst 5, 0, [], .int 5), (.bipush 9, 1, [], .int 9), (.iload_n 0, 3, [0], .null), (.isub, 4, [], .null), (.imul, 5, [], .null), (.ireturn, 6, [1], .null)]
/-- TermDraw.letterAt(JI)I -/
abbrev mi_T_letterAt : Nat := 167
def mm_k167 : List mm_Ins := [(.iload_n 2, 0, [2], .null), (.ifCond .lt 9, 1, [5], .null), (.iload_n 2, 4, [2], .null), (.bipush 10, 5, [], .int 10), (.if_icmp .lt 7, 7, [7], .null), (.iconst 0, 10, [], .int 0), (.goto 13, 11, [14], .null), (.lload_n 0, 14, [0], .null), (.iload_n 2, 15, [2], .null), (.invokestatic 410, 16, [0,166,1], .null), (.lushr, 19, [], .null), (.l2i, 20, [], .null), (.bipush 31, 21, [], .int 31), (.iand, 23, [], .null), (.ireturn, 24, [1], .null)]
/-- TermDraw.lettersOf(J)I -/
abbrev mi_T_lettersOf : Nat := 168
def mm_k168 : List mm_Ins := [(.iconst 0, 0, [], .int 0), (.istore_n 2, 1, [2], .null), (.iload_n 2, 2, [2], .null), (.bipush 10, 3, [], .int 10), (.if_icmp .ge 17, 5, [11], .null), (.lload_n 0, 8, [0], .null), (.iload_n 2, 9, [2], .null), (.invokestatic 413, 10, [0,167,2], .null), (.ifCond .eq 9, 13, [11], .null), (.iinc 2 1, 16, [2], .int 1), (.goto (-17), 19, [2], .null), (.iload_n 2, 22, [2], .null), (.ireturn, 23, [1], .null)]
/-- TermDraw.isLetter(I)Z -/
abbrev mi_T_isLetter : Nat := 169
def mm_k169 : List mm_Ins := [(.iload_n 0, 0, [0], .null), (.bipush 97, 1, [], .int 97), (.if_icmp .lt 13, 3, [8], .null), (.iload_n 0, 6, [0], .null), (.bipush 122, 7, [], .int 122), (.if_icmp .gt 7, 9, [8], .null), (.iconst 1, 12, [], .int 1), (.goto 4, 13, [9], .null), (.iconst 0, 16, [], .int 0), (.ireturn, 17, [3], .null)]
/-- TermDraw.replaced(JJJ)J -/
abbrev mi_T_replaced : Nat := 170
def mm_k170 : List mm_Ins := [(.lload_n 0, 0, [0], .null), (.invokestatic 417, 1, [0,168,1], .null), (.lload_n 2, 4, [2], .null), (.invokestatic 417, 5, [0,168,1], .null), (.isub, 8, [], .null), (.istore 6, 9, [6], .null), (.iload 6, 11, [6], .null), (.iconst 2, 13, [], .int 2), (.if_icmp .lt 16, 14, [15], .null), (.iload 6, 17, [6], .null), (.lload 4, 19, [4], .null), (.invokestatic 417, 21, [0,168,1], .null), (.iadd, 24, [], .null), (.bipush 10, 25, [], .int 10), (.if_icmp .le 5, 27, [17], .null), (.lconst 0, 30, [], .long 0), (.lreturn, 31, [2], .null), (.iconst 5, 32, [], .int 5), (.iload 6, 33, [6], .null), (.imul, 35, [], .null), (.istore 7, 36, [7], .null), (.lload_n 0, 38, [0], .null), (.lconst 1, 39, [], .long 1), (.iconst 5, 40, [], .int 5), (.bipush 10, 41, [], .int 10), (.iload 6, 43, [6], .null), (.isub, 45, [], .null), (.imul, 46, [], .null), (.lshl, 47, [], .null), (.lconst 1, 48, [], .long 1), (.lsub, 49, [], .null), (.land, 50, [], .null), (.lstore 8, 51, [8], .null), (.lload 8, 53, [8], .null), (.lload_n 2, 55, [2], .null), (.iload 7, 56, [7], .null), (.lushr, 58, [], .null), (.lcmp, 59, [0,40], .null), (.lconst 0, 63, [], .long 0), (.lreturn, 64, [2], .null), (.lload_n 0, 65, [0], .null), (.lload 8, 66, [8], .null), (.lsub, 68, [], .null), (.lload 4, 69, [4], .null), (.iload 7, 71, [7], .null), (.lushr, 73, [], .null), (.lor, 74, [], .null), (.lreturn, 75, [2], .null)]
/-- TermDraw.cell(II)J -/
abbrev mi_T_cell : Nat := 171
def mm_k171 : List mm_Ins := [(.iload_n 0, 0, [0], .null), (.iconst 1, 1, [], .int 1), (.iadd, 2, [], .null), (.i2l, 3, [], .null), (.bipush 8, 4, [], .int 8), (.iconst 4, 6, [], .int 4), (.iload_n 1, 7, [1], .null), (.isub, 8, [], .null), (.imul, 9, [], .null), (.lshl, 10, [], .null), (.lreturn, 11, [2], .null)]
/-- TermDraw.idIn(JI)I -/
abbrev mi_T_idIn : Nat := 172
def mm_k172 : List mm_Ins := [(.lload_n 0, 0, [0], .null), (.bipush 8, 1, [], .int 8), (.iconst 4, 3, [], .int 4), (.iload_n 2, 4, [2], .null), (.isub, 5, [], .null), (.imul, 6, [], .null), (.lushr, 7, [], .null), (.ldc2_w 420, 8, [], .long 255), (.land, 11, [], .null), (.l2i, 12, [], .null), (.iconst 1, 13, [], .int 1), (.isub, 14, [], .null), (.ireturn, 15, [1], .null)]
/-- TermDraw.cellsOf(J)I -/
abbrev mi_T_cellsOf : Nat := 173
def mm_k173 : List mm_Ins := [(.iconst 0, 0, [], .int 0), (.istore_n 2, 1, [2], .null), (.iload_n 2, 2, [2], .null), (.iconst 5, 3, [], .int 5), (.if_icmp .ge 17, 4, [11], .null), (.lload_n 0, 7, [0], .null), (.iload_n 2, 8, [2], .null), (.invokestatic 422, 9, [0,172,2], .null), (.ifCond .lt 9, 12, [11], .null), (.iinc 2 1, 15, [2], .int 1), (.goto (-16), 18, [2], .null), (.iload_n 2, 21, [2], .null), (.ireturn, 22, [1], .null)]
/-- TermDraw.part(JII)J -/
abbrev mi_T_part : Nat := 174
def mm_k174 : List mm_Ins := [(.lload_n 0, 0, [0], .null), (.bipush 8, 1, [], .int 8), (.iload_n 2, 3, [2], .null), (.imul, 4, [], .null), (.lshl, 5, [], .null), (.ldc2_w 425, 6, [], .long 1099511627775), (.land, 9, [], .null), (.lstore 4, 10, [4], .null), (.bipush 8, 12, [], .int 8), (.iconst 5, 14, [], .int 5), (.iload_n 3, 15, [3], .null), (.isub, 16, [], .null), (.imul, 17, [], .null), (.istore 6, 18, [6], .null), (.lload 4, 20, [4], .null), (.iload 6, 22, [6], .null), (.lushr, 24, [], .null), (.iload 6, 25, [6], .null), (.lshl, 27, [], .null), (.lreturn, 28, [2], .null)]
/-- TermDraw.holds(JJ)Z -/
abbrev mi_T_holds : Nat := 175
def mm_k175 : List mm_Ins := [(.lload_n 2, 0, [2], .null), (.invokestatic 427, 1, [0,173,1], .null), (.istore 4, 4, [4], .null), (.lload_n 0, 6, [0], .null), (.invokestatic 427, 7, [0,173,1], .null), (.iload 4, 10, [4], .null), (.isub, 12, [], .null), (.istore 5, 13, [5], .null), (.iconst 0, 15, [], .int 0), (.istore 6, 16, [6], .null), (.iload 6, 18, [6], .null), (.iload 5, 20, [5], .null), (.if_icmp .gt 30, 22, [26], .null), (.iload 6, 25, [6], .null), (.iconst 5, 27, [], .int 5), (.if_icmp .ge 24, 28, [26], .null), (.lload_n 0, 31, [0], .null), (.iload 6, 32, [6], .null), (.iload 4, 34, [4], .null), (.invokestatic 430, 36, [0,174,3], .null), (.lload_n 2, 39, [2], .null), (.lcmp, 40, [1,24], .null), (.iconst 1, 44, [], .int 1), (.ireturn, 45, [3], .null), (.iinc 6 1, 46, [6], .int 1), (.goto (-31), 49, [10], .null), (.iconst 0, 52, [], .int 0), (.ireturn, 53, [3], .null)]
/-- TermDraw.exponentOf(D)I -/
abbrev mi_T_exponentOf : Nat := 176
def mm_k176 : List mm_Ins := [(.iconst 0, 0, [], .int 0), (.istore_n 2, 1, [2], .null), (.iconst 0, 2, [], .int 0), (.istore_n 3, 3, [3], .null), (.iload_n 3, 4, [3], .null), (.sipush 1023, 5, [], .int 1023), (.if_icmp .ge 26, 8, [18], .null), (.dload_n 0, 11, [0], .null), (.ldc2_w 434, 12, [], .double 4611686018427387904), (.dcmp .l, 15, [], .null), (.ifCond .lt 18, 16, [18], .null), (.dload_n 0, 19, [0], .null), (.ldc2_w 434, 20, [], .double 4611686018427387904), (.ddiv, 23, [], .null), (.dstore_n 0, 24, [0], .null), (.iinc 2 1, 25, [2], .int 1), (.iinc 3 1, 28, [3], .int 1), (.goto (-27), 31, [4], .null), (.iconst 0, 34, [], .int 0), (.istore_n 3, 35, [3], .null), (.iload_n 3, 36, [3], .null), (.sipush 1023, 37, [], .int 1023), (.if_icmp .ge 30, 40, [38], .null), (.dload_n 0, 43, [0], .null), (.dconst 0, 44, [], .double FP.dconst0), (.dcmp .l, 45, [], .null), (.ifCond .le 24, 46, [38], .null), (.dload_n 0, 49, [0], .null), (.dconst 1, 50, [], .double FP.dconst1), (.dcmp .g, 51, [], .null), (.ifCond .ge 18, 52, [38], .null), (.dload_n 0, 55, [0], .null), (.ldc2_w 434, 56, [], .double 4611686018427387904), (.dmul, 59, [], .null), (.dstore_n 0, 60, [0], .null), (.iinc 2 (-1), 61, [2], .int (-1)), (.iinc 3 1, 64, [3], .int 1), (.goto (-31), 67, [20], .null), (.iload_n 2, 70, [2], .null), (.ireturn, 71, [1], .null)]
/-- TermDraw.fractionOf(DI)J -/
abbrev mi_T_fractionOf : Nat := 177
def mm_k177 : List mm_Ins := [(.dload_n 0, 0, [0], .null), (.dstore_n 3, 1, [3], .null), (.iload_n 2, 2, [2], .null), (.istore 5, 3, [5], .null), (.iload 5, 5, [5], .null), (.ifCond .ge 15, 7, [12], .null), (.dload_n 3, 10, [3], .null), (.ldc2_w 434, 11, [], .double 4611686018427387904), (.dmul, 14, [], .null), (.dstore_n 3, 15, [3], .null), (.iinc 5 1, 16, [5], .int 1), (.goto (-14), 19, [4], .null), (.iload_n 2, 22, [2], .null), (.istore 5, 23, [5], .null), (.iload 5, 25, [5], .null), (.ifCond .le 15, 27, [22], .null), (.dload_n 3, 30, [3], .null), (.ldc2_w 434, 31, [], .double 4611686018427387904), (.ddiv, 34, [], .null), (.dstore_n 3, 35, [3], .null), (.iinc 5 (-1), 36, [5], .int (-1)), (.goto (-14), 39, [14], .null), (.dload_n 3, 42, [3], .null), (.ldc2_w 436, 43, [], .double 4841369599423283200), (.dmul, 46, [], .null), (.d2l, 47, [], .null), (.lreturn, 48, [2], .null)]
/-- TermDraw.floatBits(F)I -/
abbrev mi_T_floatBits : Nat := 178
def mm_k178 : List mm_Ins := [(.fload_n 0, 0, [0], .null), (.fconst 0, 1, [], .float FP.fconst0), (.fcmp .l, 2, [], .null), (.ifCond .ne 5, 3, [6], .null), (.iconst 0, 6, [], .int 0), (.ireturn, 7, [1], .null), (.fload_n 0, 8, [0], .null), (.fconst 0, 9, [], .float FP.fconst0), (.fcmp .g, 10, [], .null), (.ifCond .ge 9, 11, [14], .null), (.fload_n 0, 14, [0], .null), (.f2d, 15, [], .null), (.dneg, 16, [], .null), (.goto 5, 17, [16], .null), (.fload_n 0, 20, [0], .null), (.f2d, 21, [], .null), (.dstore_n 1, 22, [1], .null), (.dload_n 1, 23, [1], .null), (.invokestatic 438, 24, [0,176,1], .null), (.istore_n 3, 27, [3], .null), (.dload_n 1, 28, [1], .null), (.iload_n 3, 29, [3], .null), (.invokestatic 442, 30, [0,177,2], .null), (.bipush 29, 33, [], .int 29), (.lushr, 35, [], .null), (.l2i, 36, [], .null), (.istore 4, 37, [4], .null), (.iload_n 3, 39, [3], .null), (.bipush 127, 40, [], .int 127), (.iadd, 42, [], .null), (.bipush 23, 43, [], .int 23), (.ishl, 45, [], .null), (.iload 4, 46, [4], .null), (.ldc_w 446, 48, [], .int 8388607), (.iand, 51, [], .null), (.ior, 52, [], .null), (.istore 5, 53, [5], .null), (.fload_n 0, 55, [0], .null), (.fconst 0, 56, [], .float FP.fconst0), (.fcmp .g, 57, [], .null), (.ifCond .ge 12, 58, [45], .null), (.iload 5, 61, [5], .null), (.ldc_w 449, 63, [], .int (-2147483648)), (.ior, 66, [], .null), (.goto 5, 67, [46], .null), (.iload 5, 70, [5], .null), (.ireturn, 72, [1], .null)]
/-- TermDraw.restBits(D)J -/
abbrev mi_T_restBits : Nat := 179
def mm_k179 : List mm_Ins := [(.dload_n 0, 0, [0], .null), (.dconst 0, 1, [], .double FP.dconst0), (.dcmp .l, 2, [], .null), (.ifCond .ne 5, 3, [6], .null), (.lconst 0, 6, [], .long 0), (.lreturn, 7, [2], .null), (.dload_n 0, 8, [0], .null), (.dconst 0, 9, [], .double FP.dconst0), (.dcmp .g, 10, [], .null), (.ifCond .ge 8, 11, [13], .null), (.dload_n 0, 14, [0], .null), (.dneg, 15, [], .null), (.goto 4, 16, [14], .null), (.dload_n 0, 19, [0], .null), (.dstore_n 2, 20, [2], .null), (.dload_n 0, 21, [0], .null), (.dconst 0, 22, [], .double FP.dconst0), (.dcmp .g, 23, [], .null), (.ifCond .ge 9, 24, [21], .null), (.ldc2_w 255, 27, [], .long (-9223372036854775808)), (.goto 4, 30, [22], .null), (.lconst 0, 33, [], .long 0), (.lstore 4, 34, [4], .null), (.dload_n 2, 36, [2], .null), (.invokestatic 438, 37, [0,176,1], .null), (.istore 6, 40, [6], .null), (.dload_n 2, 42, [2], .null), (.iload 6, 43, [6], .null), (.invokestatic 442, 45, [0,177,2], .null), (.lstore 7, 48, [7], .null), (.dload_n 2, 50, [2], .null), (.ldc2_w 450, 51, [], .double 4609434218613702656), (.dcmp .l, 54, [], .null), (.ifCond .lt 36, 55, [51], .null), (.ldc2_w 452, 58, [], .long 3), (.iconst 0, 61, [], .int 0), (.bipush 51, 62, [], .int 51), (.iload 6, 64, [6], .null), (.isub, 66, [], .null), (.invokestatic 454, 67, [0,291,2], .null), (.lshl, 70, [], .null), (.lstore 9, 71, [9], .null), (.lload 9, 73, [9], .null), (.lconst 0, 75, [], .long 0), (.lcmp, 76, [5,49], .null), (.lload 7, 80, [7], .null), (.lload 9, 82, [9], .null), (.lrem, 84, [], .null), (.goto 4, 85, [50], .null), (.lconst 0, 88, [], .long 0), (.lstore 7, 89, [7], .null), (.lload 7, 91, [7], .null), (.lconst 0, 93, [], .long 0), (.lcmp, 94, [1,56], .null), (.lload 4, 98, [4], .null), (.lreturn, 100, [2], .null), (.iconst 0, 101, [], .int 0), (.istore 9, 102, [9], .null), (.iload 9, 104, [9], .null), (.bipush 52, 106, [], .int 52), (.if_icmp .ge 27, 108, [71], .null), (.lload 7, 111, [7], .null), (.ldc2_w 457, 113, [], .long 4503599627370496), (.lcmp, 116, [3,71], .null), (.lload 7, 120, [7], .null), (.iconst 1, 122, [], .int 1), (.lshl, 123, [], .null), (.lstore 7, 124, [7], .null), (.iinc 6 (-1), 126, [6], .int (-1)), (.iinc 9 1, 129, [9], .int 1), (.goto (-28), 132, [58], .null), (.lload 4, 135, [4], .null), (.iload 6, 137, [6], .null), (.sipush 1023, 139, [], .int 1023), (.iadd, 142, [], .null), (.i2l, 143, [], .null), (.bipush 52, 144, [], .int 52), (.lshl, 146, [], .null), (.lor, 147, [], .null), (.lload 7, 148, [7], .null), (.ldc2_w 459, 150, [], .long 4503599627370495), (.land, 153, [], .null), (.lor, 154, [], .null), (.lreturn, 155, [2], .null)]
/-- TermDraw.greatestDivisor(JJ)J -/
abbrev mi_T_greatestDivisor : Nat := 180
def mm_k180 : List mm_Ins := [(.lload_n 0, 0, [0], .null), (.invokestatic 461, 1, [0,290,1], .null), (.lstore 4, 4, [4], .null), (.lload_n 2, 6, [2], .null), (.invokestatic 461, 7, [0,290,1], .null), (.lstore 6, 10, [6], .null), (.iconst 0, 12, [], .int 0), (.istore 8, 13, [8], .null), (.iload 8, 15, [8], .null), (.sipush 200, 17, [], .int 200), (.if_icmp .ge 31, 20, [24], .null), (.lload 6, 23, [6], .null), (.lconst 0, 25, [], .long 0), (.lcmp, 26, [0,24], .null), (.lload 4, 30, [4], .null), (.lload 6, 32, [6], .null), (.lrem, 34, [], .null), (.lstore 9, 35, [9], .null), (.lload 6, 37, [6], .null), (.lstore 4, 39, [4], .null), (.lload 9, 41, [9], .null), (.lstore 6, 43, [6], .null), (.iinc 8 1, 45, [8], .int 1), (.goto (-33), 48, [8], .null), (.lload 4, 51, [4], .null), (.lreturn, 53, [2], .null)]
/-- TermDrawModel.isIn(JJJ)Z -/
abbrev mi_M_isIn : Nat := 181
def mm_k181 : List mm_Ins := [(.lload_n 0, 0, [0], .null), (.lload_n 2, 1, [2], .null), (.lcmp, 2, [2,8], .null), (.lload_n 0, 6, [0], .null), (.lload 4, 7, [4], .null), (.lcmp, 9, [4,8], .null), (.iconst 1, 13, [], .int 1), (.goto 4, 14, [9], .null), (.iconst 0, 17, [], .int 0), (.ireturn, 18, [3], .null)]
/-- TermDrawModel.one(Z)I -/
abbrev mi_M_one : Nat := 182
def mm_k182 : List mm_Ins := [(.iload_n 0, 0, [0], .null), (.ifCond .eq 7, 1, [4], .null), (.iconst 1, 4, [], .int 1), (.goto 4, 5, [5], .null), (.iconst 0, 8, [], .int 0), (.ireturn, 9, [1], .null)]
/-- TermDrawModel.has(JI)Z -/
abbrev mi_M_has : Nat := 183
def mm_k183 : List mm_Ins := [(.lload_n 0, 0, [0], .null), (.iload_n 2, 1, [2], .null), (.lshr, 2, [], .null), (.lconst 1, 3, [], .long 1), (.land, 4, [], .null), (.lconst 1, 5, [], .long 1), (.lcmp, 6, [1,9], .null), (.iconst 1, 10, [], .int 1), (.goto 4, 11, [10], .null), (.iconst 0, 14, [], .int 0), (.ireturn, 15, [3], .null)]
/-- TermDrawModel.<init>()V -/
abbrev mi_M_init : Nat := 184
def mm_k184 : List mm_Ins := [(.aload_n 0, 0, [0], .null), (.invokespecial 1, 1, [7], .null), (.aload_n 0, 4, [0], .null), (.sipush 1906, 5, [], .int 1906), (.newarray .long, 8, [13], .null), (.putfield 7, 10, [0,2,1,11], .null), (.aload_n 0, 13, [0], .null), (.sipush 15248, 14, [], .int 15248), (.newarray .long, 17, [13], .null), (.putfield 13, 19, [1,2,1,11], .null), (.aload_n 0, 22, [0], .null), (.sipush 1906, 23, [], .int 1906), (.newarray .long, 26, [13], .null), (.putfield 16, 28, [3,2,1,11], .null), (.aload_n 0, 31, [0], .null), (.sipush 600, 32, [], .int 600), (.newarray .int, 35, [12], .null), (.putfield 19, 37, [4,2,1,11], .null), (.aload_n 0, 40, [0], .null), (.iconst (-1), 41, [], .int (-1)), (.putfield 23, 42, [10,0,0,11], .null), (.aload_n 0, 45, [0], .null), (.bipush 12, 46, [], .int 12), (.newarray .int, 48, [12], .null), (.putfield 27, 50, [13,2,1,11], .null), (.aload_n 0, 53, [0], .null), (.bipush 12, 54, [], .int 12), (.newarray .int, 56, [12], .null), (.putfield 30, 58, [14,2,1,11], .null), (.aload_n 0, 61, [0], .null), (.sipush 400, 62, [], .int 400), (.newarray .long, 65, [13], .null), (.putfield 33, 67, [22,2,1,11], .null), (.aload_n 0, 70, [0], .null), (.sipush 400, 71, [], .int 400), (.newarray .int, 74, [12], .null), (.putfield 36, 76, [23,2,1,11], .null), (.aload_n 0, 79, [0], .null), (.sipush 400, 80, [], .int 400), (.newarray .int, 83, [12], .null), (.putfield 39, 85, [24,2,1,11], .null), (.aload_n 0, 88, [0], .null), (.sipush 400, 89, [], .int 400), (.newarray .long, 92, [13], .null), (.putfield 42, 94, [25,2,1,11], .null), (.aload_n 0, 97, [0], .null), (.sipush 2000, 98, [], .int 2000), (.newarray .int, 101, [12], .null), (.putfield 45, 103, [27,2,1,11], .null), (.aload_n 0, 106, [0], .null), (.sipush 2000, 107, [], .int 2000), (.newarray .int, 110, [12], .null), (.putfield 48, 112, [28,2,1,11], .null), (.aload_n 0, 115, [0], .null), (.sipush 2000, 116, [], .int 2000), (.newarray .int, 119, [12], .null), (.putfield 51, 121, [29,2,1,11], .null), (.aload_n 0, 124, [0], .null), (.sipush 2000, 125, [], .int 2000), (.newarray .boolean, 128, [14], .null), (.putfield 54, 130, [30,2,1,11], .null), (.aload_n 0, 133, [0], .null), (.sipush 2400, 134, [], .int 2400), (.newarray .boolean, 137, [14], .null), (.putfield 58, 139, [31,2,1,11], .null), (.aload_n 0, 142, [0], .null), (.sipush 2000, 143, [], .int 2000), (.newarray .int, 146, [12], .null), (.putfield 61, 148, [33,2,1,11], .null), (.aload_n 0, 151, [0], .null), (.sipush 2000, 152, [], .int 2000), (.newarray .int, 155, [12], .null), (.putfield 64, 157, [34,2,1,11], .null), (.aload_n 0, 160, [0], .null), (.sipush 2000, 161, [], .int 2000), (.newarray .int, 164, [12], .null), (.putfield 67, 166, [35,2,1,11], .null), (.aload_n 0, 169, [0], .null), (.sipush 2000, 170, [], .int 2000), (.newarray .int, 173, [12], .null), (.putfield 70, 175, [36,2,1,11], .null), (.aload_n 0, 178, [0], .null), (.sipush 2000, 179, [], .int 2000), (.newarray .int, 182, [12], .null), (.putfield 73, 184, [37,2,1,11], .null), (.aload_n 0, 187, [0], .null), (.sipush 2000, 188, [], .int 2000), (.newarray .int, 191, [12], .null), (.putfield 76, 193, [38,2,1,11], .null), (.aload_n 0, 196, [0], .null), (.sipush 2000, 197, [], .int 2000), (.newarray .int, 200, [12], .null), (.putfield 79, 202, [39,2,1,11], .null), (.aload_n 0, 205, [0], .null), (.sipush 2000, 206, [], .int 2000), (.newarray .int, 209, [12], .null), (.putfield 82, 211, [40,2,1,11], .null), (.aload_n 0, 214, [0], .null), (.sipush 2000, 215, [], .int 2000), (.newarray .int, 218, [12], .null), (.putfield 85, 220, [41,2,1,11], .null), (.aload_n 0, 223, [0], .null), (.sipush 400, 224, [], .int 400), (.newarray .long, 227, [13], .null), (.putfield 88, 229, [42,2,1,11], .null), (.aload_n 0, 232, [0], .null), (.sipush 400, 233, [], .int 400), (.newarray .int, 236, [12], .null), (.putfield 91, 238, [44,2,1,11], .null), (.aload_n 0, 241, [0], .null), (.sipush 400, 242, [], .int 400), (.newarray .int, 245, [12], .null), (.putfield 94, 247, [45,2,1,11], .null), (.aload_n 0, 250, [0], .null), (.sipush 400, 251, [], .int 400), (.newarray .int, 254, [12], .null), (.putfield 97, 256, [46,2,1,11], .null), (.aload_n 0, 259, [0], .null), (.sipush 2000, 260, [], .int 2000), (.newarray .long, 263, [13], .null), (.putfield 100, 265, [49,2,1,11], .null), (.aload_n 0, 268, [0], .null), (.sipush 2000, 269, [], .int 2000), (.newarray .long, 272, [13], .null), (.putfield 103, 274, [50,2,1,11], .null), (.aload_n 0, 277, [0], .null), (.sipush 2000, 278, [], .int 2000), (.newarray .int, 281, [12], .null), (.putfield 106, 283, [51,2,1,11], .null), (.aload_n 0, 286, [0], .null), (.sipush 2000, 287, [], .int 2000), (.newarray .int, 290, [12], .null), (.putfield 109, 292, [52,2,1,11], .null), (.aload_n 0, 295, [0], .null), (.bipush 64, 296, [], .int 64), (.newarray .int, 298, [12], .null), (.putfield 112, 300, [53,2,1,11], .null), (.aload_n 0, 303, [0], .null), (.sipush 400, 304, [], .int 400), (.newarray .int, 307, [12], .null), (.putfield 115, 309, [57,2,1,11], .null), (.aload_n 0, 312, [0], .null), (.sipush 400, 313, [], .int 400), (.newarray .int, 316, [12], .null), (.putfield 118, 318, [58,2,1,11], .null), (.aload_n 0, 321, [0], .null), (.bipush 6, 322, [], .int 6), (.newarray .long, 324, [13], .null), (.putfield 121, 326, [59,2,1,11], .null), (.aload_n 0, 329, [0], .null), (.sipush 400, 330, [], .int 400), (.newarray .int, 333, [12], .null), (.putfield 124, 335, [60,2,1,11], .null), (.aload_n 0, 338, [0], .null), (.sipush 400, 339, [], .int 400), (.newarray .int, 342, [12], .null), (.putfield 127, 344, [61,2,1,11], .null), (.aload_n 0, 347, [0], .null), (.sipush 400, 348, [], .int 400), (.newarray .int, 351, [12], .null), (.putfield 130, 353, [62,2,1,11], .null), (.aload_n 0, 356, [0], .null), (.sipush 400, 357, [], .int 400), (.newarray .boolean, 360, [14], .null), (.putfield 133, 362, [63,2,1,11], .null), (.aload_n 0, 365, [0], .null), (.sipush 2000, 366, [], .int 2000), (.newarray .boolean, 369, [14], .null), (.putfield 136, 371, [64,2,1,11], .null), (.aload_n 0, 374, [0], .null), (.getfield 7, 375, [0,2,11], .null), (.sipush 1898, 378, [], .int 1898), (.ldc2_w 139, 381, [], .long 2), (.lastore, 384, [], .null), (.aload_n 0, 385, [0], .null), (.getfield 7, 386, [0,2,11], .null), (.sipush 1899, 389, [], .int 1899), (.ldc2_w 141, 392, [], .long 5), (.lastore, 395, [], .null), (.aload_n 0, 396, [0], .null), (.getfield 7, 397, [0,2,11], .null), (.sipush 1900, 400, [], .int 1900), (.lconst 1, 403, [], .long 1), (.lastore, 404, [], .null), (.iconst 1, 405, [], .int 1), (.istore_n 1, 406, [1], .null), (.iload_n 1, 407, [1], .null), (.iconst 5, 408, [], .int 5), (.if_icmp .gt 21, 409, [199], .null), (.aload_n 0, 412, [0], .null), (.getfield 7, 413, [0,2,11], .null), (.sipush 1900, 416, [], .int 1900), (.iload_n 1, 419, [1], .null), (.iadd, 420, [], .null), (.iload_n 1, 421, [1], .null), (.i2l, 422, [], .null), (.lastore, 423, [], .null), (.iinc 1 1, 424, [1], .int 1), (.goto (-20), 427, [186], .null), (.ldc 143, 430, [], .ref 2), (.astore_n 1, 432, [1], .null), (.iconst 0, 433, [], .int 0), (.istore_n 2, 434, [2], .null), (.iload_n 2, 435, [2], .null), (.bipush 7, 436, [], .int 7), (.if_icmp .ge 20, 438, [215], .null), (.aload_n 0, 441, [0], .null), (.getfield 19, 442, [4,2,11], .null), (.iload_n 2, 445, [2], .null), (.aload_n 1, 446, [1], .null), (.iload_n 2, 447, [2], .null), (.invokevirtual 145, 448, [4], .null), (.iastore, 451, [], .null), (.iinc 2 1, 452, [2], .int 1), (.goto (-20), 455, [203], .null), (.aload_n 0, 458, [0], .null), (.bipush 7, 459, [], .int 7), (.putfield 151, 461, [5,0,0,11], .null), (.aload_n 0, 464, [0], .null), (.invokevirtual 154, 465, [1,200,1,11], .null), (.aload_n 0, 468, [0], .null), (.invokevirtual 157, 469, [1,216,1,11], .null), (.pop, 472, [], .null), (.aload_n 0, 473, [0], .null), (.invokevirtual 161, 474, [1,217,1,11], .null), (.aload_n 0, 477, [0], .null), (.iconst 0, 478, [], .int 0), (.putfield 151, 479, [5,0,0,11], .null), (.return_, 482, [0], .null)]
/-- TermDrawModel.keeps()V -/
abbrev mi_M_keeps : Nat := 185
def mm_k185 : List mm_Ins := [(.aload_n 0, 0, [0], .null), (.getfield 164, 1, [2,0,11], .null), (.bipush 8, 4, [], .int 8), (.if_icmp .ne 44, 6, [27], .null), (.iconst 0, 9, [], .int 0), (.istore_n 1, 10, [1], .null), (.iload_n 1, 11, [1], .null), (.sipush 13342, 12, [], .int 13342), (.if_icmp .ge 25, 15, [21], .null), (.aload_n 0, 18, [0], .null), (.getfield 13, 19, [1,2,11], .null), (.iload_n 1, 22, [1], .null), (.aload_n 0, 23, [0], .null), (.getfield 13, 24, [1,2,11], .null), (.iload_n 1, 27, [1], .null), (.sipush 1906, 28, [], .int 1906), (.iadd, 31, [], .null), (.laload, 32, [], .null), (.lastore, 33, [], .null), (.iinc 1 1, 34, [1], .int 1), (.goto (-26), 37, [6], .null), (.aload_n 0, 40, [0], .null), (.dup, 41, [], .null), (.getfield 164, 42, [2,0,11], .null), (.iconst 1, 45, [], .int 1), (.isub, 46, [], .null), (.putfield 164, 47, [2,0,0,11], .null), (.iconst 0, 50, [], .int 0), (.istore_n 1, 51, [1], .null), (.iload_n 1, 52, [1], .null), (.sipush 1906, 53, [], .int 1906), (.if_icmp .ge 30, 56, [47], .null), (.aload_n 0, 59, [0], .null), (.getfield 13, 60, [1,2,11], .null), (.sipush 1906, 63, [], .int 1906), (.aload_n 0, 66, [0], .null), (.getfield 164, 67, [2,0,11], .null), (.imul, 70, [], .null), (.iload_n 1, 71, [1], .null), (.iadd, 72, [], .null), (.aload_n 0, 73, [0], .null), (.getfield 7, 74, [0,2,11], .null), (.iload_n 1, 77, [1], .null), (.laload, 78, [], .null), (.lastore, 79, [], .null), (.iinc 1 1, 80, [1], .int 1), (.goto (-31), 83, [29], .null), (.aload_n 0, 86, [0], .null), (.dup, 87, [], .null), (.getfield 164, 88, [2,0,11], .null), (.iconst 1, 91, [], .int 1), (.iadd, 92, [], .null), (.putfield 164, 93, [2,0,0,11], .null), (.aload_n 0, 96, [0], .null), (.iconst 0, 97, [], .int 0), (.putfield 167, 98, [20,3,0,11], .null), (.return_, 101, [0], .null)]
/-- TermDrawModel.undo()Z -/
abbrev mi_M_undo : Nat := 186
def mm_k186 : List mm_Ins := [(.aload_n 0, 0, [0], .null), (.getfield 164, 1, [2,0,11], .null), (.ifCond .ne 5, 4, [5], .null), (.iconst 0, 7, [], .int 0), (.ireturn, 8, [3], .null), (.aload_n 0, 9, [0], .null), (.dup, 10, [], .null), (.getfield 164, 11, [2,0,11], .null), (.iconst 1, 14, [], .int 1), (.isub, 15, [], .null), (.putfield 164, 16, [2,0,0,11], .null), (.iconst 0, 19, [], .int 0), (.istore_n 1, 20, [1], .null), (.iload_n 1, 21, [1], .null), (.sipush 1906, 22, [], .int 1906), (.if_icmp .ge 30, 25, [31], .null), (.aload_n 0, 28, [0], .null), (.getfield 7, 29, [0,2,11], .null), (.iload_n 1, 32, [1], .null), (.aload_n 0, 33, [0], .null), (.getfield 13, 34, [1,2,11], .null), (.sipush 1906, 37, [], .int 1906), (.aload_n 0, 40, [0], .null), (.getfield 164, 41, [2,0,11], .null), (.imul, 44, [], .null), (.iload_n 1, 45, [1], .null), (.iadd, 46, [], .null), (.laload, 47, [], .null), (.lastore, 48, [], .null), (.iinc 1 1, 49, [1], .int 1), (.goto (-31), 52, [13], .null), (.aload_n 0, 55, [0], .null), (.iconst 0, 56, [], .int 0), (.putfield 167, 57, [20,3,0,11], .null), (.iconst 1, 60, [], .int 1), (.ireturn, 61, [3], .null)]
/-- TermDrawModel.power(I)J -/
abbrev mi_M_power : Nat := 187
def mm_k187 : List mm_Ins := [(.lconst 1, 0, [], .long 1), (.lstore_n 1, 1, [1], .null), (.iconst 0, 2, [], .int 0), (.istore_n 3, 3, [3], .null), (.iload_n 3, 4, [3], .null), (.iload_n 0, 5, [0], .null), (.if_icmp .ge 15, 6, [13], .null), (.lload_n 1, 9, [1], .null), (.ldc2_w 171, 10, [], .long 27), (.lmul, 13, [], .null), (.lstore_n 1, 14, [1], .null), (.iinc 3 1, 15, [3], .int 1), (.goto (-14), 18, [4], .null), (.lload_n 1, 21, [1], .null), (.lreturn, 22, [2], .null)]
/-- TermDrawModel.lettersOf(J)I -/
abbrev mi_M_lettersOf : Nat := 188
def mm_k188 : List mm_Ins := [(.iconst 0, 0, [], .int 0), (.istore_n 2, 1, [2], .null), (.lload_n 0, 2, [0], .null), (.lstore_n 3, 3, [3], .null), (.lload_n 3, 4, [3], .null), (.lconst 0, 5, [], .long 0), (.lcmp, 6, [0,15], .null), (.iinc 2 1, 10, [2], .int 1), (.lload_n 3, 13, [3], .null), (.ldc2_w 171, 14, [], .long 27), (.lmul, 17, [], .null), (.ldc2_w 173, 18, [], .long 205891132094649), (.lrem, 21, [], .null), (.lstore_n 3, 22, [3], .null), (.goto (-19), 23, [4], .null), (.iload_n 2, 26, [2], .null), (.ireturn, 27, [1], .null)]
/-- TermDrawModel.head(JI)J -/
abbrev mi_M_head : Nat := 189
def mm_k189 : List mm_Ins := [(.bipush 10, 0, [], .int 10), (.iload_n 2, 2, [2], .null), (.isub, 3, [], .null), (.invokestatic 175, 4, [0,187,1], .null), (.lstore_n 3, 7, [3], .null), (.lload_n 0, 8, [0], .null), (.lload_n 3, 9, [3], .null), (.ldiv, 10, [], .null), (.lload_n 3, 11, [3], .null), (.lmul, 12, [], .null), (.lreturn, 13, [2], .null)]
/-- TermDrawModel.tail(JI)J -/
abbrev mi_M_tail : Nat := 190
def mm_k190 : List mm_Ins := [(.lload_n 0, 0, [0], .null), (.bipush 10, 1, [], .int 10), (.iload_n 2, 3, [2], .null), (.isub, 4, [], .null), (.invokestatic 175, 5, [0,187,1], .null), (.lrem, 8, [], .null), (.iload_n 2, 9, [2], .null), (.invokestatic 175, 10, [0,187,1], .null), (.lmul, 13, [], .null), (.lreturn, 14, [2], .null)]
/-- TermDrawModel.lexiconOf(J)I -/
abbrev mi_M_lexiconOf : Nat := 191
def mm_k191 : List mm_Ins := [(.iconst 0, 0, [], .int 0), (.istore_n 3, 1, [3], .null), (.iload_n 3, 2, [3], .null), (.i2l, 3, [], .null), (.aload_n 0, 4, [0], .null), (.getfield 7, 5, [0,2,11], .null), (.iconst 0, 8, [], .int 0), (.laload, 9, [], .null), (.lcmp, 10, [3,21], .null), (.aload_n 0, 14, [0], .null), (.getfield 7, 15, [0,2,11], .null), (.iconst 1, 18, [], .int 1), (.iload_n 3, 19, [3], .null), (.iadd, 20, [], .null), (.laload, 21, [], .null), (.lload_n 1, 22, [1], .null), (.lcmp, 23, [1,19], .null), (.iload_n 3, 27, [3], .null), (.ireturn, 28, [1], .null), (.iinc 3 1, 29, [3], .int 1), (.goto (-30), 32, [2], .null), (.iconst (-1), 35, [], .int (-1)), (.ireturn, 36, [1], .null)]
/-- TermDrawModel.sameOf(J)J -/
abbrev mi_M_sameOf : Nat := 192
def mm_k192 : List mm_Ins := [(.iconst 0, 0, [], .int 0), (.istore_n 3, 1, [3], .null), (.iload_n 3, 2, [3], .null), (.i2l, 3, [], .null), (.aload_n 0, 4, [0], .null), (.getfield 7, 5, [0,2,11], .null), (.sipush 178, 8, [], .int 178), (.laload, 11, [], .null), (.lcmp, 12, [3,42], .null), (.aload_n 0, 16, [0], .null), (.getfield 7, 17, [0,2,11], .null), (.sipush 179, 20, [], .int 179), (.iload_n 3, 23, [3], .null), (.iadd, 24, [], .null), (.laload, 25, [], .null), (.lload_n 1, 26, [1], .null), (.lcmp, 27, [1,40], .null), (.aload_n 0, 31, [0], .null), (.getfield 7, 32, [0,2,11], .null), (.sipush 219, 35, [], .int 219), (.iload_n 3, 38, [3], .null), (.iadd, 39, [], .null), (.laload, 40, [], .null), (.lconst 0, 41, [], .long 0), (.lcmp, 42, [0,40], .null), (.aload_n 0, 46, [0], .null), (.getfield 7, 47, [0,2,11], .null), (.sipush 219, 50, [], .int 219), (.iload_n 3, 53, [3], .null), (.iadd, 54, [], .null), (.laload, 55, [], .null), (.lload_n 1, 56, [1], .null), (.lcmp, 57, [0,40], .null), (.aload_n 0, 61, [0], .null), (.getfield 7, 62, [0,2,11], .null), (.sipush 219, 65, [], .int 219), (.iload_n 3, 68, [3], .null), (.iadd, 69, [], .null), (.laload, 70, [], .null), (.lreturn, 71, [2], .null), (.iinc 3 1, 72, [3], .int 1), (.goto (-73), 75, [2], .null), (.lload_n 1, 78, [1], .null), (.lreturn, 79, [2], .null)]
/-- TermDrawModel.baseOf(J)J -/
abbrev mi_M_baseOf : Nat := 193
def mm_k193 : List mm_Ins := [(.aload_n 0, 0, [0], .null), (.lload_n 1, 1, [1], .null), (.invokevirtual 179, 2, [1,192,2,11], .null), (.lstore_n 3, 5, [3], .null), (.lload_n 3, 6, [3], .null), (.lload_n 1, 7, [1], .null), (.lcmp, 8, [0,9], .null), (.lload_n 3, 12, [3], .null), (.lreturn, 13, [2], .null), (.lload_n 1, 14, [1], .null), (.invokestatic 183, 15, [0,188,1], .null), (.istore 5, 18, [5], .null), (.iconst 0, 20, [], .int 0), (.istore 6, 21, [6], .null), (.iload 6, 23, [6], .null), (.i2l, 25, [], .null), (.aload_n 0, 26, [0], .null), (.getfield 7, 27, [0,2,11], .null), (.sipush 161, 30, [], .int 161), (.laload, 33, [], .null), (.lcmp, 34, [3,82], .null), (.iload 5, 38, [5], .null), (.aload_n 0, 40, [0], .null), (.getfield 7, 41, [0,2,11], .null), (.sipush 162, 44, [], .int 162), (.iload 6, 47, [6], .null), (.iadd, 49, [], .null), (.laload, 50, [], .null), (.invokestatic 183, 51, [0,188,1], .null), (.isub, 54, [], .null), (.istore 7, 55, [7], .null), (.iload 7, 57, [7], .null), (.iconst 2, 59, [], .int 2), (.if_icmp .lt 95, 60, [80], .null), (.lload_n 1, 63, [1], .null), (.iload 7, 64, [7], .null), (.invokestatic 187, 66, [0,190,2], .null), (.aload_n 0, 69, [0], .null), (.getfield 7, 70, [0,2,11], .null), (.sipush 162, 73, [], .int 162), (.iload 6, 76, [6], .null), (.iadd, 78, [], .null), (.laload, 79, [], .null), (.lcmp, 80, [0,45], .null), (.goto 71, 84, [80], .null), (.iload 7, 87, [7], .null), (.aload_n 0, 89, [0], .null), (.getfield 7, 90, [0,2,11], .null), (.sipush 170, 93, [], .int 170), (.iload 6, 96, [6], .null), (.iadd, 98, [], .null), (.laload, 99, [], .null), (.invokestatic 183, 100, [0,188,1], .null), (.iadd, 103, [], .null), (.bipush 10, 104, [], .int 10), (.if_icmp .le 6, 106, [57], .null), (.goto 46, 109, [80], .null), (.lload_n 1, 112, [1], .null), (.iload 7, 113, [7], .null), (.invokestatic 191, 115, [0,189,2], .null), (.aload_n 0, 118, [0], .null), (.getfield 7, 119, [0,2,11], .null), (.sipush 170, 122, [], .int 170), (.iload 6, 125, [6], .null), (.iadd, 127, [], .null), (.laload, 128, [], .null), (.iload 7, 129, [7], .null), (.invokestatic 175, 131, [0,187,1], .null), (.ldiv, 134, [], .null), (.ladd, 135, [], .null), (.lstore 8, 136, [8], .null), (.aload_n 0, 138, [0], .null), (.lload 8, 139, [8], .null), (.invokevirtual 194, 141, [1,191,2,11], .null), (.iconst (-1), 144, [], .int (-1)), (.if_icmp .eq 10, 145, [80], .null), (.aload_n 0, 148, [0], .null), (.lload 8, 149, [8], .null), (.invokevirtual 179, 151, [1,192,2,11], .null), (.lreturn, 154, [2], .null), (.iinc 6 1, 155, [6], .int 1), (.goto (-135), 158, [14], .null), (.lload_n 1, 161, [1], .null), (.lreturn, 162, [2], .null)]
/-- TermDrawModel.kindOf(J)I -/
abbrev mi_M_kindOf : Nat := 194
def mm_k194 : List mm_Ins := [(.aload_n 0, 0, [0], .null), (.lload_n 1, 1, [1], .null), (.invokevirtual 194, 2, [1,191,2,11], .null), (.istore_n 3, 5, [3], .null), (.iload_n 3, 6, [3], .null), (.iconst (-1), 7, [], .int (-1)), (.if_icmp .ne 13, 8, [13], .null), (.aload_n 0, 11, [0], .null), (.aload_n 0, 12, [0], .null), (.lload_n 1, 13, [1], .null), (.invokevirtual 197, 14, [1,193,2,11], .null), (.invokevirtual 194, 17, [1,191,2,11], .null), (.istore_n 3, 20, [3], .null), (.iload_n 3, 21, [3], .null), (.iconst (-1), 22, [], .int (-1)), (.if_icmp .ne 8, 23, [18], .null), (.bipush 6, 26, [], .int 6), (.goto 13, 28, [25], .null), (.aload_n 0, 31, [0], .null), (.getfield 7, 32, [0,2,11], .null), (.bipush 81, 35, [], .int 81), (.iload_n 3, 37, [3], .null), (.iadd, 38, [], .null), (.laload, 39, [], .null), (.l2i, 40, [], .null), (.ireturn, 41, [1], .null)]
/-- TermDrawModel.kindBy(I)I -/
abbrev mi_M_kindBy : Nat := 195
def mm_k195 : List mm_Ins := [(.iload_n 0, 0, [0], .null), (.lookupswitch 71 #[(97, 61), (100, 67), (110, 59), (111, 69), (112, 65), (118, 63)], 1, [14,4,10,2,12,8,6], .null), (.iconst 0, 60, [], .int 0), (.ireturn, 61, [1], .null), (.iconst 1, 62, [], .int 1), (.ireturn, 63, [1], .null), (.iconst 2, 64, [], .int 2), (.ireturn, 65, [1], .null), (.iconst 3, 66, [], .int 3), (.ireturn, 67, [1], .null), (.iconst 4, 68, [], .int 4), (.ireturn, 69, [1], .null), (.iconst 5, 70, [], .int 5), (.ireturn, 71, [1], .null), (.iconst (-1), 72, [], .int (-1)), (.ireturn, 73, [1], .null)]
/-- TermDrawModel.letterBy(I)I -/
abbrev mi_M_letterBy : Nat := 196
def mm_k196 : List mm_Ins := [(.iload_n 0, 0, [0], .null), (.tableswitch 57 0 5 #[39, 42, 45, 48, 51, 54], 1, [14,2,4,6,8,10,12], .null), (.bipush 110, 40, [], .int 110), (.ireturn, 42, [1], .null), (.bipush 97, 43, [], .int 97), (.ireturn, 45, [1], .null), (.bipush 118, 46, [], .int 118), (.ireturn, 48, [1], .null), (.bipush 112, 49, [], .int 112), (.ireturn, 51, [1], .null), (.bipush 100, 52, [], .int 100), (.ireturn, 54, [1], .null), (.bipush 111, 55, [], .int 111), (.ireturn, 57, [1], .null), (.bipush 120, 58, [], .int 120), (.ireturn, 60, [1], .null)]
/-- TermDrawModel.four(I)V -/
abbrev mi_M_four : Nat := 197
def mm_k197 : List mm_Ins := [(.bipush 24, 0, [], .int 24), (.istore_n 2, 2, [2], .null), (.iload_n 2, 3, [2], .null), (.ifCond .lt 35, 4, [22], .null), (.aload_n 0, 7, [0], .null), (.getfield 19, 8, [4,2,11], .null), (.aload_n 0, 11, [0], .null), (.getfield 151, 12, [5,0,11], .null), (.iload_n 1, 15, [1], .null), (.iload_n 2, 16, [2], .null), (.ishr, 17, [], .null), (.sipush 255, 18, [], .int 255), (.iand, 21, [], .null), (.iastore, 22, [], .null), (.aload_n 0, 23, [0], .null), (.dup, 24, [], .null), (.getfield 151, 25, [5,0,11], .null), (.iconst 1, 28, [], .int 1), (.iadd, 29, [], .null), (.putfield 151, 30, [5,0,0,11], .null), (.iinc 2 (-8), 33, [2], .int (-8)), (.goto (-33), 36, [2], .null), (.return_, 39, [0], .null)]
/-- TermDrawModel.feed(IIIII)I -/
abbrev mi_M_feed : Nat := 198
def mm_k198 : List mm_Ins := [(.aload_n 0, 0, [0], .null), (.getfield 151, 1, [5,0,11], .null), (.bipush 20, 4, [], .int 20), (.iadd, 6, [], .null), (.sipush 600, 7, [], .int 600), (.if_icmp .le 5, 10, [8], .null), (.iconst (-1), 13, [], .int (-1)), (.ireturn, 14, [1], .null), (.aload_n 0, 15, [0], .null), (.iload_n 1, 16, [1], .null), (.invokevirtual 200, 17, [1,197,2,11], .null), (.aload_n 0, 20, [0], .null), (.iload_n 2, 21, [2], .null), (.invokevirtual 200, 22, [1,197,2,11], .null), (.aload_n 0, 25, [0], .null), (.iload_n 3, 26, [3], .null), (.invokevirtual 200, 27, [1,197,2,11], .null), (.aload_n 0, 30, [0], .null), (.iload 4, 31, [4], .null), (.invokevirtual 200, 33, [1,197,2,11], .null), (.aload_n 0, 36, [0], .null), (.iload 5, 37, [5], .null), (.invokevirtual 200, 39, [1,197,2,11], .null), (.aload_n 0, 42, [0], .null), (.getfield 151, 43, [5,0,11], .null), (.ireturn, 46, [1], .null)]
/-- TermDrawModel.end(I)Z -/
abbrev mi_M_end : Nat := 199
def mm_k199 : List mm_Ins := [(.iload_n 1, 0, [1], .null), (.i2l, 1, [], .null), (.lconst 0, 2, [], .long 0), (.aload_n 0, 3, [0], .null), (.getfield 151, 4, [5,0,11], .null), (.i2l, 7, [], .null), (.invokestatic 204, 8, [0,181,3], .null), (.ifCond .ne 5, 11, [10], .null), (.iconst 0, 14, [], .int 0), (.ireturn, 15, [3], .null), (.aload_n 0, 16, [0], .null), (.iload_n 1, 17, [1], .null), (.putfield 151, 18, [5,0,0,11], .null), (.iconst 1, 21, [], .int 1), (.ireturn, 22, [3], .null)]
/-- TermDrawModel.begins()V -/
abbrev mi_M_begins : Nat := 200
def mm_k200 : List mm_Ins := [(.aload_n 0, 0, [0], .null), (.iconst 0, 1, [], .int 0), (.putfield 208, 2, [6,0,0,11], .null), (.aload_n 0, 5, [0], .null), (.iconst 0, 6, [], .int 0), (.putfield 211, 7, [7,0,0,11], .null), (.aload_n 0, 10, [0], .null), (.iconst (-1), 11, [], .int (-1)), (.putfield 214, 12, [8,0,0,11], .null), (.return_, 15, [0], .null)]
/-- TermDrawModel.see()I -/
abbrev mi_M_see : Nat := 201
def mm_k201 : List mm_Ins := [(.aload_n 0, 0, [0], .null), (.getfield 208, 1, [6,0,11], .null), (.aload_n 0, 4, [0], .null), (.getfield 151, 5, [5,0,11], .null), (.if_icmp .ge 44, 8, [26], .null), (.aload_n 0, 11, [0], .null), (.getfield 19, 12, [4,2,11], .null), (.aload_n 0, 15, [0], .null), (.getfield 208, 16, [6,0,11], .null), (.iaload, 19, [], .null), (.bipush 32, 20, [], .int 32), (.if_icmp .eq 17, 22, [19], .null), (.aload_n 0, 25, [0], .null), (.getfield 19, 26, [4,2,11], .null), (.aload_n 0, 29, [0], .null), (.getfield 208, 30, [6,0,11], .null), (.iaload, 33, [], .null), (.bipush 10, 34, [], .int 10), (.if_icmp .ne 16, 36, [26], .null), (.aload_n 0, 39, [0], .null), (.dup, 40, [], .null), (.getfield 208, 41, [6,0,11], .null), (.iconst 1, 44, [], .int 1), (.iadd, 45, [], .null), (.putfield 208, 46, [6,0,0,11], .null), (.goto (-49), 49, [0], .null), (.aload_n 0, 52, [0], .null), (.getfield 208, 53, [6,0,11], .null), (.aload_n 0, 56, [0], .null), (.getfield 151, 57, [5,0,11], .null), (.if_icmp .ge 15, 60, [37], .null), (.aload_n 0, 63, [0], .null), (.getfield 19, 64, [4,2,11], .null), (.aload_n 0, 67, [0], .null), (.getfield 208, 68, [6,0,11], .null), (.iaload, 71, [], .null), (.goto 4, 72, [38], .null), (.iconst (-1), 75, [], .int (-1)), (.ireturn, 76, [1], .null)]
/-- TermDrawModel.fails(II)Z -/
abbrev mi_M_fails : Nat := 202
def mm_k202 : List mm_Ins := [(.aload_n 0, 0, [0], .null), (.getfield 211, 1, [7,0,11], .null), (.ifCond .ne 13, 4, [9], .null), (.aload_n 0, 7, [0], .null), (.iload_n 1, 8, [1], .null), (.putfield 211, 9, [7,0,0,11], .null), (.aload_n 0, 12, [0], .null), (.iload_n 2, 13, [2], .null), (.putfield 214, 14, [8,0,0,11], .null), (.iconst 0, 17, [], .int 0), (.ireturn, 18, [3], .null)]
/-- TermDrawModel.isLetter()Z -/
abbrev mi_M_isLetter : Nat := 203
def mm_k203 : List mm_Ins := [(.aload_n 0, 0, [0], .null), (.invokevirtual 217, 1, [1,201,1,11], .null), (.i2l, 4, [], .null), (.ldc2_w 221, 5, [], .long 97), (.ldc2_w 223, 8, [], .long 122), (.invokestatic 204, 11, [0,181,3], .null), (.ireturn, 14, [3], .null)]
/-- TermDrawModel.readWord()Z -/
abbrev mi_M_readWord : Nat := 204
def mm_k204 : List mm_Ins := [(.aload_n 0, 0, [0], .null), (.invokevirtual 225, 1, [1,203,1,11], .null), (.ifCond .ne 13, 4, [9], .null), (.aload_n 0, 7, [0], .null), (.iconst 1, 8, [], .int 1), (.aload_n 0, 9, [0], .null), (.getfield 208, 10, [6,0,11], .null), (.invokevirtual 228, 13, [1,202,3,11], .null), (.ireturn, 16, [3], .null), (.aload_n 0, 17, [0], .null), (.aload_n 0, 18, [0], .null), (.getfield 208, 19, [6,0,11], .null), (.putfield 232, 22, [12,0,0,11], .null), (.aload_n 0, 25, [0], .null), (.lconst 0, 26, [], .long 0), (.putfield 235, 27, [11,1,0,11], .null), (.bipush 9, 30, [], .int 9), (.invokestatic 175, 32, [0,187,1], .null), (.lstore_n 1, 35, [1], .null), (.aload_n 0, 36, [0], .null), (.getfield 208, 37, [6,0,11], .null), (.aload_n 0, 40, [0], .null), (.getfield 151, 41, [5,0,11], .null), (.if_icmp .ge 82, 44, [67], .null), (.aload_n 0, 47, [0], .null), (.getfield 19, 48, [4,2,11], .null), (.aload_n 0, 51, [0], .null), (.getfield 208, 52, [6,0,11], .null), (.iaload, 55, [], .null), (.i2l, 56, [], .null), (.ldc2_w 221, 57, [], .long 97), (.ldc2_w 223, 60, [], .long 122), (.invokestatic 204, 63, [0,181,3], .null), (.ifCond .eq 60, 66, [67], .null), (.aload_n 0, 69, [0], .null), (.getfield 208, 70, [6,0,11], .null), (.aload_n 0, 73, [0], .null), (.getfield 232, 74, [12,0,11], .null), (.isub, 77, [], .null), (.bipush 10, 78, [], .int 10), (.if_icmp .ge 27, 80, [56], .null), (.aload_n 0, 83, [0], .null), (.dup, 84, [], .null), (.getfield 235, 85, [11,1,11], .null), (.aload_n 0, 88, [0], .null), (.getfield 19, 89, [4,2,11], .null), (.aload_n 0, 92, [0], .null), (.getfield 208, 93, [6,0,11], .null), (.iaload, 96, [], .null), (.bipush 96, 97, [], .int 96), (.isub, 99, [], .null), (.i2l, 100, [], .null), (.lload_n 1, 101, [1], .null), (.lmul, 102, [], .null), (.ladd, 103, [], .null), (.putfield 235, 104, [11,1,0,11], .null), (.lload_n 1, 107, [1], .null), (.ldc2_w 171, 108, [], .long 27), (.ldiv, 111, [], .null), (.lstore_n 1, 112, [1], .null), (.aload_n 0, 113, [0], .null), (.dup, 114, [], .null), (.getfield 208, 115, [6,0,11], .null), (.iconst 1, 118, [], .int 1), (.iadd, 119, [], .null), (.putfield 208, 120, [6,0,0,11], .null), (.goto (-87), 123, [19], .null), (.aload_n 0, 126, [0], .null), (.getfield 208, 127, [6,0,11], .null), (.aload_n 0, 130, [0], .null), (.getfield 232, 131, [12,0,11], .null), (.isub, 134, [], .null), (.bipush 10, 135, [], .int 10), (.if_icmp .le 15, 137, [80], .null), (.aload_n 0, 140, [0], .null), (.iconst 1, 141, [], .int 1), (.aload_n 0, 142, [0], .null), (.getfield 232, 143, [12,0,11], .null), (.invokevirtual 228, 146, [1,202,3,11], .null), (.ifCond .eq 7, 149, [82], .null), (.iconst 1, 152, [], .int 1), (.goto 4, 153, [83], .null), (.iconst 0, 156, [], .int 0), (.ireturn, 157, [3], .null)]
/-- TermDrawModel.takes(I)Z -/
abbrev mi_M_takes : Nat := 205
def mm_k205 : List mm_Ins := [(.aload_n 0, 0, [0], .null), (.invokevirtual 217, 1, [1,201,1,11], .null), (.iload_n 1, 4, [1], .null), (.if_icmp .eq 13, 5, [10], .null), (.aload_n 0, 8, [0], .null), (.iconst 1, 9, [], .int 1), (.aload_n 0, 10, [0], .null), (.getfield 208, 11, [6,0,11], .null), (.invokevirtual 228, 14, [1,202,3,11], .null), (.ireturn, 17, [3], .null), (.aload_n 0, 18, [0], .null), (.dup, 19, [], .null), (.getfield 208, 20, [6,0,11], .null), (.iconst 1, 23, [], .int 1), (.iadd, 24, [], .null), (.putfield 208, 25, [6,0,0,11], .null), (.iconst 1, 28, [], .int 1), (.ireturn, 29, [3], .null)]
/-- TermDrawModel.readLexicon()Z -/
abbrev mi_M_readLexicon : Nat := 206
def mm_k206 : List mm_Ins := [(.aload_n 0, 0, [0], .null), (.invokevirtual 217, 1, [1,201,1,11], .null), (.iconst (-1), 4, [], .int (-1)), (.if_icmp .eq 180, 5, [107], .null), (.aload_n 0, 8, [0], .null), (.invokevirtual 239, 9, [1,204,1,11], .null), (.ifCond .ne 5, 12, [9], .null), (.iconst 0, 15, [], .int 0), (.ireturn, 16, [3], .null), (.aload_n 0, 17, [0], .null), (.getfield 235, 18, [11,1,11], .null), (.invokestatic 183, 21, [0,188,1], .null), (.iconst 1, 24, [], .int 1), (.if_icmp .ne 23, 25, [24], .null), (.aload_n 0, 28, [0], .null), (.getfield 235, 29, [11,1,11], .null), (.bipush 9, 32, [], .int 9), (.invokestatic 175, 34, [0,187,1], .null), (.ldiv, 37, [], .null), (.l2i, 38, [], .null), (.bipush 96, 39, [], .int 96), (.iadd, 41, [], .null), (.invokestatic 242, 42, [0,195,1], .null), (.goto 4, 45, [25], .null), (.iconst (-1), 48, [], .int (-1)), (.istore_n 1, 49, [1], .null), (.iload_n 1, 50, [1], .null), (.iconst (-1), 51, [], .int (-1)), (.if_icmp .ne 13, 52, [35], .null), (.aload_n 0, 55, [0], .null), (.iconst 1, 56, [], .int 1), (.aload_n 0, 57, [0], .null), (.getfield 232, 58, [12,0,11], .null), (.invokevirtual 228, 61, [1,202,3,11], .null), (.ireturn, 64, [3], .null), (.aload_n 0, 65, [0], .null), (.bipush 58, 66, [], .int 58), (.invokevirtual 246, 68, [1,205,2,11], .null), (.ifCond .ne 5, 71, [41], .null), (.iconst 0, 74, [], .int 0), (.ireturn, 75, [3], .null), (.aload_n 0, 76, [0], .null), (.invokevirtual 239, 77, [1,204,1,11], .null), (.ifCond .ne 5, 80, [46], .null), (.iconst 0, 83, [], .int 0), (.ireturn, 84, [3], .null), (.aload_n 0, 85, [0], .null), (.aload_n 0, 86, [0], .null), (.getfield 235, 87, [11,1,11], .null), (.invokevirtual 194, 90, [1,191,2,11], .null), (.istore_n 2, 93, [2], .null), (.iload_n 2, 94, [2], .null), (.iconst (-1), 95, [], .int (-1)), (.if_icmp .ne 56, 96, [88], .null), (.aload_n 0, 99, [0], .null), (.getfield 7, 100, [0,2,11], .null), (.iconst 0, 103, [], .int 0), (.laload, 104, [], .null), (.ldc2_w 250, 105, [], .long 80), (.lcmp, 108, [1,66], .null), (.aload_n 0, 112, [0], .null), (.iconst 2, 113, [], .int 2), (.aload_n 0, 114, [0], .null), (.getfield 232, 115, [12,0,11], .null), (.invokevirtual 228, 118, [1,202,3,11], .null), (.ireturn, 121, [3], .null), (.aload_n 0, 122, [0], .null), (.getfield 7, 123, [0,2,11], .null), (.iconst 0, 126, [], .int 0), (.laload, 127, [], .null), (.l2i, 128, [], .null), (.istore_n 2, 129, [2], .null), (.aload_n 0, 130, [0], .null), (.getfield 7, 131, [0,2,11], .null), (.iconst 0, 134, [], .int 0), (.dup2, 135, [], .null), (.laload, 136, [], .null), (.lconst 1, 137, [], .long 1), (.ladd, 138, [], .null), (.lastore, 139, [], .null), (.aload_n 0, 140, [0], .null), (.getfield 7, 141, [0,2,11], .null), (.iconst 1, 144, [], .int 1), (.iload_n 2, 145, [2], .null), (.iadd, 146, [], .null), (.aload_n 0, 147, [0], .null), (.getfield 235, 148, [11,1,11], .null), (.lastore, 151, [], .null), (.aload_n 0, 152, [0], .null), (.getfield 7, 153, [0,2,11], .null), (.bipush 81, 156, [], .int 81), (.iload_n 2, 158, [2], .null), (.iadd, 159, [], .null), (.iload_n 1, 160, [1], .null), (.i2l, 161, [], .null), (.lastore, 162, [], .null), (.aload_n 0, 163, [0], .null), (.invokevirtual 217, 164, [1,201,1,11], .null), (.bipush 59, 167, [], .int 59), (.if_icmp .ne (-93), 169, [41], .null), (.aload_n 0, 172, [0], .null), (.dup, 173, [], .null), (.getfield 208, 174, [6,0,11], .null), (.iconst 1, 177, [], .int 1), (.iadd, 178, [], .null), (.putfield 208, 179, [6,0,0,11], .null), (.goto (-182), 182, [0], .null), (.iconst 1, 185, [], .int 1), (.ireturn, 186, [3], .null)]
/-- TermDrawModel.readEndings()Z -/
abbrev mi_M_readEndings : Nat := 207
def mm_k207 : List mm_Ins := [(.aload_n 0, 0, [0], .null), (.getfield 7, 1, [0,2,11], .null), (.sipush 161, 4, [], .int 161), (.lconst 0, 7, [], .long 0), (.lastore, 8, [], .null), (.aload_n 0, 9, [0], .null), (.invokevirtual 217, 10, [1,201,1,11], .null), (.iconst (-1), 13, [], .int (-1)), (.if_icmp .eq 141, 14, [84], .null), (.aload_n 0, 17, [0], .null), (.invokevirtual 239, 18, [1,204,1,11], .null), (.ifCond .ne 5, 21, [14], .null), (.iconst 0, 24, [], .int 0), (.ireturn, 25, [3], .null), (.aload_n 0, 26, [0], .null), (.getfield 7, 27, [0,2,11], .null), (.sipush 161, 30, [], .int 161), (.laload, 33, [], .null), (.ldc2_w 252, 34, [], .long 8), (.lcmp, 37, [1,26], .null), (.aload_n 0, 41, [0], .null), (.iconst 2, 42, [], .int 2), (.aload_n 0, 43, [0], .null), (.getfield 232, 44, [12,0,11], .null), (.invokevirtual 228, 47, [1,202,3,11], .null), (.ireturn, 50, [3], .null), (.aload_n 0, 51, [0], .null), (.getfield 235, 52, [11,1,11], .null), (.lstore_n 1, 55, [1], .null), (.aload_n 0, 56, [0], .null), (.bipush 61, 57, [], .int 61), (.invokevirtual 246, 59, [1,205,2,11], .null), (.ifCond .ne 5, 62, [35], .null), (.iconst 0, 65, [], .int 0), (.ireturn, 66, [3], .null), (.aload_n 0, 67, [0], .null), (.lconst 0, 68, [], .long 0), (.putfield 235, 69, [11,1,0,11], .null), (.aload_n 0, 72, [0], .null), (.invokevirtual 225, 73, [1,203,1,11], .null), (.ifCond .eq 12, 76, [46], .null), (.aload_n 0, 79, [0], .null), (.invokevirtual 239, 80, [1,204,1,11], .null), (.ifCond .ne 5, 83, [46], .null), (.iconst 0, 86, [], .int 0), (.ireturn, 87, [3], .null), (.aload_n 0, 88, [0], .null), (.bipush 59, 89, [], .int 59), (.invokevirtual 246, 91, [1,205,2,11], .null), (.ifCond .ne 5, 94, [52], .null), (.iconst 0, 97, [], .int 0), (.ireturn, 98, [3], .null), (.aload_n 0, 99, [0], .null), (.getfield 7, 100, [0,2,11], .null), (.sipush 162, 103, [], .int 162), (.aload_n 0, 106, [0], .null), (.getfield 7, 107, [0,2,11], .null), (.sipush 161, 110, [], .int 161), (.laload, 113, [], .null), (.l2i, 114, [], .null), (.iadd, 115, [], .null), (.lload_n 1, 116, [1], .null), (.lastore, 117, [], .null), (.aload_n 0, 118, [0], .null), (.getfield 7, 119, [0,2,11], .null), (.sipush 170, 122, [], .int 170), (.aload_n 0, 125, [0], .null), (.getfield 7, 126, [0,2,11], .null), (.sipush 161, 129, [], .int 161), (.laload, 132, [], .null), (.l2i, 133, [], .null), (.iadd, 134, [], .null), (.aload_n 0, 135, [0], .null), (.getfield 235, 136, [11,1,11], .null), (.lastore, 139, [], .null), (.aload_n 0, 140, [0], .null), (.getfield 7, 141, [0,2,11], .null), (.sipush 161, 144, [], .int 161), (.dup2, 147, [], .null), (.laload, 148, [], .null), (.lconst 1, 149, [], .long 1), (.ladd, 150, [], .null), (.lastore, 151, [], .null), (.goto (-143), 152, [5], .null), (.iconst 1, 155, [], .int 1), (.ireturn, 156, [3], .null)]
/-- TermDrawModel.readSame()Z -/
abbrev mi_M_readSame : Nat := 208
def mm_k208 : List mm_Ins := [(.aload_n 0, 0, [0], .null), (.getfield 7, 1, [0,2,11], .null), (.sipush 178, 4, [], .int 178), (.lconst 0, 7, [], .long 0), (.lastore, 8, [], .null), (.aload_n 0, 9, [0], .null), (.invokevirtual 217, 10, [1,201,1,11], .null), (.iconst (-1), 13, [], .int (-1)), (.if_icmp .eq 145, 14, [87], .null), (.lconst 0, 17, [], .long 0), (.lstore_n 1, 18, [1], .null), (.iconst 0, 19, [], .int 0), (.istore_n 3, 20, [3], .null), (.aload_n 0, 21, [0], .null), (.invokevirtual 239, 22, [1,204,1,11], .null), (.ifCond .ne 5, 25, [18], .null), (.iconst 0, 28, [], .int 0), (.ireturn, 29, [3], .null), (.aload_n 0, 30, [0], .null), (.getfield 7, 31, [0,2,11], .null), (.sipush 178, 34, [], .int 178), (.laload, 37, [], .null), (.ldc2_w 254, 38, [], .long 40), (.lcmp, 41, [1,30], .null), (.aload_n 0, 45, [0], .null), (.iconst 2, 46, [], .int 2), (.aload_n 0, 47, [0], .null), (.getfield 232, 48, [12,0,11], .null), (.invokevirtual 228, 51, [1,202,3,11], .null), (.ireturn, 54, [3], .null), (.iload_n 3, 55, [3], .null), (.ifCond .ne 12, 56, [37], .null), (.aload_n 0, 59, [0], .null), (.aload_n 0, 60, [0], .null), (.getfield 235, 61, [11,1,11], .null), (.invokevirtual 179, 64, [1,192,2,11], .null), (.lstore_n 1, 67, [1], .null), (.aload_n 0, 68, [0], .null), (.getfield 7, 69, [0,2,11], .null), (.sipush 179, 72, [], .int 179), (.aload_n 0, 75, [0], .null), (.getfield 7, 76, [0,2,11], .null), (.sipush 178, 79, [], .int 178), (.laload, 82, [], .null), (.l2i, 83, [], .null), (.iadd, 84, [], .null), (.aload_n 0, 85, [0], .null), (.getfield 235, 86, [11,1,11], .null), (.lastore, 89, [], .null), (.aload_n 0, 90, [0], .null), (.getfield 7, 91, [0,2,11], .null), (.sipush 219, 94, [], .int 219), (.aload_n 0, 97, [0], .null), (.getfield 7, 98, [0,2,11], .null), (.sipush 178, 101, [], .int 178), (.laload, 104, [], .null), (.l2i, 105, [], .null), (.iadd, 106, [], .null), (.iload_n 3, 107, [3], .null), (.ifCond .ne 7, 108, [62], .null), (.lconst 0, 111, [], .long 0), (.goto 4, 112, [63], .null), (.lload_n 1, 115, [1], .null), (.lastore, 116, [], .null), (.aload_n 0, 117, [0], .null), (.getfield 7, 118, [0,2,11], .null), (.sipush 178, 121, [], .int 178), (.dup2, 124, [], .null), (.laload, 125, [], .null), (.lconst 1, 126, [], .long 1), (.ladd, 127, [], .null), (.lastore, 128, [], .null), (.iinc 3 1, 129, [3], .int 1), (.iload_n 3, 132, [3], .null), (.iconst 2, 133, [], .int 2), (.if_icmp .lt (-113), 134, [13], .null), (.aload_n 0, 137, [0], .null), (.invokevirtual 217, 138, [1,201,1,11], .null), (.bipush 59, 141, [], .int 59), (.if_icmp .ne (-122), 143, [13], .null), (.aload_n 0, 146, [0], .null), (.dup, 147, [], .null), (.getfield 208, 148, [6,0,11], .null), (.iconst 1, 151, [], .int 1), (.iadd, 152, [], .null), (.putfield 208, 153, [6,0,0,11], .null), (.goto (-147), 156, [5], .null), (.iconst 1, 159, [], .int 1), (.ireturn, 160, [3], .null)]
/-- TermDrawModel.readWords(III)I -/
abbrev mi_M_readWords : Nat := 209
def mm_k209 : List mm_Ins := [(.iload_n 3, 0, [3], .null), (.istore 4, 1, [4], .null), (.iconst 0, 3, [], .int 0), (.istore 5, 4, [5], .null), (.aload_n 0, 6, [0], .null), (.invokevirtual 217, 7, [1,201,1,11], .null), (.iconst (-1), 10, [], .int (-1)), (.if_icmp .eq 88, 11, [54], .null), (.aload_n 0, 14, [0], .null), (.invokevirtual 217, 15, [1,201,1,11], .null), (.bipush 46, 18, [], .int 46), (.if_icmp .ne 19, 20, [20], .null), (.aload_n 0, 23, [0], .null), (.dup, 24, [], .null), (.getfield 208, 25, [6,0,11], .null), (.iconst 1, 28, [], .int 1), (.iadd, 29, [], .null), (.putfield 208, 30, [6,0,0,11], .null), (.iinc 5 1, 33, [5], .int 1), (.goto (-30), 36, [4], .null), (.aload_n 0, 39, [0], .null), (.invokevirtual 239, 40, [1,204,1,11], .null), (.ifCond .ne 5, 43, [25], .null), (.iconst (-1), 46, [], .int (-1)), (.ireturn, 47, [1], .null), (.iload 4, 48, [4], .null), (.sipush 240, 50, [], .int 240), (.if_icmp .ne 15, 53, [36], .null), (.aload_n 0, 56, [0], .null), (.iconst 2, 57, [], .int 2), (.aload_n 0, 58, [0], .null), (.getfield 232, 59, [12,0,11], .null), (.invokevirtual 228, 62, [1,202,3,11], .null), (.pop, 65, [], .null), (.iconst (-1), 66, [], .int (-1)), (.ireturn, 67, [1], .null), (.aload_n 0, 68, [0], .null), (.getfield 7, 69, [0,2,11], .null), (.iload_n 1, 72, [1], .null), (.iload 4, 73, [4], .null), (.iadd, 75, [], .null), (.aload_n 0, 76, [0], .null), (.getfield 235, 77, [11,1,11], .null), (.lastore, 80, [], .null), (.aload_n 0, 81, [0], .null), (.getfield 7, 82, [0,2,11], .null), (.iload_n 2, 85, [2], .null), (.iload 4, 86, [4], .null), (.iadd, 88, [], .null), (.iload 5, 89, [5], .null), (.i2l, 91, [], .null), (.lastore, 92, [], .null), (.iinc 4 1, 93, [4], .int 1), (.goto (-90), 96, [4], .null), (.iload 4, 99, [4], .null), (.ireturn, 101, [1], .null)]
/-- TermDrawModel.readAtom()Z -/
abbrev mi_M_readAtom : Nat := 210
def mm_k210 : List mm_Ins := [(.aload_n 0, 0, [0], .null), (.invokevirtual 217, 1, [1,201,1,11], .null), (.istore_n 1, 4, [1], .null), (.iload_n 1, 5, [1], .null), (.bipush 40, 6, [], .int 40), (.if_icmp .ne 71, 8, [45], .null), (.aload_n 0, 11, [0], .null), (.getfield 256, 12, [16,0,11], .null), (.iconst 4, 15, [], .int 4), (.if_icmp .ne 13, 16, [16], .null), (.aload_n 0, 19, [0], .null), (.iconst 2, 20, [], .int 2), (.aload_n 0, 21, [0], .null), (.getfield 208, 22, [6,0,11], .null), (.invokevirtual 228, 25, [1,202,3,11], .null), (.ireturn, 28, [3], .null), (.aload_n 0, 29, [0], .null), (.dup, 30, [], .null), (.getfield 256, 31, [16,0,11], .null), (.iconst 1, 34, [], .int 1), (.iadd, 35, [], .null), (.putfield 256, 36, [16,0,0,11], .null), (.aload_n 0, 39, [0], .null), (.dup, 40, [], .null), (.getfield 208, 41, [6,0,11], .null), (.iconst 1, 44, [], .int 1), (.iadd, 45, [], .null), (.putfield 208, 46, [6,0,0,11], .null), (.aload_n 0, 49, [0], .null), (.invokevirtual 259, 50, [1,215,1,11], .null), (.ifCond .eq 12, 53, [35], .null), (.aload_n 0, 56, [0], .null), (.bipush 41, 57, [], .int 41), (.invokevirtual 246, 59, [1,205,2,11], .null), (.ifCond .ne 5, 62, [37], .null), (.iconst 0, 65, [], .int 0), (.ireturn, 66, [3], .null), (.aload_n 0, 67, [0], .null), (.dup, 68, [], .null), (.getfield 256, 69, [16,0,11], .null), (.iconst 1, 72, [], .int 1), (.isub, 73, [], .null), (.putfield 256, 74, [16,0,0,11], .null), (.iconst 1, 77, [], .int 1), (.ireturn, 78, [3], .null), (.aload_n 0, 79, [0], .null), (.getfield 262, 80, [15,0,11], .null), (.bipush 12, 83, [], .int 12), (.if_icmp .ne 13, 85, [55], .null), (.aload_n 0, 88, [0], .null), (.iconst 2, 89, [], .int 2), (.aload_n 0, 90, [0], .null), (.getfield 208, 91, [6,0,11], .null), (.invokevirtual 228, 94, [1,202,3,11], .null), (.ireturn, 97, [3], .null), (.aload_n 0, 98, [0], .null), (.getfield 27, 99, [13,2,11], .null), (.aload_n 0, 102, [0], .null), (.getfield 262, 103, [15,0,11], .null), (.iload_n 1, 106, [1], .null), (.bipush 46, 107, [], .int 46), (.if_icmp .ne 8, 109, [64], .null), (.bipush 7, 112, [], .int 7), (.goto 18, 114, [71], .null), (.iload_n 1, 117, [1], .null), (.bipush 120, 118, [], .int 120), (.if_icmp .ne 8, 120, [69], .null), (.bipush 6, 123, [], .int 6), (.goto 7, 125, [71], .null), (.iload_n 1, 128, [1], .null), (.invokestatic 242, 129, [0,195,1], .null), (.iastore, 132, [], .null), (.aload_n 0, 133, [0], .null), (.getfield 30, 134, [14,2,11], .null), (.aload_n 0, 137, [0], .null), (.getfield 262, 138, [15,0,11], .null), (.iconst 0, 141, [], .int 0), (.iastore, 142, [], .null), (.aload_n 0, 143, [0], .null), (.iconst 1, 144, [], .int 1), (.aload_n 0, 145, [0], .null), (.getfield 262, 146, [15,0,11], .null), (.ishl, 149, [], .null), (.putfield 265, 150, [17,0,0,11], .null), (.aload_n 0, 153, [0], .null), (.aload_n 0, 154, [0], .null), (.getfield 265, 155, [17,0,11], .null), (.putfield 268, 158, [18,0,0,11], .null), (.aload_n 0, 161, [0], .null), (.iconst 0, 162, [], .int 0), (.putfield 271, 163, [19,3,0,11], .null), (.aload_n 0, 166, [0], .null), (.dup, 167, [], .null), (.getfield 262, 168, [15,0,11], .null), (.iconst 1, 171, [], .int 1), (.iadd, 172, [], .null), (.putfield 262, 173, [15,0,0,11], .null), (.aload_n 0, 176, [0], .null), (.dup, 177, [], .null), (.getfield 208, 178, [6,0,11], .null), (.iconst 1, 181, [], .int 1), (.iadd, 182, [], .null), (.putfield 208, 183, [6,0,0,11], .null), (.iconst 1, 186, [], .int 1), (.ireturn, 187, [3], .null)]
/-- TermDrawModel.isAtom()Z -/
abbrev mi_M_isAtom : Nat := 211
def mm_k211 : List mm_Ins := [(.aload_n 0, 0, [0], .null), (.invokevirtual 217, 1, [1,201,1,11], .null), (.istore_n 1, 4, [1], .null), (.iload_n 1, 5, [1], .null), (.bipush 40, 6, [], .int 40), (.if_icmp .eq 23, 8, [16], .null), (.iload_n 1, 11, [1], .null), (.bipush 46, 12, [], .int 46), (.if_icmp .eq 17, 14, [16], .null), (.iload_n 1, 17, [1], .null), (.bipush 120, 18, [], .int 120), (.if_icmp .eq 11, 20, [16], .null), (.iload_n 1, 23, [1], .null), (.invokestatic 242, 24, [0,195,1], .null), (.iconst (-1), 27, [], .int (-1)), (.if_icmp .eq 7, 28, [18], .null), (.iconst 1, 31, [], .int 1), (.goto 4, 32, [19], .null), (.iconst 0, 35, [], .int 0), (.ireturn, 36, [3], .null)]
/-- TermDrawModel.follows(II)V -/
abbrev mi_M_follows : Nat := 212
def mm_k212 : List mm_Ins := [(.iconst 0, 0, [], .int 0), (.istore_n 3, 1, [3], .null), (.iload_n 3, 2, [3], .null), (.aload_n 0, 3, [0], .null), (.getfield 262, 4, [15,0,11], .null), (.if_icmp .ge 28, 7, [21], .null), (.iload_n 1, 10, [1], .null), (.i2l, 11, [], .null), (.iload_n 3, 12, [3], .null), (.invokestatic 274, 13, [0,183,2], .null), (.ifCond .eq 13, 16, [19], .null), (.aload_n 0, 19, [0], .null), (.getfield 30, 20, [14,2,11], .null), (.iload_n 3, 23, [3], .null), (.dup2, 24, [], .null), (.iaload, 25, [], .null), (.iload_n 2, 26, [2], .null), (.ior, 27, [], .null), (.iastore, 28, [], .null), (.iinc 3 1, 29, [3], .int 1), (.goto (-30), 32, [2], .null), (.return_, 35, [0], .null)]
/-- TermDrawModel.readItem()Z -/
abbrev mi_M_readItem : Nat := 213
def mm_k213 : List mm_Ins := [(.aload_n 0, 0, [0], .null), (.invokevirtual 278, 1, [1,210,1,11], .null), (.ifCond .ne 5, 4, [5], .null), (.iconst 0, 7, [], .int 0), (.ireturn, 8, [3], .null), (.aload_n 0, 9, [0], .null), (.invokevirtual 217, 10, [1,201,1,11], .null), (.istore_n 1, 13, [1], .null), (.iload_n 1, 14, [1], .null), (.bipush 42, 15, [], .int 42), (.if_icmp .eq 17, 17, [19], .null), (.iload_n 1, 20, [1], .null), (.bipush 43, 21, [], .int 43), (.if_icmp .eq 11, 23, [19], .null), (.iload_n 1, 26, [1], .null), (.bipush 63, 27, [], .int 63), (.if_icmp .eq 5, 29, [19], .null), (.iconst 1, 32, [], .int 1), (.ireturn, 33, [3], .null), (.aload_n 0, 34, [0], .null), (.dup, 35, [], .null), (.getfield 208, 36, [6,0,11], .null), (.iconst 1, 39, [], .int 1), (.iadd, 40, [], .null), (.putfield 208, 41, [6,0,0,11], .null), (.iload_n 1, 44, [1], .null), (.bipush 63, 45, [], .int 63), (.if_icmp .eq 15, 47, [34], .null), (.aload_n 0, 50, [0], .null), (.aload_n 0, 51, [0], .null), (.getfield 268, 52, [18,0,11], .null), (.aload_n 0, 55, [0], .null), (.getfield 265, 56, [17,0,11], .null), (.invokevirtual 281, 59, [1,212,3,11], .null), (.aload_n 0, 62, [0], .null), (.aload_n 0, 63, [0], .null), (.getfield 271, 64, [19,3,11], .null), (.ifCond .ne 9, 67, [41], .null), (.iload_n 1, 70, [1], .null), (.bipush 43, 71, [], .int 43), (.if_icmp .eq 7, 73, [43], .null), (.iconst 1, 76, [], .int 1), (.goto 4, 77, [44], .null), (.iconst 0, 80, [], .int 0), (.putfield 271, 81, [19,3,0,11], .null), (.iconst 1, 84, [], .int 1), (.ireturn, 85, [3], .null)]
/-- TermDrawModel.readRow()Z -/
abbrev mi_M_readRow : Nat := 214
def mm_k214 : List mm_Ins := [(.iconst 0, 0, [], .int 0), (.istore_n 1, 1, [1], .null), (.iconst 0, 2, [], .int 0), (.istore_n 2, 3, [2], .null), (.iconst 1, 4, [], .int 1), (.istore_n 3, 5, [3], .null), (.aload_n 0, 6, [0], .null), (.invokevirtual 285, 7, [1,211,1,11], .null), (.ifCond .eq 77, 10, [49], .null), (.aload_n 0, 13, [0], .null), (.invokevirtual 288, 14, [1,213,1,11], .null), (.ifCond .ne 5, 17, [14], .null), (.iconst 0, 20, [], .int 0), (.ireturn, 21, [3], .null), (.aload_n 0, 22, [0], .null), (.iload_n 2, 23, [2], .null), (.aload_n 0, 24, [0], .null), (.getfield 265, 25, [17,0,11], .null), (.invokevirtual 281, 28, [1,212,3,11], .null), (.iload_n 3, 31, [3], .null), (.ifCond .eq 12, 32, [26], .null), (.iload_n 1, 35, [1], .null), (.aload_n 0, 36, [0], .null), (.getfield 265, 37, [17,0,11], .null), (.ior, 40, [], .null), (.goto 4, 41, [27], .null), (.iload_n 1, 44, [1], .null), (.istore_n 1, 45, [1], .null), (.aload_n 0, 46, [0], .null), (.getfield 271, 47, [19,3,11], .null), (.ifCond .eq 12, 50, [36], .null), (.iload_n 2, 53, [2], .null), (.aload_n 0, 54, [0], .null), (.getfield 268, 55, [18,0,11], .null), (.ior, 58, [], .null), (.goto 7, 59, [38], .null), (.aload_n 0, 62, [0], .null), (.getfield 268, 63, [18,0,11], .null), (.istore_n 2, 66, [2], .null), (.iload_n 3, 67, [3], .null), (.ifCond .eq 14, 68, [46], .null), (.aload_n 0, 71, [0], .null), (.getfield 271, 72, [19,3,11], .null), (.ifCond .eq 7, 75, [46], .null), (.iconst 1, 78, [], .int 1), (.goto 4, 79, [47], .null), (.iconst 0, 82, [], .int 0), (.istore_n 3, 83, [3], .null), (.goto (-78), 84, [6], .null), (.aload_n 0, 87, [0], .null), (.iload_n 1, 88, [1], .null), (.putfield 265, 89, [17,0,0,11], .null), (.aload_n 0, 92, [0], .null), (.iload_n 2, 93, [2], .null), (.putfield 268, 94, [18,0,0,11], .null), (.aload_n 0, 97, [0], .null), (.iload_n 3, 98, [3], .null), (.putfield 271, 99, [19,3,0,11], .null), (.iconst 1, 102, [], .int 1), (.ireturn, 103, [3], .null)]
/-- TermDrawModel.readAlt()Z -/
abbrev mi_M_readAlt : Nat := 215
def mm_k215 : List mm_Ins := [(.aload_n 0, 0, [0], .null), (.invokevirtual 291, 1, [1,214,1,11], .null), (.ifCond .ne 5, 4, [5], .null), (.iconst 0, 7, [], .int 0), (.ireturn, 8, [3], .null), (.aload_n 0, 9, [0], .null), (.invokevirtual 217, 10, [1,201,1,11], .null), (.bipush 124, 13, [], .int 124), (.if_icmp .ne 80, 15, [52], .null), (.aload_n 0, 18, [0], .null), (.getfield 265, 19, [17,0,11], .null), (.istore_n 1, 22, [1], .null), (.aload_n 0, 23, [0], .null), (.getfield 268, 24, [18,0,11], .null), (.istore_n 2, 27, [2], .null), (.aload_n 0, 28, [0], .null), (.getfield 271, 29, [19,3,11], .null), (.istore_n 3, 32, [3], .null), (.aload_n 0, 33, [0], .null), (.dup, 34, [], .null), (.getfield 208, 35, [6,0,11], .null), (.iconst 1, 38, [], .int 1), (.iadd, 39, [], .null), (.putfield 208, 40, [6,0,0,11], .null), (.aload_n 0, 43, [0], .null), (.invokevirtual 291, 44, [1,214,1,11], .null), (.ifCond .ne 5, 47, [29], .null), (.iconst 0, 50, [], .int 0), (.ireturn, 51, [3], .null), (.aload_n 0, 52, [0], .null), (.dup, 53, [], .null), (.getfield 265, 54, [17,0,11], .null), (.iload_n 1, 57, [1], .null), (.ior, 58, [], .null), (.putfield 265, 59, [17,0,0,11], .null), (.aload_n 0, 62, [0], .null), (.dup, 63, [], .null), (.getfield 268, 64, [18,0,11], .null), (.iload_n 2, 67, [2], .null), (.ior, 68, [], .null), (.putfield 268, 69, [18,0,0,11], .null), (.aload_n 0, 72, [0], .null), (.aload_n 0, 73, [0], .null), (.getfield 271, 74, [19,3,11], .null), (.ifCond .ne 7, 77, [47], .null), (.iload_n 3, 80, [3], .null), (.ifCond .eq 7, 81, [49], .null), (.iconst 1, 84, [], .int 1), (.goto 4, 85, [50], .null), (.iconst 0, 88, [], .int 0), (.putfield 271, 89, [19,3,0,11], .null), (.goto (-83), 92, [5], .null), (.iconst 1, 95, [], .int 1), (.ireturn, 96, [3], .null)]
/-- TermDrawModel.readPattern()Z -/
abbrev mi_M_readPattern : Nat := 216
def mm_k216 : List mm_Ins := [(.aload_n 0, 0, [0], .null), (.iconst 0, 1, [], .int 0), (.putfield 262, 2, [15,0,0,11], .null), (.aload_n 0, 5, [0], .null), (.iconst 0, 6, [], .int 0), (.putfield 256, 7, [16,0,0,11], .null), (.aload_n 0, 10, [0], .null), (.invokevirtual 259, 11, [1,215,1,11], .null), (.ifCond .eq 27, 14, [21], .null), (.aload_n 0, 17, [0], .null), (.invokevirtual 217, 18, [1,201,1,11], .null), (.iconst (-1), 21, [], .int (-1)), (.if_icmp .eq 15, 22, [19], .null), (.aload_n 0, 25, [0], .null), (.iconst 1, 26, [], .int 1), (.aload_n 0, 27, [0], .null), (.getfield 208, 28, [6,0,11], .null), (.invokevirtual 228, 31, [1,202,3,11], .null), (.ifCond .eq 7, 34, [21], .null), (.iconst 1, 37, [], .int 1), (.goto 4, 38, [22], .null), (.iconst 0, 41, [], .int 0), (.ireturn, 42, [3], .null)]
/-- TermDrawModel.keepsPattern()V -/
abbrev mi_M_keepsPattern : Nat := 217
def mm_k217 : List mm_Ins := [(.aload_n 0, 0, [0], .null), (.getfield 7, 1, [0,2,11], .null), (.sipush 1870, 4, [], .int 1870), (.aload_n 0, 7, [0], .null), (.getfield 262, 8, [15,0,11], .null), (.i2l, 11, [], .null), (.lastore, 12, [], .null), (.iconst 0, 13, [], .int 0), (.istore_n 1, 14, [1], .null), (.iload_n 1, 15, [1], .null), (.aload_n 0, 16, [0], .null), (.getfield 262, 17, [15,0,11], .null), (.if_icmp .ge 43, 20, [37], .null), (.aload_n 0, 23, [0], .null), (.getfield 7, 24, [0,2,11], .null), (.sipush 1871, 27, [], .int 1871), (.iload_n 1, 30, [1], .null), (.iadd, 31, [], .null), (.aload_n 0, 32, [0], .null), (.getfield 27, 33, [13,2,11], .null), (.iload_n 1, 36, [1], .null), (.iaload, 37, [], .null), (.i2l, 38, [], .null), (.lastore, 39, [], .null), (.aload_n 0, 40, [0], .null), (.getfield 7, 41, [0,2,11], .null), (.sipush 1883, 44, [], .int 1883), (.iload_n 1, 47, [1], .null), (.iadd, 48, [], .null), (.aload_n 0, 49, [0], .null), (.getfield 30, 50, [14,2,11], .null), (.iload_n 1, 53, [1], .null), (.iaload, 54, [], .null), (.i2l, 55, [], .null), (.lastore, 56, [], .null), (.iinc 1 1, 57, [1], .int 1), (.goto (-45), 60, [9], .null), (.aload_n 0, 63, [0], .null), (.getfield 7, 64, [0,2,11], .null), (.sipush 1895, 67, [], .int 1895), (.aload_n 0, 70, [0], .null), (.getfield 265, 71, [17,0,11], .null), (.i2l, 74, [], .null), (.lastore, 75, [], .null), (.aload_n 0, 76, [0], .null), (.getfield 7, 77, [0,2,11], .null), (.sipush 1896, 80, [], .int 1896), (.aload_n 0, 83, [0], .null), (.getfield 268, 84, [18,0,11], .null), (.i2l, 87, [], .null), (.lastore, 88, [], .null), (.aload_n 0, 89, [0], .null), (.getfield 7, 90, [0,2,11], .null), (.sipush 1897, 93, [], .int 1897), (.aload_n 0, 96, [0], .null), (.getfield 271, 97, [19,3,11], .null), (.invokestatic 294, 100, [0,182,1], .null), (.i2l, 103, [], .null), (.lastore, 104, [], .null), (.return_, 105, [0], .null)]
/-- TermDrawModel.readText(I)Z -/
abbrev mi_M_readText : Nat := 218
def mm_k218 : List mm_Ins := [(.iload_n 1, 0, [1], .null), (.ifCond .ne 8, 1, [5], .null), (.aload_n 0, 4, [0], .null), (.invokevirtual 298, 5, [1,206,1,11], .null), (.ireturn, 8, [3], .null), (.iload_n 1, 9, [1], .null), (.iconst 1, 10, [], .int 1), (.if_icmp .ne 8, 11, [11], .null), (.aload_n 0, 14, [0], .null), (.invokevirtual 301, 15, [1,207,1,11], .null), (.ireturn, 18, [3], .null), (.iload_n 1, 19, [1], .null), (.iconst 2, 20, [], .int 2), (.if_icmp .ne 8, 21, [17], .null), (.aload_n 0, 24, [0], .null), (.invokevirtual 304, 25, [1,208,1,11], .null), (.ireturn, 28, [3], .null), (.iload_n 1, 29, [1], .null), (.iconst 3, 30, [], .int 3), (.if_icmp .ne 36, 31, [39], .null), (.aload_n 0, 34, [0], .null), (.sipush 1070, 35, [], .int 1070), (.sipush 1470, 38, [], .int 1470), (.iconst 0, 41, [], .int 0), (.invokevirtual 307, 42, [1,209,4,11], .null), (.istore_n 2, 45, [2], .null), (.aload_n 0, 46, [0], .null), (.getfield 7, 47, [0,2,11], .null), (.sipush 1069, 50, [], .int 1069), (.iload_n 2, 53, [2], .null), (.i2l, 54, [], .null), (.lastore, 55, [], .null), (.iload_n 2, 56, [2], .null), (.iconst (-1), 57, [], .int (-1)), (.if_icmp .eq 7, 58, [37], .null), (.iconst 1, 61, [], .int 1), (.goto 4, 62, [38], .null), (.iconst 0, 65, [], .int 0), (.ireturn, 66, [3], .null), (.aload_n 0, 67, [0], .null), (.invokevirtual 157, 68, [1,216,1,11], .null), (.ifCond .ne 5, 71, [44], .null), (.iconst 0, 74, [], .int 0), (.ireturn, 75, [3], .null), (.aload_n 0, 76, [0], .null), (.invokevirtual 161, 77, [1,217,1,11], .null), (.iconst 1, 80, [], .int 1), (.ireturn, 81, [3], .null)]
/-- TermDrawModel.tries()V -/
abbrev mi_M_tries : Nat := 219
def mm_k219 : List mm_Ins := [(.aload_n 0, 0, [0], .null), (.invokevirtual 154, 1, [1,200,1,11], .null), (.iconst 0, 4, [], .int 0), (.istore_n 1, 5, [1], .null), (.iload_n 1, 6, [1], .null), (.sipush 1906, 7, [], .int 1906), (.if_icmp .ge 21, 10, [17], .null), (.aload_n 0, 13, [0], .null), (.getfield 16, 14, [3,2,11], .null), (.iload_n 1, 17, [1], .null), (.aload_n 0, 18, [0], .null), (.getfield 7, 19, [0,2,11], .null), (.iload_n 1, 22, [1], .null), (.laload, 23, [], .null), (.lastore, 24, [], .null), (.iinc 1 1, 25, [1], .int 1), (.goto (-22), 28, [4], .null), (.return_, 31, [0], .null)]
/-- TermDrawModel.ends(Z)Z -/
abbrev mi_M_ends : Nat := 220
def mm_k220 : List mm_Ins := [(.aload_n 0, 0, [0], .null), (.iconst 0, 1, [], .int 0), (.putfield 151, 2, [5,0,0,11], .null), (.aload_n 0, 5, [0], .null), (.aload_n 0, 6, [0], .null), (.getfield 211, 7, [7,0,11], .null), (.putfield 311, 10, [9,0,0,11], .null), (.aload_n 0, 13, [0], .null), (.aload_n 0, 14, [0], .null), (.getfield 214, 15, [8,0,11], .null), (.putfield 23, 18, [10,0,0,11], .null), (.iload_n 1, 21, [1], .null), (.ifCond .eq 48, 22, [40], .null), (.iconst 0, 25, [], .int 0), (.istore_n 2, 26, [2], .null), (.iload_n 2, 27, [2], .null), (.sipush 1906, 28, [], .int 1906), (.if_icmp .ge 35, 31, [38], .null), (.aload_n 0, 34, [0], .null), (.getfield 7, 35, [0,2,11], .null), (.iload_n 2, 38, [2], .null), (.laload, 39, [], .null), (.lstore_n 3, 40, [3], .null), (.aload_n 0, 41, [0], .null), (.getfield 7, 42, [0,2,11], .null), (.iload_n 2, 45, [2], .null), (.aload_n 0, 46, [0], .null), (.getfield 16, 47, [3,2,11], .null), (.iload_n 2, 50, [2], .null), (.laload, 51, [], .null), (.lastore, 52, [], .null), (.aload_n 0, 53, [0], .null), (.getfield 16, 54, [3,2,11], .null), (.iload_n 2, 57, [2], .null), (.lload_n 3, 58, [3], .null), (.lastore, 59, [], .null), (.iinc 2 1, 60, [2], .int 1), (.goto (-36), 63, [15], .null), (.aload_n 0, 66, [0], .null), (.invokevirtual 314, 67, [1,185,1,11], .null), (.iconst 0, 70, [], .int 0), (.istore_n 2, 71, [2], .null), (.iload_n 2, 72, [2], .null), (.sipush 1906, 73, [], .int 1906), (.if_icmp .ge 21, 76, [55], .null), (.aload_n 0, 79, [0], .null), (.getfield 7, 80, [0,2,11], .null), (.iload_n 2, 83, [2], .null), (.aload_n 0, 84, [0], .null), (.getfield 16, 85, [3,2,11], .null), (.iload_n 2, 88, [2], .null), (.laload, 89, [], .null), (.lastore, 90, [], .null), (.iinc 2 1, 91, [2], .int 1), (.goto (-22), 94, [42], .null), (.iload_n 1, 97, [1], .null), (.ireturn, 98, [3], .null)]
/-- TermDrawModel.refuses()I -/
abbrev mi_M_refuses : Nat := 221
def mm_k221 : List mm_Ins := [(.aload_n 0, 0, [0], .null), (.iconst 0, 1, [], .int 0), (.putfield 151, 2, [5,0,0,11], .null), (.aload_n 0, 5, [0], .null), (.iconst 0, 6, [], .int 0), (.putfield 311, 7, [9,0,0,11], .null), (.aload_n 0, 10, [0], .null), (.iconst (-1), 11, [], .int (-1)), (.putfield 23, 12, [10,0,0,11], .null), (.bipush (-2), 15, [], .int (-2)), (.ireturn, 17, [1], .null)]
/-- TermDrawModel.text(I)I -/
abbrev mi_M_text : Nat := 222
def mm_k222 : List mm_Ins := [(.iload_n 1, 0, [1], .null), (.i2l, 1, [], .null), (.lconst 0, 2, [], .long 0), (.ldc2_w 317, 3, [], .long 4), (.invokestatic 204, 6, [0,181,3], .null), (.ifCond .ne 8, 9, [9], .null), (.aload_n 0, 12, [0], .null), (.invokevirtual 319, 13, [1,221,1,11], .null), (.ireturn, 16, [1], .null), (.aload_n 0, 17, [0], .null), (.invokevirtual 322, 18, [1,219,1,11], .null), (.aload_n 0, 21, [0], .null), (.aload_n 0, 22, [0], .null), (.iload_n 1, 23, [1], .null), (.invokevirtual 325, 24, [1,218,2,11], .null), (.invokevirtual 328, 27, [1,220,2,11], .null), (.ifCond .ne 5, 30, [19], .null), (.iconst (-1), 33, [], .int (-1)), (.ireturn, 34, [1], .null), (.aload_n 0, 35, [0], .null), (.getfield 7, 36, [0,2,11], .null), (.iload_n 1, 39, [1], .null), (.ifCond .ne 7, 40, [25], .null), (.iconst 0, 43, [], .int 0), (.goto 39, 44, [41], .null), (.iload_n 1, 47, [1], .null), (.iconst 1, 48, [], .int 1), (.if_icmp .ne 9, 49, [30], .null), (.sipush 161, 52, [], .int 161), (.goto 28, 55, [41], .null), (.iload_n 1, 58, [1], .null), (.iconst 2, 59, [], .int 2), (.if_icmp .ne 9, 60, [35], .null), (.sipush 178, 63, [], .int 178), (.goto 17, 66, [41], .null), (.iload_n 1, 69, [1], .null), (.iconst 3, 70, [], .int 3), (.if_icmp .ne 9, 71, [40], .null), (.sipush 1069, 74, [], .int 1069), (.goto 6, 77, [41], .null), (.sipush 1870, 80, [], .int 1870), (.laload, 83, [], .null), (.l2i, 84, [], .null), (.ireturn, 85, [1], .null)]
/-- TermDrawModel.wordsOf()I -/
abbrev mi_M_wordsOf : Nat := 223
def mm_k223 : List mm_Ins := [(.aload_n 0, 0, [0], .null), (.getfield 7, 1, [0,2,11], .null), (.sipush 260, 4, [], .int 260), (.aload_n 0, 7, [0], .null), (.getfield 7, 8, [0,2,11], .null), (.sipush 259, 11, [], .int 259), (.laload, 14, [], .null), (.l2i, 15, [], .null), (.iadd, 16, [], .null), (.laload, 17, [], .null), (.l2i, 18, [], .null), (.ireturn, 19, [1], .null)]
/-- TermDrawModel.doc()I -/
abbrev mi_M_doc : Nat := 224
def mm_k224 : List mm_Ins := [(.aload_n 0, 0, [0], .null), (.getfield 7, 1, [0,2,11], .null), (.sipush 259, 4, [], .int 259), (.laload, 7, [], .null), (.ldc2_w 252, 8, [], .long 8), (.lcmp, 11, [1,9], .null), (.aload_n 0, 15, [0], .null), (.invokevirtual 319, 16, [1,221,1,11], .null), (.ireturn, 19, [1], .null), (.aload_n 0, 20, [0], .null), (.invokevirtual 322, 21, [1,219,1,11], .null), (.aload_n 0, 24, [0], .null), (.sipush 269, 25, [], .int 269), (.sipush 669, 28, [], .int 669), (.aload_n 0, 31, [0], .null), (.invokevirtual 332, 32, [1,223,1,11], .null), (.invokevirtual 307, 35, [1,209,4,11], .null), (.istore_n 1, 38, [1], .null), (.aload_n 0, 39, [0], .null), (.getfield 7, 40, [0,2,11], .null), (.sipush 259, 43, [], .int 259), (.dup2, 46, [], .null), (.laload, 47, [], .null), (.lconst 1, 48, [], .long 1), (.ladd, 49, [], .null), (.lastore, 50, [], .null), (.aload_n 0, 51, [0], .null), (.getfield 7, 52, [0,2,11], .null), (.sipush 260, 55, [], .int 260), (.aload_n 0, 58, [0], .null), (.getfield 7, 59, [0,2,11], .null), (.sipush 259, 62, [], .int 259), (.laload, 65, [], .null), (.l2i, 66, [], .null), (.iadd, 67, [], .null), (.iload_n 1, 68, [1], .null), (.i2l, 69, [], .null), (.lastore, 70, [], .null), (.aload_n 0, 71, [0], .null), (.iload_n 1, 72, [1], .null), (.iconst (-1), 73, [], .int (-1)), (.if_icmp .eq 7, 74, [44], .null), (.iconst 1, 77, [], .int 1), (.goto 4, 78, [45], .null), (.iconst 0, 81, [], .int 0), (.invokevirtual 328, 82, [1,220,2,11], .null), (.ifCond .ne 5, 85, [49], .null), (.iconst (-1), 88, [], .int (-1)), (.ireturn, 89, [1], .null), (.aload_n 0, 90, [0], .null), (.getfield 7, 91, [0,2,11], .null), (.sipush 259, 94, [], .int 259), (.laload, 97, [], .null), (.l2i, 98, [], .null), (.iconst 1, 99, [], .int 1), (.isub, 100, [], .null), (.ireturn, 101, [1], .null)]
/-- TermDrawModel.isDoc(I)Z -/
abbrev mi_M_isDoc : Nat := 225
def mm_k225 : List mm_Ins := [(.iload_n 1, 0, [1], .null), (.i2l, 1, [], .null), (.lconst 0, 2, [], .long 0), (.aload_n 0, 3, [0], .null), (.getfield 7, 4, [0,2,11], .null), (.sipush 259, 7, [], .int 259), (.laload, 10, [], .null), (.lconst 1, 11, [], .long 1), (.lsub, 12, [], .null), (.invokestatic 204, 13, [0,181,3], .null), (.ireturn, 16, [3], .null)]
/-- TermDrawModel.drop(I)I -/
abbrev mi_M_drop : Nat := 226
def mm_k226 : List mm_Ins := [(.aload_n 0, 0, [0], .null), (.iload_n 1, 1, [1], .null), (.invokevirtual 335, 2, [1,225,2,11], .null), (.ifCond .ne 5, 5, [6], .null), (.iconst (-1), 8, [], .int (-1)), (.ireturn, 9, [1], .null), (.aload_n 0, 10, [0], .null), (.invokevirtual 314, 11, [1,185,1,11], .null), (.aload_n 0, 14, [0], .null), (.getfield 7, 15, [0,2,11], .null), (.sipush 260, 18, [], .int 260), (.iload_n 1, 21, [1], .null), (.iadd, 22, [], .null), (.laload, 23, [], .null), (.l2i, 24, [], .null), (.istore_n 2, 25, [2], .null), (.aload_n 0, 26, [0], .null), (.getfield 7, 27, [0,2,11], .null), (.sipush 260, 30, [], .int 260), (.iload_n 1, 33, [1], .null), (.iadd, 34, [], .null), (.iconst 1, 35, [], .int 1), (.iadd, 36, [], .null), (.laload, 37, [], .null), (.l2i, 38, [], .null), (.iload_n 2, 39, [2], .null), (.isub, 40, [], .null), (.istore_n 3, 41, [3], .null), (.aload_n 0, 42, [0], .null), (.invokevirtual 332, 43, [1,223,1,11], .null), (.istore 4, 46, [4], .null), (.iload_n 2, 48, [2], .null), (.istore 5, 49, [5], .null), (.iload 5, 51, [5], .null), (.iload_n 3, 53, [3], .null), (.iadd, 54, [], .null), (.iload 4, 55, [4], .null), (.if_icmp .ge 57, 57, [68], .null), (.aload_n 0, 60, [0], .null), (.getfield 7, 61, [0,2,11], .null), (.sipush 269, 64, [], .int 269), (.iload 5, 67, [5], .null), (.iadd, 69, [], .null), (.aload_n 0, 70, [0], .null), (.getfield 7, 71, [0,2,11], .null), (.sipush 269, 74, [], .int 269), (.iload 5, 77, [5], .null), (.iadd, 79, [], .null), (.iload_n 3, 80, [3], .null), (.iadd, 81, [], .null), (.laload, 82, [], .null), (.lastore, 83, [], .null), (.aload_n 0, 84, [0], .null), (.getfield 7, 85, [0,2,11], .null), (.sipush 669, 88, [], .int 669), (.iload 5, 91, [5], .null), (.iadd, 93, [], .null), (.aload_n 0, 94, [0], .null), (.getfield 7, 95, [0,2,11], .null), (.sipush 669, 98, [], .int 669), (.iload 5, 101, [5], .null), (.iadd, 103, [], .null), (.iload_n 3, 104, [3], .null), (.iadd, 105, [], .null), (.laload, 106, [], .null), (.lastore, 107, [], .null), (.iinc 5 1, 108, [5], .int 1), (.goto (-60), 111, [33], .null), (.iload_n 1, 114, [1], .null), (.istore 5, 115, [5], .null), (.iload 5, 117, [5], .null), (.i2l, 119, [], .null), (.aload_n 0, 120, [0], .null), (.getfield 7, 121, [0,2,11], .null), (.sipush 259, 124, [], .int 259), (.laload, 127, [], .null), (.lcmp, 128, [3,107], .null), (.aload_n 0, 132, [0], .null), (.getfield 7, 133, [0,2,11], .null), (.sipush 260, 136, [], .int 260), (.iload 5, 139, [5], .null), (.iadd, 141, [], .null), (.iload 5, 142, [5], .null), (.iconst 1, 144, [], .int 1), (.iadd, 145, [], .null), (.i2l, 146, [], .null), (.aload_n 0, 147, [0], .null), (.getfield 7, 148, [0,2,11], .null), (.sipush 259, 151, [], .int 259), (.laload, 154, [], .null), (.lcmp, 155, [4,103], .null), (.aload_n 0, 159, [0], .null), (.getfield 7, 160, [0,2,11], .null), (.sipush 260, 163, [], .int 260), (.iload 5, 166, [5], .null), (.iadd, 168, [], .null), (.iconst 1, 169, [], .int 1), (.iadd, 170, [], .null), (.laload, 171, [], .null), (.iload_n 3, 172, [3], .null), (.i2l, 173, [], .null), (.lsub, 174, [], .null), (.goto 4, 175, [104], .null), (.lconst 0, 178, [], .long 0), (.lastore, 179, [], .null), (.iinc 5 1, 180, [5], .int 1), (.goto (-66), 183, [70], .null), (.aload_n 0, 186, [0], .null), (.getfield 7, 187, [0,2,11], .null), (.sipush 259, 190, [], .int 259), (.dup2, 193, [], .null), (.laload, 194, [], .null), (.lconst 1, 195, [], .long 1), (.lsub, 196, [], .null), (.lastore, 197, [], .null), (.aload_n 0, 198, [0], .null), (.getfield 7, 199, [0,2,11], .null), (.sipush 259, 202, [], .int 259), (.laload, 205, [], .null), (.l2i, 206, [], .null), (.ireturn, 207, [1], .null)]
/-- TermDrawModel.fault(I)I -/
abbrev mi_M_fault : Nat := 227
def mm_k227 : List mm_Ins := [(.iload_n 1, 0, [1], .null), (.ifCond .ne 10, 1, [5], .null), (.aload_n 0, 4, [0], .null), (.getfield 311, 5, [9,0,11], .null), (.goto 16, 8, [12], .null), (.iload_n 1, 11, [1], .null), (.iconst 1, 12, [], .int 1), (.if_icmp .ne 10, 13, [11], .null), (.aload_n 0, 16, [0], .null), (.getfield 23, 17, [10,0,11], .null), (.goto 4, 20, [12], .null), (.iconst (-1), 23, [], .int (-1)), (.ireturn, 24, [1], .null)]
/-- TermDrawModel.lengths(II)Z -/
abbrev mi_M_lengths : Nat := 228
def mm_k228 : List mm_Ins := [(.iload_n 1, 0, [1], .null), (.i2l, 1, [], .null), (.lconst 1, 2, [], .long 1), (.ldc2_w 141, 3, [], .long 5), (.invokestatic 204, 6, [0,181,3], .null), (.ifCond .eq 44, 9, [27], .null), (.iload_n 2, 12, [2], .null), (.i2l, 13, [], .null), (.iload_n 1, 14, [1], .null), (.i2l, 15, [], .null), (.ldc2_w 141, 16, [], .long 5), (.invokestatic 204, 19, [0,181,3], .null), (.ifCond .eq 31, 22, [27], .null), (.aload_n 0, 25, [0], .null), (.getfield 7, 26, [0,2,11], .null), (.sipush 1898, 29, [], .int 1898), (.laload, 32, [], .null), (.iload_n 1, 33, [1], .null), (.i2l, 34, [], .null), (.lcmp, 35, [1,29], .null), (.aload_n 0, 39, [0], .null), (.getfield 7, 40, [0,2,11], .null), (.sipush 1899, 43, [], .int 1899), (.laload, 46, [], .null), (.iload_n 2, 47, [2], .null), (.i2l, 48, [], .null), (.lcmp, 49, [1,29], .null), (.iconst 0, 53, [], .int 0), (.ireturn, 54, [3], .null), (.aload_n 0, 55, [0], .null), (.invokevirtual 314, 56, [1,185,1,11], .null), (.aload_n 0, 59, [0], .null), (.getfield 7, 60, [0,2,11], .null), (.sipush 1898, 63, [], .int 1898), (.iload_n 1, 66, [1], .null), (.i2l, 67, [], .null), (.lastore, 68, [], .null), (.aload_n 0, 69, [0], .null), (.getfield 7, 70, [0,2,11], .null), (.sipush 1899, 73, [], .int 1899), (.iload_n 2, 76, [2], .null), (.i2l, 77, [], .null), (.lastore, 78, [], .null), (.iconst 1, 79, [], .int 1), (.ireturn, 80, [3], .null)]
/-- TermDrawModel.weight(II)Z -/
abbrev mi_M_weight : Nat := 229
def mm_k229 : List mm_Ins := [(.iload_n 1, 0, [1], .null), (.i2l, 1, [], .null), (.lconst 1, 2, [], .long 1), (.ldc2_w 141, 3, [], .long 5), (.invokestatic 204, 6, [0,181,3], .null), (.ifCond .eq 31, 9, [21], .null), (.iload_n 2, 12, [2], .null), (.i2l, 13, [], .null), (.lconst 0, 14, [], .long 0), (.ldc2_w 338, 15, [], .long 9), (.invokestatic 204, 18, [0,181,3], .null), (.ifCond .eq 19, 21, [21], .null), (.aload_n 0, 24, [0], .null), (.getfield 7, 25, [0,2,11], .null), (.sipush 1900, 28, [], .int 1900), (.iload_n 1, 31, [1], .null), (.iadd, 32, [], .null), (.laload, 33, [], .null), (.iload_n 2, 34, [2], .null), (.i2l, 35, [], .null), (.lcmp, 36, [1,23], .null), (.iconst 0, 40, [], .int 0), (.ireturn, 41, [3], .null), (.aload_n 0, 42, [0], .null), (.invokevirtual 314, 43, [1,185,1,11], .null), (.aload_n 0, 46, [0], .null), (.getfield 7, 47, [0,2,11], .null), (.sipush 1900, 50, [], .int 1900), (.iload_n 1, 53, [1], .null), (.iadd, 54, [], .null), (.iload_n 2, 55, [2], .null), (.i2l, 56, [], .null), (.lastore, 57, [], .null), (.iconst 1, 58, [], .int 1), (.ireturn, 59, [3], .null)]
/-- TermDrawModel.wide(I)Z -/
abbrev mi_M_wide : Nat := 230
def mm_k230 : List mm_Ins := [(.iload_n 1, 0, [1], .null), (.i2l, 1, [], .null), (.lconst 0, 2, [], .long 0), (.ldc2_w 340, 3, [], .long 3), (.invokestatic 204, 6, [0,181,3], .null), (.ifCond .eq 17, 9, [13], .null), (.aload_n 0, 12, [0], .null), (.getfield 7, 13, [0,2,11], .null), (.sipush 1900, 16, [], .int 1900), (.laload, 19, [], .null), (.iload_n 1, 20, [1], .null), (.i2l, 21, [], .null), (.lcmp, 22, [1,15], .null), (.iconst 0, 26, [], .int 0), (.ireturn, 27, [3], .null), (.aload_n 0, 28, [0], .null), (.invokevirtual 314, 29, [1,185,1,11], .null), (.aload_n 0, 32, [0], .null), (.getfield 7, 33, [0,2,11], .null), (.sipush 1900, 36, [], .int 1900), (.iload_n 1, 39, [1], .null), (.i2l, 40, [], .null), (.lastore, 41, [], .null), (.iconst 1, 42, [], .int 1), (.ireturn, 43, [3], .null)]
/-- TermDrawModel.isSentence(II)Z -/
abbrev mi_M_isSentence : Nat := 231
def mm_k231 : List mm_Ins := [(.aload_n 0, 0, [0], .null), (.getfield 39, 1, [24,2,11], .null), (.iload_n 1, 4, [1], .null), (.iaload, 5, [], .null), (.aload_n 0, 6, [0], .null), (.getfield 39, 7, [24,2,11], .null), (.iload_n 2, 10, [2], .null), (.iaload, 11, [], .null), (.if_icmp .ne 31, 12, [24], .null), (.aload_n 0, 15, [0], .null), (.getfield 7, 16, [0,2,11], .null), (.sipush 669, 19, [], .int 669), (.iload_n 1, 22, [1], .null), (.iadd, 23, [], .null), (.laload, 24, [], .null), (.aload_n 0, 25, [0], .null), (.getfield 7, 26, [0,2,11], .null), (.sipush 669, 29, [], .int 669), (.iload_n 2, 32, [2], .null), (.iadd, 33, [], .null), (.laload, 34, [], .null), (.lcmp, 35, [1,24], .null), (.iconst 1, 39, [], .int 1), (.goto 4, 40, [25], .null), (.iconst 0, 43, [], .int 0), (.ireturn, 44, [3], .null)]
/-- TermDrawModel.isPattern(II)Z -/
abbrev mi_M_isPattern : Nat := 232
def mm_k232 : List mm_Ins := [(.aload_n 0, 0, [0], .null), (.getfield 7, 1, [0,2,11], .null), (.sipush 1895, 4, [], .int 1895), (.laload, 7, [], .null), (.lstore_n 3, 8, [3], .null), (.lconst 0, 9, [], .long 0), (.lstore 5, 10, [5], .null), (.iconst 0, 12, [], .int 0), (.istore 7, 13, [7], .null), (.iload 7, 15, [7], .null), (.iload_n 2, 17, [2], .null), (.if_icmp .ge 147, 18, [85], .null), (.lconst 0, 21, [], .long 0), (.lstore 5, 22, [5], .null), (.iconst 0, 24, [], .int 0), (.istore 8, 25, [8], .null), (.iload 8, 27, [8], .null), (.i2l, 29, [], .null), (.aload_n 0, 30, [0], .null), (.getfield 7, 31, [0,2,11], .null), (.sipush 1870, 34, [], .int 1870), (.laload, 37, [], .null), (.lcmp, 38, [3,57], .null), (.lload_n 3, 42, [3], .null), (.iload 8, 43, [8], .null), (.invokestatic 274, 45, [0,183,2], .null), (.ifCond .eq 55, 48, [55], .null), (.aload_n 0, 51, [0], .null), (.getfield 7, 52, [0,2,11], .null), (.sipush 1871, 55, [], .int 1871), (.iload 8, 58, [8], .null), (.iadd, 60, [], .null), (.laload, 61, [], .null), (.ldc2_w 342, 62, [], .long 7), (.lcmp, 65, [0,49], .null), (.aload_n 0, 69, [0], .null), (.getfield 7, 70, [0,2,11], .null), (.sipush 1871, 73, [], .int 1871), (.iload 8, 76, [8], .null), (.iadd, 78, [], .null), (.laload, 79, [], .null), (.aload_n 0, 80, [0], .null), (.getfield 36, 81, [23,2,11], .null), (.iload_n 1, 84, [1], .null), (.iload 7, 85, [7], .null), (.iadd, 87, [], .null), (.iaload, 88, [], .null), (.i2l, 89, [], .null), (.lcmp, 90, [1,55], .null), (.lload 5, 94, [5], .null), (.lconst 1, 96, [], .long 1), (.iload 8, 97, [8], .null), (.lshl, 99, [], .null), (.lor, 100, [], .null), (.lstore 5, 101, [5], .null), (.iinc 8 1, 103, [8], .int 1), (.goto (-79), 106, [16], .null), (.lconst 0, 109, [], .long 0), (.lstore_n 3, 110, [3], .null), (.iconst 0, 111, [], .int 0), (.istore 8, 112, [8], .null), (.iload 8, 114, [8], .null), (.i2l, 116, [], .null), (.aload_n 0, 117, [0], .null), (.getfield 7, 118, [0,2,11], .null), (.sipush 1870, 121, [], .int 1870), (.laload, 124, [], .null), (.lcmp, 125, [3,83], .null), (.lload 5, 129, [5], .null), (.iload 8, 131, [8], .null), (.invokestatic 274, 133, [0,183,2], .null), (.ifCond .eq 17, 136, [81], .null), (.lload_n 3, 139, [3], .null), (.aload_n 0, 140, [0], .null), (.getfield 7, 141, [0,2,11], .null), (.sipush 1883, 144, [], .int 1883), (.iload 8, 147, [8], .null), (.iadd, 149, [], .null), (.laload, 150, [], .null), (.lor, 151, [], .null), (.lstore_n 3, 152, [3], .null), (.iinc 8 1, 153, [8], .int 1), (.goto (-42), 156, [61], .null), (.iinc 7 1, 159, [7], .int 1), (.goto (-147), 162, [9], .null), (.lload 5, 165, [5], .null), (.aload_n 0, 167, [0], .null), (.getfield 7, 168, [0,2,11], .null), (.sipush 1896, 171, [], .int 1896), (.laload, 174, [], .null), (.land, 175, [], .null), (.lconst 0, 176, [], .long 0), (.lcmp, 177, [0,95], .null), (.iconst 1, 181, [], .int 1), (.goto 4, 182, [96], .null), (.iconst 0, 185, [], .int 0), (.ireturn, 186, [3], .null)]
/-- TermDrawModel.beside([JIII)I -/
abbrev mi_M_beside : Nat := 233
def mm_k233 : List mm_Ins := [(.iconst 0, 0, [], .int 0), (.istore 5, 1, [5], .null), (.iload 5, 3, [5], .null), (.iload_n 3, 5, [3], .null), (.if_icmp .ge 65, 6, [39], .null), (.iload 5, 9, [5], .null), (.aload_n 0, 11, [0], .null), (.getfield 64, 12, [34,2,11], .null), (.iload 4, 15, [4], .null), (.iaload, 17, [], .null), (.if_icmp .ge 53, 18, [39], .null), (.aload_n 1, 21, [1], .null), (.iload_n 2, 22, [2], .null), (.iload 5, 23, [5], .null), (.iadd, 25, [], .null), (.laload, 26, [], .null), (.aload_n 0, 27, [0], .null), (.getfield 33, 28, [22,2,11], .null), (.aload_n 0, 31, [0], .null), (.getfield 61, 32, [33,2,11], .null), (.iload 4, 35, [4], .null), (.iaload, 37, [], .null), (.iload 5, 38, [5], .null), (.iadd, 40, [], .null), (.laload, 41, [], .null), (.lsub, 42, [], .null), (.lstore 6, 43, [6], .null), (.lload 6, 45, [6], .null), (.lconst 0, 47, [], .long 0), (.lcmp, 48, [0,37], .null), (.lload 6, 52, [6], .null), (.lconst 0, 54, [], .long 0), (.lcmp, 55, [3,35], .null), (.iconst (-1), 59, [], .int (-1)), (.goto 4, 60, [36], .null), (.iconst 1, 63, [], .int 1), (.ireturn, 64, [1], .null), (.iinc 5 1, 65, [5], .int 1), (.goto (-65), 68, [2], .null), (.iload_n 3, 71, [3], .null), (.aload_n 0, 72, [0], .null), (.getfield 64, 73, [34,2,11], .null), (.iload 4, 76, [4], .null), (.iaload, 78, [], .null), (.isub, 79, [], .null), (.ireturn, 80, [1], .null)]
/-- TermDrawModel.placeOf([JII)I -/
abbrev mi_M_placeOf : Nat := 234
def mm_k234 : List mm_Ins := [(.iconst 0, 0, [], .int 0), (.istore 4, 1, [4], .null), (.aload_n 0, 3, [0], .null), (.getfield 344, 4, [32,0,11], .null), (.istore 5, 7, [5], .null), (.iload 4, 9, [4], .null), (.iload 5, 11, [5], .null), (.if_icmp .ge 40, 13, [29], .null), (.iload 4, 16, [4], .null), (.iload 5, 18, [5], .null), (.iadd, 20, [], .null), (.iconst 1, 21, [], .int 1), (.ishr, 22, [], .null), (.istore 6, 23, [6], .null), (.aload_n 0, 25, [0], .null), (.aload_n 1, 26, [1], .null), (.iload_n 2, 27, [2], .null), (.iload_n 3, 28, [3], .null), (.iload 6, 29, [6], .null), (.invokevirtual 347, 31, [1,233,5,11], .null), (.ifCond .le 12, 34, [26], .null), (.iload 6, 37, [6], .null), (.iconst 1, 39, [], .int 1), (.iadd, 40, [], .null), (.istore 4, 41, [4], .null), (.goto 7, 43, [28], .null), (.iload 6, 46, [6], .null), (.istore 5, 48, [5], .null), (.goto (-41), 50, [5], .null), (.iload 4, 53, [4], .null), (.ireturn, 55, [1], .null)]
/-- TermDrawModel.comes(II)V -/
abbrev mi_M_comes : Nat := 235
def mm_k235 : List mm_Ins := [(.aload_n 0, 0, [0], .null), (.aload_n 0, 1, [0], .null), (.getfield 33, 2, [22,2,11], .null), (.iload_n 1, 5, [1], .null), (.iload_n 2, 6, [2], .null), (.invokevirtual 351, 7, [1,234,4,11], .null), (.istore_n 3, 10, [3], .null), (.iload_n 3, 11, [3], .null), (.aload_n 0, 12, [0], .null), (.getfield 344, 13, [32,0,11], .null), (.if_icmp .eq 17, 16, [19], .null), (.aload_n 0, 19, [0], .null), (.aload_n 0, 20, [0], .null), (.getfield 33, 21, [22,2,11], .null), (.iload_n 1, 24, [1], .null), (.iload_n 2, 25, [2], .null), (.iload_n 3, 26, [3], .null), (.invokevirtual 347, 27, [1,233,5,11], .null), (.ifCond .eq 77, 30, [63], .null), (.aload_n 0, 33, [0], .null), (.getfield 344, 34, [32,0,11], .null), (.istore 4, 37, [4], .null), (.iload 4, 39, [4], .null), (.iload_n 3, 41, [3], .null), (.if_icmp .le 41, 42, [47], .null), (.aload_n 0, 45, [0], .null), (.getfield 61, 46, [33,2,11], .null), (.iload 4, 49, [4], .null), (.aload_n 0, 51, [0], .null), (.getfield 61, 52, [33,2,11], .null), (.iload 4, 55, [4], .null), (.iconst 1, 57, [], .int 1), (.isub, 58, [], .null), (.iaload, 59, [], .null), (.iastore, 60, [], .null), (.aload_n 0, 61, [0], .null), (.getfield 64, 62, [34,2,11], .null), (.iload 4, 65, [4], .null), (.aload_n 0, 67, [0], .null), (.getfield 64, 68, [34,2,11], .null), (.iload 4, 71, [4], .null), (.iconst 1, 73, [], .int 1), (.isub, 74, [], .null), (.iaload, 75, [], .null), (.iastore, 76, [], .null), (.iinc 4 (-1), 77, [4], .int (-1)), (.goto (-41), 80, [22], .null), (.aload_n 0, 83, [0], .null), (.getfield 61, 84, [33,2,11], .null), (.iload_n 3, 87, [3], .null), (.iload_n 1, 88, [1], .null), (.iastore, 89, [], .null), (.aload_n 0, 90, [0], .null), (.getfield 64, 91, [34,2,11], .null), (.iload_n 3, 94, [3], .null), (.iload_n 2, 95, [2], .null), (.iastore, 96, [], .null), (.aload_n 0, 97, [0], .null), (.dup, 98, [], .null), (.getfield 344, 99, [32,0,11], .null), (.iconst 1, 102, [], .int 1), (.iadd, 103, [], .null), (.putfield 344, 104, [32,0,0,11], .null), (.aload_n 0, 107, [0], .null), (.getfield 45, 108, [27,2,11], .null), (.aload_n 0, 111, [0], .null), (.getfield 355, 112, [26,0,11], .null), (.iload_n 1, 115, [1], .null), (.iastore, 116, [], .null), (.aload_n 0, 117, [0], .null), (.getfield 48, 118, [28,2,11], .null), (.aload_n 0, 121, [0], .null), (.getfield 355, 122, [26,0,11], .null), (.iload_n 2, 125, [2], .null), (.iastore, 126, [], .null), (.aload_n 0, 127, [0], .null), (.getfield 58, 128, [31,2,11], .null), (.bipush 6, 131, [], .int 6), (.iload_n 1, 133, [1], .null), (.imul, 134, [], .null), (.iload_n 2, 135, [2], .null), (.iadd, 136, [], .null), (.iconst 1, 137, [], .int 1), (.bastore, 138, [], .null), (.aload_n 0, 139, [0], .null), (.dup, 140, [], .null), (.getfield 355, 141, [26,0,11], .null), (.iconst 1, 144, [], .int 1), (.iadd, 145, [], .null), (.putfield 355, 146, [26,0,0,11], .null), (.return_, 149, [0], .null)]
/-- TermDrawModel.isInLonger(II)Z -/
abbrev mi_M_isInLonger : Nat := 236
def mm_k236 : List mm_Ins := [(.iload_n 2, 0, [2], .null), (.iconst 1, 1, [], .int 1), (.iadd, 2, [], .null), (.istore_n 3, 3, [3], .null), (.iload_n 3, 4, [3], .null), (.iconst 5, 5, [], .int 5), (.if_icmp .gt 49, 6, [33], .null), (.iconst 0, 9, [], .int 0), (.iload_n 1, 10, [1], .null), (.iload_n 2, 11, [2], .null), (.iadd, 12, [], .null), (.iload_n 3, 13, [3], .null), (.isub, 14, [], .null), (.invokestatic 358, 15, [0,291,2], .null), (.istore 4, 18, [4], .null), (.iload 4, 20, [4], .null), (.iload_n 1, 22, [1], .null), (.if_icmp .gt 26, 23, [31], .null), (.aload_n 0, 26, [0], .null), (.getfield 58, 27, [31,2,11], .null), (.bipush 6, 30, [], .int 6), (.iload 4, 32, [4], .null), (.imul, 34, [], .null), (.iload_n 3, 35, [3], .null), (.iadd, 36, [], .null), (.baload, 37, [], .null), (.ifCond .eq 5, 38, [29], .null), (.iconst 1, 41, [], .int 1), (.ireturn, 42, [3], .null), (.iinc 4 1, 43, [4], .int 1), (.goto (-26), 46, [15], .null), (.iinc 3 1, 49, [3], .int 1), (.goto (-48), 52, [4], .null), (.iconst 0, 55, [], .int 0), (.ireturn, 56, [3], .null)]
/-- TermDrawModel.layWords()V -/
abbrev mi_M_layWords : Nat := 237
def mm_k237 : List mm_Ins := [(.aload_n 0, 0, [0], .null), (.aload_n 0, 1, [0], .null), (.invokevirtual 332, 2, [1,223,1,11], .null), (.putfield 364, 5, [21,0,0,11], .null), (.iconst 0, 8, [], .int 0), (.istore_n 1, 9, [1], .null), (.iload_n 1, 10, [1], .null), (.i2l, 11, [], .null), (.aload_n 0, 12, [0], .null), (.getfield 7, 13, [0,2,11], .null), (.sipush 259, 16, [], .int 259), (.laload, 19, [], .null), (.lcmp, 20, [3,65], .null), (.aload_n 0, 24, [0], .null), (.getfield 7, 25, [0,2,11], .null), (.sipush 260, 28, [], .int 260), (.iload_n 1, 31, [1], .null), (.iadd, 32, [], .null), (.laload, 33, [], .null), (.l2i, 34, [], .null), (.istore_n 2, 35, [2], .null), (.iload_n 2, 36, [2], .null), (.i2l, 37, [], .null), (.aload_n 0, 38, [0], .null), (.getfield 7, 39, [0,2,11], .null), (.sipush 260, 42, [], .int 260), (.iload_n 1, 45, [1], .null), (.iadd, 46, [], .null), (.iconst 1, 47, [], .int 1), (.iadd, 48, [], .null), (.laload, 49, [], .null), (.lcmp, 50, [3,63], .null), (.aload_n 0, 54, [0], .null), (.getfield 39, 55, [24,2,11], .null), (.iload_n 2, 58, [2], .null), (.iload_n 1, 59, [1], .null), (.iastore, 60, [], .null), (.aload_n 0, 61, [0], .null), (.getfield 33, 62, [22,2,11], .null), (.iload_n 2, 65, [2], .null), (.aload_n 0, 66, [0], .null), (.aload_n 0, 67, [0], .null), (.getfield 7, 68, [0,2,11], .null), (.sipush 269, 71, [], .int 269), (.iload_n 2, 74, [2], .null), (.iadd, 75, [], .null), (.laload, 76, [], .null), (.invokevirtual 197, 77, [1,193,2,11], .null), (.lastore, 80, [], .null), (.aload_n 0, 81, [0], .null), (.getfield 36, 82, [23,2,11], .null), (.iload_n 2, 85, [2], .null), (.aload_n 0, 86, [0], .null), (.aload_n 0, 87, [0], .null), (.getfield 7, 88, [0,2,11], .null), (.sipush 269, 91, [], .int 269), (.iload_n 2, 94, [2], .null), (.iadd, 95, [], .null), (.laload, 96, [], .null), (.invokevirtual 367, 97, [1,194,2,11], .null), (.iastore, 100, [], .null), (.iinc 2 1, 101, [2], .int 1), (.goto (-68), 104, [21], .null), (.iinc 1 1, 107, [1], .int 1), (.goto (-100), 110, [6], .null), (.iconst 0, 113, [], .int 0), (.istore_n 1, 114, [1], .null), (.iload_n 1, 115, [1], .null), (.i2l, 116, [], .null), (.aload_n 0, 117, [0], .null), (.getfield 7, 118, [0,2,11], .null), (.sipush 1069, 121, [], .int 1069), (.laload, 124, [], .null), (.lcmp, 125, [3,88], .null), (.aload_n 0, 129, [0], .null), (.getfield 42, 130, [25,2,11], .null), (.iload_n 1, 133, [1], .null), (.aload_n 0, 134, [0], .null), (.aload_n 0, 135, [0], .null), (.getfield 7, 136, [0,2,11], .null), (.sipush 1070, 139, [], .int 1070), (.iload_n 1, 142, [1], .null), (.iadd, 143, [], .null), (.laload, 144, [], .null), (.invokevirtual 197, 145, [1,193,2,11], .null), (.lastore, 148, [], .null), (.iinc 1 1, 149, [1], .int 1), (.goto (-37), 152, [67], .null), (.aload_n 0, 155, [0], .null), (.iconst 0, 156, [], .int 0), (.putfield 370, 157, [43,0,0,11], .null), (.iconst 0, 160, [], .int 0), (.istore_n 1, 161, [1], .null), (.iload_n 1, 162, [1], .null), (.aload_n 0, 163, [0], .null), (.getfield 364, 164, [21,0,11], .null), (.if_icmp .ge 99, 167, [152], .null), (.aload_n 0, 170, [0], .null), (.aload_n 0, 171, [0], .null), (.getfield 33, 172, [22,2,11], .null), (.iload_n 1, 175, [1], .null), (.laload, 176, [], .null), (.invokevirtual 373, 177, [1,238,2,11], .null), (.istore_n 2, 180, [2], .null), (.iload_n 2, 181, [2], .null), (.aload_n 0, 182, [0], .null), (.getfield 370, 183, [43,0,11], .null), (.if_icmp .ge 22, 186, [118], .null), (.aload_n 0, 189, [0], .null), (.getfield 88, 190, [42,2,11], .null), (.iload_n 2, 193, [2], .null), (.laload, 194, [], .null), (.aload_n 0, 195, [0], .null), (.getfield 33, 196, [22,2,11], .null), (.iload_n 1, 199, [1], .null), (.laload, 200, [], .null), (.lcmp, 201, [1,118], .null), (.goto 55, 205, [150], .null), (.aload_n 0, 208, [0], .null), (.getfield 370, 209, [43,0,11], .null), (.istore_n 3, 212, [3], .null), (.iload_n 3, 213, [3], .null), (.iload_n 2, 214, [2], .null), (.if_icmp .le 23, 215, [136], .null), (.aload_n 0, 218, [0], .null), (.getfield 88, 219, [42,2,11], .null), (.iload_n 3, 222, [3], .null), (.aload_n 0, 223, [0], .null), (.getfield 88, 224, [42,2,11], .null), (.iload_n 3, 227, [3], .null), (.iconst 1, 228, [], .int 1), (.isub, 229, [], .null), (.laload, 230, [], .null), (.lastore, 231, [], .null), (.iinc 3 (-1), 232, [3], .int (-1)), (.goto (-22), 235, [121], .null), (.aload_n 0, 238, [0], .null), (.getfield 88, 239, [42,2,11], .null), (.iload_n 2, 242, [2], .null), (.aload_n 0, 243, [0], .null), (.getfield 33, 244, [22,2,11], .null), (.iload_n 1, 247, [1], .null), (.laload, 248, [], .null), (.lastore, 249, [], .null), (.aload_n 0, 250, [0], .null), (.dup, 251, [], .null), (.getfield 370, 252, [43,0,11], .null), (.iconst 1, 255, [], .int 1), (.iadd, 256, [], .null), (.putfield 370, 257, [43,0,0,11], .null), (.iinc 1 1, 260, [1], .int 1), (.goto (-101), 263, [93], .null), (.iconst 0, 266, [], .int 0), (.istore_n 1, 267, [1], .null), (.iload_n 1, 268, [1], .null), (.aload_n 0, 269, [0], .null), (.getfield 364, 270, [21,0,11], .null), (.if_icmp .ge 25, 273, [170], .null), (.aload_n 0, 276, [0], .null), (.getfield 91, 277, [44,2,11], .null), (.iload_n 1, 280, [1], .null), (.aload_n 0, 281, [0], .null), (.aload_n 0, 282, [0], .null), (.getfield 33, 283, [22,2,11], .null), (.iload_n 1, 286, [1], .null), (.laload, 287, [], .null), (.invokevirtual 373, 288, [1,238,2,11], .null), (.iastore, 291, [], .null), (.iinc 1 1, 292, [1], .int 1), (.goto (-27), 295, [154], .null), (.return_, 298, [0], .null)]
/-- TermDrawModel.basePlace(J)I -/
abbrev mi_M_basePlace : Nat := 238
def mm_k238 : List mm_Ins := [(.iconst 0, 0, [], .int 0), (.istore_n 3, 1, [3], .null), (.aload_n 0, 2, [0], .null), (.getfield 370, 3, [43,0,11], .null), (.istore 4, 6, [4], .null), (.iload_n 3, 8, [3], .null), (.iload 4, 9, [4], .null), (.if_icmp .ge 38, 11, [28], .null), (.iload_n 3, 14, [3], .null), (.iload 4, 15, [4], .null), (.iadd, 17, [], .null), (.iconst 1, 18, [], .int 1), (.ishr, 19, [], .null), (.istore 5, 20, [5], .null), (.aload_n 0, 22, [0], .null), (.getfield 88, 23, [42,2,11], .null), (.iload 5, 26, [5], .null), (.laload, 28, [], .null), (.lload_n 1, 29, [1], .null), (.lcmp, 30, [3,25], .null), (.iload 5, 34, [5], .null), (.iconst 1, 36, [], .int 1), (.iadd, 37, [], .null), (.istore_n 3, 38, [3], .null), (.goto 7, 39, [27], .null), (.iload 5, 42, [5], .null), (.istore 4, 44, [4], .null), (.goto (-38), 46, [5], .null), (.iload_n 3, 49, [3], .null), (.ireturn, 50, [1], .null)]
/-- TermDrawModel.lays()V -/
abbrev mi_M_lays : Nat := 239
def mm_k239 : List mm_Ins := [(.aload_n 0, 0, [0], .null), (.getfield 167, 1, [20,3,11], .null), (.ifCond .eq 4, 4, [4], .null), (.return_, 7, [0], .null), (.aload_n 0, 8, [0], .null), (.iconst 1, 9, [], .int 1), (.putfield 167, 10, [20,3,0,11], .null), (.aload_n 0, 13, [0], .null), (.invokevirtual 376, 14, [1,237,1,11], .null), (.aload_n 0, 17, [0], .null), (.iconst 0, 18, [], .int 0), (.putfield 355, 19, [26,0,0,11], .null), (.aload_n 0, 22, [0], .null), (.iconst 0, 23, [], .int 0), (.putfield 344, 24, [32,0,0,11], .null), (.iconst 0, 27, [], .int 0), (.istore_n 1, 28, [1], .null), (.iload_n 1, 29, [1], .null), (.sipush 2400, 30, [], .int 2400), (.if_icmp .ge 16, 33, [27], .null), (.aload_n 0, 36, [0], .null), (.getfield 58, 37, [31,2,11], .null), (.iload_n 1, 40, [1], .null), (.iconst 0, 41, [], .int 0), (.bastore, 42, [], .null), (.iinc 1 1, 43, [1], .int 1), (.goto (-17), 46, [17], .null), (.iconst 0, 49, [], .int 0), (.istore_n 1, 50, [1], .null), (.iload_n 1, 51, [1], .null), (.aload_n 0, 52, [0], .null), (.getfield 364, 53, [21,0,11], .null), (.if_icmp .ge 83, 56, [77], .null), (.iconst 1, 59, [], .int 1), (.istore_n 2, 60, [2], .null), (.iload_n 2, 61, [2], .null), (.i2l, 62, [], .null), (.aload_n 0, 63, [0], .null), (.getfield 7, 64, [0,2,11], .null), (.sipush 1899, 67, [], .int 1899), (.laload, 70, [], .null), (.lcmp, 71, [4,75], .null), (.iload_n 1, 75, [1], .null), (.iload_n 2, 76, [2], .null), (.iadd, 77, [], .null), (.aload_n 0, 78, [0], .null), (.getfield 364, 79, [21,0,11], .null), (.if_icmp .gt 51, 82, [75], .null), (.aload_n 0, 85, [0], .null), (.iload_n 1, 86, [1], .null), (.iload_n 1, 87, [1], .null), (.iload_n 2, 88, [2], .null), (.iadd, 89, [], .null), (.iconst 1, 90, [], .int 1), (.isub, 91, [], .null), (.invokevirtual 379, 92, [1,231,3,11], .null), (.ifCond .eq 38, 95, [75], .null), (.iload_n 2, 98, [2], .null), (.i2l, 99, [], .null), (.aload_n 0, 100, [0], .null), (.getfield 7, 101, [0,2,11], .null), (.sipush 1898, 104, [], .int 1898), (.laload, 107, [], .null), (.lcmp, 108, [2,73], .null), (.aload_n 0, 112, [0], .null), (.iload_n 1, 113, [1], .null), (.iload_n 2, 114, [2], .null), (.invokevirtual 382, 115, [1,232,3,11], .null), (.ifCond .eq 9, 118, [73], .null), (.aload_n 0, 121, [0], .null), (.iload_n 1, 122, [1], .null), (.iload_n 2, 123, [2], .null), (.invokevirtual 385, 124, [1,235,3,11], .null), (.iinc 2 1, 127, [2], .int 1), (.goto (-69), 130, [35], .null), (.iinc 1 1, 133, [1], .int 1), (.goto (-85), 136, [29], .null), (.iconst 0, 139, [], .int 0), (.istore_n 1, 140, [1], .null), (.iload_n 1, 141, [1], .null), (.aload_n 0, 142, [0], .null), (.getfield 344, 143, [32,0,11], .null), (.if_icmp .ge 30, 146, [100], .null), (.aload_n 0, 149, [0], .null), (.getfield 67, 150, [35,2,11], .null), (.iload_n 1, 153, [1], .null), (.iconst 0, 154, [], .int 0), (.iastore, 155, [], .null), (.aload_n 0, 156, [0], .null), (.getfield 70, 157, [36,2,11], .null), (.iload_n 1, 160, [1], .null), (.iconst 0, 161, [], .int 0), (.iastore, 162, [], .null), (.aload_n 0, 163, [0], .null), (.getfield 76, 164, [38,2,11], .null), (.iload_n 1, 167, [1], .null), (.iconst 0, 168, [], .int 0), (.iastore, 169, [], .null), (.iinc 1 1, 170, [1], .int 1), (.goto (-32), 173, [79], .null), (.iconst 0, 176, [], .int 0), (.istore_n 1, 177, [1], .null), (.iload_n 1, 178, [1], .null), (.aload_n 0, 179, [0], .null), (.getfield 355, 180, [26,0,11], .null), (.if_icmp .ge 133, 183, [190], .null), (.aload_n 0, 186, [0], .null), (.aload_n 0, 187, [0], .null), (.getfield 33, 188, [22,2,11], .null), (.aload_n 0, 191, [0], .null), (.getfield 45, 192, [27,2,11], .null), (.iload_n 1, 195, [1], .null), (.iaload, 196, [], .null), (.aload_n 0, 197, [0], .null), (.getfield 48, 198, [28,2,11], .null), (.iload_n 1, 201, [1], .null), (.iaload, 202, [], .null), (.invokevirtual 351, 203, [1,234,4,11], .null), (.istore_n 2, 206, [2], .null), (.aload_n 0, 207, [0], .null), (.getfield 51, 208, [29,2,11], .null), (.iload_n 1, 211, [1], .null), (.iload_n 2, 212, [2], .null), (.iastore, 213, [], .null), (.aload_n 0, 214, [0], .null), (.getfield 54, 215, [30,2,11], .null), (.iload_n 1, 218, [1], .null), (.aload_n 0, 219, [0], .null), (.aload_n 0, 220, [0], .null), (.getfield 45, 221, [27,2,11], .null), (.iload_n 1, 224, [1], .null), (.iaload, 225, [], .null), (.aload_n 0, 226, [0], .null), (.getfield 48, 227, [28,2,11], .null), (.iload_n 1, 230, [1], .null), (.iaload, 231, [], .null), (.invokevirtual 388, 232, [1,236,3,11], .null), (.bastore, 235, [], .null), (.aload_n 0, 236, [0], .null), (.getfield 67, 237, [35,2,11], .null), (.iload_n 2, 240, [2], .null), (.iaload, 241, [], .null), (.ifCond .ne 10, 242, [148], .null), (.aload_n 0, 245, [0], .null), (.getfield 73, 246, [37,2,11], .null), (.iload_n 2, 249, [2], .null), (.iload_n 1, 250, [1], .null), (.iastore, 251, [], .null), (.aload_n 0, 252, [0], .null), (.getfield 67, 253, [35,2,11], .null), (.iload_n 2, 256, [2], .null), (.dup2, 257, [], .null), (.iaload, 258, [], .null), (.iconst 1, 259, [], .int 1), (.iadd, 260, [], .null), (.iastore, 261, [], .null), (.aload_n 0, 262, [0], .null), (.getfield 70, 263, [36,2,11], .null), (.iload_n 2, 266, [2], .null), (.dup2, 267, [], .null), (.iaload, 268, [], .null), (.aload_n 0, 269, [0], .null), (.getfield 54, 270, [30,2,11], .null), (.iload_n 1, 273, [1], .null), (.baload, 274, [], .null), (.ifCond .ne 7, 275, [168], .null), (.iconst 1, 278, [], .int 1), (.goto 4, 279, [169], .null), (.iconst 0, 282, [], .int 0), (.invokestatic 294, 283, [0,182,1], .null), (.iadd, 286, [], .null), (.iastore, 287, [], .null), (.aload_n 0, 288, [0], .null), (.getfield 76, 289, [38,2,11], .null), (.iload_n 2, 292, [2], .null), (.dup2, 293, [], .null), (.iaload, 294, [], .null), (.iconst 1, 295, [], .int 1), (.aload_n 0, 296, [0], .null), (.getfield 39, 297, [24,2,11], .null), (.aload_n 0, 300, [0], .null), (.getfield 45, 301, [27,2,11], .null), (.iload_n 1, 304, [1], .null), (.iaload, 305, [], .null), (.iaload, 306, [], .null), (.ishl, 307, [], .null), (.ior, 308, [], .null), (.iastore, 309, [], .null), (.iinc 1 1, 310, [1], .int 1), (.goto (-135), 313, [102], .null), (.iconst 0, 316, [], .int 0), (.istore_n 1, 317, [1], .null), (.iload_n 1, 318, [1], .null), (.aload_n 0, 319, [0], .null), (.getfield 344, 320, [32,0,11], .null), (.if_icmp .ge 14, 323, [201], .null), (.aload_n 0, 326, [0], .null), (.iload_n 1, 327, [1], .null), (.invokevirtual 391, 328, [1,242,2,11], .null), (.iinc 1 1, 331, [1], .int 1), (.goto (-16), 334, [192], .null), (.aload_n 0, 337, [0], .null), (.invokevirtual 394, 338, [1,244,1,11], .null), (.return_, 341, [0], .null)]
/-- TermDrawModel.isInRow(II)Z -/
abbrev mi_M_isInRow : Nat := 240
def mm_k240 : List mm_Ins := [(.iconst 0, 0, [], .int 0), (.istore_n 3, 1, [3], .null), (.iload_n 3, 2, [3], .null), (.aload_n 0, 3, [0], .null), (.getfield 64, 4, [34,2,11], .null), (.iload_n 1, 7, [1], .null), (.iaload, 8, [], .null), (.iadd, 9, [], .null), (.aload_n 0, 10, [0], .null), (.getfield 64, 11, [34,2,11], .null), (.iload_n 2, 14, [2], .null), (.iaload, 15, [], .null), (.if_icmp .gt 31, 16, [29], .null), (.aload_n 0, 19, [0], .null), (.aload_n 0, 20, [0], .null), (.getfield 33, 21, [22,2,11], .null), (.aload_n 0, 24, [0], .null), (.getfield 61, 25, [33,2,11], .null), (.iload_n 2, 28, [2], .null), (.iaload, 29, [], .null), (.iload_n 3, 30, [3], .null), (.iadd, 31, [], .null), (.iload_n 1, 32, [1], .null), (.invokevirtual 397, 33, [1,241,4,11], .null), (.ifCond .eq 5, 36, [27], .null), (.iconst 1, 39, [], .int 1), (.ireturn, 40, [3], .null), (.iinc 3 1, 41, [3], .int 1), (.goto (-42), 44, [2], .null), (.iconst 0, 47, [], .int 0), (.ireturn, 48, [3], .null)]
/-- TermDrawModel.isRow([JII)Z -/
abbrev mi_M_isRow : Nat := 241
def mm_k241 : List mm_Ins := [(.iconst 0, 0, [], .int 0), (.istore 4, 1, [4], .null), (.iload 4, 3, [4], .null), (.aload_n 0, 5, [0], .null), (.getfield 64, 6, [34,2,11], .null), (.iload_n 3, 9, [3], .null), (.iaload, 10, [], .null), (.if_icmp .ge 35, 11, [27], .null), (.aload_n 1, 14, [1], .null), (.iload_n 2, 15, [2], .null), (.iload 4, 16, [4], .null), (.iadd, 18, [], .null), (.laload, 19, [], .null), (.aload_n 0, 20, [0], .null), (.getfield 33, 21, [22,2,11], .null), (.aload_n 0, 24, [0], .null), (.getfield 61, 25, [33,2,11], .null), (.iload_n 3, 28, [3], .null), (.iaload, 29, [], .null), (.iload 4, 30, [4], .null), (.iadd, 32, [], .null), (.laload, 33, [], .null), (.lcmp, 34, [0,25], .null), (.iconst 0, 38, [], .int 0), (.ireturn, 39, [3], .null), (.iinc 4 1, 40, [4], .int 1), (.goto (-40), 43, [2], .null), (.iconst 1, 46, [], .int 1), (.ireturn, 47, [3], .null)]
/-- TermDrawModel.layTerm(I)V -/
abbrev mi_M_layTerm : Nat := 242
def mm_k242 : List mm_Ins := [(.aload_n 0, 0, [0], .null), (.getfield 79, 1, [39,2,11], .null), (.iload_n 1, 4, [1], .null), (.iconst 0, 5, [], .int 0), (.iastore, 6, [], .null), (.aload_n 0, 7, [0], .null), (.getfield 82, 8, [40,2,11], .null), (.iload_n 1, 11, [1], .null), (.iconst 0, 12, [], .int 0), (.iastore, 13, [], .null), (.iconst 0, 14, [], .int 0), (.istore_n 2, 15, [2], .null), (.iload_n 2, 16, [2], .null), (.aload_n 0, 17, [0], .null), (.getfield 344, 18, [32,0,11], .null), (.if_icmp .ge 61, 21, [52], .null), (.aload_n 0, 24, [0], .null), (.getfield 64, 25, [34,2,11], .null), (.iload_n 2, 28, [2], .null), (.iaload, 29, [], .null), (.aload_n 0, 30, [0], .null), (.getfield 64, 31, [34,2,11], .null), (.iload_n 1, 34, [1], .null), (.iaload, 35, [], .null), (.if_icmp .le 40, 36, [50], .null), (.aload_n 0, 39, [0], .null), (.iload_n 1, 40, [1], .null), (.iload_n 2, 41, [2], .null), (.invokevirtual 401, 42, [1,240,3,11], .null), (.ifCond .ne 6, 45, [31], .null), (.goto 28, 48, [50], .null), (.aload_n 0, 51, [0], .null), (.getfield 79, 52, [39,2,11], .null), (.iload_n 1, 55, [1], .null), (.dup2, 56, [], .null), (.iaload, 57, [], .null), (.iconst 1, 58, [], .int 1), (.iadd, 59, [], .null), (.iastore, 60, [], .null), (.aload_n 0, 61, [0], .null), (.getfield 82, 62, [40,2,11], .null), (.iload_n 1, 65, [1], .null), (.dup2, 66, [], .null), (.iaload, 67, [], .null), (.aload_n 0, 68, [0], .null), (.getfield 67, 69, [35,2,11], .null), (.iload_n 2, 72, [2], .null), (.iaload, 73, [], .null), (.iadd, 74, [], .null), (.iastore, 75, [], .null), (.iinc 2 1, 76, [2], .int 1), (.goto (-63), 79, [12], .null), (.aload_n 0, 82, [0], .null), (.getfield 85, 83, [41,2,11], .null), (.iload_n 1, 86, [1], .null), (.iconst 0, 87, [], .int 0), (.iastore, 88, [], .null), (.iconst 0, 89, [], .int 0), (.istore_n 2, 90, [2], .null), (.iload_n 2, 91, [2], .null), (.aload_n 0, 92, [0], .null), (.getfield 64, 93, [34,2,11], .null), (.iload_n 1, 96, [1], .null), (.iaload, 97, [], .null), (.iadd, 98, [], .null), (.i2l, 99, [], .null), (.aload_n 0, 100, [0], .null), (.getfield 7, 101, [0,2,11], .null), (.sipush 1069, 104, [], .int 1069), (.laload, 107, [], .null), (.lcmp, 108, [4,111], .null), (.aload_n 0, 112, [0], .null), (.getfield 85, 113, [41,2,11], .null), (.iload_n 1, 116, [1], .null), (.dup2, 117, [], .null), (.iaload, 118, [], .null), (.aload_n 0, 119, [0], .null), (.getfield 7, 120, [0,2,11], .null), (.sipush 1470, 123, [], .int 1470), (.iload_n 2, 126, [2], .null), (.iadd, 127, [], .null), (.laload, 128, [], .null), (.aload_n 0, 129, [0], .null), (.getfield 7, 130, [0,2,11], .null), (.sipush 1470, 133, [], .int 1470), (.iload_n 2, 136, [2], .null), (.iadd, 137, [], .null), (.aload_n 0, 138, [0], .null), (.getfield 64, 139, [34,2,11], .null), (.iload_n 1, 142, [1], .null), (.iaload, 143, [], .null), (.iadd, 144, [], .null), (.iconst 1, 145, [], .int 1), (.isub, 146, [], .null), (.laload, 147, [], .null), (.lcmp, 148, [1,105], .null), (.aload_n 0, 152, [0], .null), (.aload_n 0, 153, [0], .null), (.getfield 42, 154, [25,2,11], .null), (.iload_n 2, 157, [2], .null), (.iload_n 1, 158, [1], .null), (.invokevirtual 397, 159, [1,241,4,11], .null), (.ifCond .eq 7, 162, [105], .null), (.iconst 1, 165, [], .int 1), (.goto 4, 166, [106], .null), (.iconst 0, 169, [], .int 0), (.invokestatic 294, 170, [0,182,1], .null), (.iadd, 173, [], .null), (.iastore, 174, [], .null), (.iinc 2 1, 175, [2], .int 1), (.goto (-87), 178, [59], .null), (.return_, 181, [0], .null)]
/-- TermDrawModel.surrounds(I)V -/
abbrev mi_M_surrounds : Nat := 243
def mm_k243 : List mm_Ins := [(.iconst 0, 0, [], .int 0), (.istore_n 2, 1, [2], .null), (.iload_n 2, 2, [2], .null), (.aload_n 0, 3, [0], .null), (.getfield 370, 4, [43,0,11], .null), (.if_icmp .ge 16, 7, [13], .null), (.aload_n 0, 10, [0], .null), (.getfield 97, 11, [46,2,11], .null), (.iload_n 2, 14, [2], .null), (.iconst 0, 15, [], .int 0), (.iastore, 16, [], .null), (.iinc 2 1, 17, [2], .int 1), (.goto (-18), 20, [2], .null), (.aload_n 0, 23, [0], .null), (.getfield 73, 24, [37,2,11], .null), (.iload_n 1, 27, [1], .null), (.iaload, 28, [], .null), (.istore_n 2, 29, [2], .null), (.iload_n 2, 30, [2], .null), (.aload_n 0, 31, [0], .null), (.getfield 355, 32, [26,0,11], .null), (.if_icmp .ge 149, 35, [107], .null), (.aload_n 0, 38, [0], .null), (.getfield 51, 39, [29,2,11], .null), (.iload_n 2, 42, [2], .null), (.iaload, 43, [], .null), (.iload_n 1, 44, [1], .null), (.if_icmp .eq 6, 45, [29], .null), (.goto 130, 48, [105], .null), (.iconst 1, 51, [], .int 1), (.istore_n 3, 52, [3], .null), (.iload_n 3, 53, [3], .null), (.i2l, 54, [], .null), (.aload_n 0, 55, [0], .null), (.getfield 7, 56, [0,2,11], .null), (.sipush 1900, 59, [], .int 1900), (.laload, 62, [], .null), (.lcmp, 63, [4,105], .null), (.aload_n 0, 67, [0], .null), (.getfield 45, 68, [27,2,11], .null), (.iload_n 2, 71, [2], .null), (.iaload, 72, [], .null), (.iload_n 3, 73, [3], .null), (.isub, 74, [], .null), (.istore 4, 75, [4], .null), (.aload_n 0, 77, [0], .null), (.getfield 45, 78, [27,2,11], .null), (.iload_n 2, 81, [2], .null), (.iaload, 82, [], .null), (.aload_n 0, 83, [0], .null), (.getfield 48, 84, [28,2,11], .null), (.iload_n 2, 87, [2], .null), (.iaload, 88, [], .null), (.iadd, 89, [], .null), (.iconst 1, 90, [], .int 1), (.isub, 91, [], .null), (.iload_n 3, 92, [3], .null), (.iadd, 93, [], .null), (.istore 5, 94, [5], .null), (.iload 4, 96, [4], .null), (.ifCond .lt 34, 98, [80], .null), (.aload_n 0, 101, [0], .null), (.iload 4, 102, [4], .null), (.aload_n 0, 104, [0], .null), (.getfield 45, 105, [27,2,11], .null), (.iload_n 2, 108, [2], .null), (.iaload, 109, [], .null), (.invokevirtual 379, 110, [1,231,3,11], .null), (.ifCond .eq 19, 113, [80], .null), (.aload_n 0, 116, [0], .null), (.getfield 97, 117, [46,2,11], .null), (.aload_n 0, 120, [0], .null), (.getfield 91, 121, [44,2,11], .null), (.iload 4, 124, [4], .null), (.iaload, 126, [], .null), (.dup2, 127, [], .null), (.iaload, 128, [], .null), (.iconst 1, 129, [], .int 1), (.iadd, 130, [], .null), (.iastore, 131, [], .null), (.iload 5, 132, [5], .null), (.aload_n 0, 134, [0], .null), (.getfield 364, 135, [21,0,11], .null), (.if_icmp .ge 34, 138, [103], .null), (.aload_n 0, 141, [0], .null), (.iload 5, 142, [5], .null), (.aload_n 0, 144, [0], .null), (.getfield 45, 145, [27,2,11], .null), (.iload_n 2, 148, [2], .null), (.iaload, 149, [], .null), (.invokevirtual 379, 150, [1,231,3,11], .null), (.ifCond .eq 19, 153, [103], .null), (.aload_n 0, 156, [0], .null), (.getfield 97, 157, [46,2,11], .null), (.aload_n 0, 160, [0], .null), (.getfield 91, 161, [44,2,11], .null), (.iload 5, 164, [5], .null), (.iaload, 166, [], .null), (.dup2, 167, [], .null), (.iaload, 168, [], .null), (.iconst 1, 169, [], .int 1), (.iadd, 170, [], .null), (.iastore, 171, [], .null), (.iinc 3 1, 172, [3], .int 1), (.goto (-122), 175, [31], .null), (.iinc 2 1, 178, [2], .int 1), (.goto (-151), 181, [18], .null), (.return_, 184, [0], .null)]
/-- TermDrawModel.layLikely()V -/
abbrev mi_M_layLikely : Nat := 244
def mm_k244 : List mm_Ins := [(.iconst 0, 0, [], .int 0), (.istore_n 1, 1, [1], .null), (.iload_n 1, 2, [1], .null), (.aload_n 0, 3, [0], .null), (.getfield 370, 4, [43,0,11], .null), (.if_icmp .ge 16, 7, [13], .null), (.aload_n 0, 10, [0], .null), (.getfield 94, 11, [45,2,11], .null), (.iload_n 1, 14, [1], .null), (.iconst 0, 15, [], .int 0), (.iastore, 16, [], .null), (.iinc 1 1, 17, [1], .int 1), (.goto (-18), 20, [2], .null), (.iconst 0, 23, [], .int 0), (.istore_n 1, 24, [1], .null), (.iload_n 1, 25, [1], .null), (.aload_n 0, 26, [0], .null), (.getfield 344, 27, [32,0,11], .null), (.if_icmp .ge 56, 30, [48], .null), (.aload_n 0, 33, [0], .null), (.iload_n 1, 34, [1], .null), (.invokevirtual 404, 35, [1,243,2,11], .null), (.iconst 0, 38, [], .int 0), (.istore_n 2, 39, [2], .null), (.iload_n 2, 40, [2], .null), (.aload_n 0, 41, [0], .null), (.getfield 370, 42, [43,0,11], .null), (.if_icmp .ge 35, 45, [46], .null), (.aload_n 0, 48, [0], .null), (.getfield 94, 49, [45,2,11], .null), (.iload_n 2, 52, [2], .null), (.dup2, 53, [], .null), (.iaload, 54, [], .null), (.aload_n 0, 55, [0], .null), (.getfield 97, 56, [46,2,11], .null), (.iload_n 2, 59, [2], .null), (.iaload, 60, [], .null), (.ifCond .le 7, 61, [40], .null), (.iconst 1, 64, [], .int 1), (.goto 4, 65, [41], .null), (.iconst 0, 68, [], .int 0), (.invokestatic 294, 69, [0,182,1], .null), (.iadd, 72, [], .null), (.iastore, 73, [], .null), (.iinc 2 1, 74, [2], .int 1), (.goto (-37), 77, [24], .null), (.iinc 1 1, 80, [1], .int 1), (.goto (-58), 83, [15], .null), (.return_, 86, [0], .null)]
/-- TermDrawModel.gcd(JJ)J -/
abbrev mi_M_gcd : Nat := 245
def mm_k245 : List mm_Ins := [(.lload_n 0, 0, [0], .null), (.lconst 0, 1, [], .long 0), (.lcmp, 2, [3,6], .null), (.lload_n 0, 6, [0], .null), (.lneg, 7, [], .null), (.goto 4, 8, [7], .null), (.lload_n 0, 11, [0], .null), (.lstore 4, 12, [4], .null), (.lload_n 2, 14, [2], .null), (.lstore 6, 15, [6], .null), (.lload 6, 17, [6], .null), (.lconst 0, 19, [], .long 0), (.lcmp, 20, [0,22], .null), (.lload 4, 24, [4], .null), (.lload 6, 26, [6], .null), (.lrem, 28, [], .null), (.lstore 8, 29, [8], .null), (.lload 6, 31, [6], .null), (.lstore 4, 33, [4], .null), (.lload 8, 35, [8], .null), (.lstore 6, 37, [6], .null), (.goto (-22), 39, [10], .null), (.lload 4, 42, [4], .null), (.lreturn, 44, [2], .null)]
/-- TermDrawModel.puts(JJ)V -/
abbrev mi_M_puts : Nat := 246
def mm_k246 : List mm_Ins := [(.lload_n 1, 0, [1], .null), (.lload_n 3, 1, [3], .null), (.invokestatic 407, 2, [0,245,2], .null), (.lstore 5, 5, [5], .null), (.aload_n 0, 7, [0], .null), (.lload_n 1, 8, [1], .null), (.lload 5, 9, [5], .null), (.ldiv, 11, [], .null), (.putfield 411, 12, [47,1,0,11], .null), (.aload_n 0, 15, [0], .null), (.lload_n 3, 16, [3], .null), (.lload 5, 17, [5], .null), (.ldiv, 19, [], .null), (.putfield 414, 20, [48,1,0,11], .null), (.return_, 23, [0], .null)]
/-- TermDrawModel.worth(I)V -/
abbrev mi_M_worth : Nat := 247
def mm_k247 : List mm_Ins := [(.aload_n 0, 0, [0], .null), (.getfield 7, 1, [0,2,11], .null), (.sipush 1900, 4, [], .int 1900), (.aload_n 0, 7, [0], .null), (.getfield 64, 8, [34,2,11], .null), (.iload_n 1, 11, [1], .null), (.iaload, 12, [], .null), (.iadd, 13, [], .null), (.laload, 14, [], .null), (.lstore_n 2, 15, [2], .null), (.aload_n 0, 16, [0], .null), (.getfield 79, 17, [39,2,11], .null), (.iload_n 1, 20, [1], .null), (.iaload, 21, [], .null), (.ifCond .ne 20, 22, [26], .null), (.aload_n 0, 25, [0], .null), (.lload_n 2, 26, [2], .null), (.aload_n 0, 27, [0], .null), (.getfield 67, 28, [35,2,11], .null), (.iload_n 1, 31, [1], .null), (.iaload, 32, [], .null), (.i2l, 33, [], .null), (.lmul, 34, [], .null), (.lconst 1, 35, [], .long 1), (.invokevirtual 417, 36, [1,246,3,11], .null), (.goto 39, 39, [52], .null), (.aload_n 0, 42, [0], .null), (.lload_n 2, 43, [2], .null), (.aload_n 0, 44, [0], .null), (.getfield 67, 45, [35,2,11], .null), (.iload_n 1, 48, [1], .null), (.iaload, 49, [], .null), (.i2l, 50, [], .null), (.aload_n 0, 51, [0], .null), (.getfield 79, 52, [39,2,11], .null), (.iload_n 1, 55, [1], .null), (.iaload, 56, [], .null), (.i2l, 57, [], .null), (.lmul, 58, [], .null), (.aload_n 0, 59, [0], .null), (.getfield 82, 60, [40,2,11], .null), (.iload_n 1, 63, [1], .null), (.iaload, 64, [], .null), (.i2l, 65, [], .null), (.lsub, 66, [], .null), (.lmul, 67, [], .null), (.aload_n 0, 68, [0], .null), (.getfield 79, 69, [39,2,11], .null), (.iload_n 1, 72, [1], .null), (.iaload, 73, [], .null), (.i2l, 74, [], .null), (.invokevirtual 417, 75, [1,246,3,11], .null), (.return_, 78, [0], .null)]
/-- TermDrawModel.odd(I)V -/
abbrev mi_M_odd : Nat := 248
def mm_k248 : List mm_Ins := [(.aload_n 0, 0, [0], .null), (.aload_n 0, 1, [0], .null), (.getfield 67, 2, [35,2,11], .null), (.iload_n 1, 5, [1], .null), (.iaload, 6, [], .null), (.i2l, 7, [], .null), (.aload_n 0, 8, [0], .null), (.getfield 7, 9, [0,2,11], .null), (.sipush 1069, 12, [], .int 1069), (.laload, 15, [], .null), (.lconst 1, 16, [], .long 1), (.ladd, 17, [], .null), (.lmul, 18, [], .null), (.aload_n 0, 19, [0], .null), (.getfield 85, 20, [41,2,11], .null), (.iload_n 1, 23, [1], .null), (.iaload, 24, [], .null), (.i2l, 25, [], .null), (.lconst 1, 26, [], .long 1), (.ladd, 27, [], .null), (.aload_n 0, 28, [0], .null), (.getfield 364, 29, [21,0,11], .null), (.i2l, 32, [], .null), (.lconst 1, 33, [], .long 1), (.ladd, 34, [], .null), (.lmul, 35, [], .null), (.invokevirtual 417, 36, [1,246,3,11], .null), (.return_, 39, [0], .null)]
/-- TermDrawModel.near(I)V -/
abbrev mi_M_near : Nat := 249
def mm_k249 : List mm_Ins := [(.aload_n 0, 0, [0], .null), (.iload_n 1, 1, [1], .null), (.invokevirtual 404, 2, [1,243,2,11], .null), (.lconst 0, 5, [], .long 0), (.lstore_n 2, 6, [2], .null), (.iconst 0, 7, [], .int 0), (.istore 4, 8, [4], .null), (.iload 4, 10, [4], .null), (.aload_n 0, 12, [0], .null), (.getfield 370, 13, [43,0,11], .null), (.if_icmp .ge 29, 16, [27], .null), (.lload_n 2, 19, [2], .null), (.aload_n 0, 20, [0], .null), (.getfield 97, 21, [46,2,11], .null), (.iload 4, 24, [4], .null), (.iaload, 26, [], .null), (.i2l, 27, [], .null), (.aload_n 0, 28, [0], .null), (.getfield 94, 29, [45,2,11], .null), (.iload 4, 32, [4], .null), (.iaload, 34, [], .null), (.i2l, 35, [], .null), (.lmul, 36, [], .null), (.ladd, 37, [], .null), (.lstore_n 2, 38, [2], .null), (.iinc 4 1, 39, [4], .int 1), (.goto (-32), 42, [7], .null), (.aload_n 0, 45, [0], .null), (.iload_n 1, 46, [1], .null), (.invokevirtual 421, 47, [1,247,2,11], .null), (.aload_n 0, 50, [0], .null), (.ldc2_w 317, 51, [], .long 4), (.aload_n 0, 54, [0], .null), (.getfield 411, 55, [47,1,11], .null), (.lmul, 58, [], .null), (.aload_n 0, 59, [0], .null), (.getfield 344, 60, [32,0,11], .null), (.i2l, 63, [], .null), (.lmul, 64, [], .null), (.lload_n 2, 65, [2], .null), (.aload_n 0, 66, [0], .null), (.getfield 414, 67, [48,1,11], .null), (.lmul, 70, [], .null), (.ladd, 71, [], .null), (.ldc2_w 141, 72, [], .long 5), (.aload_n 0, 75, [0], .null), (.getfield 414, 76, [48,1,11], .null), (.lmul, 79, [], .null), (.aload_n 0, 80, [0], .null), (.getfield 344, 81, [32,0,11], .null), (.i2l, 84, [], .null), (.lmul, 85, [], .null), (.invokevirtual 417, 86, [1,246,3,11], .null), (.return_, 89, [0], .null)]
/-- TermDrawModel.measures(II)V -/
abbrev mi_M_measures : Nat := 250
def mm_k250 : List mm_Ins := [(.iload_n 2, 0, [2], .null), (.tableswitch 134 0 5 #[39, 54, 69, 77, 85, 126], 1, [55,2,11,20,24,28,51], .null), (.aload_n 0, 40, [0], .null), (.aload_n 0, 41, [0], .null), (.getfield 67, 42, [35,2,11], .null), (.iload_n 1, 45, [1], .null), (.iaload, 46, [], .null), (.i2l, 47, [], .null), (.lconst 1, 48, [], .long 1), (.invokevirtual 417, 49, [1,246,3,11], .null), (.goto 98, 52, [64], .null), (.aload_n 0, 55, [0], .null), (.aload_n 0, 56, [0], .null), (.getfield 70, 57, [36,2,11], .null), (.iload_n 1, 60, [1], .null), (.iaload, 61, [], .null), (.i2l, 62, [], .null), (.lconst 1, 63, [], .long 1), (.invokevirtual 417, 64, [1,246,3,11], .null), (.goto 83, 67, [64], .null), (.aload_n 0, 70, [0], .null), (.iload_n 1, 71, [1], .null), (.invokevirtual 421, 72, [1,247,2,11], .null), (.goto 75, 75, [64], .null), (.aload_n 0, 78, [0], .null), (.iload_n 1, 79, [1], .null), (.invokevirtual 424, 80, [1,248,2,11], .null), (.goto 67, 83, [64], .null), (.aload_n 0, 86, [0], .null), (.iload_n 1, 87, [1], .null), (.invokevirtual 421, 88, [1,247,2,11], .null), (.aload_n 0, 91, [0], .null), (.getfield 411, 92, [47,1,11], .null), (.lstore_n 3, 95, [3], .null), (.aload_n 0, 96, [0], .null), (.getfield 414, 97, [48,1,11], .null), (.lstore 5, 100, [5], .null), (.aload_n 0, 102, [0], .null), (.iload_n 1, 103, [1], .null), (.invokevirtual 424, 104, [1,248,2,11], .null), (.aload_n 0, 107, [0], .null), (.lload_n 3, 108, [3], .null), (.aload_n 0, 109, [0], .null), (.getfield 411, 110, [47,1,11], .null), (.lmul, 113, [], .null), (.lload 5, 114, [5], .null), (.aload_n 0, 116, [0], .null), (.getfield 414, 117, [48,1,11], .null), (.lmul, 120, [], .null), (.invokevirtual 417, 121, [1,246,3,11], .null), (.goto 26, 124, [64], .null), (.aload_n 0, 127, [0], .null), (.iload_n 1, 128, [1], .null), (.invokevirtual 427, 129, [1,249,2,11], .null), (.goto 18, 132, [64], .null), (.aload_n 0, 135, [0], .null), (.aload_n 0, 136, [0], .null), (.getfield 76, 137, [38,2,11], .null), (.iload_n 1, 140, [1], .null), (.iaload, 141, [], .null), (.invokestatic 430, 142, [0,251,1], .null), (.i2l, 145, [], .null), (.lconst 1, 146, [], .long 1), (.invokevirtual 417, 147, [1,246,3,11], .null), (.return_, 150, [0], .null)]
/-- TermDrawModel.bitsOf(I)I -/
abbrev mi_M_bitsOf : Nat := 251
def mm_k251 : List mm_Ins := [(.iconst 0, 0, [], .int 0), (.istore_n 1, 1, [1], .null), (.iconst 0, 2, [], .int 0), (.istore_n 2, 3, [2], .null), (.iload_n 2, 4, [2], .null), (.bipush 8, 5, [], .int 8), (.if_icmp .ge 17, 7, [17], .null), (.iload_n 1, 10, [1], .null), (.iload_n 0, 11, [0], .null), (.iload_n 2, 12, [2], .null), (.ishr, 13, [], .null), (.iconst 1, 14, [], .int 1), (.iand, 15, [], .null), (.iadd, 16, [], .null), (.istore_n 1, 17, [1], .null), (.iinc 2 1, 18, [2], .int 1), (.goto (-17), 21, [4], .null), (.iload_n 1, 24, [1], .null), (.ireturn, 25, [1], .null)]
/-- TermDrawModel.isLess(JJJJ)Z -/
abbrev mi_M_isLess : Nat := 252
def mm_k252 : List mm_Ins := [(.lload_n 0, 0, [0], .null), (.lstore 8, 1, [8], .null), (.lload_n 2, 3, [2], .null), (.lstore 10, 4, [10], .null), (.lload 4, 6, [4], .null), (.lstore 12, 8, [12], .null), (.lload 6, 10, [6], .null), (.lstore 14, 12, [14], .null), (.iconst 0, 14, [], .int 0), (.istore 16, 15, [16], .null), (.lload 8, 17, [8], .null), (.lload 10, 19, [10], .null), (.invokestatic 433, 21, [0,289,2], .null), (.lstore 17, 24, [17], .null), (.lload 12, 26, [12], .null), (.lload 14, 28, [14], .null), (.invokestatic 433, 30, [0,289,2], .null), (.lstore 19, 33, [19], .null), (.lload 17, 35, [17], .null), (.lload 19, 37, [19], .null), (.lcmp, 39, [0,37], .null), (.iload 16, 43, [16], .null), (.ifCond .eq 19, 45, [30], .null), (.lload 17, 48, [17], .null), (.lload 19, 50, [19], .null), (.lcmp, 52, [5,28], .null), (.iconst 1, 56, [], .int 1), (.goto 20, 57, [36], .null), (.iconst 0, 60, [], .int 0), (.goto 16, 61, [36], .null), (.lload 17, 64, [17], .null), (.lload 19, 66, [19], .null), (.lcmp, 68, [3,35], .null), (.iconst 1, 72, [], .int 1), (.goto 4, 73, [36], .null), (.iconst 0, 76, [], .int 0), (.ireturn, 77, [3], .null), (.lload 8, 78, [8], .null), (.lload 17, 80, [17], .null), (.lload 10, 82, [10], .null), (.lmul, 84, [], .null), (.lsub, 85, [], .null), (.lstore 8, 86, [8], .null), (.lload 12, 88, [12], .null), (.lload 19, 90, [19], .null), (.lload 14, 92, [14], .null), (.lmul, 94, [], .null), (.lsub, 95, [], .null), (.lstore 12, 96, [12], .null), (.lload 8, 98, [8], .null), (.lconst 0, 100, [], .long 0), (.lcmp, 101, [0,55], .null), (.lload 12, 105, [12], .null), (.lconst 0, 107, [], .long 0), (.lcmp, 108, [1,77], .null), (.iload 16, 112, [16], .null), (.ifCond .eq 25, 114, [67], .null), (.lload 8, 117, [8], .null), (.lconst 0, 119, [], .long 0), (.lcmp, 120, [0,65], .null), (.lload 12, 124, [12], .null), (.lconst 0, 126, [], .long 0), (.lcmp, 127, [1,65], .null), (.iconst 1, 131, [], .int 1), (.goto 26, 132, [76], .null), (.iconst 0, 135, [], .int 0), (.goto 22, 136, [76], .null), (.lload 8, 139, [8], .null), (.lconst 0, 141, [], .long 0), (.lcmp, 142, [1,75], .null), (.lload 12, 146, [12], .null), (.lconst 0, 148, [], .long 0), (.lcmp, 149, [0,75], .null), (.iconst 1, 153, [], .int 1), (.goto 4, 154, [76], .null), (.iconst 0, 157, [], .int 0), (.ireturn, 158, [3], .null), (.lload 8, 159, [8], .null), (.lstore 21, 161, [21], .null), (.lload 10, 163, [10], .null), (.lstore 8, 165, [8], .null), (.lload 21, 167, [21], .null), (.lstore 10, 169, [10], .null), (.lload 12, 171, [12], .null), (.lstore 21, 173, [21], .null), (.lload 14, 175, [14], .null), (.lstore 12, 177, [12], .null), (.lload 21, 179, [21], .null), (.lstore 14, 181, [14], .null), (.iload 16, 183, [16], .null), (.ifCond .ne 7, 185, [93], .null), (.iconst 1, 188, [], .int 1), (.goto 4, 189, [94], .null), (.iconst 0, 192, [], .int 0), (.istore 16, 193, [16], .null), (.goto (-178), 195, [10], .null)]
/-- TermDrawModel.isAhead(II)Z -/
abbrev mi_M_isAhead : Nat := 253
def mm_k253 : List mm_Ins := [(.aload_n 0, 0, [0], .null), (.getfield 100, 1, [49,2,11], .null), (.iload_n 2, 4, [2], .null), (.laload, 5, [], .null), (.aload_n 0, 6, [0], .null), (.getfield 103, 7, [50,2,11], .null), (.iload_n 2, 10, [2], .null), (.laload, 11, [], .null), (.aload_n 0, 12, [0], .null), (.getfield 100, 13, [49,2,11], .null), (.iload_n 1, 16, [1], .null), (.laload, 17, [], .null), (.aload_n 0, 18, [0], .null), (.getfield 103, 19, [50,2,11], .null), (.iload_n 1, 22, [1], .null), (.laload, 23, [], .null), (.invokestatic 436, 24, [0,252,4], .null), (.ifCond .eq 5, 27, [20], .null), (.iconst 1, 30, [], .int 1), (.ireturn, 31, [3], .null), (.aload_n 0, 32, [0], .null), (.getfield 100, 33, [49,2,11], .null), (.iload_n 1, 36, [1], .null), (.laload, 37, [], .null), (.aload_n 0, 38, [0], .null), (.getfield 103, 39, [50,2,11], .null), (.iload_n 1, 42, [1], .null), (.laload, 43, [], .null), (.aload_n 0, 44, [0], .null), (.getfield 100, 45, [49,2,11], .null), (.iload_n 2, 48, [2], .null), (.laload, 49, [], .null), (.aload_n 0, 50, [0], .null), (.getfield 103, 51, [50,2,11], .null), (.iload_n 2, 54, [2], .null), (.laload, 55, [], .null), (.invokestatic 436, 56, [0,252,4], .null), (.ifCond .eq 5, 59, [40], .null), (.iconst 0, 62, [], .int 0), (.ireturn, 63, [3], .null), (.aload_n 0, 64, [0], .null), (.getfield 67, 65, [35,2,11], .null), (.iload_n 1, 68, [1], .null), (.iaload, 69, [], .null), (.aload_n 0, 70, [0], .null), (.getfield 67, 71, [35,2,11], .null), (.iload_n 2, 74, [2], .null), (.iaload, 75, [], .null), (.if_icmp .eq 26, 76, [62], .null), (.aload_n 0, 79, [0], .null), (.getfield 67, 80, [35,2,11], .null), (.iload_n 1, 83, [1], .null), (.iaload, 84, [], .null), (.aload_n 0, 85, [0], .null), (.getfield 67, 86, [35,2,11], .null), (.iload_n 2, 89, [2], .null), (.iaload, 90, [], .null), (.if_icmp .le 7, 91, [60], .null), (.iconst 1, 94, [], .int 1), (.goto 17, 95, [68], .null), (.iconst 0, 98, [], .int 0), (.goto 13, 99, [68], .null), (.iload_n 1, 102, [1], .null), (.iload_n 2, 103, [2], .null), (.if_icmp .ge 7, 104, [67], .null), (.iconst 1, 107, [], .int 1), (.goto 4, 108, [68], .null), (.iconst 0, 111, [], .int 0), (.ireturn, 112, [3], .null)]
/-- TermDrawModel.ranks(I)V -/
abbrev mi_M_ranks : Nat := 254
def mm_k254 : List mm_Ins := [(.aload_n 0, 0, [0], .null), (.invokevirtual 440, 1, [1,239,1,11], .null), (.iconst 0, 4, [], .int 0), (.istore_n 2, 5, [2], .null), (.iload_n 2, 6, [2], .null), (.aload_n 0, 7, [0], .null), (.getfield 344, 8, [32,0,11], .null), (.if_icmp .ge 42, 11, [31], .null), (.aload_n 0, 14, [0], .null), (.iload_n 2, 15, [2], .null), (.iload_n 1, 16, [1], .null), (.invokevirtual 443, 17, [1,250,3,11], .null), (.aload_n 0, 20, [0], .null), (.getfield 100, 21, [49,2,11], .null), (.iload_n 2, 24, [2], .null), (.aload_n 0, 25, [0], .null), (.getfield 411, 26, [47,1,11], .null), (.lastore, 29, [], .null), (.aload_n 0, 30, [0], .null), (.getfield 103, 31, [50,2,11], .null), (.iload_n 2, 34, [2], .null), (.aload_n 0, 35, [0], .null), (.getfield 414, 36, [48,1,11], .null), (.lastore, 39, [], .null), (.aload_n 0, 40, [0], .null), (.getfield 106, 41, [51,2,11], .null), (.iload_n 2, 44, [2], .null), (.iload_n 2, 45, [2], .null), (.iastore, 46, [], .null), (.iinc 2 1, 47, [2], .int 1), (.goto (-44), 50, [4], .null), (.iconst 1, 53, [], .int 1), (.istore_n 2, 54, [2], .null), (.iload_n 2, 55, [2], .null), (.aload_n 0, 56, [0], .null), (.getfield 344, 57, [32,0,11], .null), (.if_icmp .ge 84, 60, [88], .null), (.iconst 0, 63, [], .int 0), (.istore_n 3, 64, [3], .null), (.iload_n 3, 65, [3], .null), (.aload_n 0, 66, [0], .null), (.getfield 344, 67, [32,0,11], .null), (.if_icmp .ge 39, 70, [67], .null), (.aload_n 0, 73, [0], .null), (.iload_n 3, 74, [3], .null), (.aload_n 0, 75, [0], .null), (.getfield 344, 76, [32,0,11], .null), (.iload_n 3, 79, [3], .null), (.iload_n 2, 80, [2], .null), (.iadd, 81, [], .null), (.invokestatic 446, 82, [0,292,2], .null), (.aload_n 0, 85, [0], .null), (.getfield 344, 86, [32,0,11], .null), (.iload_n 3, 89, [3], .null), (.iconst 2, 90, [], .int 2), (.iload_n 2, 91, [2], .null), (.imul, 92, [], .null), (.iadd, 93, [], .null), (.invokestatic 446, 94, [0,292,2], .null), (.invokevirtual 449, 97, [1,255,4,11], .null), (.iload_n 3, 100, [3], .null), (.iconst 2, 101, [], .int 2), (.iload_n 2, 102, [2], .null), (.imul, 103, [], .null), (.iadd, 104, [], .null), (.istore_n 3, 105, [3], .null), (.goto (-41), 106, [39], .null), (.iconst 0, 109, [], .int 0), (.istore_n 3, 110, [3], .null), (.iload_n 3, 111, [3], .null), (.aload_n 0, 112, [0], .null), (.getfield 344, 113, [32,0,11], .null), (.if_icmp .ge 21, 116, [83], .null), (.aload_n 0, 119, [0], .null), (.getfield 106, 120, [51,2,11], .null), (.iload_n 3, 123, [3], .null), (.aload_n 0, 124, [0], .null), (.getfield 109, 125, [52,2,11], .null), (.iload_n 3, 128, [3], .null), (.iaload, 129, [], .null), (.iastore, 130, [], .null), (.iinc 3 1, 131, [3], .int 1), (.goto (-23), 134, [69], .null), (.iload_n 2, 137, [2], .null), (.iconst 2, 138, [], .int 2), (.imul, 139, [], .null), (.istore_n 2, 140, [2], .null), (.goto (-86), 141, [33], .null), (.return_, 144, [0], .null)]
/-- TermDrawModel.merges(III)V -/
abbrev mi_M_merges : Nat := 255
def mm_k255 : List mm_Ins := [(.iload_n 1, 0, [1], .null), (.istore 4, 1, [4], .null), (.iload_n 2, 3, [2], .null), (.istore 5, 4, [5], .null), (.iload_n 1, 6, [1], .null), (.istore 6, 7, [6], .null), (.iload 6, 9, [6], .null), (.iload_n 3, 11, [3], .null), (.if_icmp .ge 87, 12, [49], .null), (.iload 5, 15, [5], .null), (.iload_n 3, 17, [3], .null), (.if_icmp .eq 30, 18, [26], .null), (.iload 4, 21, [4], .null), (.iload_n 2, 23, [2], .null), (.if_icmp .ge 28, 24, [28], .null), (.aload_n 0, 27, [0], .null), (.aload_n 0, 28, [0], .null), (.getfield 106, 29, [51,2,11], .null), (.iload 4, 32, [4], .null), (.iaload, 34, [], .null), (.aload_n 0, 35, [0], .null), (.getfield 106, 36, [51,2,11], .null), (.iload 5, 39, [5], .null), (.iaload, 41, [], .null), (.invokevirtual 453, 42, [1,253,3,11], .null), (.ifCond .eq 7, 45, [28], .null), (.iconst 1, 48, [], .int 1), (.goto 4, 49, [29], .null), (.iconst 0, 52, [], .int 0), (.istore 7, 53, [7], .null), (.aload_n 0, 55, [0], .null), (.getfield 109, 56, [52,2,11], .null), (.iload 6, 59, [6], .null), (.aload_n 0, 61, [0], .null), (.getfield 106, 62, [51,2,11], .null), (.iload 7, 65, [7], .null), (.ifCond .eq 8, 67, [39], .null), (.iload 4, 70, [4], .null), (.goto 5, 72, [40], .null), (.iload 5, 75, [5], .null), (.iaload, 77, [], .null), (.iastore, 78, [], .null), (.iload 7, 79, [7], .null), (.ifCond .eq 9, 81, [46], .null), (.iinc 4 1, 84, [4], .int 1), (.goto 6, 87, [47], .null), (.iinc 5 1, 90, [5], .int 1), (.iinc 6 1, 93, [6], .int 1), (.goto (-87), 96, [6], .null), (.return_, 99, [0], .null)]
/-- TermDrawModel.isTerm(I)Z -/
abbrev mi_M_isTerm : Nat := 256
def mm_k256 : List mm_Ins := [(.aload_n 0, 0, [0], .null), (.invokevirtual 440, 1, [1,239,1,11], .null), (.iload_n 1, 4, [1], .null), (.i2l, 5, [], .null), (.lconst 0, 6, [], .long 0), (.aload_n 0, 7, [0], .null), (.getfield 344, 8, [32,0,11], .null), (.iconst 1, 11, [], .int 1), (.isub, 12, [], .null), (.i2l, 13, [], .null), (.invokestatic 204, 14, [0,181,3], .null), (.ireturn, 17, [3], .null)]
/-- TermDrawModel.isMeasure(I)Z -/
abbrev mi_M_isMeasure : Nat := 257
def mm_k257 : List mm_Ins := [(.iload_n 1, 0, [1], .null), (.i2l, 1, [], .null), (.lconst 0, 2, [], .long 0), (.ldc2_w 456, 3, [], .long 6), (.invokestatic 204, 6, [0,181,3], .null), (.ireturn, 9, [3], .null)]
/-- TermDrawModel.measure(IIZ)J -/
abbrev mi_M_measure : Nat := 258
def mm_k258 : List mm_Ins := [(.aload_n 0, 0, [0], .null), (.iload_n 1, 1, [1], .null), (.invokevirtual 458, 2, [1,256,2,11], .null), (.ifCond .eq 11, 5, [8], .null), (.aload_n 0, 8, [0], .null), (.iload_n 2, 9, [2], .null), (.invokevirtual 461, 10, [1,257,2,11], .null), (.ifCond .ne 7, 13, [10], .null), (.ldc2_w 466, 16, [], .long (-9223372036854775808)), (.lreturn, 19, [2], .null), (.aload_n 0, 20, [0], .null), (.iload_n 1, 21, [1], .null), (.iload_n 2, 22, [2], .null), (.invokevirtual 443, 23, [1,250,3,11], .null), (.iload_n 3, 26, [3], .null), (.ifCond .eq 10, 27, [19], .null), (.aload_n 0, 30, [0], .null), (.getfield 414, 31, [48,1,11], .null), (.goto 7, 34, [21], .null), (.aload_n 0, 37, [0], .null), (.getfield 411, 38, [47,1,11], .null), (.lreturn, 41, [2], .null)]
/-- TermDrawModel.share(II)I -/
abbrev mi_M_share : Nat := 259
def mm_k259 : List mm_Ins := [(.aload_n 0, 0, [0], .null), (.iload_n 1, 1, [1], .null), (.invokevirtual 458, 2, [1,256,2,11], .null), (.ifCond .eq 11, 5, [8], .null), (.aload_n 0, 8, [0], .null), (.iload_n 2, 9, [2], .null), (.invokevirtual 461, 10, [1,257,2,11], .null), (.ifCond .ne 5, 13, [10], .null), (.iconst (-1), 16, [], .int (-1)), (.ireturn, 17, [1], .null), (.aload_n 0, 18, [0], .null), (.iload_n 1, 19, [1], .null), (.iload_n 2, 20, [2], .null), (.invokevirtual 443, 21, [1,250,3,11], .null), (.aload_n 0, 24, [0], .null), (.getfield 411, 25, [47,1,11], .null), (.l2f, 28, [], .null), (.aload_n 0, 29, [0], .null), (.getfield 414, 30, [48,1,11], .null), (.l2f, 33, [], .null), (.fdiv, 34, [], .null), (.invokestatic 468, 35, [0,287,1], .null), (.ireturn, 38, [1], .null)]
/-- TermDrawModel.rest(II)J -/
abbrev mi_M_rest : Nat := 260
def mm_k260 : List mm_Ins := [(.aload_n 0, 0, [0], .null), (.iload_n 1, 1, [1], .null), (.invokevirtual 458, 2, [1,256,2,11], .null), (.ifCond .eq 11, 5, [8], .null), (.aload_n 0, 8, [0], .null), (.iload_n 2, 9, [2], .null), (.invokevirtual 461, 10, [1,257,2,11], .null), (.ifCond .ne 7, 13, [10], .null), (.ldc2_w 474, 16, [], .long (-1)), (.lreturn, 19, [2], .null), (.aload_n 0, 20, [0], .null), (.iload_n 1, 21, [1], .null), (.iload_n 2, 22, [2], .null), (.invokevirtual 443, 23, [1,250,3,11], .null), (.aload_n 0, 26, [0], .null), (.getfield 411, 27, [47,1,11], .null), (.l2d, 30, [], .null), (.aload_n 0, 31, [0], .null), (.getfield 414, 32, [48,1,11], .null), (.l2d, 35, [], .null), (.ddiv, 36, [], .null), (.ldc2_w 476, 37, [], .double 4609434218613702656), (.drem, 40, [], .null), (.invokestatic 478, 41, [0,285,1], .null), (.lreturn, 44, [2], .null)]
/-- TermDrawModel.ranked(II)I -/
abbrev mi_M_ranked : Nat := 261
def mm_k261 : List mm_Ins := [(.aload_n 0, 0, [0], .null), (.invokevirtual 440, 1, [1,239,1,11], .null), (.aload_n 0, 4, [0], .null), (.iload_n 1, 5, [1], .null), (.invokevirtual 461, 6, [1,257,2,11], .null), (.ifCond .eq 19, 9, [16], .null), (.iload_n 2, 12, [2], .null), (.i2l, 13, [], .null), (.lconst 0, 14, [], .long 0), (.aload_n 0, 15, [0], .null), (.getfield 344, 16, [32,0,11], .null), (.iconst 1, 19, [], .int 1), (.isub, 20, [], .null), (.i2l, 21, [], .null), (.invokestatic 204, 22, [0,181,3], .null), (.ifCond .ne 5, 25, [18], .null), (.iconst (-1), 28, [], .int (-1)), (.ireturn, 29, [1], .null), (.aload_n 0, 30, [0], .null), (.iload_n 1, 31, [1], .null), (.invokevirtual 484, 32, [1,254,2,11], .null), (.aload_n 0, 35, [0], .null), (.getfield 106, 36, [51,2,11], .null), (.iload_n 2, 39, [2], .null), (.iaload, 40, [], .null), (.ireturn, 41, [1], .null)]
/-- TermDrawModel.rank(II)I -/
abbrev mi_M_rank : Nat := 262
def mm_k262 : List mm_Ins := [(.aload_n 0, 0, [0], .null), (.iload_n 1, 1, [1], .null), (.invokevirtual 458, 2, [1,256,2,11], .null), (.ifCond .eq 11, 5, [8], .null), (.aload_n 0, 8, [0], .null), (.iload_n 2, 9, [2], .null), (.invokevirtual 461, 10, [1,257,2,11], .null), (.ifCond .ne 5, 13, [10], .null), (.iconst (-1), 16, [], .int (-1)), (.ireturn, 17, [1], .null), (.aload_n 0, 18, [0], .null), (.iload_n 2, 19, [2], .null), (.invokevirtual 484, 20, [1,254,2,11], .null), (.iconst 0, 23, [], .int 0), (.istore_n 3, 24, [3], .null), (.aload_n 0, 25, [0], .null), (.getfield 106, 26, [51,2,11], .null), (.iload_n 3, 29, [3], .null), (.iaload, 30, [], .null), (.iload_n 1, 31, [1], .null), (.if_icmp .eq 9, 32, [23], .null), (.iinc 3 1, 35, [3], .int 1), (.goto (-13), 38, [15], .null), (.iload_n 3, 41, [3], .null), (.ireturn, 42, [1], .null)]
/-- TermDrawModel.says(I)V -/
abbrev mi_M_says : Nat := 263
def mm_k263 : List mm_Ins := [(.aload_n 0, 0, [0], .null), (.getfield 112, 1, [53,2,11], .null), (.aload_n 0, 4, [0], .null), (.getfield 487, 5, [54,0,11], .null), (.iload_n 1, 8, [1], .null), (.iastore, 9, [], .null), (.aload_n 0, 10, [0], .null), (.dup, 11, [], .null), (.getfield 487, 12, [54,0,11], .null), (.iconst 1, 15, [], .int 1), (.iadd, 16, [], .null), (.putfield 487, 17, [54,0,0,11], .null), (.return_, 20, [0], .null)]
/-- TermDrawModel.saysWord(J)V -/
abbrev mi_M_saysWord : Nat := 264
def mm_k264 : List mm_Ins := [(.lload_n 1, 0, [1], .null), (.lstore_n 3, 1, [3], .null), (.lload_n 3, 2, [3], .null), (.lconst 0, 3, [], .long 0), (.lcmp, 4, [0,21], .null), (.aload_n 0, 8, [0], .null), (.lload_n 3, 9, [3], .null), (.bipush 9, 10, [], .int 9), (.invokestatic 175, 12, [0,187,1], .null), (.ldiv, 15, [], .null), (.l2i, 16, [], .null), (.bipush 96, 17, [], .int 96), (.iadd, 19, [], .null), (.invokevirtual 490, 20, [1,263,2,11], .null), (.lload_n 3, 23, [3], .null), (.ldc2_w 171, 24, [], .long 27), (.lmul, 27, [], .null), (.ldc2_w 173, 28, [], .long 205891132094649), (.lrem, 31, [], .null), (.lstore_n 3, 32, [3], .null), (.goto (-31), 33, [2], .null), (.return_, 36, [0], .null)]
/-- TermDrawModel.slate(I)I -/
abbrev mi_M_slate : Nat := 265
def mm_k265 : List mm_Ins := [(.iload_n 1, 0, [1], .null), (.iconst (-1), 1, [], .int (-1)), (.if_icmp .ne 8, 2, [6], .null), (.aload_n 0, 5, [0], .null), (.getfield 487, 6, [54,0,11], .null), (.ireturn, 9, [1], .null), (.iload_n 1, 10, [1], .null), (.i2l, 11, [], .null), (.lconst 0, 12, [], .long 0), (.aload_n 0, 13, [0], .null), (.getfield 487, 14, [54,0,11], .null), (.iconst 1, 17, [], .int 1), (.isub, 18, [], .null), (.i2l, 19, [], .null), (.invokestatic 204, 20, [0,181,3], .null), (.ifCond .eq 12, 23, [21], .null), (.aload_n 0, 26, [0], .null), (.getfield 112, 27, [53,2,11], .null), (.iload_n 1, 30, [1], .null), (.iaload, 31, [], .null), (.goto 5, 32, [22], .null), (.bipush (-2), 35, [], .int (-2)), (.ireturn, 37, [1], .null)]
/-- TermDrawModel.isWord(II)Z -/
abbrev mi_M_isWord : Nat := 266
def mm_k266 : List mm_Ins := [(.aload_n 0, 0, [0], .null), (.iload_n 1, 1, [1], .null), (.invokevirtual 335, 2, [1,225,2,11], .null), (.ifCond .eq 41, 5, [28], .null), (.iload_n 2, 8, [2], .null), (.i2l, 9, [], .null), (.lconst 0, 10, [], .long 0), (.aload_n 0, 11, [0], .null), (.getfield 7, 12, [0,2,11], .null), (.sipush 260, 15, [], .int 260), (.iload_n 1, 18, [1], .null), (.iadd, 19, [], .null), (.iconst 1, 20, [], .int 1), (.iadd, 21, [], .null), (.laload, 22, [], .null), (.aload_n 0, 23, [0], .null), (.getfield 7, 24, [0,2,11], .null), (.sipush 260, 27, [], .int 260), (.iload_n 1, 30, [1], .null), (.iadd, 31, [], .null), (.laload, 32, [], .null), (.lsub, 33, [], .null), (.lconst 1, 34, [], .long 1), (.lsub, 35, [], .null), (.invokestatic 204, 36, [0,181,3], .null), (.ifCond .eq 7, 39, [28], .null), (.iconst 1, 42, [], .int 1), (.goto 4, 43, [29], .null), (.iconst 0, 46, [], .int 0), (.ireturn, 47, [3], .null)]
/-- TermDrawModel.word(IIZ)I -/
abbrev mi_M_word : Nat := 267
def mm_k267 : List mm_Ins := [(.aload_n 0, 0, [0], .null), (.iload_n 1, 1, [1], .null), (.iload_n 2, 2, [2], .null), (.invokevirtual 493, 3, [1,266,3,11], .null), (.ifCond .ne 5, 6, [7], .null), (.iconst (-1), 9, [], .int (-1)), (.ireturn, 10, [1], .null), (.aload_n 0, 11, [0], .null), (.invokevirtual 440, 12, [1,239,1,11], .null), (.aload_n 0, 15, [0], .null), (.getfield 7, 16, [0,2,11], .null), (.sipush 260, 19, [], .int 260), (.iload_n 1, 22, [1], .null), (.iadd, 23, [], .null), (.laload, 24, [], .null), (.l2i, 25, [], .null), (.iload_n 2, 26, [2], .null), (.iadd, 27, [], .null), (.istore 4, 28, [4], .null), (.aload_n 0, 30, [0], .null), (.iconst 0, 31, [], .int 0), (.putfield 487, 32, [54,0,0,11], .null), (.aload_n 0, 35, [0], .null), (.iload_n 3, 36, [3], .null), (.ifCond .eq 13, 37, [30], .null), (.aload_n 0, 40, [0], .null), (.getfield 33, 41, [22,2,11], .null), (.iload 4, 44, [4], .null), (.laload, 46, [], .null), (.goto 14, 47, [36], .null), (.aload_n 0, 50, [0], .null), (.getfield 7, 51, [0,2,11], .null), (.sipush 269, 54, [], .int 269), (.iload 4, 57, [4], .null), (.iadd, 59, [], .null), (.laload, 60, [], .null), (.invokevirtual 496, 61, [1,264,2,11], .null), (.aload_n 0, 64, [0], .null), (.getfield 487, 65, [54,0,11], .null), (.ireturn, 68, [1], .null)]
/-- TermDrawModel.kindAt(II)I -/
abbrev mi_M_kindAt : Nat := 268
def mm_k268 : List mm_Ins := [(.aload_n 0, 0, [0], .null), (.iload_n 1, 1, [1], .null), (.iload_n 2, 2, [2], .null), (.invokevirtual 493, 3, [1,266,3,11], .null), (.ifCond .ne 5, 6, [7], .null), (.iconst (-1), 9, [], .int (-1)), (.ireturn, 10, [1], .null), (.aload_n 0, 11, [0], .null), (.invokevirtual 440, 12, [1,239,1,11], .null), (.aload_n 0, 15, [0], .null), (.getfield 36, 16, [23,2,11], .null), (.aload_n 0, 19, [0], .null), (.getfield 7, 20, [0,2,11], .null), (.sipush 260, 23, [], .int 260), (.iload_n 1, 26, [1], .null), (.iadd, 27, [], .null), (.laload, 28, [], .null), (.l2i, 29, [], .null), (.iload_n 2, 30, [2], .null), (.iadd, 31, [], .null), (.iaload, 32, [], .null), (.invokestatic 500, 33, [0,196,1], .null), (.ireturn, 36, [1], .null)]
/-- TermDrawModel.of(II)I -/
abbrev mi_M_of : Nat := 269
def mm_k269 : List mm_Ins := [(.aload_n 0, 0, [0], .null), (.iload_n 1, 1, [1], .null), (.invokevirtual 335, 2, [1,225,2,11], .null), (.ifCond .eq 15, 5, [10], .null), (.iload_n 2, 8, [2], .null), (.i2l, 9, [], .null), (.lconst 0, 10, [], .long 0), (.ldc2_w 340, 11, [], .long 3), (.invokestatic 204, 14, [0,181,3], .null), (.ifCond .ne 5, 17, [12], .null), (.iconst (-1), 20, [], .int (-1)), (.ireturn, 21, [1], .null), (.aload_n 0, 22, [0], .null), (.invokevirtual 440, 23, [1,239,1,11], .null), (.aload_n 0, 26, [0], .null), (.getfield 7, 27, [0,2,11], .null), (.sipush 260, 30, [], .int 260), (.iload_n 1, 33, [1], .null), (.iadd, 34, [], .null), (.laload, 35, [], .null), (.l2i, 36, [], .null), (.istore_n 3, 37, [3], .null), (.aload_n 0, 38, [0], .null), (.getfield 7, 39, [0,2,11], .null), (.sipush 260, 42, [], .int 260), (.iload_n 1, 45, [1], .null), (.iadd, 46, [], .null), (.iconst 1, 47, [], .int 1), (.iadd, 48, [], .null), (.laload, 49, [], .null), (.l2i, 50, [], .null), (.istore 4, 51, [4], .null), (.iconst 0, 53, [], .int 0), (.istore 5, 54, [5], .null), (.iload_n 2, 56, [2], .null), (.ifCond .ne 8, 57, [40], .null), (.iload 4, 60, [4], .null), (.iload_n 3, 62, [3], .null), (.isub, 63, [], .null), (.ireturn, 64, [1], .null), (.iload_n 2, 65, [2], .null), (.iconst 1, 66, [], .int 1), (.if_icmp .ne 69, 67, [77], .null), (.iload_n 3, 70, [3], .null), (.istore 6, 71, [6], .null), (.iload 6, 73, [6], .null), (.iload 4, 75, [4], .null), (.if_icmp .ge 56, 77, [75], .null), (.iload 5, 80, [5], .null), (.iload 6, 82, [6], .null), (.iload_n 3, 84, [3], .null), (.if_icmp .eq 31, 85, [67], .null), (.aload_n 0, 88, [0], .null), (.getfield 7, 89, [0,2,11], .null), (.sipush 669, 92, [], .int 669), (.iload 6, 95, [6], .null), (.iadd, 97, [], .null), (.laload, 98, [], .null), (.aload_n 0, 99, [0], .null), (.getfield 7, 100, [0,2,11], .null), (.sipush 669, 103, [], .int 669), (.iload 6, 106, [6], .null), (.iadd, 108, [], .null), (.iconst 1, 109, [], .int 1), (.isub, 110, [], .null), (.laload, 111, [], .null), (.lcmp, 112, [0,69], .null), (.iconst 1, 116, [], .int 1), (.goto 4, 117, [70], .null), (.iconst 0, 120, [], .int 0), (.invokestatic 294, 121, [0,182,1], .null), (.iadd, 124, [], .null), (.istore 5, 125, [5], .null), (.iinc 6 1, 127, [6], .int 1), (.goto (-57), 130, [45], .null), (.iload 5, 133, [5], .null), (.ireturn, 135, [1], .null), (.iconst 0, 136, [], .int 0), (.istore 6, 137, [6], .null), (.iload 6, 139, [6], .null), (.aload_n 0, 141, [0], .null), (.getfield 355, 142, [26,0,11], .null), (.if_icmp .ge 43, 145, [104], .null), (.iload_n 2, 148, [2], .null), (.iconst 2, 149, [], .int 2), (.if_icmp .ne 38, 150, [104], .null), (.iload 5, 153, [5], .null), (.aload_n 0, 155, [0], .null), (.getfield 39, 156, [24,2,11], .null), (.aload_n 0, 159, [0], .null), (.getfield 45, 160, [27,2,11], .null), (.iload 6, 163, [6], .null), (.iaload, 165, [], .null), (.iaload, 166, [], .null), (.iload_n 1, 167, [1], .null), (.if_icmp .ne 7, 168, [98], .null), (.iconst 1, 171, [], .int 1), (.goto 4, 172, [99], .null), (.iconst 0, 175, [], .int 0), (.invokestatic 294, 176, [0,182,1], .null), (.iadd, 179, [], .null), (.istore 5, 180, [5], .null), (.iinc 6 1, 182, [6], .int 1), (.goto (-46), 185, [79], .null), (.iconst 0, 188, [], .int 0), (.istore 6, 189, [6], .null), (.iload 6, 191, [6], .null), (.aload_n 0, 193, [0], .null), (.getfield 344, 194, [32,0,11], .null), (.if_icmp .ge 30, 197, [126], .null), (.iload_n 2, 200, [2], .null), (.iconst 3, 201, [], .int 3), (.if_icmp .ne 25, 202, [126], .null), (.iload 5, 205, [5], .null), (.aload_n 0, 207, [0], .null), (.getfield 76, 208, [38,2,11], .null), (.iload 6, 211, [6], .null), (.iaload, 213, [], .null), (.iload_n 1, 214, [1], .null), (.ishr, 215, [], .null), (.iconst 1, 216, [], .int 1), (.iand, 217, [], .null), (.iadd, 218, [], .null), (.istore 5, 219, [5], .null), (.iinc 6 1, 221, [6], .int 1), (.goto (-33), 224, [106], .null), (.iload 5, 227, [5], .null), (.ireturn, 229, [1], .null)]
/-- TermDrawModel.match(II)I -/
abbrev mi_M_match : Nat := 270
def mm_k270 : List mm_Ins := [(.aload_n 0, 0, [0], .null), (.invokevirtual 440, 1, [1,239,1,11], .null), (.iload_n 1, 4, [1], .null), (.iconst (-1), 5, [], .int (-1)), (.if_icmp .ne 8, 6, [8], .null), (.aload_n 0, 9, [0], .null), (.getfield 355, 10, [26,0,11], .null), (.ireturn, 13, [1], .null), (.iload_n 1, 14, [1], .null), (.i2l, 15, [], .null), (.lconst 0, 16, [], .long 0), (.aload_n 0, 17, [0], .null), (.getfield 355, 18, [26,0,11], .null), (.iconst 1, 21, [], .int 1), (.isub, 22, [], .null), (.i2l, 23, [], .null), (.invokestatic 204, 24, [0,181,3], .null), (.ifCond .ne 5, 27, [20], .null), (.iconst (-1), 30, [], .int (-1)), (.ireturn, 31, [1], .null), (.iload_n 2, 32, [2], .null), (.tableswitch 100 0 4 #[35, 47, 76, 83, 90], 33, [65,22,30,49,54,59], .null), (.aload_n 0, 68, [0], .null), (.getfield 39, 69, [24,2,11], .null), (.aload_n 0, 72, [0], .null), (.getfield 45, 73, [27,2,11], .null), (.iload_n 1, 76, [1], .null), (.iaload, 77, [], .null), (.iaload, 78, [], .null), (.ireturn, 79, [1], .null), (.aload_n 0, 80, [0], .null), (.getfield 45, 81, [27,2,11], .null), (.iload_n 1, 84, [1], .null), (.iaload, 85, [], .null), (.aload_n 0, 86, [0], .null), (.getfield 7, 87, [0,2,11], .null), (.sipush 260, 90, [], .int 260), (.aload_n 0, 93, [0], .null), (.getfield 39, 94, [24,2,11], .null), (.aload_n 0, 97, [0], .null), (.getfield 45, 98, [27,2,11], .null), (.iload_n 1, 101, [1], .null), (.iaload, 102, [], .null), (.iaload, 103, [], .null), (.iadd, 104, [], .null), (.laload, 105, [], .null), (.l2i, 106, [], .null), (.isub, 107, [], .null), (.ireturn, 108, [1], .null), (.aload_n 0, 109, [0], .null), (.getfield 48, 110, [28,2,11], .null), (.iload_n 1, 113, [1], .null), (.iaload, 114, [], .null), (.ireturn, 115, [1], .null), (.aload_n 0, 116, [0], .null), (.getfield 51, 117, [29,2,11], .null), (.iload_n 1, 120, [1], .null), (.iaload, 121, [], .null), (.ireturn, 122, [1], .null), (.aload_n 0, 123, [0], .null), (.getfield 54, 124, [30,2,11], .null), (.iload_n 1, 127, [1], .null), (.baload, 128, [], .null), (.invokestatic 294, 129, [0,182,1], .null), (.ireturn, 132, [1], .null), (.iconst (-1), 133, [], .int (-1)), (.ireturn, 134, [1], .null)]
/-- TermDrawModel.isForm(II)Z -/
abbrev mi_M_isForm : Nat := 271
def mm_k271 : List mm_Ins := [(.iconst 0, 0, [], .int 0), (.istore_n 3, 1, [3], .null), (.iload_n 3, 2, [3], .null), (.aload_n 0, 3, [0], .null), (.getfield 48, 4, [28,2,11], .null), (.iload_n 1, 7, [1], .null), (.iaload, 8, [], .null), (.if_icmp .ge 49, 9, [35], .null), (.aload_n 0, 12, [0], .null), (.getfield 7, 13, [0,2,11], .null), (.sipush 269, 16, [], .int 269), (.aload_n 0, 19, [0], .null), (.getfield 45, 20, [27,2,11], .null), (.iload_n 1, 23, [1], .null), (.iaload, 24, [], .null), (.iadd, 25, [], .null), (.iload_n 3, 26, [3], .null), (.iadd, 27, [], .null), (.laload, 28, [], .null), (.aload_n 0, 29, [0], .null), (.getfield 7, 30, [0,2,11], .null), (.sipush 269, 33, [], .int 269), (.aload_n 0, 36, [0], .null), (.getfield 45, 37, [27,2,11], .null), (.iload_n 2, 40, [2], .null), (.iaload, 41, [], .null), (.iadd, 42, [], .null), (.iload_n 3, 43, [3], .null), (.iadd, 44, [], .null), (.laload, 45, [], .null), (.lcmp, 46, [0,33], .null), (.iconst 0, 50, [], .int 0), (.ireturn, 51, [3], .null), (.iinc 3 1, 52, [3], .int 1), (.goto (-53), 55, [2], .null), (.iconst 1, 58, [], .int 1), (.ireturn, 59, [3], .null)]
/-- TermDrawModel.isFormAhead(II)Z -/
abbrev mi_M_isFormAhead : Nat := 272
def mm_k272 : List mm_Ins := [(.iconst 0, 0, [], .int 0), (.istore_n 3, 1, [3], .null), (.iload_n 3, 2, [3], .null), (.aload_n 0, 3, [0], .null), (.getfield 48, 4, [28,2,11], .null), (.iload_n 1, 7, [1], .null), (.iaload, 8, [], .null), (.if_icmp .ge 66, 9, [44], .null), (.aload_n 0, 12, [0], .null), (.getfield 7, 13, [0,2,11], .null), (.sipush 269, 16, [], .int 269), (.aload_n 0, 19, [0], .null), (.getfield 45, 20, [27,2,11], .null), (.iload_n 1, 23, [1], .null), (.iaload, 24, [], .null), (.iadd, 25, [], .null), (.iload_n 3, 26, [3], .null), (.iadd, 27, [], .null), (.laload, 28, [], .null), (.aload_n 0, 29, [0], .null), (.getfield 7, 30, [0,2,11], .null), (.sipush 269, 33, [], .int 269), (.aload_n 0, 36, [0], .null), (.getfield 45, 37, [27,2,11], .null), (.iload_n 2, 40, [2], .null), (.iaload, 41, [], .null), (.iadd, 42, [], .null), (.iload_n 3, 43, [3], .null), (.iadd, 44, [], .null), (.laload, 45, [], .null), (.lsub, 46, [], .null), (.lstore 4, 47, [4], .null), (.lload 4, 49, [4], .null), (.lconst 0, 51, [], .long 0), (.lcmp, 52, [0,42], .null), (.lload 4, 56, [4], .null), (.lconst 0, 58, [], .long 0), (.lcmp, 59, [3,40], .null), (.iconst 1, 63, [], .int 1), (.goto 4, 64, [41], .null), (.iconst 0, 67, [], .int 0), (.ireturn, 68, [3], .null), (.iinc 3 1, 69, [3], .int 1), (.goto (-70), 72, [2], .null), (.iconst 0, 75, [], .int 0), (.ireturn, 76, [3], .null)]
/-- TermDrawModel.findsForms(I)V -/
abbrev mi_M_findsForms : Nat := 273
def mm_k273 : List mm_Ins := [(.aload_n 0, 0, [0], .null), (.iconst 0, 1, [], .int 0), (.putfield 503, 2, [55,0,0,11], .null), (.aload_n 0, 5, [0], .null), (.getfield 73, 6, [37,2,11], .null), (.iload_n 1, 9, [1], .null), (.iaload, 10, [], .null), (.istore_n 2, 11, [2], .null), (.iload_n 2, 12, [2], .null), (.aload_n 0, 13, [0], .null), (.getfield 355, 14, [26,0,11], .null), (.if_icmp .ge 94, 17, [65], .null), (.aload_n 0, 20, [0], .null), (.getfield 51, 21, [29,2,11], .null), (.iload_n 2, 24, [2], .null), (.iaload, 25, [], .null), (.iload_n 1, 26, [1], .null), (.if_icmp .eq 6, 27, [19], .null), (.goto 75, 30, [63], .null), (.iconst 0, 33, [], .int 0), (.istore_n 3, 34, [3], .null), (.iload_n 3, 35, [3], .null), (.aload_n 0, 36, [0], .null), (.getfield 503, 37, [55,0,11], .null), (.if_icmp .ge 23, 40, [35], .null), (.aload_n 0, 43, [0], .null), (.iload_n 2, 44, [2], .null), (.aload_n 0, 45, [0], .null), (.getfield 115, 46, [57,2,11], .null), (.iload_n 3, 49, [3], .null), (.iaload, 50, [], .null), (.invokevirtual 506, 51, [1,271,3,11], .null), (.ifCond .ne 9, 54, [35], .null), (.iinc 3 1, 57, [3], .int 1), (.goto (-25), 60, [21], .null), (.iload_n 3, 63, [3], .null), (.aload_n 0, 64, [0], .null), (.getfield 503, 65, [55,0,11], .null), (.if_icmp .ne 27, 68, [55], .null), (.aload_n 0, 71, [0], .null), (.getfield 115, 72, [57,2,11], .null), (.iload_n 3, 75, [3], .null), (.iload_n 2, 76, [2], .null), (.iastore, 77, [], .null), (.aload_n 0, 78, [0], .null), (.getfield 118, 79, [58,2,11], .null), (.iload_n 3, 82, [3], .null), (.iconst 0, 83, [], .int 0), (.iastore, 84, [], .null), (.aload_n 0, 85, [0], .null), (.dup, 86, [], .null), (.getfield 503, 87, [55,0,11], .null), (.iconst 1, 90, [], .int 1), (.iadd, 91, [], .null), (.putfield 503, 92, [55,0,0,11], .null), (.aload_n 0, 95, [0], .null), (.getfield 118, 96, [58,2,11], .null), (.iload_n 3, 99, [3], .null), (.dup2, 100, [], .null), (.iaload, 101, [], .null), (.iconst 1, 102, [], .int 1), (.iadd, 103, [], .null), (.iastore, 104, [], .null), (.iinc 2 1, 105, [2], .int 1), (.goto (-96), 108, [8], .null), (.iconst 0, 111, [], .int 0), (.istore_n 2, 112, [2], .null), (.iconst 1, 113, [], .int 1), (.istore_n 3, 114, [3], .null), (.iload_n 3, 115, [3], .null), (.aload_n 0, 116, [0], .null), (.getfield 503, 117, [55,0,11], .null), (.if_icmp .ge 60, 120, [106], .null), (.aload_n 0, 123, [0], .null), (.getfield 118, 124, [58,2,11], .null), (.iload_n 3, 127, [3], .null), (.iaload, 128, [], .null), (.aload_n 0, 129, [0], .null), (.getfield 118, 130, [58,2,11], .null), (.iload_n 2, 133, [2], .null), (.iaload, 134, [], .null), (.if_icmp .gt 37, 135, [102], .null), (.aload_n 0, 138, [0], .null), (.getfield 118, 139, [58,2,11], .null), (.iload_n 3, 142, [3], .null), (.iaload, 143, [], .null), (.aload_n 0, 144, [0], .null), (.getfield 118, 145, [58,2,11], .null), (.iload_n 2, 148, [2], .null), (.iaload, 149, [], .null), (.if_icmp .ne 24, 150, [104], .null), (.aload_n 0, 153, [0], .null), (.aload_n 0, 154, [0], .null), (.getfield 115, 155, [57,2,11], .null), (.iload_n 3, 158, [3], .null), (.iaload, 159, [], .null), (.aload_n 0, 160, [0], .null), (.getfield 115, 161, [57,2,11], .null), (.iload_n 2, 164, [2], .null), (.iaload, 165, [], .null), (.invokevirtual 509, 166, [1,272,3,11], .null), (.ifCond .eq 5, 169, [104], .null), (.iload_n 3, 172, [3], .null), (.istore_n 2, 173, [2], .null), (.iinc 3 1, 174, [3], .int 1), (.goto (-62), 177, [69], .null), (.aload_n 0, 180, [0], .null), (.aload_n 0, 181, [0], .null), (.getfield 115, 182, [57,2,11], .null), (.iload_n 2, 185, [2], .null), (.iaload, 186, [], .null), (.putfield 512, 187, [56,0,0,11], .null), (.return_, 190, [0], .null)]
/-- TermDrawModel.term(IZ)I -/
abbrev mi_M_term : Nat := 274
def mm_k274 : List mm_Ins := [(.aload_n 0, 0, [0], .null), (.iload_n 1, 1, [1], .null), (.invokevirtual 458, 2, [1,256,2,11], .null), (.ifCond .ne 5, 5, [6], .null), (.iconst (-1), 8, [], .int (-1)), (.ireturn, 9, [1], .null), (.aload_n 0, 10, [0], .null), (.iload_n 1, 11, [1], .null), (.invokevirtual 515, 12, [1,273,2,11], .null), (.aload_n 0, 15, [0], .null), (.iconst 0, 16, [], .int 0), (.putfield 487, 17, [54,0,0,11], .null), (.iconst 0, 20, [], .int 0), (.istore_n 3, 21, [3], .null), (.iload_n 3, 22, [3], .null), (.aload_n 0, 23, [0], .null), (.getfield 64, 24, [34,2,11], .null), (.iload_n 1, 27, [1], .null), (.iaload, 28, [], .null), (.if_icmp .ge 63, 29, [53], .null), (.iload_n 3, 32, [3], .null), (.ifCond .le 9, 33, [25], .null), (.aload_n 0, 36, [0], .null), (.bipush 32, 37, [], .int 32), (.invokevirtual 490, 39, [1,263,2,11], .null), (.aload_n 0, 42, [0], .null), (.iload_n 2, 43, [2], .null), (.ifCond .eq 26, 44, [41], .null), (.aload_n 0, 47, [0], .null), (.getfield 7, 48, [0,2,11], .null), (.sipush 269, 51, [], .int 269), (.aload_n 0, 54, [0], .null), (.getfield 45, 55, [27,2,11], .null), (.aload_n 0, 58, [0], .null), (.getfield 512, 59, [56,0,11], .null), (.iaload, 62, [], .null), (.iadd, 63, [], .null), (.iload_n 3, 64, [3], .null), (.iadd, 65, [], .null), (.laload, 66, [], .null), (.goto 16, 67, [50], .null), (.aload_n 0, 70, [0], .null), (.getfield 33, 71, [22,2,11], .null), (.aload_n 0, 74, [0], .null), (.getfield 61, 75, [33,2,11], .null), (.iload_n 1, 78, [1], .null), (.iaload, 79, [], .null), (.iload_n 3, 80, [3], .null), (.iadd, 81, [], .null), (.laload, 82, [], .null), (.invokevirtual 496, 83, [1,264,2,11], .null), (.iinc 3 1, 86, [3], .int 1), (.goto (-67), 89, [14], .null), (.aload_n 0, 92, [0], .null), (.getfield 487, 93, [54,0,11], .null), (.ireturn, 96, [1], .null)]
/-- TermDrawModel.find()I -/
abbrev mi_M_find : Nat := 275
def mm_k275 : List mm_Ins := [(.aload_n 0, 0, [0], .null), (.invokevirtual 440, 1, [1,239,1,11], .null), (.aload_n 0, 4, [0], .null), (.invokevirtual 154, 5, [1,200,1,11], .null), (.iconst 0, 8, [], .int 0), (.istore_n 1, 9, [1], .null), (.iconst 1, 10, [], .int 1), (.istore_n 2, 11, [2], .null), (.iload_n 2, 12, [2], .null), (.ifCond .eq 46, 13, [32], .null), (.aload_n 0, 16, [0], .null), (.invokevirtual 217, 17, [1,201,1,11], .null), (.iconst (-1), 20, [], .int (-1)), (.if_icmp .eq 38, 21, [32], .null), (.aload_n 0, 24, [0], .null), (.invokevirtual 239, 25, [1,204,1,11], .null), (.istore_n 2, 28, [2], .null), (.iload_n 2, 29, [2], .null), (.ifCond .eq (-18), 30, [8], .null), (.iload_n 1, 33, [1], .null), (.bipush 6, 34, [], .int 6), (.if_icmp .ge (-24), 36, [8], .null), (.aload_n 0, 39, [0], .null), (.getfield 121, 40, [59,2,11], .null), (.iload_n 1, 43, [1], .null), (.aload_n 0, 44, [0], .null), (.aload_n 0, 45, [0], .null), (.getfield 235, 46, [11,1,11], .null), (.invokevirtual 197, 49, [1,193,2,11], .null), (.lastore, 52, [], .null), (.iinc 1 1, 53, [1], .int 1), (.goto (-44), 56, [8], .null), (.aload_n 0, 59, [0], .null), (.iconst 0, 60, [], .int 0), (.putfield 151, 61, [5,0,0,11], .null), (.iload_n 2, 64, [2], .null), (.ifCond .eq 12, 65, [42], .null), (.iload_n 1, 68, [1], .null), (.ifCond .eq 8, 69, [42], .null), (.iload_n 1, 72, [1], .null), (.iconst 5, 73, [], .int 5), (.if_icmp .le 5, 74, [44], .null), (.iconst (-1), 77, [], .int (-1)), (.ireturn, 78, [1], .null), (.aload_n 0, 79, [0], .null), (.aload_n 0, 80, [0], .null), (.getfield 121, 81, [59,2,11], .null), (.iconst 0, 84, [], .int 0), (.iload_n 1, 85, [1], .null), (.invokevirtual 351, 86, [1,234,4,11], .null), (.istore_n 3, 89, [3], .null), (.iload_n 3, 90, [3], .null), (.aload_n 0, 91, [0], .null), (.getfield 344, 92, [32,0,11], .null), (.if_icmp .ge 21, 95, [65], .null), (.aload_n 0, 98, [0], .null), (.aload_n 0, 99, [0], .null), (.getfield 121, 100, [59,2,11], .null), (.iconst 0, 103, [], .int 0), (.iload_n 1, 104, [1], .null), (.iload_n 3, 105, [3], .null), (.invokevirtual 347, 106, [1,233,5,11], .null), (.ifCond .ne 7, 109, [65], .null), (.iload_n 3, 112, [3], .null), (.goto 4, 113, [66], .null), (.iconst (-1), 116, [], .int (-1)), (.ireturn, 117, [1], .null)]
/-- TermDrawModel.aroundOf(I)I -/
abbrev mi_M_aroundOf : Nat := 276
def mm_k276 : List mm_Ins := [(.aload_n 0, 0, [0], .null), (.iload_n 1, 1, [1], .null), (.invokevirtual 404, 2, [1,243,2,11], .null), (.iconst 0, 5, [], .int 0), (.istore_n 2, 6, [2], .null), (.iconst 0, 7, [], .int 0), (.istore_n 3, 8, [3], .null), (.iload_n 3, 9, [3], .null), (.aload_n 0, 10, [0], .null), (.getfield 370, 11, [43,0,11], .null), (.if_icmp .ge 29, 14, [25], .null), (.iload_n 2, 17, [2], .null), (.aload_n 0, 18, [0], .null), (.getfield 97, 19, [46,2,11], .null), (.iload_n 3, 22, [3], .null), (.iaload, 23, [], .null), (.ifCond .le 7, 24, [19], .null), (.iconst 1, 27, [], .int 1), (.goto 4, 28, [20], .null), (.iconst 0, 31, [], .int 0), (.invokestatic 294, 32, [0,182,1], .null), (.iadd, 35, [], .null), (.istore_n 2, 36, [2], .null), (.iinc 3 1, 37, [3], .int 1), (.goto (-31), 40, [7], .null), (.iload_n 2, 43, [2], .null), (.ireturn, 44, [1], .null)]
/-- TermDrawModel.told(II)I -/
abbrev mi_M_told : Nat := 277
def mm_k277 : List mm_Ins := [(.aload_n 0, 0, [0], .null), (.invokevirtual 440, 1, [1,239,1,11], .null), (.iload_n 1, 4, [1], .null), (.iconst (-1), 5, [], .int (-1)), (.if_icmp .ne 8, 6, [8], .null), (.aload_n 0, 9, [0], .null), (.getfield 344, 10, [32,0,11], .null), (.ireturn, 13, [1], .null), (.aload_n 0, 14, [0], .null), (.iload_n 1, 15, [1], .null), (.invokevirtual 458, 16, [1,256,2,11], .null), (.ifCond .ne 5, 19, [14], .null), (.iconst (-1), 22, [], .int (-1)), (.ireturn, 23, [1], .null), (.iload_n 2, 24, [2], .null), (.tableswitch 127 0 9 #[55, 62, 69, 76, 83, 93, 100, 107, 114, 120], 25, [66,16,21,26,31,36,42,47,52,57,61], .null), (.aload_n 0, 80, [0], .null), (.getfield 67, 81, [35,2,11], .null), (.iload_n 1, 84, [1], .null), (.iaload, 85, [], .null), (.ireturn, 86, [1], .null), (.aload_n 0, 87, [0], .null), (.getfield 70, 88, [36,2,11], .null), (.iload_n 1, 91, [1], .null), (.iaload, 92, [], .null), (.ireturn, 93, [1], .null), (.aload_n 0, 94, [0], .null), (.getfield 79, 95, [39,2,11], .null), (.iload_n 1, 98, [1], .null), (.iaload, 99, [], .null), (.ireturn, 100, [1], .null), (.aload_n 0, 101, [0], .null), (.getfield 82, 102, [40,2,11], .null), (.iload_n 1, 105, [1], .null), (.iaload, 106, [], .null), (.ireturn, 107, [1], .null), (.aload_n 0, 108, [0], .null), (.iload_n 1, 109, [1], .null), (.invokevirtual 515, 110, [1,273,2,11], .null), (.aload_n 0, 113, [0], .null), (.getfield 503, 114, [55,0,11], .null), (.ireturn, 117, [1], .null), (.aload_n 0, 118, [0], .null), (.getfield 85, 119, [41,2,11], .null), (.iload_n 1, 122, [1], .null), (.iaload, 123, [], .null), (.ireturn, 124, [1], .null), (.aload_n 0, 125, [0], .null), (.getfield 64, 126, [34,2,11], .null), (.iload_n 1, 129, [1], .null), (.iaload, 130, [], .null), (.ireturn, 131, [1], .null), (.aload_n 0, 132, [0], .null), (.getfield 76, 133, [38,2,11], .null), (.iload_n 1, 136, [1], .null), (.iaload, 137, [], .null), (.ireturn, 138, [1], .null), (.aload_n 0, 139, [0], .null), (.iload_n 1, 140, [1], .null), (.invokevirtual 518, 141, [1,276,2,11], .null), (.ireturn, 144, [1], .null), (.aload_n 0, 145, [0], .null), (.getfield 73, 146, [37,2,11], .null), (.iload_n 1, 149, [1], .null), (.iaload, 150, [], .null), (.ireturn, 151, [1], .null), (.iconst (-1), 152, [], .int (-1)), (.ireturn, 153, [1], .null)]
/-- TermDrawModel.longer(II)I -/
abbrev mi_M_longer : Nat := 278
def mm_k278 : List mm_Ins := [(.aload_n 0, 0, [0], .null), (.iload_n 1, 1, [1], .null), (.invokevirtual 458, 2, [1,256,2,11], .null), (.ifCond .ne 5, 5, [6], .null), (.iconst (-1), 8, [], .int (-1)), (.ireturn, 9, [1], .null), (.iload_n 2, 10, [2], .null), (.iconst (-1), 11, [], .int (-1)), (.if_icmp .ne 10, 12, [14], .null), (.aload_n 0, 15, [0], .null), (.getfield 79, 16, [39,2,11], .null), (.iload_n 1, 19, [1], .null), (.iaload, 20, [], .null), (.ireturn, 21, [1], .null), (.iload_n 2, 22, [2], .null), (.istore_n 3, 23, [3], .null), (.iconst 0, 24, [], .int 0), (.istore 4, 25, [4], .null), (.iload 4, 27, [4], .null), (.aload_n 0, 29, [0], .null), (.getfield 344, 30, [32,0,11], .null), (.if_icmp .ge 52, 33, [46], .null), (.iload_n 2, 36, [2], .null), (.ifCond .lt 48, 37, [46], .null), (.aload_n 0, 40, [0], .null), (.getfield 64, 41, [34,2,11], .null), (.iload 4, 44, [4], .null), (.iaload, 46, [], .null), (.aload_n 0, 47, [0], .null), (.getfield 64, 48, [34,2,11], .null), (.iload_n 1, 51, [1], .null), (.iaload, 52, [], .null), (.if_icmp .le 26, 53, [44], .null), (.aload_n 0, 56, [0], .null), (.iload_n 1, 57, [1], .null), (.iload 4, 58, [4], .null), (.invokevirtual 401, 60, [1,240,3,11], .null), (.ifCond .ne 6, 63, [39], .null), (.goto 13, 66, [44], .null), (.iload_n 3, 69, [3], .null), (.ifCond .ne 6, 70, [43], .null), (.iload 4, 73, [4], .null), (.ireturn, 75, [1], .null), (.iinc 3 (-1), 76, [3], .int (-1)), (.iinc 4 1, 79, [4], .int 1), (.goto (-55), 82, [18], .null), (.iconst (-1), 85, [], .int (-1)), (.ireturn, 86, [1], .null)]
/-- TermDrawModel.around(II)I -/
abbrev mi_M_around : Nat := 279
def mm_k279 : List mm_Ins := [(.aload_n 0, 0, [0], .null), (.iload_n 1, 1, [1], .null), (.invokevirtual 458, 2, [1,256,2,11], .null), (.ifCond .eq 7, 5, [6], .null), (.iload_n 2, 8, [2], .null), (.ifCond .ge 5, 9, [8], .null), (.iconst (-1), 12, [], .int (-1)), (.ireturn, 13, [1], .null), (.aload_n 0, 14, [0], .null), (.iload_n 1, 15, [1], .null), (.invokevirtual 404, 16, [1,243,2,11], .null), (.iload_n 2, 19, [2], .null), (.istore_n 3, 20, [3], .null), (.iconst 0, 21, [], .int 0), (.istore 4, 22, [4], .null), (.iload 4, 24, [4], .null), (.aload_n 0, 26, [0], .null), (.getfield 370, 27, [43,0,11], .null), (.if_icmp .ge 53, 30, [44], .null), (.aload_n 0, 33, [0], .null), (.getfield 97, 34, [46,2,11], .null), (.iload 4, 37, [4], .null), (.iaload, 39, [], .null), (.ifCond .ne 6, 40, [25], .null), (.goto 34, 43, [42], .null), (.iload_n 3, 46, [3], .null), (.ifCond .ne 27, 47, [41], .null), (.aload_n 0, 50, [0], .null), (.iconst 0, 51, [], .int 0), (.putfield 487, 52, [54,0,0,11], .null), (.aload_n 0, 55, [0], .null), (.aload_n 0, 56, [0], .null), (.getfield 88, 57, [42,2,11], .null), (.iload 4, 60, [4], .null), (.laload, 62, [], .null), (.invokevirtual 496, 63, [1,264,2,11], .null), (.aload_n 0, 66, [0], .null), (.getfield 97, 67, [46,2,11], .null), (.iload 4, 70, [4], .null), (.iaload, 72, [], .null), (.ireturn, 73, [1], .null), (.iinc 3 (-1), 74, [3], .int (-1)), (.iinc 4 1, 77, [4], .int 1), (.goto (-56), 80, [15], .null), (.iconst (-1), 83, [], .int (-1)), (.ireturn, 84, [1], .null)]
/-- TermDrawModel.likely(Z)J -/
abbrev mi_M_likely : Nat := 280
def mm_k280 : List mm_Ins := [(.aload_n 0, 0, [0], .null), (.getfield 487, 1, [54,0,11], .null), (.i2l, 4, [], .null), (.lconst 1, 5, [], .long 1), (.ldc2_w 521, 6, [], .long 10), (.invokestatic 204, 9, [0,181,3], .null), (.ifCond .ne 7, 12, [9], .null), (.ldc2_w 474, 15, [], .long (-1)), (.lreturn, 18, [2], .null), (.lconst 0, 19, [], .long 0), (.lstore_n 2, 20, [2], .null), (.bipush 9, 21, [], .int 9), (.invokestatic 175, 23, [0,187,1], .null), (.lstore 4, 26, [4], .null), (.iconst 0, 28, [], .int 0), (.istore 6, 29, [6], .null), (.iload 6, 31, [6], .null), (.aload_n 0, 33, [0], .null), (.getfield 487, 34, [54,0,11], .null), (.if_icmp .ge 50, 37, [46], .null), (.aload_n 0, 40, [0], .null), (.getfield 112, 41, [53,2,11], .null), (.iload 6, 44, [6], .null), (.iaload, 46, [], .null), (.bipush 32, 47, [], .int 32), (.if_icmp .ne 7, 49, [28], .null), (.ldc2_w 474, 52, [], .long (-1)), (.lreturn, 55, [2], .null), (.lload_n 2, 56, [2], .null), (.aload_n 0, 57, [0], .null), (.getfield 112, 58, [53,2,11], .null), (.iload 6, 61, [6], .null), (.iaload, 63, [], .null), (.bipush 96, 64, [], .int 96), (.isub, 66, [], .null), (.i2l, 67, [], .null), (.lload 4, 68, [4], .null), (.lmul, 70, [], .null), (.ladd, 71, [], .null), (.lstore_n 2, 72, [2], .null), (.lload 4, 73, [4], .null), (.ldc2_w 171, 75, [], .long 27), (.ldiv, 78, [], .null), (.lstore 4, 79, [4], .null), (.iinc 6 1, 81, [6], .int 1), (.goto (-53), 84, [16], .null), (.aload_n 0, 87, [0], .null), (.invokevirtual 440, 88, [1,239,1,11], .null), (.aload_n 0, 91, [0], .null), (.lload_n 2, 92, [2], .null), (.invokevirtual 373, 93, [1,238,2,11], .null), (.istore 6, 96, [6], .null), (.aload_n 0, 98, [0], .null), (.getfield 344, 99, [32,0,11], .null), (.ifCond .eq 34, 102, [70], .null), (.iload 6, 105, [6], .null), (.aload_n 0, 107, [0], .null), (.getfield 370, 108, [43,0,11], .null), (.if_icmp .eq 25, 111, [70], .null), (.aload_n 0, 114, [0], .null), (.getfield 88, 115, [42,2,11], .null), (.iload 6, 118, [6], .null), (.laload, 120, [], .null), (.lload_n 2, 121, [2], .null), (.lcmp, 122, [1,70], .null), (.aload_n 0, 126, [0], .null), (.getfield 94, 127, [45,2,11], .null), (.iload 6, 130, [6], .null), (.iaload, 132, [], .null), (.ifCond .ne 13, 133, [76], .null), (.iload_n 1, 136, [1], .null), (.ifCond .eq 7, 137, [74], .null), (.lconst 1, 140, [], .long 1), (.goto 4, 141, [75], .null), (.lconst 0, 144, [], .long 0), (.lreturn, 145, [2], .null), (.aload_n 0, 146, [0], .null), (.aload_n 0, 147, [0], .null), (.getfield 94, 148, [45,2,11], .null), (.iload 6, 151, [6], .null), (.iaload, 153, [], .null), (.i2l, 154, [], .null), (.aload_n 0, 155, [0], .null), (.getfield 344, 156, [32,0,11], .null), (.i2l, 159, [], .null), (.invokevirtual 417, 160, [1,246,3,11], .null), (.iload_n 1, 163, [1], .null), (.ifCond .eq 10, 164, [91], .null), (.aload_n 0, 167, [0], .null), (.getfield 414, 168, [48,1,11], .null), (.goto 7, 171, [93], .null), (.aload_n 0, 174, [0], .null), (.getfield 411, 175, [47,1,11], .null), (.lreturn, 178, [2], .null)]
/-- TermDrawModel.head(II)I -/
abbrev mi_M_head_ : Nat := 281
def mm_k281 : List mm_Ins := [(.aload_n 0, 0, [0], .null), (.invokevirtual 440, 1, [1,239,1,11], .null), (.iconst 0, 4, [], .int 0), (.istore_n 3, 5, [3], .null), (.iload_n 3, 6, [3], .null), (.aload_n 0, 7, [0], .null), (.getfield 370, 8, [43,0,11], .null), (.if_icmp .ge 16, 11, [15], .null), (.aload_n 0, 14, [0], .null), (.getfield 124, 15, [60,2,11], .null), (.iload_n 3, 18, [3], .null), (.iconst 0, 19, [], .int 0), (.iastore, 20, [], .null), (.iinc 3 1, 21, [3], .int 1), (.goto (-18), 24, [4], .null), (.iconst 0, 27, [], .int 0), (.istore_n 3, 28, [3], .null), (.iload_n 3, 29, [3], .null), (.aload_n 0, 30, [0], .null), (.getfield 344, 31, [32,0,11], .null), (.if_icmp .ge 84, 34, [72], .null), (.aload_n 0, 37, [0], .null), (.getfield 91, 38, [44,2,11], .null), (.aload_n 0, 41, [0], .null), (.getfield 61, 42, [33,2,11], .null), (.iload_n 3, 45, [3], .null), (.iaload, 46, [], .null), (.aload_n 0, 47, [0], .null), (.getfield 64, 48, [34,2,11], .null), (.iload_n 3, 51, [3], .null), (.iaload, 52, [], .null), (.iadd, 53, [], .null), (.iconst 1, 54, [], .int 1), (.isub, 55, [], .null), (.iaload, 56, [], .null), (.istore 4, 57, [4], .null), (.aload_n 0, 59, [0], .null), (.getfield 124, 60, [60,2,11], .null), (.iload 4, 63, [4], .null), (.iaload, 65, [], .null), (.ifCond .ne 19, 66, [51], .null), (.aload_n 0, 69, [0], .null), (.getfield 127, 70, [61,2,11], .null), (.iload 4, 73, [4], .null), (.iconst 0, 75, [], .int 0), (.iastore, 76, [], .null), (.aload_n 0, 77, [0], .null), (.getfield 130, 78, [62,2,11], .null), (.iload 4, 81, [4], .null), (.iload_n 3, 83, [3], .null), (.iastore, 84, [], .null), (.aload_n 0, 85, [0], .null), (.getfield 124, 86, [60,2,11], .null), (.iload 4, 89, [4], .null), (.dup2, 91, [], .null), (.iaload, 92, [], .null), (.iconst 1, 93, [], .int 1), (.iadd, 94, [], .null), (.iastore, 95, [], .null), (.aload_n 0, 96, [0], .null), (.getfield 127, 97, [61,2,11], .null), (.iload 4, 100, [4], .null), (.dup2, 102, [], .null), (.iaload, 103, [], .null), (.aload_n 0, 104, [0], .null), (.getfield 67, 105, [35,2,11], .null), (.iload_n 3, 108, [3], .null), (.iaload, 109, [], .null), (.iadd, 110, [], .null), (.iastore, 111, [], .null), (.iinc 3 1, 112, [3], .int 1), (.goto (-86), 115, [17], .null), (.iconst 0, 118, [], .int 0), (.istore_n 3, 119, [3], .null), (.iconst 0, 120, [], .int 0), (.istore 4, 121, [4], .null), (.iload 4, 123, [4], .null), (.aload_n 0, 125, [0], .null), (.getfield 370, 126, [43,0,11], .null), (.if_icmp .ge 76, 129, [117], .null), (.aload_n 0, 132, [0], .null), (.getfield 124, 133, [60,2,11], .null), (.iload 4, 136, [4], .null), (.iaload, 138, [], .null), (.ifCond .ne 6, 139, [86], .null), (.goto 57, 142, [115], .null), (.iload_n 3, 145, [3], .null), (.iload_n 1, 146, [1], .null), (.if_icmp .ne 49, 147, [114], .null), (.iload_n 2, 150, [2], .null), (.ifCond .ne 13, 151, [96], .null), (.aload_n 0, 154, [0], .null), (.getfield 124, 155, [60,2,11], .null), (.iload 4, 158, [4], .null), (.iaload, 160, [], .null), (.goto 34, 161, [113], .null), (.iload_n 2, 164, [2], .null), (.iconst 1, 165, [], .int 1), (.if_icmp .ne 13, 166, [104], .null), (.aload_n 0, 169, [0], .null), (.getfield 127, 170, [61,2,11], .null), (.iload 4, 173, [4], .null), (.iaload, 175, [], .null), (.goto 19, 176, [113], .null), (.iload_n 2, 179, [2], .null), (.iconst 2, 180, [], .int 2), (.if_icmp .ne 13, 181, [112], .null), (.aload_n 0, 184, [0], .null), (.getfield 130, 185, [62,2,11], .null), (.iload 4, 188, [4], .null), (.iaload, 190, [], .null), (.goto 4, 191, [113], .null), (.iconst (-1), 194, [], .int (-1)), (.ireturn, 195, [1], .null), (.iinc 3 1, 196, [3], .int 1), (.iinc 4 1, 199, [4], .int 1), (.goto (-79), 202, [76], .null), (.iload_n 1, 205, [1], .null), (.iconst (-1), 206, [], .int (-1)), (.if_icmp .ne 7, 207, [122], .null), (.iload_n 3, 210, [3], .null), (.goto 4, 211, [123], .null), (.iconst (-1), 214, [], .int (-1)), (.ireturn, 215, [1], .null)]
/-- TermDrawModel.cover(II)I -/
abbrev mi_M_cover : Nat := 282
def mm_k282 : List mm_Ins := [(.aload_n 0, 0, [0], .null), (.invokevirtual 440, 1, [1,239,1,11], .null), (.aload_n 0, 4, [0], .null), (.iload_n 1, 5, [1], .null), (.invokevirtual 461, 6, [1,257,2,11], .null), (.ifCond .eq 17, 9, [14], .null), (.iload_n 2, 12, [2], .null), (.i2l, 13, [], .null), (.lconst 0, 14, [], .long 0), (.aload_n 0, 15, [0], .null), (.getfield 344, 16, [32,0,11], .null), (.i2l, 19, [], .null), (.invokestatic 204, 20, [0,181,3], .null), (.ifCond .ne 5, 23, [16], .null), (.iconst (-1), 26, [], .int (-1)), (.ireturn, 27, [1], .null), (.aload_n 0, 28, [0], .null), (.iload_n 1, 29, [1], .null), (.invokevirtual 484, 30, [1,254,2,11], .null), (.iconst 0, 33, [], .int 0), (.istore_n 3, 34, [3], .null), (.iload_n 3, 35, [3], .null), (.aload_n 0, 36, [0], .null), (.getfield 344, 37, [32,0,11], .null), (.if_icmp .ge 16, 40, [32], .null), (.aload_n 0, 43, [0], .null), (.getfield 136, 44, [64,2,11], .null), (.iload_n 3, 47, [3], .null), (.iconst 0, 48, [], .int 0), (.bastore, 49, [], .null), (.iinc 3 1, 50, [3], .int 1), (.goto (-18), 53, [21], .null), (.iconst 0, 56, [], .int 0), (.istore_n 3, 57, [3], .null), (.iload_n 3, 58, [3], .null), (.iload_n 2, 59, [2], .null), (.if_icmp .ge 21, 60, [47], .null), (.aload_n 0, 63, [0], .null), (.getfield 136, 64, [64,2,11], .null), (.aload_n 0, 67, [0], .null), (.getfield 106, 68, [51,2,11], .null), (.iload_n 3, 71, [3], .null), (.iaload, 72, [], .null), (.iconst 1, 73, [], .int 1), (.bastore, 74, [], .null), (.iinc 3 1, 75, [3], .int 1), (.goto (-20), 78, [34], .null), (.iconst 0, 81, [], .int 0), (.istore_n 3, 82, [3], .null), (.iload_n 3, 83, [3], .null), (.aload_n 0, 84, [0], .null), (.getfield 364, 85, [21,0,11], .null), (.if_icmp .ge 16, 88, [60], .null), (.aload_n 0, 91, [0], .null), (.getfield 133, 92, [63,2,11], .null), (.iload_n 3, 95, [3], .null), (.iconst 0, 96, [], .int 0), (.bastore, 97, [], .null), (.iinc 3 1, 98, [3], .int 1), (.goto (-18), 101, [49], .null), (.iconst 0, 104, [], .int 0), (.istore_n 3, 105, [3], .null), (.iload_n 3, 106, [3], .null), (.aload_n 0, 107, [0], .null), (.getfield 355, 108, [26,0,11], .null), (.if_icmp .ge 58, 111, [96], .null), (.iconst 0, 114, [], .int 0), (.istore 4, 115, [4], .null), (.iload 4, 117, [4], .null), (.aload_n 0, 119, [0], .null), (.getfield 48, 120, [28,2,11], .null), (.iload_n 3, 123, [3], .null), (.iaload, 124, [], .null), (.if_icmp .ge 38, 125, [94], .null), (.aload_n 0, 128, [0], .null), (.getfield 136, 129, [64,2,11], .null), (.aload_n 0, 132, [0], .null), (.getfield 51, 133, [29,2,11], .null), (.iload_n 3, 136, [3], .null), (.iaload, 137, [], .null), (.baload, 138, [], .null), (.ifCond .eq 24, 139, [94], .null), (.aload_n 0, 142, [0], .null), (.getfield 133, 143, [63,2,11], .null), (.aload_n 0, 146, [0], .null), (.getfield 45, 147, [27,2,11], .null), (.iload_n 3, 150, [3], .null), (.iaload, 151, [], .null), (.iload 4, 152, [4], .null), (.iadd, 154, [], .null), (.iconst 1, 155, [], .int 1), (.bastore, 156, [], .null), (.iinc 4 1, 157, [4], .int 1), (.goto (-43), 160, [68], .null), (.iinc 3 1, 163, [3], .int 1), (.goto (-60), 166, [62], .null), (.iconst 0, 169, [], .int 0), (.istore_n 3, 170, [3], .null), (.iconst 0, 171, [], .int 0), (.istore 4, 172, [4], .null), (.iload 4, 174, [4], .null), (.aload_n 0, 176, [0], .null), (.getfield 364, 177, [21,0,11], .null), (.if_icmp .ge 22, 180, [114], .null), (.iload_n 3, 183, [3], .null), (.aload_n 0, 184, [0], .null), (.getfield 133, 185, [63,2,11], .null), (.iload 4, 188, [4], .null), (.baload, 190, [], .null), (.invokestatic 294, 191, [0,182,1], .null), (.iadd, 194, [], .null), (.istore_n 3, 195, [3], .null), (.iinc 4 1, 196, [4], .int 1), (.goto (-25), 199, [100], .null), (.iload_n 3, 202, [3], .null), (.ireturn, 203, [1], .null)]
/-- TermDrawModel.look(I)I -/
abbrev mi_M_look : Nat := 283
def mm_k283 : List mm_Ins := [(.iload_n 1, 0, [1], .null), (.tableswitch 152 0 10 #[59, 67, 77, 87, 97, 102, 112, 122, 132, 142, 147], 1, [59,2,8,14,20,26,29,35,41,47,53,56], .null), (.aload_n 0, 60, [0], .null), (.getfield 7, 61, [0,2,11], .null), (.iconst 0, 64, [], .int 0), (.laload, 65, [], .null), (.l2i, 66, [], .null), (.ireturn, 67, [1], .null), (.aload_n 0, 68, [0], .null), (.getfield 7, 69, [0,2,11], .null), (.sipush 161, 72, [], .int 161), (.laload, 75, [], .null), (.l2i, 76, [], .null), (.ireturn, 77, [1], .null), (.aload_n 0, 78, [0], .null), (.getfield 7, 79, [0,2,11], .null), (.sipush 178, 82, [], .int 178), (.laload, 85, [], .null), (.l2i, 86, [], .null), (.ireturn, 87, [1], .null), (.aload_n 0, 88, [0], .null), (.getfield 7, 89, [0,2,11], .null), (.sipush 259, 92, [], .int 259), (.laload, 95, [], .null), (.l2i, 96, [], .null), (.ireturn, 97, [1], .null), (.aload_n 0, 98, [0], .null), (.invokevirtual 332, 99, [1,223,1,11], .null), (.ireturn, 102, [1], .null), (.aload_n 0, 103, [0], .null), (.getfield 7, 104, [0,2,11], .null), (.sipush 1069, 107, [], .int 1069), (.laload, 110, [], .null), (.l2i, 111, [], .null), (.ireturn, 112, [1], .null), (.aload_n 0, 113, [0], .null), (.getfield 7, 114, [0,2,11], .null), (.sipush 1898, 117, [], .int 1898), (.laload, 120, [], .null), (.l2i, 121, [], .null), (.ireturn, 122, [1], .null), (.aload_n 0, 123, [0], .null), (.getfield 7, 124, [0,2,11], .null), (.sipush 1899, 127, [], .int 1899), (.laload, 130, [], .null), (.l2i, 131, [], .null), (.ireturn, 132, [1], .null), (.aload_n 0, 133, [0], .null), (.getfield 7, 134, [0,2,11], .null), (.sipush 1900, 137, [], .int 1900), (.laload, 140, [], .null), (.l2i, 141, [], .null), (.ireturn, 142, [1], .null), (.aload_n 0, 143, [0], .null), (.getfield 164, 144, [2,0,11], .null), (.ireturn, 147, [1], .null), (.aload_n 0, 148, [0], .null), (.getfield 151, 149, [5,0,11], .null), (.ireturn, 152, [1], .null), (.iconst (-1), 153, [], .int (-1)), (.ireturn, 154, [1], .null)]
/-- java/lang/Double.isNaN(D)Z -/
abbrev mi_JD_isNaN : Nat := 284
def mm_k284 : List mm_Ins := [(.dload_n 0, 0, [0], .null), (.dload_n 0, 1, [0], .null), (.dcmp .l, 2, [], .null), (.ifCond .eq 7, 3, [6], .null), (.iconst 1, 6, [], .int 1), (.goto 4, 7, [7], .null), (.iconst 0, 10, [], .int 0), (.ireturn, 11, [3], .null)]
/-- java/lang/Double.doubleToLongBits(D)J -/
abbrev mi_JD_doubleToLongBits : Nat := 285
def mm_k285 : List mm_Ins := [(.dload_n 0, 0, [0], .null), (.invokestatic 122, 1, [0,284,1], .null), (.ifCond .ne 8, 4, [6], .null), (.dload_n 0, 7, [0], .null), (.invokestatic 134, 8, [6], .null), (.lreturn, 11, [2], .null), (.ldc2_w 137, 12, [], .long 9221120237041090560), (.lreturn, 15, [2], .null)]
/-- java/lang/Float.isNaN(F)Z -/
abbrev mi_JF_isNaN : Nat := 286
def mm_k286 : List mm_Ins := [(.fload_n 0, 0, [0], .null), (.fload_n 0, 1, [0], .null), (.fcmp .l, 2, [], .null), (.ifCond .eq 7, 3, [6], .null), (.iconst 1, 6, [], .int 1), (.goto 4, 7, [7], .null), (.iconst 0, 10, [], .int 0), (.ireturn, 11, [3], .null)]
/-- java/lang/Float.floatToIntBits(F)I -/
abbrev mi_JF_floatToIntBits : Nat := 287
def mm_k287 : List mm_Ins := [(.fload_n 0, 0, [0], .null), (.invokestatic 59, 1, [0,286,1], .null), (.ifCond .ne 8, 4, [6], .null), (.fload_n 0, 7, [0], .null), (.invokestatic 74, 8, [5], .null), (.ireturn, 11, [1], .null), (.ldc 77, 12, [], .int 2143289344), (.ireturn, 14, [1], .null)]
/-- java/lang/Integer.bitCount(I)I -/
abbrev mi_JI_bitCount : Nat := 288
def mm_k288 : List mm_Ins := [(.iload_n 0, 0, [0], .null), (.iload_n 0, 1, [0], .null), (.iconst 1, 2, [], .int 1), (.iushr, 3, [], .null), (.ldc_w 265, 4, [], .int 1431655765), (.iand, 7, [], .null), (.isub, 8, [], .null), (.istore_n 0, 9, [0], .null), (.iload_n 0, 10, [0], .null), (.ldc_w 266, 11, [], .int 858993459), (.iand, 14, [], .null), (.iload_n 0, 15, [0], .null), (.iconst 2, 16, [], .int 2), (.iushr, 17, [], .null), (.ldc_w 266, 18, [], .int 858993459), (.iand, 21, [], .null), (.iadd, 22, [], .null), (.istore_n 0, 23, [0], .null), (.iload_n 0, 24, [0], .null), (.iload_n 0, 25, [0], .null), (.iconst 4, 26, [], .int 4), (.iushr, 27, [], .null), (.iadd, 28, [], .null), (.ldc_w 267, 29, [], .int 252645135), (.iand, 32, [], .null), (.istore_n 0, 33, [0], .null), (.iload_n 0, 34, [0], .null), (.iload_n 0, 35, [0], .null), (.bipush 8, 36, [], .int 8), (.iushr, 38, [], .null), (.iadd, 39, [], .null), (.istore_n 0, 40, [0], .null), (.iload_n 0, 41, [0], .null), (.iload_n 0, 42, [0], .null), (.bipush 16, 43, [], .int 16), (.iushr, 45, [], .null), (.iadd, 46, [], .null), (.istore_n 0, 47, [0], .null), (.iload_n 0, 48, [0], .null), (.bipush 63, 49, [], .int 63), (.iand, 51, [], .null), (.ireturn, 52, [1], .null)]
/-- java/lang/Math.floorDiv(JJ)J -/
abbrev mi_JM_floorDiv : Nat := 289
def mm_k289 : List mm_Ins := [(.lload_n 0, 0, [0], .null), (.lload_n 2, 1, [2], .null), (.ldiv, 2, [], .null), (.lstore 4, 3, [4], .null), (.lload_n 0, 5, [0], .null), (.lload_n 2, 6, [2], .null), (.lxor, 7, [], .null), (.lconst 0, 8, [], .long 0), (.lcmp, 9, [3,18], .null), (.lload 4, 13, [4], .null), (.lload_n 2, 15, [2], .null), (.lmul, 16, [], .null), (.lload_n 0, 17, [0], .null), (.lcmp, 18, [0,18], .null), (.lload 4, 22, [4], .null), (.lconst 1, 24, [], .long 1), (.lsub, 25, [], .null), (.lreturn, 26, [2], .null), (.lload 4, 27, [4], .null), (.lreturn, 29, [2], .null)]
/-- java/lang/Math.abs(J)J -/
abbrev mi_JM_abs : Nat := 290
def mm_k290 : List mm_Ins := [(.lload_n 0, 0, [0], .null), (.lconst 0, 1, [], .long 0), (.lcmp, 2, [3,6], .null), (.lload_n 0, 6, [0], .null), (.lneg, 7, [], .null), (.goto 4, 8, [7], .null), (.lload_n 0, 11, [0], .null), (.lreturn, 12, [2], .null)]
/-- java/lang/Math.max(II)I -/
abbrev mi_JM_max : Nat := 291
def mm_k291 : List mm_Ins := [(.iload_n 0, 0, [0], .null), (.iload_n 1, 1, [1], .null), (.if_icmp .lt 7, 2, [5], .null), (.iload_n 0, 5, [0], .null), (.goto 4, 6, [6], .null), (.iload_n 1, 9, [1], .null), (.ireturn, 10, [1], .null)]
/-- java/lang/Math.min(II)I -/
abbrev mi_JM_min : Nat := 292
def mm_k292 : List mm_Ins := [(.iload_n 0, 0, [0], .null), (.iload_n 1, 1, [1], .null), (.if_icmp .gt 7, 2, [5], .null), (.iload_n 0, 5, [0], .null), (.goto 4, 6, [6], .null), (.iload_n 1, 9, [1], .null), (.ireturn, 10, [1], .null)]
/-- TermDrawLaw.law([I)Z -/
abbrev mi_L_law : Nat := 293
def mm_k293 : List mm_Ins := [(.new 7, 0, [10,15], .null), (.dup, 3, [], .null), (.invokespecial 9, 4, [8,114,1,10], .null), (.astore_n 1, 7, [1], .null), (.new 10, 8, [11,65], .null), (.dup, 11, [], .null), (.invokespecial 12, 12, [8,184,1,11], .null), (.astore_n 2, 15, [2], .null), (.iconst 0, 16, [], .int 0), (.istore_n 3, 17, [3], .null), (.iload_n 3, 18, [3], .null), (.aload_n 0, 19, [0], .null), (.arraylength, 20, [20], .null), (.bipush 6, 21, [], .int 6), (.isub, 23, [], .null), (.if_icmp .gt 1080, 24, [749], .null), (.aload_n 0, 27, [0], .null), (.iload_n 3, 28, [3], .null), (.iaload, 29, [20], .null), (.bipush 31, 30, [], .int 31), (.iand, 32, [], .null), (.tableswitch 1065 0 28 #[131, 194, 217, 240, 253, 276, 299, 332, 365, 388, 401, 434, 493, 526, 559, 608, 631, 644, 677, 737, 770, 804, 837, 870, 903, 936, 976, 1009, 1042], 33, [747,22,79,96,113,120,137,154,181,208,225,232,259,304,331,358,393,410,417,444,489,516,543,570,597,624,651,676,703,730], .null), (.aload_n 1, 164, [1], .null), (.aload_n 0, 165, [0], .null), (.iload_n 3, 166, [3], .null), (.iconst 1, 167, [], .int 1), (.iadd, 168, [], .null), (.iaload, 169, [20], .null), (.aload_n 0, 170, [0], .null), (.iload_n 3, 171, [3], .null), (.iconst 2, 172, [], .int 2), (.iadd, 173, [], .null), (.iaload, 174, [20], .null), (.aload_n 0, 175, [0], .null), (.iload_n 3, 176, [3], .null), (.iconst 3, 177, [], .int 3), (.iadd, 178, [], .null), (.iaload, 179, [20], .null), (.aload_n 0, 180, [0], .null), (.iload_n 3, 181, [3], .null), (.iconst 4, 182, [], .int 4), (.iadd, 183, [], .null), (.iaload, 184, [20], .null), (.aload_n 0, 185, [0], .null), (.iload_n 3, 186, [3], .null), (.iconst 5, 187, [], .int 5), (.iadd, 188, [], .null), (.iaload, 189, [20], .null), (.invokevirtual 13, 190, [1,115,6,10], .null), (.aload_n 2, 193, [2], .null), (.aload_n 0, 194, [0], .null), (.iload_n 3, 195, [3], .null), (.iconst 1, 196, [], .int 1), (.iadd, 197, [], .null), (.iaload, 198, [20], .null), (.aload_n 0, 199, [0], .null), (.iload_n 3, 200, [3], .null), (.iconst 2, 201, [], .int 2), (.iadd, 202, [], .null), (.iaload, 203, [20], .null), (.aload_n 0, 204, [0], .null), (.iload_n 3, 205, [3], .null), (.iconst 3, 206, [], .int 3), (.iadd, 207, [], .null), (.iaload, 208, [20], .null), (.aload_n 0, 209, [0], .null), (.iload_n 3, 210, [3], .null), (.iconst 4, 211, [], .int 4), (.iadd, 212, [], .null), (.iaload, 213, [20], .null), (.aload_n 0, 214, [0], .null), (.iload_n 3, 215, [3], .null), (.iconst 5, 216, [], .int 5), (.iadd, 217, [], .null), (.iaload, 218, [20], .null), (.invokevirtual 17, 219, [1,198,6,11], .null), (.if_icmp .eq 876, 222, [747], .null), (.iconst 0, 225, [], .int 0), (.ireturn, 226, [3], .null), (.aload_n 1, 227, [1], .null), (.aload_n 0, 228, [0], .null), (.iload_n 3, 229, [3], .null), (.iconst 1, 230, [], .int 1), (.iadd, 231, [], .null), (.iaload, 232, [20], .null), (.invokevirtual 18, 233, [1,116,2,10], .null), (.aload_n 2, 236, [2], .null), (.aload_n 0, 237, [0], .null), (.iload_n 3, 238, [3], .null), (.iconst 1, 239, [], .int 1), (.iadd, 240, [], .null), (.iaload, 241, [20], .null), (.invokevirtual 22, 242, [1,199,2,11], .null), (.if_icmp .eq 853, 245, [747], .null), (.iconst 0, 248, [], .int 0), (.ireturn, 249, [3], .null), (.aload_n 1, 250, [1], .null), (.aload_n 0, 251, [0], .null), (.iload_n 3, 252, [3], .null), (.iconst 1, 253, [], .int 1), (.iadd, 254, [], .null), (.iaload, 255, [20], .null), (.invokevirtual 23, 256, [1,117,2,10], .null), (.aload_n 2, 259, [2], .null), (.aload_n 0, 260, [0], .null), (.iload_n 3, 261, [3], .null), (.iconst 1, 262, [], .int 1), (.iadd, 263, [], .null), (.iaload, 264, [20], .null), (.invokevirtual 27, 265, [1,222,2,11], .null), (.if_icmp .eq 830, 268, [747], .null), (.iconst 0, 271, [], .int 0), (.ireturn, 272, [3], .null), (.aload_n 1, 273, [1], .null), (.invokevirtual 28, 274, [1,118,1,10], .null), (.aload_n 2, 277, [2], .null), (.invokevirtual 32, 278, [1,224,1,11], .null), (.if_icmp .eq 817, 281, [747], .null), (.iconst 0, 284, [], .int 0), (.ireturn, 285, [3], .null), (.aload_n 1, 286, [1], .null), (.aload_n 0, 287, [0], .null), (.iload_n 3, 288, [3], .null), (.iconst 1, 289, [], .int 1), (.iadd, 290, [], .null), (.iaload, 291, [20], .null), (.invokevirtual 33, 292, [1,119,2,10], .null), (.aload_n 2, 295, [2], .null), (.aload_n 0, 296, [0], .null), (.iload_n 3, 297, [3], .null), (.iconst 1, 298, [], .int 1), (.iadd, 299, [], .null), (.iaload, 300, [20], .null), (.invokevirtual 36, 301, [1,226,2,11], .null), (.if_icmp .eq 794, 304, [747], .null), (.iconst 0, 307, [], .int 0), (.ireturn, 308, [3], .null), (.aload_n 1, 309, [1], .null), (.aload_n 0, 310, [0], .null), (.iload_n 3, 311, [3], .null), (.iconst 1, 312, [], .int 1), (.iadd, 313, [], .null), (.iaload, 314, [20], .null), (.invokevirtual 37, 315, [1,120,2,10], .null), (.aload_n 2, 318, [2], .null), (.aload_n 0, 319, [0], .null), (.iload_n 3, 320, [3], .null), (.iconst 1, 321, [], .int 1), (.iadd, 322, [], .null), (.iaload, 323, [20], .null), (.invokevirtual 40, 324, [1,227,2,11], .null), (.if_icmp .eq 771, 327, [747], .null), (.iconst 0, 330, [], .int 0), (.ireturn, 331, [3], .null), (.aload_n 1, 332, [1], .null), (.aload_n 0, 333, [0], .null), (.iload_n 3, 334, [3], .null), (.iconst 1, 335, [], .int 1), (.iadd, 336, [], .null), (.iaload, 337, [20], .null), (.aload_n 0, 338, [0], .null), (.iload_n 3, 339, [3], .null), (.iconst 2, 340, [], .int 2), (.iadd, 341, [], .null), (.iaload, 342, [20], .null), (.invokevirtual 41, 343, [1,121,3,10], .null), (.aload_n 2, 346, [2], .null), (.aload_n 0, 347, [0], .null), (.iload_n 3, 348, [3], .null), (.iconst 1, 349, [], .int 1), (.iadd, 350, [], .null), (.iaload, 351, [20], .null), (.aload_n 0, 352, [0], .null), (.iload_n 3, 353, [3], .null), (.iconst 2, 354, [], .int 2), (.iadd, 355, [], .null), (.iaload, 356, [20], .null), (.invokevirtual 45, 357, [1,228,3,11], .null), (.if_icmp .eq 738, 360, [747], .null), (.iconst 0, 363, [], .int 0), (.ireturn, 364, [3], .null), (.aload_n 1, 365, [1], .null), (.aload_n 0, 366, [0], .null), (.iload_n 3, 367, [3], .null), (.iconst 1, 368, [], .int 1), (.iadd, 369, [], .null), (.iaload, 370, [20], .null), (.aload_n 0, 371, [0], .null), (.iload_n 3, 372, [3], .null), (.iconst 2, 373, [], .int 2), (.iadd, 374, [], .null), (.iaload, 375, [20], .null), (.invokevirtual 46, 376, [1,122,3,10], .null), (.aload_n 2, 379, [2], .null), (.aload_n 0, 380, [0], .null), (.iload_n 3, 381, [3], .null), (.iconst 1, 382, [], .int 1), (.iadd, 383, [], .null), (.iaload, 384, [20], .null), (.aload_n 0, 385, [0], .null), (.iload_n 3, 386, [3], .null), (.iconst 2, 387, [], .int 2), (.iadd, 388, [], .null), (.iaload, 389, [20], .null), (.invokevirtual 49, 390, [1,229,3,11], .null), (.if_icmp .eq 705, 393, [747], .null), (.iconst 0, 396, [], .int 0), (.ireturn, 397, [3], .null), (.aload_n 1, 398, [1], .null), (.aload_n 0, 399, [0], .null), (.iload_n 3, 400, [3], .null), (.iconst 1, 401, [], .int 1), (.iadd, 402, [], .null), (.iaload, 403, [20], .null), (.invokevirtual 50, 404, [1,123,2,10], .null), (.aload_n 2, 407, [2], .null), (.aload_n 0, 408, [0], .null), (.iload_n 3, 409, [3], .null), (.iconst 1, 410, [], .int 1), (.iadd, 411, [], .null), (.iaload, 412, [20], .null), (.invokevirtual 53, 413, [1,230,2,11], .null), (.if_icmp .eq 682, 416, [747], .null), (.iconst 0, 419, [], .int 0), (.ireturn, 420, [3], .null), (.aload_n 1, 421, [1], .null), (.invokevirtual 54, 422, [1,124,1,10], .null), (.aload_n 2, 425, [2], .null), (.invokevirtual 58, 426, [1,186,1,11], .null), (.if_icmp .eq 669, 429, [747], .null), (.iconst 0, 432, [], .int 0), (.ireturn, 433, [3], .null), (.aload_n 1, 434, [1], .null), (.aload_n 0, 435, [0], .null), (.iload_n 3, 436, [3], .null), (.iconst 1, 437, [], .int 1), (.iadd, 438, [], .null), (.iaload, 439, [20], .null), (.aload_n 0, 440, [0], .null), (.iload_n 3, 441, [3], .null), (.iconst 2, 442, [], .int 2), (.iadd, 443, [], .null), (.iaload, 444, [20], .null), (.invokevirtual 59, 445, [1,125,3,10], .null), (.aload_n 2, 448, [2], .null), (.aload_n 0, 449, [0], .null), (.iload_n 3, 450, [3], .null), (.iconst 1, 451, [], .int 1), (.iadd, 452, [], .null), (.iaload, 453, [20], .null), (.aload_n 0, 454, [0], .null), (.iload_n 3, 455, [3], .null), (.iconst 2, 456, [], .int 2), (.iadd, 457, [], .null), (.iaload, 458, [20], .null), (.invokevirtual 63, 459, [1,269,3,11], .null), (.if_icmp .eq 636, 462, [747], .null), (.iconst 0, 465, [], .int 0), (.ireturn, 466, [3], .null), (.aload_n 1, 467, [1], .null), (.aload_n 0, 468, [0], .null), (.iload_n 3, 469, [3], .null), (.iconst 1, 470, [], .int 1), (.iadd, 471, [], .null), (.iaload, 472, [20], .null), (.aload_n 0, 473, [0], .null), (.iload_n 3, 474, [3], .null), (.iconst 2, 475, [], .int 2), (.iadd, 476, [], .null), (.iaload, 477, [20], .null), (.aload_n 0, 478, [0], .null), (.iload_n 3, 479, [3], .null), (.iconst 3, 480, [], .int 3), (.iadd, 481, [], .null), (.iaload, 482, [20], .null), (.ifCond .eq 7, 483, [278], .null), (.iconst 1, 486, [], .int 1), (.goto 4, 487, [279], .null), (.iconst 0, 490, [], .int 0), (.invokevirtual 64, 491, [1,126,4,10], .null), (.aload_n 2, 494, [2], .null), (.aload_n 0, 495, [0], .null), (.iload_n 3, 496, [3], .null), (.iconst 1, 497, [], .int 1), (.iadd, 498, [], .null), (.iaload, 499, [20], .null), (.aload_n 0, 500, [0], .null), (.iload_n 3, 501, [3], .null), (.iconst 2, 502, [], .int 2), (.iadd, 503, [], .null), (.iaload, 504, [20], .null), (.aload_n 0, 505, [0], .null), (.iload_n 3, 506, [3], .null), (.iconst 3, 507, [], .int 3), (.iadd, 508, [], .null), (.iaload, 509, [20], .null), (.ifCond .eq 7, 510, [299], .null), (.iconst 1, 513, [], .int 1), (.goto 4, 514, [300], .null), (.iconst 0, 517, [], .int 0), (.invokevirtual 68, 518, [1,267,4,11], .null), (.if_icmp .eq 577, 521, [747], .null), (.iconst 0, 524, [], .int 0), (.ireturn, 525, [3], .null), (.aload_n 1, 526, [1], .null), (.aload_n 0, 527, [0], .null), (.iload_n 3, 528, [3], .null), (.iconst 1, 529, [], .int 1), (.iadd, 530, [], .null), (.iaload, 531, [20], .null), (.aload_n 0, 532, [0], .null), (.iload_n 3, 533, [3], .null), (.iconst 2, 534, [], .int 2), (.iadd, 535, [], .null), (.iaload, 536, [20], .null), (.invokevirtual 69, 537, [1,127,3,10], .null), (.aload_n 2, 540, [2], .null), (.aload_n 0, 541, [0], .null), (.iload_n 3, 542, [3], .null), (.iconst 1, 543, [], .int 1), (.iadd, 544, [], .null), (.iaload, 545, [20], .null), (.aload_n 0, 546, [0], .null), (.iload_n 3, 547, [3], .null), (.iconst 2, 548, [], .int 2), (.iadd, 549, [], .null), (.iaload, 550, [20], .null), (.invokevirtual 72, 551, [1,268,3,11], .null), (.if_icmp .eq 544, 554, [747], .null), (.iconst 0, 557, [], .int 0), (.ireturn, 558, [3], .null), (.aload_n 1, 559, [1], .null), (.aload_n 0, 560, [0], .null), (.iload_n 3, 561, [3], .null), (.iconst 1, 562, [], .int 1), (.iadd, 563, [], .null), (.iaload, 564, [20], .null), (.aload_n 0, 565, [0], .null), (.iload_n 3, 566, [3], .null), (.iconst 2, 567, [], .int 2), (.iadd, 568, [], .null), (.iaload, 569, [20], .null), (.invokevirtual 73, 570, [1,128,3,10], .null), (.aload_n 2, 573, [2], .null), (.aload_n 0, 574, [0], .null), (.iload_n 3, 575, [3], .null), (.iconst 1, 576, [], .int 1), (.iadd, 577, [], .null), (.iaload, 578, [20], .null), (.aload_n 0, 579, [0], .null), (.iload_n 3, 580, [3], .null), (.iconst 2, 581, [], .int 2), (.iadd, 582, [], .null), (.iaload, 583, [20], .null), (.invokevirtual 76, 584, [1,270,3,11], .null), (.if_icmp .eq 511, 587, [747], .null), (.iconst 0, 590, [], .int 0), (.ireturn, 591, [3], .null), (.aload_n 1, 592, [1], .null), (.aload_n 0, 593, [0], .null), (.iload_n 3, 594, [3], .null), (.iconst 1, 595, [], .int 1), (.iadd, 596, [], .null), (.iaload, 597, [20], .null), (.aload_n 0, 598, [0], .null), (.iload_n 3, 599, [3], .null), (.iconst 2, 600, [], .int 2), (.iadd, 601, [], .null), (.iaload, 602, [20], .null), (.ifCond .eq 7, 603, [372], .null), (.iconst 1, 606, [], .int 1), (.goto 4, 607, [373], .null), (.iconst 0, 610, [], .int 0), (.invokevirtual 77, 611, [1,129,3,10], .null), (.aload_n 2, 614, [2], .null), (.aload_n 0, 615, [0], .null), (.iload_n 3, 616, [3], .null), (.iconst 1, 617, [], .int 1), (.iadd, 618, [], .null), (.iaload, 619, [20], .null), (.aload_n 0, 620, [0], .null), (.iload_n 3, 621, [3], .null), (.iconst 2, 622, [], .int 2), (.iadd, 623, [], .null), (.iaload, 624, [20], .null), (.ifCond .eq 7, 625, [388], .null), (.iconst 1, 628, [], .int 1), (.goto 4, 629, [389], .null), (.iconst 0, 632, [], .int 0), (.invokevirtual 81, 633, [1,274,3,11], .null), (.if_icmp .eq 462, 636, [747], .null), (.iconst 0, 639, [], .int 0), (.ireturn, 640, [3], .null), (.aload_n 1, 641, [1], .null), (.aload_n 0, 642, [0], .null), (.iload_n 3, 643, [3], .null), (.iconst 1, 644, [], .int 1), (.iadd, 645, [], .null), (.iaload, 646, [20], .null), (.invokevirtual 82, 647, [1,130,2,10], .null), (.aload_n 2, 650, [2], .null), (.aload_n 0, 651, [0], .null), (.iload_n 3, 652, [3], .null), (.iconst 1, 653, [], .int 1), (.iadd, 654, [], .null), (.iaload, 655, [20], .null), (.invokevirtual 85, 656, [1,265,2,11], .null), (.if_icmp .eq 439, 659, [747], .null), (.iconst 0, 662, [], .int 0), (.ireturn, 663, [3], .null), (.aload_n 1, 664, [1], .null), (.invokevirtual 86, 665, [1,131,1,10], .null), (.aload_n 2, 668, [2], .null), (.invokevirtual 89, 669, [1,275,1,11], .null), (.if_icmp .eq 426, 672, [747], .null), (.iconst 0, 675, [], .int 0), (.ireturn, 676, [3], .null), (.aload_n 1, 677, [1], .null), (.aload_n 0, 678, [0], .null), (.iload_n 3, 679, [3], .null), (.iconst 1, 680, [], .int 1), (.iadd, 681, [], .null), (.iaload, 682, [20], .null), (.aload_n 0, 683, [0], .null), (.iload_n 3, 684, [3], .null), (.iconst 2, 685, [], .int 2), (.iadd, 686, [], .null), (.iaload, 687, [20], .null), (.invokevirtual 90, 688, [1,132,3,10], .null), (.aload_n 2, 691, [2], .null), (.aload_n 0, 692, [0], .null), (.iload_n 3, 693, [3], .null), (.iconst 1, 694, [], .int 1), (.iadd, 695, [], .null), (.iaload, 696, [20], .null), (.aload_n 0, 697, [0], .null), (.iload_n 3, 698, [3], .null), (.iconst 2, 699, [], .int 2), (.iadd, 700, [], .null), (.iaload, 701, [20], .null), (.invokevirtual 93, 702, [1,277,3,11], .null), (.if_icmp .eq 393, 705, [747], .null), (.iconst 0, 708, [], .int 0), (.ireturn, 709, [3], .null), (.aload_n 1, 710, [1], .null), (.aload_n 0, 711, [0], .null), (.iload_n 3, 712, [3], .null), (.iconst 1, 713, [], .int 1), (.iadd, 714, [], .null), (.iaload, 715, [20], .null), (.aload_n 0, 716, [0], .null), (.iload_n 3, 717, [3], .null), (.iconst 2, 718, [], .int 2), (.iadd, 719, [], .null), (.iaload, 720, [20], .null), (.aload_n 0, 721, [0], .null), (.iload_n 3, 722, [3], .null), (.iconst 3, 723, [], .int 3), (.iadd, 724, [], .null), (.iaload, 725, [20], .null), (.ifCond .eq 7, 726, [463], .null), (.iconst 1, 729, [], .int 1), (.goto 4, 730, [464], .null), (.iconst 0, 733, [], .int 0), (.invokevirtual 94, 734, [1,133,4,10], .null), (.aload_n 2, 737, [2], .null), (.aload_n 0, 738, [0], .null), (.iload_n 3, 739, [3], .null), (.iconst 1, 740, [], .int 1), (.iadd, 741, [], .null), (.iaload, 742, [20], .null), (.aload_n 0, 743, [0], .null), (.iload_n 3, 744, [3], .null), (.iconst 2, 745, [], .int 2), (.iadd, 746, [], .null), (.iaload, 747, [20], .null), (.aload_n 0, 748, [0], .null), (.iload_n 3, 749, [3], .null), (.iconst 3, 750, [], .int 3), (.iadd, 751, [], .null), (.iaload, 752, [20], .null), (.ifCond .eq 7, 753, [484], .null), (.iconst 1, 756, [], .int 1), (.goto 4, 757, [485], .null), (.iconst 0, 760, [], .int 0), (.invokevirtual 98, 761, [1,258,4,11], .null), (.lcmp, 764, [0,747], .null), (.iconst 0, 768, [], .int 0), (.ireturn, 769, [3], .null), (.aload_n 1, 770, [1], .null), (.aload_n 0, 771, [0], .null), (.iload_n 3, 772, [3], .null), (.iconst 1, 773, [], .int 1), (.iadd, 774, [], .null), (.iaload, 775, [20], .null), (.aload_n 0, 776, [0], .null), (.iload_n 3, 777, [3], .null), (.iconst 2, 778, [], .int 2), (.iadd, 779, [], .null), (.iaload, 780, [20], .null), (.invokevirtual 99, 781, [1,134,3,10], .null), (.aload_n 2, 784, [2], .null), (.aload_n 0, 785, [0], .null), (.iload_n 3, 786, [3], .null), (.iconst 1, 787, [], .int 1), (.iadd, 788, [], .null), (.iaload, 789, [20], .null), (.aload_n 0, 790, [0], .null), (.iload_n 3, 791, [3], .null), (.iconst 2, 792, [], .int 2), (.iadd, 793, [], .null), (.iaload, 794, [20], .null), (.invokevirtual 102, 795, [1,259,3,11], .null), (.if_icmp .eq 300, 798, [747], .null), (.iconst 0, 801, [], .int 0), (.ireturn, 802, [3], .null), (.aload_n 1, 803, [1], .null), (.aload_n 0, 804, [0], .null), (.iload_n 3, 805, [3], .null), (.iconst 1, 806, [], .int 1), (.iadd, 807, [], .null), (.iaload, 808, [20], .null), (.aload_n 0, 809, [0], .null), (.iload_n 3, 810, [3], .null), (.iconst 2, 811, [], .int 2), (.iadd, 812, [], .null), (.iaload, 813, [20], .null), (.invokevirtual 103, 814, [1,135,3,10], .null), (.aload_n 2, 817, [2], .null), (.aload_n 0, 818, [0], .null), (.iload_n 3, 819, [3], .null), (.iconst 1, 820, [], .int 1), (.iadd, 821, [], .null), (.iaload, 822, [20], .null), (.aload_n 0, 823, [0], .null), (.iload_n 3, 824, [3], .null), (.iconst 2, 825, [], .int 2), (.iadd, 826, [], .null), (.iaload, 827, [20], .null), (.invokevirtual 107, 828, [1,260,3,11], .null), (.lcmp, 831, [0,747], .null), (.iconst 0, 835, [], .int 0), (.ireturn, 836, [3], .null), (.aload_n 1, 837, [1], .null), (.aload_n 0, 838, [0], .null), (.iload_n 3, 839, [3], .null), (.iconst 1, 840, [], .int 1), (.iadd, 841, [], .null), (.iaload, 842, [20], .null), (.aload_n 0, 843, [0], .null), (.iload_n 3, 844, [3], .null), (.iconst 2, 845, [], .int 2), (.iadd, 846, [], .null), (.iaload, 847, [20], .null), (.invokevirtual 108, 848, [1,136,3,10], .null), (.aload_n 2, 851, [2], .null), (.aload_n 0, 852, [0], .null), (.iload_n 3, 853, [3], .null), (.iconst 1, 854, [], .int 1), (.iadd, 855, [], .null), (.iaload, 856, [20], .null), (.aload_n 0, 857, [0], .null), (.iload_n 3, 858, [3], .null), (.iconst 2, 859, [], .int 2), (.iadd, 860, [], .null), (.iaload, 861, [20], .null), (.invokevirtual 111, 862, [1,261,3,11], .null), (.if_icmp .eq 233, 865, [747], .null), (.iconst 0, 868, [], .int 0), (.ireturn, 869, [3], .null), (.aload_n 1, 870, [1], .null), (.aload_n 0, 871, [0], .null), (.iload_n 3, 872, [3], .null), (.iconst 1, 873, [], .int 1), (.iadd, 874, [], .null), (.iaload, 875, [20], .null), (.aload_n 0, 876, [0], .null), (.iload_n 3, 877, [3], .null), (.iconst 2, 878, [], .int 2), (.iadd, 879, [], .null), (.iaload, 880, [20], .null), (.invokevirtual 112, 881, [1,137,3,10], .null), (.aload_n 2, 884, [2], .null), (.aload_n 0, 885, [0], .null), (.iload_n 3, 886, [3], .null), (.iconst 1, 887, [], .int 1), (.iadd, 888, [], .null), (.iaload, 889, [20], .null), (.aload_n 0, 890, [0], .null), (.iload_n 3, 891, [3], .null), (.iconst 2, 892, [], .int 2), (.iadd, 893, [], .null), (.iaload, 894, [20], .null), (.invokevirtual 115, 895, [1,262,3,11], .null), (.if_icmp .eq 200, 898, [747], .null), (.iconst 0, 901, [], .int 0), (.ireturn, 902, [3], .null), (.aload_n 1, 903, [1], .null), (.aload_n 0, 904, [0], .null), (.iload_n 3, 905, [3], .null), (.iconst 1, 906, [], .int 1), (.iadd, 907, [], .null), (.iaload, 908, [20], .null), (.aload_n 0, 909, [0], .null), (.iload_n 3, 910, [3], .null), (.iconst 2, 911, [], .int 2), (.iadd, 912, [], .null), (.iaload, 913, [20], .null), (.invokevirtual 116, 914, [1,138,3,10], .null), (.aload_n 2, 917, [2], .null), (.aload_n 0, 918, [0], .null), (.iload_n 3, 919, [3], .null), (.iconst 1, 920, [], .int 1), (.iadd, 921, [], .null), (.iaload, 922, [20], .null), (.aload_n 0, 923, [0], .null), (.iload_n 3, 924, [3], .null), (.iconst 2, 925, [], .int 2), (.iadd, 926, [], .null), (.iaload, 927, [20], .null), (.invokevirtual 119, 928, [1,278,3,11], .null), (.if_icmp .eq 167, 931, [747], .null), (.iconst 0, 934, [], .int 0), (.ireturn, 935, [3], .null), (.aload_n 1, 936, [1], .null), (.aload_n 0, 937, [0], .null), (.iload_n 3, 938, [3], .null), (.iconst 1, 939, [], .int 1), (.iadd, 940, [], .null), (.iaload, 941, [20], .null), (.aload_n 0, 942, [0], .null), (.iload_n 3, 943, [3], .null), (.iconst 2, 944, [], .int 2), (.iadd, 945, [], .null), (.iaload, 946, [20], .null), (.invokevirtual 120, 947, [1,139,3,10], .null), (.aload_n 2, 950, [2], .null), (.aload_n 0, 951, [0], .null), (.iload_n 3, 952, [3], .null), (.iconst 1, 953, [], .int 1), (.iadd, 954, [], .null), (.iaload, 955, [20], .null), (.aload_n 0, 956, [0], .null), (.iload_n 3, 957, [3], .null), (.iconst 2, 958, [], .int 2), (.iadd, 959, [], .null), (.iaload, 960, [20], .null), (.invokevirtual 123, 961, [1,279,3,11], .null), (.if_icmp .eq 134, 964, [747], .null), (.iconst 0, 967, [], .int 0), (.ireturn, 968, [3], .null), (.aload_n 1, 969, [1], .null), (.aload_n 0, 970, [0], .null), (.iload_n 3, 971, [3], .null), (.iconst 1, 972, [], .int 1), (.iadd, 973, [], .null), (.iaload, 974, [20], .null), (.ifCond .eq 7, 975, [660], .null), (.iconst 1, 978, [], .int 1), (.goto 4, 979, [661], .null), (.iconst 0, 982, [], .int 0), (.invokevirtual 124, 983, [1,140,2,10], .null), (.aload_n 2, 986, [2], .null), (.aload_n 0, 987, [0], .null), (.iload_n 3, 988, [3], .null), (.iconst 1, 989, [], .int 1), (.iadd, 990, [], .null), (.iaload, 991, [20], .null), (.ifCond .eq 7, 992, [671], .null), (.iconst 1, 995, [], .int 1), (.goto 4, 996, [672], .null), (.iconst 0, 999, [], .int 0), (.invokevirtual 128, 1000, [1,280,2,11], .null), (.lcmp, 1003, [0,747], .null), (.iconst 0, 1007, [], .int 0), (.ireturn, 1008, [3], .null), (.aload_n 1, 1009, [1], .null), (.aload_n 0, 1010, [0], .null), (.iload_n 3, 1011, [3], .null), (.iconst 1, 1012, [], .int 1), (.iadd, 1013, [], .null), (.iaload, 1014, [20], .null), (.aload_n 0, 1015, [0], .null), (.iload_n 3, 1016, [3], .null), (.iconst 2, 1017, [], .int 2), (.iadd, 1018, [], .null), (.iaload, 1019, [20], .null), (.invokevirtual 129, 1020, [1,141,3,10], .null), (.aload_n 2, 1023, [2], .null), (.aload_n 0, 1024, [0], .null), (.iload_n 3, 1025, [3], .null), (.iconst 1, 1026, [], .int 1), (.iadd, 1027, [], .null), (.iaload, 1028, [20], .null), (.aload_n 0, 1029, [0], .null), (.iload_n 3, 1030, [3], .null), (.iconst 2, 1031, [], .int 2), (.iadd, 1032, [], .null), (.iaload, 1033, [20], .null), (.invokevirtual 132, 1034, [1,281,3,11], .null), (.if_icmp .eq 61, 1037, [747], .null), (.iconst 0, 1040, [], .int 0), (.ireturn, 1041, [3], .null), (.aload_n 1, 1042, [1], .null), (.aload_n 0, 1043, [0], .null), (.iload_n 3, 1044, [3], .null), (.iconst 1, 1045, [], .int 1), (.iadd, 1046, [], .null), (.iaload, 1047, [20], .null), (.aload_n 0, 1048, [0], .null), (.iload_n 3, 1049, [3], .null), (.iconst 2, 1050, [], .int 2), (.iadd, 1051, [], .null), (.iaload, 1052, [20], .null), (.invokevirtual 133, 1053, [1,142,3,10], .null), (.aload_n 2, 1056, [2], .null), (.aload_n 0, 1057, [0], .null), (.iload_n 3, 1058, [3], .null), (.iconst 1, 1059, [], .int 1), (.iadd, 1060, [], .null), (.iaload, 1061, [20], .null), (.aload_n 0, 1062, [0], .null), (.iload_n 3, 1063, [3], .null), (.iconst 2, 1064, [], .int 2), (.iadd, 1065, [], .null), (.iaload, 1066, [20], .null), (.invokevirtual 136, 1067, [1,282,3,11], .null), (.if_icmp .eq 28, 1070, [747], .null), (.iconst 0, 1073, [], .int 0), (.ireturn, 1074, [3], .null), (.aload_n 1, 1075, [1], .null), (.aload_n 0, 1076, [0], .null), (.iload_n 3, 1077, [3], .null), (.iconst 1, 1078, [], .int 1), (.iadd, 1079, [], .null), (.iaload, 1080, [20], .null), (.invokevirtual 137, 1081, [1,143,2,10], .null), (.aload_n 2, 1084, [2], .null), (.aload_n 0, 1085, [0], .null), (.iload_n 3, 1086, [3], .null), (.iconst 1, 1087, [], .int 1), (.iadd, 1088, [], .null), (.iaload, 1089, [20], .null), (.invokevirtual 140, 1090, [1,283,2,11], .null), (.if_icmp .eq 5, 1093, [747], .null), (.iconst 0, 1096, [], .int 0), (.ireturn, 1097, [3], .null), (.iinc 3 6, 1098, [3], .int 6), (.goto (-1083), 1101, [10], .null), (.iconst 1, 1104, [], .int 1), (.ireturn, 1105, [3], .null)]
/-- of each method: its locals and its instructions -/
def mm_K : List (Nat × List mm_Ins) := [(1, mm_k0), (8, mm_k1), (3, mm_k2), (2, mm_k3), (2, mm_k4), (2, mm_k5), (5, mm_k6), (2, mm_k7), (5, mm_k8), (1, mm_k9), (4, mm_k10), (12, mm_k11), (7, mm_k12), (5, mm_k13), (7, mm_k14), (5, mm_k15), (2, mm_k16), (7, mm_k17), (4, mm_k18), (5, mm_k19), (2, mm_k20), (3, mm_k21), (3, mm_k22), (7, mm_k23), (4, mm_k24), (9, mm_k25), (3, mm_k26), (4, mm_k27), (7, mm_k28), (6, mm_k29), (1, mm_k30), (4, mm_k31), (8, mm_k32), (2, mm_k33), (2, mm_k34), (5, mm_k35), (4, mm_k36), (6, mm_k37), (1, mm_k38), (2, mm_k39), (3, mm_k40), (5, mm_k41), (5, mm_k42), (6, mm_k43), (4, mm_k44), (3, mm_k45), (1, mm_k46), (1, mm_k47), (5, mm_k48), (5, mm_k49), (6, mm_k50), (2, mm_k51), (5, mm_k52), (2, mm_k53), (1, mm_k54), (2, mm_k55), (4, mm_k56), (2, mm_k57), (1, mm_k58), (3, mm_k59), (4, mm_k60), (2, mm_k61), (1, mm_k62), (2, mm_k63), (3, mm_k64), (3, mm_k65), (2, mm_k66), (2, mm_k67), (2, mm_k68), (1, mm_k69), (3, mm_k70), (4, mm_k71), (3, mm_k72), (6, mm_k73), (3, mm_k74), (5, mm_k75), (2, mm_k76), (4, mm_k77), (2, mm_k78), (3, mm_k79), (2, mm_k80), (10, mm_k81), (4, mm_k82), (4, mm_k83), (6, mm_k84), (9, mm_k85), (7, mm_k86), (6, mm_k87), (7, mm_k88), (3, mm_k89), (2, mm_k90), (3, mm_k91), (4, mm_k92), (3, mm_k93), (5, mm_k94), (8, mm_k95), (4, mm_k96), (2, mm_k97), (2, mm_k98), (4, mm_k99), (6, mm_k100), (2, mm_k101), (2, mm_k102), (4, mm_k103), (5, mm_k104), (6, mm_k105), (6, mm_k106), (1, mm_k107), (4, mm_k108), (2, mm_k109), (2, mm_k110), (5, mm_k111), (3, mm_k112), (3, mm_k113), (2, mm_k114), (6, mm_k115), (2, mm_k116), (2, mm_k117), (1, mm_k118), (2, mm_k119), (2, mm_k120), (3, mm_k121), (3, mm_k122), (2, mm_k123), (1, mm_k124), (3, mm_k125), (7, mm_k126), (6, mm_k127), (4, mm_k128), (6, mm_k129), (2, mm_k130), (3, mm_k131), (3, mm_k132), (4, mm_k133), (4, mm_k134), (5, mm_k135), (3, mm_k136), (3, mm_k137), (3, mm_k138), (4, mm_k139), (4, mm_k140), (4, mm_k141), (3, mm_k142), (2, mm_k143), (3, mm_k144), (1, mm_k145), (1, mm_k146), (1, mm_k147), (3, mm_k148), (1, mm_k149), (2, mm_k150), (1, mm_k151), (3, mm_k152), (6, mm_k153), (1, mm_k154), (1, mm_k155), (2, mm_k156), (2, mm_k157), (3, mm_k158), (4, mm_k159), (3, mm_k160), (4, mm_k161), (4, mm_k162), (8, mm_k163), (6, mm_k164), (5, mm_k165), (1, mm_k166), (3, mm_k167), (3, mm_k168), (1, mm_k169), (10, mm_k170), (2, mm_k171), (3, mm_k172), (3, mm_k173), (7, mm_k174), (7, mm_k175), (4, mm_k176), (6, mm_k177), (6, mm_k178), (11, mm_k179), (11, mm_k180), (6, mm_k181), (1, mm_k182), (3, mm_k183), (3, mm_k184), (2, mm_k185), (2, mm_k186), (4, mm_k187), (5, mm_k188), (5, mm_k189), (3, mm_k190), (4, mm_k191), (4, mm_k192), (10, mm_k193), (4, mm_k194), (1, mm_k195), (1, mm_k196), (3, mm_k197), (6, mm_k198), (2, mm_k199), (1, mm_k200), (1, mm_k201), (3, mm_k202), (1, mm_k203), (3, mm_k204), (2, mm_k205), (3, mm_k206), (3, mm_k207), (4, mm_k208), (6, mm_k209), (2, mm_k210), (2, mm_k211), (4, mm_k212), (2, mm_k213), (4, mm_k214), (4, mm_k215), (1, mm_k216), (2, mm_k217), (3, mm_k218), (2, mm_k219), (5, mm_k220), (1, mm_k221), (2, mm_k222), (1, mm_k223), (2, mm_k224), (2, mm_k225), (6, mm_k226), (2, mm_k227), (3, mm_k228), (3, mm_k229), (2, mm_k230), (3, mm_k231), (9, mm_k232), (8, mm_k233), (7, mm_k234), (5, mm_k235), (5, mm_k236), (4, mm_k237), (6, mm_k238), (3, mm_k239), (4, mm_k240), (5, mm_k241), (3, mm_k242), (6, mm_k243), (3, mm_k244), (10, mm_k245), (7, mm_k246), (4, mm_k247), (2, mm_k248), (5, mm_k249), (7, mm_k250), (3, mm_k251), (23, mm_k252), (3, mm_k253), (4, mm_k254), (8, mm_k255), (2, mm_k256), (2, mm_k257), (4, mm_k258), (3, mm_k259), (3, mm_k260), (3, mm_k261), (4, mm_k262), (2, mm_k263), (5, mm_k264), (2, mm_k265), (3, mm_k266), (5, mm_k267), (3, mm_k268), (7, mm_k269), (3, mm_k270), (4, mm_k271), (6, mm_k272), (4, mm_k273), (4, mm_k274), (4, mm_k275), (4, mm_k276), (3, mm_k277), (5, mm_k278), (5, mm_k279), (7, mm_k280), (5, mm_k281), (5, mm_k282), (2, mm_k283), (2, mm_k284), (2, mm_k285), (1, mm_k286), (1, mm_k287), (1, mm_k288), (6, mm_k289), (2, mm_k290), (2, mm_k291), (2, mm_k292), (4, mm_k293)]
def mm_Y : List (MethodName × ByteArray × Option FieldType) := [(⟨"TermDraw$Bases", "<init>", "()V"⟩, prog_2_method_1_code, none), (⟨"TermDraw$Bases", "build", "(LTermDraw$Told;)V"⟩, prog_2_method_2_code, none), (⟨"TermDraw$Bases", "idOf", "(J)I"⟩, prog_2_method_3_code, (Option.some Jvm.ClassFile.FieldType.int)), (⟨"TermDraw$Bytes", "<init>", "(I)V"⟩, prog_3_method_1_code, none), (⟨"TermDraw$Bytes", "add", "(I)V"⟩, prog_3_method_2_code, none), (⟨"TermDraw$Bytes", "addNumber", "(I)V"⟩, prog_3_method_3_code, none), (⟨"TermDraw$Bytes", "addWord", "(J)V"⟩, prog_3_method_4_code, none), (⟨"TermDraw$Bytes", "byteAt", "(I)I"⟩, prog_3_method_5_code, (Option.some Jvm.ClassFile.FieldType.int)), (⟨"TermDraw$Bytes", "asWord", "()J"⟩, prog_3_method_6_code, (Option.some Jvm.ClassFile.FieldType.long)), (⟨"TermDraw$Matches", "<init>", "()V"⟩, prog_4_method_1_code, none), (⟨"TermDraw$Matches", "build", "(LTermDraw$Told;LTermDraw$Bases;)V"⟩, prog_4_method_2_code, none), (⟨"TermDraw$Matches", "addFrom", "(LTermDraw$Told;LTermDraw$Bases;I)V"⟩, prog_4_method_3_code, none), (⟨"TermDraw$Matches", "add", "(IIJJ)V"⟩, prog_4_method_4_code, none), (⟨"TermDraw$Matches", "markWithin", "()V"⟩, prog_4_method_5_code, none), (⟨"TermDraw$Matches", "ahead", "(II)Z"⟩, prog_4_method_6_code, (Option.some Jvm.ClassFile.FieldType.boolean)), (⟨"TermDraw$Matches", "startingIn", "(II)I"⟩, prog_4_method_7_code, (Option.some Jvm.ClassFile.FieldType.int)), (⟨"TermDraw$Measures", "<init>", "(LTermDraw$Terms;)V"⟩, prog_5_method_1_code, none), (⟨"TermDraw$Measures", "set", "(JJ)V"⟩, prog_5_method_2_code, none), (⟨"TermDraw$Measures", "weigh", "(LTermDraw$Told;II)V"⟩, prog_5_method_3_code, none), (⟨"TermDraw$Measures", "worthAbove", "(LTermDraw$Told;I)J"⟩, prog_5_method_4_code, (Option.some Jvm.ClassFile.FieldType.long)), (⟨"TermDraw$Measures", "worthBelow", "(I)J"⟩, prog_5_method_5_code, (Option.some Jvm.ClassFile.FieldType.long)), (⟨"TermDraw$Measures", "oddAbove", "(LTermDraw$Told;I)J"⟩, prog_5_method_6_code, (Option.some Jvm.ClassFile.FieldType.long)), (⟨"TermDraw$Measures", "oddBelow", "(LTermDraw$Told;I)J"⟩, prog_5_method_7_code, (Option.some Jvm.ClassFile.FieldType.long)), (⟨"TermDraw$Measures", "setNear", "(LTermDraw$Told;I)V"⟩, prog_5_method_8_code, none), (⟨"TermDraw$Measures", "prepare", "(LTermDraw$Told;I)V"⟩, prog_5_method_9_code, none), (⟨"TermDraw$Measures", "ahead", "(II)Z"⟩, prog_5_method_10_code, (Option.some Jvm.ClassFile.FieldType.boolean)), (⟨"TermDraw$Measures", "termAt", "(II)I"⟩, prog_5_method_11_code, (Option.some Jvm.ClassFile.FieldType.int)), (⟨"TermDraw$Measures", "rankOf", "(II)I"⟩, prog_5_method_12_code, (Option.some Jvm.ClassFile.FieldType.int)), (⟨"TermDraw$Measures", "coveredBy", "(II)I"⟩, prog_5_method_13_code, (Option.some Jvm.ClassFile.FieldType.int)), (⟨"TermDraw$Measures", "coverOne", "(I)I"⟩, prog_5_method_14_code, (Option.some Jvm.ClassFile.FieldType.int)), (⟨"TermDraw$Order", "<init>", "()V"⟩, prog_6_method_1_code, none), (⟨"TermDraw$Order", "sort", "(I)V"⟩, prog_6_method_3_code, none), (⟨"TermDraw$Order", "merge", "(III)V"⟩, prog_6_method_4_code, none), (⟨"TermDraw$Pairs", "<init>", "(I)V"⟩, prog_7_method_1_code, none), (⟨"TermDraw$Pairs", "copyFrom", "(LTermDraw$Pairs;)V"⟩, prog_7_method_2_code, none), (⟨"TermDraw$Pairs", "add", "(JJ)Z"⟩, prog_7_method_3_code, (Option.some Jvm.ClassFile.FieldType.boolean)), (⟨"TermDraw$Pairs", "indexOf", "(J)I"⟩, prog_7_method_4_code, (Option.some Jvm.ClassFile.FieldType.int)), (⟨"TermDraw$Pairs", "set", "(JJ)Z"⟩, prog_7_method_5_code, (Option.some Jvm.ClassFile.FieldType.boolean)), (⟨"TermDraw$Pattern", "<init>", "()V"⟩, prog_8_method_1_code, none), (⟨"TermDraw$Pattern", "copyFrom", "(LTermDraw$Pattern;)V"⟩, prog_8_method_2_code, none), (⟨"TermDraw$Pattern", "read", "(LTermDraw$Reader;)V"⟩, prog_8_method_3_code, none), (⟨"TermDraw$Pattern", "readAlt", "(LTermDraw$Reader;I)I"⟩, prog_8_method_4_code, (Option.some Jvm.ClassFile.FieldType.int)), (⟨"TermDraw$Pattern", "readRow", "(LTermDraw$Reader;I)I"⟩, prog_8_method_5_code, (Option.some Jvm.ClassFile.FieldType.int)), (⟨"TermDraw$Pattern", "readItem", "(LTermDraw$Reader;I)I"⟩, prog_8_method_6_code, (Option.some Jvm.ClassFile.FieldType.int)), (⟨"TermDraw$Pattern", "readGroup", "(LTermDraw$Reader;I)I"⟩, prog_8_method_7_code, (Option.some Jvm.ClassFile.FieldType.int)), (⟨"TermDraw$Pattern", "readKind", "(LTermDraw$Reader;)I"⟩, prog_8_method_8_code, (Option.some Jvm.ClassFile.FieldType.int)), (⟨"TermDraw$Pattern", "firstOf", "(I)I"⟩, prog_8_method_9_code, (Option.some Jvm.ClassFile.FieldType.int)), (⟨"TermDraw$Pattern", "lastOf", "(I)I"⟩, prog_8_method_10_code, (Option.some Jvm.ClassFile.FieldType.int)), (⟨"TermDraw$Pattern", "link", "(II)V"⟩, prog_8_method_11_code, none), (⟨"TermDraw$Pattern", "joined", "(II)I"⟩, prog_8_method_12_code, (Option.some Jvm.ClassFile.FieldType.int)), (⟨"TermDraw$Pattern", "taking", "(II)I"⟩, prog_8_method_13_code, (Option.some Jvm.ClassFile.FieldType.int)), (⟨"TermDraw$Pattern", "startBy", "(I)I"⟩, prog_8_method_14_code, (Option.some Jvm.ClassFile.FieldType.int)), (⟨"TermDraw$Pattern", "goOn", "(II)I"⟩, prog_8_method_15_code, (Option.some Jvm.ClassFile.FieldType.int)), (⟨"TermDraw$Pattern", "endsWith", "(I)Z"⟩, prog_8_method_16_code, (Option.some Jvm.ClassFile.FieldType.boolean)), (⟨"TermDraw$Prose", "<init>", "()V"⟩, prog_9_method_1_code, none), (⟨"TermDraw$Prose", "copyFrom", "(LTermDraw$Prose;)V"⟩, prog_9_method_2_code, none), (⟨"TermDraw$Prose", "add", "(JI)Z"⟩, prog_9_method_3_code, (Option.some Jvm.ClassFile.FieldType.boolean)), (⟨"TermDraw$Prose", "wordAt", "(I)J"⟩, prog_9_method_4_code, (Option.some Jvm.ClassFile.FieldType.long)), (⟨"TermDraw$Prose", "nextSentence", "()I"⟩, prog_9_method_5_code, (Option.some Jvm.ClassFile.FieldType.int)), (⟨"TermDraw$Prose", "oneSentence", "(II)Z"⟩, prog_9_method_6_code, (Option.some Jvm.ClassFile.FieldType.boolean)), (⟨"TermDraw$Prose", "remove", "(II)V"⟩, prog_9_method_7_code, none), (⟨"TermDraw$Reader", "<init>", "(LTermDraw$Bytes;)V"⟩, prog_10_method_1_code, none), (⟨"TermDraw$Reader", "begin", "()V"⟩, prog_10_method_2_code, none), (⟨"TermDraw$Reader", "refuse", "(I)V"⟩, prog_10_method_3_code, none), (⟨"TermDraw$Reader", "nextByte", "()V"⟩, prog_10_method_4_code, none), (⟨"TermDraw$Reader", "next", "()V"⟩, prog_10_method_5_code, none), (⟨"TermDraw$Reader", "needs", "(I)Z"⟩, prog_10_method_6_code, (Option.some Jvm.ClassFile.FieldType.boolean)), (⟨"TermDraw$Reader", "passes", "(I)Z"⟩, prog_10_method_7_code, (Option.some Jvm.ClassFile.FieldType.boolean)), (⟨"TermDraw$Reader", "kindHere", "()I"⟩, prog_10_method_8_code, (Option.some Jvm.ClassFile.FieldType.int)), (⟨"TermDraw$Reader", "isKind", "(I)Z"⟩, prog_10_method_9_code, (Option.some Jvm.ClassFile.FieldType.boolean)), (⟨"TermDraw$Reader", "readLexicon", "(LTermDraw$Pairs;)V"⟩, prog_10_method_10_code, none), (⟨"TermDraw$Reader", "readLexiconLine", "(LTermDraw$Pairs;)V"⟩, prog_10_method_11_code, none), (⟨"TermDraw$Reader", "readEndings", "(LTermDraw$Pairs;)V"⟩, prog_10_method_12_code, none), (⟨"TermDraw$Reader", "readEndingsLine", "(LTermDraw$Pairs;)V"⟩, prog_10_method_13_code, none), (⟨"TermDraw$Reader", "readSame", "(LTermDraw$Told;)V"⟩, prog_10_method_14_code, none), (⟨"TermDraw$Reader", "readSameLine", "(LTermDraw$Told;)V"⟩, prog_10_method_15_code, none), (⟨"TermDraw$Reader", "takesSame", "(LTermDraw$Told;)Z"⟩, prog_10_method_16_code, (Option.some Jvm.ClassFile.FieldType.boolean)), (⟨"TermDraw$Reader", "readProse", "(LTermDraw$Prose;)V"⟩, prog_10_method_17_code, none), (⟨"TermDraw$Reader", "readPattern", "(LTermDraw$Pattern;)V"⟩, prog_10_method_18_code, none), (⟨"TermDraw$Terms", "<init>", "(LTermDraw$Bases;LTermDraw$Matches;)V"⟩, prog_11_method_1_code, none), (⟨"TermDraw$Terms", "build", "(LTermDraw$Told;)V"⟩, prog_11_method_2_code, none), (⟨"TermDraw$Terms", "gather", "(LTermDraw$Told;)V"⟩, prog_11_method_3_code, none), (⟨"TermDraw$Terms", "open", "(II)V"⟩, prog_11_method_4_code, none), (⟨"TermDraw$Terms", "take", "(LTermDraw$Told;II)V"⟩, prog_11_method_5_code, none), (⟨"TermDraw$Terms", "countLonger", "()V"⟩, prog_11_method_6_code, none), (⟨"TermDraw$Terms", "countGeneral", "(LTermDraw$Told;)V"⟩, prog_11_method_7_code, none), (⟨"TermDraw$Terms", "countAround", "(LTermDraw$Told;)V"⟩, prog_11_method_8_code, none), (⟨"TermDraw$Terms", "sumNear", "(LTermDraw$Told;)V"⟩, prog_11_method_9_code, none), (⟨"TermDraw$Terms", "findBeside", "(LTermDraw$Told;I)I"⟩, prog_11_method_10_code, (Option.some Jvm.ClassFile.FieldType.int)), (⟨"TermDraw$Terms", "matchOf", "(II)I"⟩, prog_11_method_11_code, (Option.some Jvm.ClassFile.FieldType.int)), (⟨"TermDraw$Terms", "lengthOf", "(I)I"⟩, prog_11_method_12_code, (Option.some Jvm.ClassFile.FieldType.int)), (⟨"TermDraw$Terms", "placeOf", "(J)I"⟩, prog_11_method_13_code, (Option.some Jvm.ClassFile.FieldType.int)), (⟨"TermDraw$Terms", "inDoc", "(I)I"⟩, prog_11_method_14_code, (Option.some Jvm.ClassFile.FieldType.int)), (⟨"TermDraw$Terms", "toldOf", "(II)I"⟩, prog_11_method_15_code, (Option.some Jvm.ClassFile.FieldType.int)), (⟨"TermDraw$Terms", "longerAt", "(II)I"⟩, prog_11_method_16_code, (Option.some Jvm.ClassFile.FieldType.int)), (⟨"TermDraw$Terms", "baseAround", "(LTermDraw$Told;II)I"⟩, prog_11_method_17_code, (Option.some Jvm.ClassFile.FieldType.int)), (⟨"TermDraw$Terms", "tallied", "(I)I"⟩, prog_11_method_18_code, (Option.some Jvm.ClassFile.FieldType.int)), (⟨"TermDraw$Terms", "likelyOf", "(I)I"⟩, prog_11_method_19_code, (Option.some Jvm.ClassFile.FieldType.int)), (⟨"TermDraw$Terms", "lastOf", "(I)I"⟩, prog_11_method_20_code, (Option.some Jvm.ClassFile.FieldType.int)), (⟨"TermDraw$Terms", "tallyHeads", "()I"⟩, prog_11_method_21_code, (Option.some Jvm.ClassFile.FieldType.int)), (⟨"TermDraw$Terms", "headTold", "(II)I"⟩, prog_11_method_22_code, (Option.some Jvm.ClassFile.FieldType.int)), (⟨"TermDraw$Told", "<init>", "()V"⟩, prog_12_method_1_code, none), (⟨"TermDraw$Told", "copyFrom", "(LTermDraw$Told;)V"⟩, prog_12_method_2_code, none), (⟨"TermDraw$Told", "sameAs", "(J)J"⟩, prog_12_method_3_code, (Option.some Jvm.ClassFile.FieldType.long)), (⟨"TermDraw$Told", "tellSame", "(JJ)V"⟩, prog_12_method_4_code, none), (⟨"TermDraw$Told", "baseOf", "(J)J"⟩, prog_12_method_5_code, (Option.some Jvm.ClassFile.FieldType.long)), (⟨"TermDraw$Told", "kindOf", "(JJ)I"⟩, prog_12_method_6_code, (Option.some Jvm.ClassFile.FieldType.int)), (⟨"TermDraw$Told", "closeDoc", "()V"⟩, prog_12_method_7_code, none), (⟨"TermDraw$Told", "removeDoc", "(I)V"⟩, prog_12_method_8_code, none), (⟨"TermDraw$Told", "docFirst", "(I)I"⟩, prog_12_method_9_code, (Option.some Jvm.ClassFile.FieldType.int)), (⟨"TermDraw$Told", "docSize", "(I)I"⟩, prog_12_method_10_code, (Option.some Jvm.ClassFile.FieldType.int)), (⟨"TermDraw$Told", "docSentences", "(I)I"⟩, prog_12_method_11_code, (Option.some Jvm.ClassFile.FieldType.int)), (⟨"TermDraw$Told", "placeOf", "(II)I"⟩, prog_12_method_12_code, (Option.some Jvm.ClassFile.FieldType.int)), (⟨"TermDraw$Told", "docAt", "(I)I"⟩, prog_12_method_13_code, (Option.some Jvm.ClassFile.FieldType.int)), (⟨"TermDraw", "<init>", "()V"⟩, prog_1_method_1_code, none), (⟨"TermDraw", "feed", "(IIIII)I"⟩, prog_1_method_2_code, (Option.some Jvm.ClassFile.FieldType.int)), (⟨"TermDraw", "end", "(I)Z"⟩, prog_1_method_3_code, (Option.some Jvm.ClassFile.FieldType.boolean)), (⟨"TermDraw", "text", "(I)I"⟩, prog_1_method_4_code, (Option.some Jvm.ClassFile.FieldType.int)), (⟨"TermDraw", "doc", "()I"⟩, prog_1_method_5_code, (Option.some Jvm.ClassFile.FieldType.int)), (⟨"TermDraw", "drop", "(I)I"⟩, prog_1_method_6_code, (Option.some Jvm.ClassFile.FieldType.int)), (⟨"TermDraw", "fault", "(I)I"⟩, prog_1_method_7_code, (Option.some Jvm.ClassFile.FieldType.int)), (⟨"TermDraw", "lengths", "(II)Z"⟩, prog_1_method_8_code, (Option.some Jvm.ClassFile.FieldType.boolean)), (⟨"TermDraw", "weight", "(II)Z"⟩, prog_1_method_9_code, (Option.some Jvm.ClassFile.FieldType.boolean)), (⟨"TermDraw", "wide", "(I)Z"⟩, prog_1_method_10_code, (Option.some Jvm.ClassFile.FieldType.boolean)), (⟨"TermDraw", "undo", "()Z"⟩, prog_1_method_11_code, (Option.some Jvm.ClassFile.FieldType.boolean)), (⟨"TermDraw", "of", "(II)I"⟩, prog_1_method_12_code, (Option.some Jvm.ClassFile.FieldType.int)), (⟨"TermDraw", "word", "(IIZ)I"⟩, prog_1_method_13_code, (Option.some Jvm.ClassFile.FieldType.int)), (⟨"TermDraw", "kindAt", "(II)I"⟩, prog_1_method_14_code, (Option.some Jvm.ClassFile.FieldType.int)), (⟨"TermDraw", "match", "(II)I"⟩, prog_1_method_15_code, (Option.some Jvm.ClassFile.FieldType.int)), (⟨"TermDraw", "term", "(IZ)I"⟩, prog_1_method_16_code, (Option.some Jvm.ClassFile.FieldType.int)), (⟨"TermDraw", "slate", "(I)I"⟩, prog_1_method_17_code, (Option.some Jvm.ClassFile.FieldType.int)), (⟨"TermDraw", "find", "()I"⟩, prog_1_method_18_code, (Option.some Jvm.ClassFile.FieldType.int)), (⟨"TermDraw", "told", "(II)I"⟩, prog_1_method_19_code, (Option.some Jvm.ClassFile.FieldType.int)), (⟨"TermDraw", "measure", "(IIZ)J"⟩, prog_1_method_20_code, (Option.some Jvm.ClassFile.FieldType.long)), (⟨"TermDraw", "share", "(II)I"⟩, prog_1_method_21_code, (Option.some Jvm.ClassFile.FieldType.int)), (⟨"TermDraw", "rest", "(II)J"⟩, prog_1_method_22_code, (Option.some Jvm.ClassFile.FieldType.long)), (⟨"TermDraw", "ranked", "(II)I"⟩, prog_1_method_23_code, (Option.some Jvm.ClassFile.FieldType.int)), (⟨"TermDraw", "rank", "(II)I"⟩, prog_1_method_24_code, (Option.some Jvm.ClassFile.FieldType.int)), (⟨"TermDraw", "longer", "(II)I"⟩, prog_1_method_25_code, (Option.some Jvm.ClassFile.FieldType.int)), (⟨"TermDraw", "around", "(II)I"⟩, prog_1_method_26_code, (Option.some Jvm.ClassFile.FieldType.int)), (⟨"TermDraw", "likely", "(Z)J"⟩, prog_1_method_27_code, (Option.some Jvm.ClassFile.FieldType.long)), (⟨"TermDraw", "head", "(II)I"⟩, prog_1_method_28_code, (Option.some Jvm.ClassFile.FieldType.int)), (⟨"TermDraw", "cover", "(II)I"⟩, prog_1_method_29_code, (Option.some Jvm.ClassFile.FieldType.int)), (⟨"TermDraw", "look", "(I)I"⟩, prog_1_method_30_code, (Option.some Jvm.ClassFile.FieldType.int)), (⟨"TermDraw", "slotAt", "(I)LTermDraw$Told;"⟩, prog_1_method_31_code, (Option.some (Jvm.ClassFile.FieldType.object "TermDraw$Told"))), (⟨"TermDraw", "beginChange", "()V"⟩, prog_1_method_32_code, none), (⟨"TermDraw", "keepChange", "()V"⟩, prog_1_method_33_code, none), (⟨"TermDraw", "refuseUnread", "()I"⟩, prog_1_method_34_code, (Option.some Jvm.ClassFile.FieldType.int)), (⟨"TermDraw", "readInto", "(LTermDraw$Told;I)V"⟩, prog_1_method_35_code, none), (⟨"TermDraw", "endReading", "()Z"⟩, prog_1_method_36_code, (Option.some Jvm.ClassFile.FieldType.boolean)), (⟨"TermDraw", "sizeOf", "(I)I"⟩, prog_1_method_37_code, (Option.some Jvm.ClassFile.FieldType.int)), (⟨"TermDraw", "draw", "()V"⟩, prog_1_method_38_code, none), (⟨"TermDraw", "weighed", "(II)Z"⟩, prog_1_method_39_code, (Option.some Jvm.ClassFile.FieldType.boolean)), (⟨"TermDraw", "readRow", "()J"⟩, prog_1_method_40_code, (Option.some Jvm.ClassFile.FieldType.long)), (⟨"TermDraw", "ints", "(I)[I"⟩, prog_1_method_41_code, (Option.some (Jvm.ClassFile.FieldType.array Jvm.ClassFile.FieldType.int))), (⟨"TermDraw", "longs", "(I)[J"⟩, prog_1_method_42_code, (Option.some (Jvm.ClassFile.FieldType.array Jvm.ClassFile.FieldType.long))), (⟨"TermDraw", "at", "([II)I"⟩, prog_1_method_43_code, (Option.some Jvm.ClassFile.FieldType.int)), (⟨"TermDraw", "at", "([JI)J"⟩, prog_1_method_44_code, (Option.some Jvm.ClassFile.FieldType.long)), (⟨"TermDraw", "put", "([III)V"⟩, prog_1_method_45_code, none), (⟨"TermDraw", "put", "([JIJ)V"⟩, prog_1_method_46_code, none), (⟨"TermDraw", "clear", "([II)V"⟩, prog_1_method_47_code, none), (⟨"TermDraw", "copy", "([I[II)V"⟩, prog_1_method_48_code, none), (⟨"TermDraw", "copy", "([J[JI)V"⟩, prog_1_method_49_code, none), (⟨"TermDraw", "lowest", "([JIJ)I"⟩, prog_1_method_50_code, (Option.some Jvm.ClassFile.FieldType.int)), (⟨"TermDraw", "insert", "([JIJ)I"⟩, prog_1_method_51_code, (Option.some Jvm.ClassFile.FieldType.int)), (⟨"TermDraw", "exact", "([JIJ)I"⟩, prog_1_method_52_code, (Option.some Jvm.ClassFile.FieldType.int)), (⟨"TermDraw", "letterShift", "(I)I"⟩, prog_1_method_53_code, (Option.some Jvm.ClassFile.FieldType.int)), (⟨"TermDraw", "letterAt", "(JI)I"⟩, prog_1_method_54_code, (Option.some Jvm.ClassFile.FieldType.int)), (⟨"TermDraw", "lettersOf", "(J)I"⟩, prog_1_method_55_code, (Option.some Jvm.ClassFile.FieldType.int)), (⟨"TermDraw", "isLetter", "(I)Z"⟩, prog_1_method_56_code, (Option.some Jvm.ClassFile.FieldType.boolean)), (⟨"TermDraw", "replaced", "(JJJ)J"⟩, prog_1_method_57_code, (Option.some Jvm.ClassFile.FieldType.long)), (⟨"TermDraw", "cell", "(II)J"⟩, prog_1_method_58_code, (Option.some Jvm.ClassFile.FieldType.long)), (⟨"TermDraw", "idIn", "(JI)I"⟩, prog_1_method_59_code, (Option.some Jvm.ClassFile.FieldType.int)), (⟨"TermDraw", "cellsOf", "(J)I"⟩, prog_1_method_60_code, (Option.some Jvm.ClassFile.FieldType.int)), (⟨"TermDraw", "part", "(JII)J"⟩, prog_1_method_61_code, (Option.some Jvm.ClassFile.FieldType.long)), (⟨"TermDraw", "holds", "(JJ)Z"⟩, prog_1_method_62_code, (Option.some Jvm.ClassFile.FieldType.boolean)), (⟨"TermDraw", "exponentOf", "(D)I"⟩, prog_1_method_63_code, (Option.some Jvm.ClassFile.FieldType.int)), (⟨"TermDraw", "fractionOf", "(DI)J"⟩, prog_1_method_64_code, (Option.some Jvm.ClassFile.FieldType.long)), (⟨"TermDraw", "floatBits", "(F)I"⟩, prog_1_method_65_code, (Option.some Jvm.ClassFile.FieldType.int)), (⟨"TermDraw", "restBits", "(D)J"⟩, prog_1_method_66_code, (Option.some Jvm.ClassFile.FieldType.long)), (⟨"TermDraw", "greatestDivisor", "(JJ)J"⟩, prog_1_method_67_code, (Option.some Jvm.ClassFile.FieldType.long)), (⟨"TermDrawModel", "isIn", "(JJJ)Z"⟩, prog_14_method_1_code, (Option.some Jvm.ClassFile.FieldType.boolean)), (⟨"TermDrawModel", "one", "(Z)I"⟩, prog_14_method_2_code, (Option.some Jvm.ClassFile.FieldType.int)), (⟨"TermDrawModel", "has", "(JI)Z"⟩, prog_14_method_3_code, (Option.some Jvm.ClassFile.FieldType.boolean)), (⟨"TermDrawModel", "<init>", "()V"⟩, prog_14_method_4_code, none), (⟨"TermDrawModel", "keeps", "()V"⟩, prog_14_method_5_code, none), (⟨"TermDrawModel", "undo", "()Z"⟩, prog_14_method_6_code, (Option.some Jvm.ClassFile.FieldType.boolean)), (⟨"TermDrawModel", "power", "(I)J"⟩, prog_14_method_7_code, (Option.some Jvm.ClassFile.FieldType.long)), (⟨"TermDrawModel", "lettersOf", "(J)I"⟩, prog_14_method_8_code, (Option.some Jvm.ClassFile.FieldType.int)), (⟨"TermDrawModel", "head", "(JI)J"⟩, prog_14_method_9_code, (Option.some Jvm.ClassFile.FieldType.long)), (⟨"TermDrawModel", "tail", "(JI)J"⟩, prog_14_method_10_code, (Option.some Jvm.ClassFile.FieldType.long)), (⟨"TermDrawModel", "lexiconOf", "(J)I"⟩, prog_14_method_11_code, (Option.some Jvm.ClassFile.FieldType.int)), (⟨"TermDrawModel", "sameOf", "(J)J"⟩, prog_14_method_12_code, (Option.some Jvm.ClassFile.FieldType.long)), (⟨"TermDrawModel", "baseOf", "(J)J"⟩, prog_14_method_13_code, (Option.some Jvm.ClassFile.FieldType.long)), (⟨"TermDrawModel", "kindOf", "(J)I"⟩, prog_14_method_14_code, (Option.some Jvm.ClassFile.FieldType.int)), (⟨"TermDrawModel", "kindBy", "(I)I"⟩, prog_14_method_15_code, (Option.some Jvm.ClassFile.FieldType.int)), (⟨"TermDrawModel", "letterBy", "(I)I"⟩, prog_14_method_16_code, (Option.some Jvm.ClassFile.FieldType.int)), (⟨"TermDrawModel", "four", "(I)V"⟩, prog_14_method_17_code, none), (⟨"TermDrawModel", "feed", "(IIIII)I"⟩, prog_14_method_18_code, (Option.some Jvm.ClassFile.FieldType.int)), (⟨"TermDrawModel", "end", "(I)Z"⟩, prog_14_method_19_code, (Option.some Jvm.ClassFile.FieldType.boolean)), (⟨"TermDrawModel", "begins", "()V"⟩, prog_14_method_20_code, none), (⟨"TermDrawModel", "see", "()I"⟩, prog_14_method_21_code, (Option.some Jvm.ClassFile.FieldType.int)), (⟨"TermDrawModel", "fails", "(II)Z"⟩, prog_14_method_22_code, (Option.some Jvm.ClassFile.FieldType.boolean)), (⟨"TermDrawModel", "isLetter", "()Z"⟩, prog_14_method_23_code, (Option.some Jvm.ClassFile.FieldType.boolean)), (⟨"TermDrawModel", "readWord", "()Z"⟩, prog_14_method_24_code, (Option.some Jvm.ClassFile.FieldType.boolean)), (⟨"TermDrawModel", "takes", "(I)Z"⟩, prog_14_method_25_code, (Option.some Jvm.ClassFile.FieldType.boolean)), (⟨"TermDrawModel", "readLexicon", "()Z"⟩, prog_14_method_26_code, (Option.some Jvm.ClassFile.FieldType.boolean)), (⟨"TermDrawModel", "readEndings", "()Z"⟩, prog_14_method_27_code, (Option.some Jvm.ClassFile.FieldType.boolean)), (⟨"TermDrawModel", "readSame", "()Z"⟩, prog_14_method_28_code, (Option.some Jvm.ClassFile.FieldType.boolean)), (⟨"TermDrawModel", "readWords", "(III)I"⟩, prog_14_method_29_code, (Option.some Jvm.ClassFile.FieldType.int)), (⟨"TermDrawModel", "readAtom", "()Z"⟩, prog_14_method_30_code, (Option.some Jvm.ClassFile.FieldType.boolean)), (⟨"TermDrawModel", "isAtom", "()Z"⟩, prog_14_method_31_code, (Option.some Jvm.ClassFile.FieldType.boolean)), (⟨"TermDrawModel", "follows", "(II)V"⟩, prog_14_method_32_code, none), (⟨"TermDrawModel", "readItem", "()Z"⟩, prog_14_method_33_code, (Option.some Jvm.ClassFile.FieldType.boolean)), (⟨"TermDrawModel", "readRow", "()Z"⟩, prog_14_method_34_code, (Option.some Jvm.ClassFile.FieldType.boolean)), (⟨"TermDrawModel", "readAlt", "()Z"⟩, prog_14_method_35_code, (Option.some Jvm.ClassFile.FieldType.boolean)), (⟨"TermDrawModel", "readPattern", "()Z"⟩, prog_14_method_36_code, (Option.some Jvm.ClassFile.FieldType.boolean)), (⟨"TermDrawModel", "keepsPattern", "()V"⟩, prog_14_method_37_code, none), (⟨"TermDrawModel", "readText", "(I)Z"⟩, prog_14_method_38_code, (Option.some Jvm.ClassFile.FieldType.boolean)), (⟨"TermDrawModel", "tries", "()V"⟩, prog_14_method_39_code, none), (⟨"TermDrawModel", "ends", "(Z)Z"⟩, prog_14_method_40_code, (Option.some Jvm.ClassFile.FieldType.boolean)), (⟨"TermDrawModel", "refuses", "()I"⟩, prog_14_method_41_code, (Option.some Jvm.ClassFile.FieldType.int)), (⟨"TermDrawModel", "text", "(I)I"⟩, prog_14_method_42_code, (Option.some Jvm.ClassFile.FieldType.int)), (⟨"TermDrawModel", "wordsOf", "()I"⟩, prog_14_method_43_code, (Option.some Jvm.ClassFile.FieldType.int)), (⟨"TermDrawModel", "doc", "()I"⟩, prog_14_method_44_code, (Option.some Jvm.ClassFile.FieldType.int)), (⟨"TermDrawModel", "isDoc", "(I)Z"⟩, prog_14_method_45_code, (Option.some Jvm.ClassFile.FieldType.boolean)), (⟨"TermDrawModel", "drop", "(I)I"⟩, prog_14_method_46_code, (Option.some Jvm.ClassFile.FieldType.int)), (⟨"TermDrawModel", "fault", "(I)I"⟩, prog_14_method_47_code, (Option.some Jvm.ClassFile.FieldType.int)), (⟨"TermDrawModel", "lengths", "(II)Z"⟩, prog_14_method_48_code, (Option.some Jvm.ClassFile.FieldType.boolean)), (⟨"TermDrawModel", "weight", "(II)Z"⟩, prog_14_method_49_code, (Option.some Jvm.ClassFile.FieldType.boolean)), (⟨"TermDrawModel", "wide", "(I)Z"⟩, prog_14_method_50_code, (Option.some Jvm.ClassFile.FieldType.boolean)), (⟨"TermDrawModel", "isSentence", "(II)Z"⟩, prog_14_method_51_code, (Option.some Jvm.ClassFile.FieldType.boolean)), (⟨"TermDrawModel", "isPattern", "(II)Z"⟩, prog_14_method_52_code, (Option.some Jvm.ClassFile.FieldType.boolean)), (⟨"TermDrawModel", "beside", "([JIII)I"⟩, prog_14_method_53_code, (Option.some Jvm.ClassFile.FieldType.int)), (⟨"TermDrawModel", "placeOf", "([JII)I"⟩, prog_14_method_54_code, (Option.some Jvm.ClassFile.FieldType.int)), (⟨"TermDrawModel", "comes", "(II)V"⟩, prog_14_method_55_code, none), (⟨"TermDrawModel", "isInLonger", "(II)Z"⟩, prog_14_method_56_code, (Option.some Jvm.ClassFile.FieldType.boolean)), (⟨"TermDrawModel", "layWords", "()V"⟩, prog_14_method_57_code, none), (⟨"TermDrawModel", "basePlace", "(J)I"⟩, prog_14_method_58_code, (Option.some Jvm.ClassFile.FieldType.int)), (⟨"TermDrawModel", "lays", "()V"⟩, prog_14_method_59_code, none), (⟨"TermDrawModel", "isInRow", "(II)Z"⟩, prog_14_method_60_code, (Option.some Jvm.ClassFile.FieldType.boolean)), (⟨"TermDrawModel", "isRow", "([JII)Z"⟩, prog_14_method_61_code, (Option.some Jvm.ClassFile.FieldType.boolean)), (⟨"TermDrawModel", "layTerm", "(I)V"⟩, prog_14_method_62_code, none), (⟨"TermDrawModel", "surrounds", "(I)V"⟩, prog_14_method_63_code, none), (⟨"TermDrawModel", "layLikely", "()V"⟩, prog_14_method_64_code, none), (⟨"TermDrawModel", "gcd", "(JJ)J"⟩, prog_14_method_65_code, (Option.some Jvm.ClassFile.FieldType.long)), (⟨"TermDrawModel", "puts", "(JJ)V"⟩, prog_14_method_66_code, none), (⟨"TermDrawModel", "worth", "(I)V"⟩, prog_14_method_67_code, none), (⟨"TermDrawModel", "odd", "(I)V"⟩, prog_14_method_68_code, none), (⟨"TermDrawModel", "near", "(I)V"⟩, prog_14_method_69_code, none), (⟨"TermDrawModel", "measures", "(II)V"⟩, prog_14_method_70_code, none), (⟨"TermDrawModel", "bitsOf", "(I)I"⟩, prog_14_method_71_code, (Option.some Jvm.ClassFile.FieldType.int)), (⟨"TermDrawModel", "isLess", "(JJJJ)Z"⟩, prog_14_method_72_code, (Option.some Jvm.ClassFile.FieldType.boolean)), (⟨"TermDrawModel", "isAhead", "(II)Z"⟩, prog_14_method_73_code, (Option.some Jvm.ClassFile.FieldType.boolean)), (⟨"TermDrawModel", "ranks", "(I)V"⟩, prog_14_method_74_code, none), (⟨"TermDrawModel", "merges", "(III)V"⟩, prog_14_method_75_code, none), (⟨"TermDrawModel", "isTerm", "(I)Z"⟩, prog_14_method_76_code, (Option.some Jvm.ClassFile.FieldType.boolean)), (⟨"TermDrawModel", "isMeasure", "(I)Z"⟩, prog_14_method_77_code, (Option.some Jvm.ClassFile.FieldType.boolean)), (⟨"TermDrawModel", "measure", "(IIZ)J"⟩, prog_14_method_78_code, (Option.some Jvm.ClassFile.FieldType.long)), (⟨"TermDrawModel", "share", "(II)I"⟩, prog_14_method_79_code, (Option.some Jvm.ClassFile.FieldType.int)), (⟨"TermDrawModel", "rest", "(II)J"⟩, prog_14_method_80_code, (Option.some Jvm.ClassFile.FieldType.long)), (⟨"TermDrawModel", "ranked", "(II)I"⟩, prog_14_method_81_code, (Option.some Jvm.ClassFile.FieldType.int)), (⟨"TermDrawModel", "rank", "(II)I"⟩, prog_14_method_82_code, (Option.some Jvm.ClassFile.FieldType.int)), (⟨"TermDrawModel", "says", "(I)V"⟩, prog_14_method_83_code, none), (⟨"TermDrawModel", "saysWord", "(J)V"⟩, prog_14_method_84_code, none), (⟨"TermDrawModel", "slate", "(I)I"⟩, prog_14_method_85_code, (Option.some Jvm.ClassFile.FieldType.int)), (⟨"TermDrawModel", "isWord", "(II)Z"⟩, prog_14_method_86_code, (Option.some Jvm.ClassFile.FieldType.boolean)), (⟨"TermDrawModel", "word", "(IIZ)I"⟩, prog_14_method_87_code, (Option.some Jvm.ClassFile.FieldType.int)), (⟨"TermDrawModel", "kindAt", "(II)I"⟩, prog_14_method_88_code, (Option.some Jvm.ClassFile.FieldType.int)), (⟨"TermDrawModel", "of", "(II)I"⟩, prog_14_method_89_code, (Option.some Jvm.ClassFile.FieldType.int)), (⟨"TermDrawModel", "match", "(II)I"⟩, prog_14_method_90_code, (Option.some Jvm.ClassFile.FieldType.int)), (⟨"TermDrawModel", "isForm", "(II)Z"⟩, prog_14_method_91_code, (Option.some Jvm.ClassFile.FieldType.boolean)), (⟨"TermDrawModel", "isFormAhead", "(II)Z"⟩, prog_14_method_92_code, (Option.some Jvm.ClassFile.FieldType.boolean)), (⟨"TermDrawModel", "findsForms", "(I)V"⟩, prog_14_method_93_code, none), (⟨"TermDrawModel", "term", "(IZ)I"⟩, prog_14_method_94_code, (Option.some Jvm.ClassFile.FieldType.int)), (⟨"TermDrawModel", "find", "()I"⟩, prog_14_method_95_code, (Option.some Jvm.ClassFile.FieldType.int)), (⟨"TermDrawModel", "aroundOf", "(I)I"⟩, prog_14_method_96_code, (Option.some Jvm.ClassFile.FieldType.int)), (⟨"TermDrawModel", "told", "(II)I"⟩, prog_14_method_97_code, (Option.some Jvm.ClassFile.FieldType.int)), (⟨"TermDrawModel", "longer", "(II)I"⟩, prog_14_method_98_code, (Option.some Jvm.ClassFile.FieldType.int)), (⟨"TermDrawModel", "around", "(II)I"⟩, prog_14_method_99_code, (Option.some Jvm.ClassFile.FieldType.int)), (⟨"TermDrawModel", "likely", "(Z)J"⟩, prog_14_method_100_code, (Option.some Jvm.ClassFile.FieldType.long)), (⟨"TermDrawModel", "head", "(II)I"⟩, prog_14_method_101_code, (Option.some Jvm.ClassFile.FieldType.int)), (⟨"TermDrawModel", "cover", "(II)I"⟩, prog_14_method_102_code, (Option.some Jvm.ClassFile.FieldType.int)), (⟨"TermDrawModel", "look", "(I)I"⟩, prog_14_method_103_code, (Option.some Jvm.ClassFile.FieldType.int)), (⟨"java/lang/Double", "isNaN", "(D)Z"⟩, prog_15_method_6_code, (Option.some Jvm.ClassFile.FieldType.boolean)), (⟨"java/lang/Double", "doubleToLongBits", "(D)J"⟩, prog_15_method_23_code, (Option.some Jvm.ClassFile.FieldType.long)), (⟨"java/lang/Float", "isNaN", "(F)Z"⟩, prog_16_method_6_code, (Option.some Jvm.ClassFile.FieldType.boolean)), (⟨"java/lang/Float", "floatToIntBits", "(F)I"⟩, prog_16_method_24_code, (Option.some Jvm.ClassFile.FieldType.int)), (⟨"java/lang/Integer", "bitCount", "(I)I"⟩, prog_17_method_49_code, (Option.some Jvm.ClassFile.FieldType.int)), (⟨"java/lang/Math", "floorDiv", "(JJ)J"⟩, prog_18_method_49_code, (Option.some Jvm.ClassFile.FieldType.long)), (⟨"java/lang/Math", "abs", "(J)J"⟩, prog_18_method_61_code, (Option.some Jvm.ClassFile.FieldType.long)), (⟨"java/lang/Math", "max", "(II)I"⟩, prog_18_method_65_code, (Option.some Jvm.ClassFile.FieldType.int)), (⟨"java/lang/Math", "min", "(II)I"⟩, prog_18_method_69_code, (Option.some Jvm.ClassFile.FieldType.int)), (⟨"TermDrawLaw", "law", "([I)Z"⟩, code, ret)]
/-- the tables' words, and two that follow of them -/
def mm_tbl : List Jvm.Cond := [.selects "TermDraw$Matches" ⟨"TermDraw$Order", "merge", "(III)V"⟩ ⟨"TermDraw$Order", "merge", "(III)V"⟩, .selects "TermDraw$Measures" ⟨"TermDraw$Order", "merge", "(III)V"⟩ ⟨"TermDraw$Order", "merge", "(III)V"⟩] ++ lw_tbl
def mm_gT : List Jvm.Cond := mm_tbl.filter goodWord
def mm_tA (i : Nat) (w : Jvm.Cond) : Bool := decide (mm_tbl[i]? = some w) && goodWord w
def mm_tN (i : Nat) (w : Jvm.Cond) : Bool := decide (mm_tbl[i]? = some w)
end
section
/-! a small machine: the part of the bytecode that this program uses, over a heap of typed rows; what it does is proved of the machine in part 04 -/
abbrev mm_Lv : Type := List (Option Value)
/-- how many cells (from 3 on; 1 the script, 2 the text), how many slots; each cell's kind and length; its ints, longs, references (0: null) -/
abbrev mm_H : Type := Nat × Nat × (Nat → Nat × Nat) × (Nat → Nat → Int32) × (Nat → Nat → Int64) × (Nat → Nat → Nat)
def hN (h : mm_H) : Nat := h.1
def hM (h : mm_H) : Nat := h.2.1
def hK (h : mm_H) (a : Nat) : Nat × Nat := h.2.2.1 a
def hI (h : mm_H) (a k : Nat) : Int32 := h.2.2.2.1 a k
def hL (h : mm_H) (a k : Nat) : Int64 := h.2.2.2.2.1 a k
def hR (h : mm_H) (a k : Nat) : Nat := h.2.2.2.2.2 a k
def sI (h : mm_H) (a k : Nat) (v : Int32) : mm_H := (h.1, h.2.1, h.2.2.1, (fun b j => if b = a ∧ j = k then v else h.2.2.2.1 b j), h.2.2.2.2.1, h.2.2.2.2.2)
def sL (h : mm_H) (a k : Nat) (v : Int64) : mm_H := (h.1, h.2.1, h.2.2.1, h.2.2.2.1, (fun b j => if b = a ∧ j = k then v else h.2.2.2.2.1 b j), h.2.2.2.2.2)
def sR (h : mm_H) (a k : Nat) (v : Nat) : mm_H := (h.1, h.2.1, h.2.2.1, h.2.2.2.1, h.2.2.2.2.1, (fun b j => if b = a ∧ j = k then v else h.2.2.2.2.2 b j))
def hA (h : mm_H) (kd n : Nat) : mm_H := (h.1 + 1, h.2.1 + n, (fun b => if b = h.1 then (kd, n) else h.2.2.1 b), (fun b j => if b = h.1 then 0 else h.2.2.2.1 b j), (fun b j => if b = h.1 then 0 else h.2.2.2.2.1 b j), (fun b j => if b = h.1 then 0 else h.2.2.2.2.2 b j))
def mm_lg {α : Type} : List α → Nat → Option α
  | [], _ => none
  | v :: _, 0 => some v
  | _ :: r, k + 1 => mm_lg r k
def mm_put (v : Option Value) : mm_Lv → Nat → mm_Lv
  | [], _ => []
  | _ :: r, 0 => v :: r
  | w :: r, k + 1 => w :: mm_put v r k
def mm_is2 : Option Value → Bool
  | some (.long _) => true
  | some (.double _) => true
  | _ => false
/-- what a store at k leaves of the locals: the long ahead of it is gone, and what stands in its second half -/
def mm_cut (two : Bool) : mm_Lv → Nat → mm_Lv
  | L, 0 => L
  | w :: r, 1 => (if mm_is2 w then none else w) :: r
  | w :: r, k + 1 => w :: mm_cut two r k
  | [], _ => []
def mm_st (L : mm_Lv) (k : Nat) (v : Value) : mm_Lv :=
  let M := mm_put (some v) (mm_cut true L k) k
  if mm_is2 (some v) then mm_put none M (k + 1) else M
def mm_ca : Value → Nat
  | .long _ => 2
  | .double _ => 2
  | _ => 1
def mm_cs : List Value → Nat
  | [] => 0
  | v :: r => mm_ca v + mm_cs r
def mm_pad : List (Option Value) → Nat → mm_Lv
  | _, 0 => []
  | [], n + 1 => none :: mm_pad [] n
  | w :: r, n + 1 => w :: mm_pad r n
def mm_en : List Value → mm_Lv
  | [] => []
  | v :: r => if mm_is2 (some v) then some v :: none :: mm_en r else some v :: mm_en r
def mm_tk : Nat → List Value → List Value
  | 0, _ => []
  | _, [] => []
  | n + 1, v :: r => v :: mm_tk n r
def mm_dr : Nat → List Value → List Value
  | 0, l => l
  | _, [] => []
  | n + 1, _ :: r => mm_dr n r
def mm_rv : List Value → List Value → List Value
  | [], a => a
  | v :: r, a => mm_rv r (v :: a)
abbrev mm_Nx : Type := Nat × mm_Lv × List Value × mm_H
/-- what an instruction does: goes on (under a guard), branches, switches, calls, returns -/
abbrev mm_Out : Type := Option ((Option Prop × mm_Nx) ⊕ (Prop × Nat × Nat × mm_Lv × List Value × mm_H) ⊕ (List (Int32 × Nat) × Nat × Int32 × mm_Lv × List Value × mm_H) ⊕ (Option Prop × Nat × List Value × List Value) ⊕ (Option Prop × Option Value))
def mm_go (ip : Nat) (L : mm_Lv) (st : List Value) (h : mm_H) : mm_Out := some (.inl (none, ip, L, st, h))
def mm_gg (g : Prop) (ip : Nat) (L : mm_Lv) (st : List Value) (h : mm_H) : mm_Out := some (.inl (some g, ip, L, st, h))
def mm_br (c : Prop) (t f : Nat) (L : mm_Lv) (st : List Value) (h : mm_H) : mm_Out := some (.inr (.inl (c, t, f, L, st, h)))
def mm_sw (cs : List (Int32 × Nat)) (d : Nat) (x : Int32) (L : mm_Lv) (st : List Value) (h : mm_H) : mm_Out := some (.inr (.inr (.inl (cs, d, x, L, st, h))))
def mm_cl2 (g : Option Prop) (m : Nat) (as rest : List Value) : mm_Out := some (.inr (.inr (.inr (.inl (g, m, as, rest)))))
def mm_rt (g : Option Prop) (v : Option Value) : mm_Out := some (.inr (.inr (.inr (.inr (g, v)))))
/-- the kinds that a receiver may have -/
def mm_kd (k : Nat) : List Nat → Prop
  | [] => False
  | [c] => k = c
  | c :: r => k = c ∨ mm_kd k r
def mm_x0 : List Nat → Nat
  | [] => 0
  | k :: _ => k
def mm_ldI (x : List Nat) (ip : Nat) (L : mm_Lv) (st : List Value) (h : mm_H) : mm_Out := match mm_lg L (mm_x0 x) with
  | some (some (.int v)) => mm_go (ip + 1) L (.int v :: st) h
  | _ => none
def mm_ldL (x : List Nat) (ip : Nat) (L : mm_Lv) (st : List Value) (h : mm_H) : mm_Out := match mm_lg L (mm_x0 x) with
  | some (some (.long v)) => mm_go (ip + 1) L (.long v :: st) h
  | _ => none
def mm_ldA (x : List Nat) (ip : Nat) (L : mm_Lv) (st : List Value) (h : mm_H) : mm_Out := match mm_lg L (mm_x0 x) with
  | some (some (.ref v)) => mm_go (ip + 1) L (.ref v :: st) h
  | _ => none
def mm_ldF (x : List Nat) (ip : Nat) (L : mm_Lv) (st : List Value) (h : mm_H) : mm_Out := match mm_lg L (mm_x0 x) with
  | some (some (.float v)) => mm_go (ip + 1) L (.float v :: st) h
  | _ => none
def mm_ldD (x : List Nat) (ip : Nat) (L : mm_Lv) (st : List Value) (h : mm_H) : mm_Out := match mm_lg L (mm_x0 x) with
  | some (some (.double v)) => mm_go (ip + 1) L (.double v :: st) h
  | _ => none
def mm_stI (x : List Nat) (ip : Nat) (L : mm_Lv) (st : List Value) (h : mm_H) : mm_Out := match st with
  | .int v :: r => mm_go (ip + 1) (mm_st L (mm_x0 x) (.int v)) r h
  | _ => none
def mm_stL (x : List Nat) (ip : Nat) (L : mm_Lv) (st : List Value) (h : mm_H) : mm_Out := match st with
  | .long v :: r => mm_go (ip + 1) (mm_st L (mm_x0 x) (.long v)) r h
  | _ => none
def mm_stA (x : List Nat) (ip : Nat) (L : mm_Lv) (st : List Value) (h : mm_H) : mm_Out := match st with
  | .ref v :: r => mm_go (ip + 1) (mm_st L (mm_x0 x) (.ref v)) r h
  | _ => none
def mm_stF (x : List Nat) (ip : Nat) (L : mm_Lv) (st : List Value) (h : mm_H) : mm_Out := match st with
  | .float v :: r => mm_go (ip + 1) (mm_st L (mm_x0 x) (.float v)) r h
  | _ => none
def mm_stD (x : List Nat) (ip : Nat) (L : mm_Lv) (st : List Value) (h : mm_H) : mm_Out := match st with
  | .double v :: r => mm_go (ip + 1) (mm_st L (mm_x0 x) (.double v)) r h
  | _ => none
def mm_inc (x : List Nat) (v : Value) (ip : Nat) (L : mm_Lv) (st : List Value) (h : mm_H) : mm_Out := match v with
  | .int n => match mm_lg L (mm_x0 x) with
    | some (some (.int w)) => mm_go (ip + 1) (mm_st L (mm_x0 x) (.int (w + n))) st h
    | _ => none
  | _ => none
def mm_bI (f : Int32 → Int32 → Int32) (ip : Nat) (L : mm_Lv) (st : List Value) (h : mm_H) : mm_Out := match st with
  | .int y :: .int x :: r => mm_go (ip + 1) L (.int (f x y) :: r) h
  | _ => none
def mm_bL (f : Int64 → Int64 → Int64) (ip : Nat) (L : mm_Lv) (st : List Value) (h : mm_H) : mm_Out := match st with
  | .long y :: .long x :: r => mm_go (ip + 1) L (.long (f x y) :: r) h
  | _ => none
def mm_dL (f : Int64 → Int64 → Int64) (ip : Nat) (L : mm_Lv) (st : List Value) (h : mm_H) : mm_Out := match st with
  | .long y :: .long x :: r => mm_gg (¬ y = 0) (ip + 1) L (.long (f x y) :: r) h
  | _ => none
def mm_dI (f : Int32 → Int32 → Int32) (ip : Nat) (L : mm_Lv) (st : List Value) (h : mm_H) : mm_Out := match st with
  | .int y :: .int x :: r => mm_gg (¬ y = 0) (ip + 1) L (.int (f x y) :: r) h
  | _ => none
def mm_sL (f : Int64 → Int32 → Int64) (ip : Nat) (L : mm_Lv) (st : List Value) (h : mm_H) : mm_Out := match st with
  | .int y :: .long x :: r => mm_go (ip + 1) L (.long (f x y) :: r) h
  | _ => none
def mm_uI (f : Int32 → Value) (ip : Nat) (L : mm_Lv) (st : List Value) (h : mm_H) : mm_Out := match st with
  | .int x :: r => mm_go (ip + 1) L (f x :: r) h
  | _ => none
def mm_uL (f : Int64 → Value) (ip : Nat) (L : mm_Lv) (st : List Value) (h : mm_H) : mm_Out := match st with
  | .long x :: r => mm_go (ip + 1) L (f x :: r) h
  | _ => none
def mm_uD (f : UInt64 → Value) (ip : Nat) (L : mm_Lv) (st : List Value) (h : mm_H) : mm_Out := match st with
  | .double x :: r => mm_go (ip + 1) L (f x :: r) h
  | _ => none
def mm_bD (f : UInt64 → UInt64 → UInt64) (ip : Nat) (L : mm_Lv) (st : List Value) (h : mm_H) : mm_Out := match st with
  | .double y :: .double x :: r => mm_gg (vf_n64 (f x y)) (ip + 1) L (.double (f x y) :: r) h
  | _ => none
def mm_if (c : Int32 → Prop) (x : List Nat) (ip : Nat) (L : mm_Lv) (st : List Value) (h : mm_H) : mm_Out := match st with
  | .int v :: r => mm_br (c v) (mm_x0 x) (ip + 1) L r h
  | _ => none
def mm_ic (c : Int32 → Int32 → Prop) (x : List Nat) (ip : Nat) (L : mm_Lv) (st : List Value) (h : mm_H) : mm_Out := match st with
  | .int y :: .int v :: r => mm_br (c v y) (mm_x0 x) (ip + 1) L r h
  | _ => none
def mm_lc (c : Int64 → Int64 → Prop) (t : Nat) (ip : Nat) (L : mm_Lv) (st : List Value) (h : mm_H) : mm_Out := match st with
  | .long y :: .long v :: r => mm_br (c v y) t (ip + 1) L r h
  | _ => none
def mm_swl (lo : Int) : List Nat → List (Int32 × Nat)
  | [] => []
  | t :: r => (Int32.ofInt lo, t) :: mm_swl (lo + 1) r
def mm_lkl : List (Int × Int) → List Nat → List (Int32 × Nat)
  | p :: q, t :: r => (Int32.ofInt p.1, t) :: mm_lkl q r
  | _, _ => []
def mm_tl : List Nat → List Nat
  | [] => []
  | _ :: r => r
def mm_swi (cs : List (Int32 × Nat)) (x : List Nat) (L : mm_Lv) (st : List Value) (h : mm_H) : mm_Out := match st with
  | .int v :: r => mm_sw cs (mm_x0 x) v L r h
  | _ => none
def mm_get (x : List Nat) (ip : Nat) (L : mm_Lv) (st : List Value) (h : mm_H) : mm_Out := match x, st with
  | k :: ty :: ks, .ref a :: r => match ty with
    | 1 => mm_gg (mm_kd (hK h a).1 ks) (ip + 1) L (.long (hL h a k) :: r) h
    | 2 => mm_gg (mm_kd (hK h a).1 ks ∧ ¬ hR h a k = 0) (ip + 1) L (.ref (hR h a k) :: r) h
    | _ => mm_gg (mm_kd (hK h a).1 ks) (ip + 1) L (.int (hI h a k) :: r) h
  | _, _ => none
def mm_set (x : List Nat) (ip : Nat) (L : mm_Lv) (st : List Value) (h : mm_H) : mm_Out := match x, st with
  | k :: ty :: _ :: ks, .long v :: .ref a :: r => match ty with
    | 1 => mm_gg (mm_kd (hK h a).1 ks) (ip + 1) L r (sL h a k v)
    | _ => none
  | k :: ty :: _ :: ks, .ref v :: .ref a :: r => match ty with
    | 2 => mm_gg (mm_kd (hK h a).1 ks ∧ ¬ v = 0) (ip + 1) L r (sR h a k v)
    | _ => none
  | k :: ty :: _ :: ks, .int v :: .ref a :: r => match ty with
    | 0 => mm_gg (mm_kd (hK h a).1 ks) (ip + 1) L r (sI h a k v)
    | 3 => mm_gg (mm_kd (hK h a).1 ks ∧ (v = 0 ∨ v = 1)) (ip + 1) L r (sI h a k v)
    | _ => none
  | _, _ => none
def mm_ix (h : mm_H) (a kd : Nat) (i : Int32) : Prop := (hK h a).1 = kd ∧ vp_in i (hK h a).2
def mm_ia (kd : Nat) (ip : Nat) (L : mm_Lv) (st : List Value) (h : mm_H) : mm_Out := match st with
  | .int i :: .ref a :: r => mm_gg (mm_ix h a kd i) (ip + 1) L (.int (hI h a i.toNatClampNeg) :: r) h
  | _ => none
def mm_la (ip : Nat) (L : mm_Lv) (st : List Value) (h : mm_H) : mm_Out := match st with
  | .int i :: .ref a :: r => mm_gg (mm_ix h a 13 i) (ip + 1) L (.long (hL h a i.toNatClampNeg) :: r) h
  | _ => none
def mm_aa (ip : Nat) (L : mm_Lv) (st : List Value) (h : mm_H) : mm_Out := match st with
  | .int i :: .ref a :: r => mm_gg (mm_ix h a 15 i ∧ ¬ hR h a i.toNatClampNeg = 0) (ip + 1) L (.ref (hR h a i.toNatClampNeg) :: r) h
  | _ => none
def mm_is (ip : Nat) (L : mm_Lv) (st : List Value) (h : mm_H) : mm_Out := match st with
  | .int v :: .int i :: .ref a :: r => mm_gg (mm_ix h a 12 i) (ip + 1) L r (sI h a i.toNatClampNeg v)
  | _ => none
def mm_bs (ip : Nat) (L : mm_Lv) (st : List Value) (h : mm_H) : mm_Out := match st with
  | .int v :: .int i :: .ref a :: r => mm_gg (mm_ix h a 14 i ∧ (v = 0 ∨ v = 1)) (ip + 1) L r (sI h a i.toNatClampNeg v)
  | _ => none
def mm_ls (ip : Nat) (L : mm_Lv) (st : List Value) (h : mm_H) : mm_Out := match st with
  | .long v :: .int i :: .ref a :: r => mm_gg (mm_ix h a 13 i) (ip + 1) L r (sL h a i.toNatClampNeg v)
  | _ => none
def mm_as (ip : Nat) (L : mm_Lv) (st : List Value) (h : mm_H) : mm_Out := match st with
  | .ref v :: .int i :: .ref a :: r => mm_gg (mm_ix h a 15 i ∧ (hK h v).1 = 9) (ip + 1) L r (sR h a i.toNatClampNeg v)
  | _ => none
def mm_len (ip : Nat) (L : mm_Lv) (st : List Value) (h : mm_H) : mm_Out := match st with
  | .ref a :: r => mm_gg (12 ≤ (hK h a).1 ∧ (hK h a).1 < 16) (ip + 1) L (.int (Int32.ofNat (hK h a).2) :: r) h
  | _ => none
/-- the script: its length, an int of it -/
def mm_xl (ip : Nat) (L : mm_Lv) (st : List Value) (h : mm_H) : mm_Out := match st with
  | .ref a :: r => mm_gg (a = 1) (ip + 1) L (.int (Int32.ofNat (hK h 1).2) :: r) h
  | _ => none
def mm_xa (ip : Nat) (L : mm_Lv) (st : List Value) (h : mm_H) : mm_Out := match st with
  | .int i :: .ref a :: r => mm_gg (a = 1 ∧ vp_in i (hK h 1).2) (ip + 1) L (.int (hI h 1 i.toNatClampNeg) :: r) h
  | _ => none
def mm_new (x : List Nat) (ip : Nat) (L : mm_Lv) (st : List Value) (h : mm_H) : mm_Out := match x with
  | [ci, n] => mm_go (ip + 1) L (.ref (hN h) :: st) (hA h ci n)
  | _ => none
def mm_na (kd : Nat) (ip : Nat) (L : mm_Lv) (st : List Value) (h : mm_H) : mm_Out := match st with
  | .int n :: r => mm_gg (vp_in n 100000) (ip + 1) L (.ref (hN h) :: r) (hA h kd n.toNatClampNeg)
  | _ => none
def mm_nn (x : List Nat) (ip : Nat) (L : mm_Lv) (st : List Value) (h : mm_H) : mm_Out := match st with
  | .ref _ :: r => mm_go (mm_x0 x) L r h
  | .null :: r => mm_go (ip + 1) L r h
  | _ => none
def mm_dup (ip : Nat) (L : mm_Lv) (st : List Value) (h : mm_H) : mm_Out := match st with
  | v :: r => if mm_ca v = 1 then mm_go (ip + 1) L (v :: v :: r) h else none
  | _ => none
def mm_pop (ip : Nat) (L : mm_Lv) (st : List Value) (h : mm_H) : mm_Out := match st with
  | v :: r => if mm_ca v = 1 then mm_go (ip + 1) L r h else none
  | _ => none
def mm_dup2 (ip : Nat) (L : mm_Lv) (st : List Value) (h : mm_H) : mm_Out := match st with
  | v :: r => if mm_ca v = 2 then mm_go (ip + 1) L (v :: v :: r) h else match r with
    | w :: r => if mm_ca w = 1 then mm_go (ip + 1) L (v :: w :: v :: w :: r) h else none
    | _ => none
  | _ => none
def mm_rec (h : mm_H) (ks : List Nat) : List Value → Option Prop
  | .ref a :: _ => some (mm_kd (hK h a).1 ks)
  | _ => some False
/-- "(a|n)*n" by its places -/
def mm_chr : Nat → Int32
  | 0 => 40
  | 1 => 97
  | 2 => 124
  | 3 => 110
  | 4 => 41
  | 5 => 42
  | _ => 110
def mm_ml (mi : Nat) : Nat := match mm_lg mm_K mi with
  | none => 0
  | some q => q.1
def mm_n (n : Nat) (st : List Value) : Bool := Nat.ble n st.length && Nat.ble (mm_cs (mm_dr n st)) 8
def mm_n2 (m n : Nat) (st : List Value) : Bool := Nat.ble (mm_cs (mm_rv (mm_tk n st) [])) (mm_ml m)
def mm_j4 (ip : Nat) (L : mm_Lv) (st : List Value) (h : mm_H) : mm_Out := match st with
  | .int i :: .ref 2 :: r => if Nat.ble (mm_cs r) 8 then mm_gg (vp_in i 7) (ip + 1) L (.int (mm_chr i.toNatClampNeg) :: r) h else none
  | _ => none
def mm_j5 (ip : Nat) (L : mm_Lv) (st : List Value) (h : mm_H) : mm_Out := match st with
  | .float v :: r => if Nat.ble (mm_cs r) 8 then mm_go (ip + 1) L (.int v.toInt32 :: r) h else none
  | _ => none
def mm_j6 (ip : Nat) (L : mm_Lv) (st : List Value) (h : mm_H) : mm_Out := match st with
  | .double v :: r => if Nat.ble (mm_cs r) 8 then mm_go (ip + 1) L (.long v.toInt64 :: r) h else none
  | _ => none
def mm_j7 (ip : Nat) (L : mm_Lv) (st : List Value) (h : mm_H) : mm_Out := match st with
  | .ref _ :: r => if Nat.ble (mm_cs r) 8 then mm_go (ip + 1) L r h else none
  | _ => none
def mm_cal (x : List Nat) (ip : Nat) (L : mm_Lv) (st : List Value) (h : mm_H) : mm_Out := match x with
  | [0, m, n] => if mm_n n st && mm_n2 m n st then mm_cl2 none m (mm_rv (mm_tk n st) []) (mm_dr n st) else none
  | 1 :: m :: n :: ks => if mm_n n st && mm_n2 m n st then mm_cl2 (mm_rec h ks (mm_rv (mm_tk n st) [])) m (mm_rv (mm_tk n st) []) (mm_dr n st) else none
  | 3 :: m :: n :: ks => if mm_n n st && mm_n2 m n st then mm_cl2 (mm_rec h ks (mm_rv (mm_tk n st) [])) m (mm_rv (mm_tk n st) []) (mm_dr n st) else none
  | 8 :: m :: n :: ks => if mm_n n st && mm_n2 m n st then mm_cl2 (mm_rec h ks (mm_rv (mm_tk n st) [])) m (mm_rv (mm_tk n st) []) (mm_dr n st) else none
  | [2, n, k1, m1, k2, m2] => if mm_n n st && (mm_n2 m1 n st && mm_n2 m2 n st) then match mm_rv (mm_tk n st) [] with
      | .ref a :: as => mm_cl2 (some (mm_kd (hK h a).1 [k1, k2])) (if (hK h a).1 = k1 then m1 else m2) (.ref a :: as) (mm_dr n st)
      | _ => none
    else none
  | [4] => mm_j4 ip L st h
  | [5] => mm_j5 ip L st h
  | [6] => mm_j6 ip L st h
  | [7] => mm_j7 ip L st h
  | _ => none
def mm_ret (x : List Nat) (st : List Value) : mm_Out := match x, st with
  | [0], [] => mm_rt none none
  | [1], [.int v] => mm_rt none (some (.int v))
  | [3], [.int v] => mm_rt (some (v = 0 ∨ v = 1)) (some (.int v))
  | [2], [.long v] => mm_rt none (some (.long v))
  | [4], [.ref v] => mm_rt none (some (.ref v))
  | _, _ => none
def mm_cn (v : Value) (ip : Nat) (L : mm_Lv) (st : List Value) (h : mm_H) : mm_Out := mm_go (ip + 1) L (v :: st) h
def mm_s1 (ins : Instr) (x : List Nat) (v : Value) (ip : Nat) (L : mm_Lv) (st : List Value) (h : mm_H) : mm_Out := match ins with
  | .iload_n _ => mm_ldI x ip L st h
  | .iload _ => mm_ldI x ip L st h
  | .lload_n _ => mm_ldL x ip L st h
  | .lload _ => mm_ldL x ip L st h
  | .aload_n _ => mm_ldA x ip L st h
  | .aload _ => mm_ldA x ip L st h
  | .fload_n _ => mm_ldF x ip L st h
  | .dload_n _ => mm_ldD x ip L st h
  | .istore_n _ => mm_stI x ip L st h
  | .istore _ => mm_stI x ip L st h
  | .lstore_n _ => mm_stL x ip L st h
  | .lstore _ => mm_stL x ip L st h
  | .astore_n _ => mm_stA x ip L st h
  | .fstore_n _ => mm_stF x ip L st h
  | .dstore_n _ => mm_stD x ip L st h
  | .iinc _ _ => mm_inc x v ip L st h
  | .iconst _ => mm_cn v ip L st h
  | .bipush _ => mm_cn v ip L st h
  | .sipush _ => mm_cn v ip L st h
  | .lconst _ => mm_cn v ip L st h
  | .fconst _ => mm_cn v ip L st h
  | .dconst _ => mm_cn v ip L st h
  | .ldc _ => mm_cn v ip L st h
  | .ldc_w _ => mm_cn v ip L st h
  | .ldc2_w _ => mm_cn v ip L st h
  | .aconst_null => mm_go (ip + 1) L (.null :: st) h
  | .iadd => mm_bI (fun a b => a + b) ip L st h
  | .isub => mm_bI (fun a b => a - b) ip L st h
  | .imul => mm_bI (fun a b => a * b) ip L st h
  | .iand => mm_bI (fun a b => a &&& b) ip L st h
  | .ior => mm_bI (fun a b => a ||| b) ip L st h
  | .irem => mm_dI (fun a b => a - a / b * b) ip L st h
  | .ishl => mm_bI (fun a b => a <<< (b &&& 31)) ip L st h
  | .ishr => mm_bI (fun a b => a >>> (b &&& 31)) ip L st h
  | .iushr => mm_bI (fun a b => (a.toUInt32 >>> (b.toUInt32 &&& Int32.toUInt32 31)).toInt32) ip L st h
  | .ladd => mm_bL (fun a b => a + b) ip L st h
  | .lsub => mm_bL (fun a b => a - b) ip L st h
  | .lmul => mm_bL (fun a b => a * b) ip L st h
  | .land => mm_bL (fun a b => a &&& b) ip L st h
  | .lor => mm_bL (fun a b => a ||| b) ip L st h
  | .lxor => mm_bL (fun a b => a ^^^ b) ip L st h
  | .ldiv => mm_dL (fun a b => a / b) ip L st h
  | .lrem => mm_dL (fun a b => a - a / b * b) ip L st h
  | .lshl => mm_sL (fun a b => a <<< (b.toInt64 &&& 63)) ip L st h
  | .lshr => mm_sL (fun a b => a >>> (b.toInt64 &&& 63)) ip L st h
  | .lushr => mm_sL (fun a b => (a.toUInt64 >>> (b.toInt64.toUInt64 &&& Int64.toUInt64 63)).toInt64) ip L st h
  | .lneg => mm_uL (fun a => .long (-a)) ip L st h
  | .i2l => mm_uI (fun a => .long a.toInt64) ip L st h
  | .l2i => mm_uL (fun a => .int a.toInt32) ip L st h
  | .l2f => mm_uL (fun a => .float (FP.l2f a)) ip L st h
  | .l2d => mm_uL (fun a => .double (FP.l2d a)) ip L st h
  | .d2l => mm_uD (fun a => .long (FP.d2l a)) ip L st h
  | .dneg => mm_uD (fun a => .double (FP.dneg a)) ip L st h
  | .dmul => mm_bD FP.dmul ip L st h
  | .ddiv => mm_bD FP.ddiv ip L st h
  | .drem => mm_bD FP.drem ip L st h
  | .f2d => match st with
    | .float a :: r => mm_gg (vf_n64 (FP.f2d a)) (ip + 1) L (.double (FP.f2d a) :: r) h
    | _ => none
  | .fdiv => match st with
    | .float b :: .float a :: r => mm_gg (vf_n32 (FP.fdiv a b)) (ip + 1) L (.float (FP.fdiv a b) :: r) h
    | _ => none
  | .fcmp op => match st with
    | .float b :: .float a :: r => mm_go (ip + 1) L (.int (Op.cmpValue (FP.fcmp a b) op) :: r) h
    | _ => none
  | .dcmp op => match st with
    | .double b :: .double a :: r => mm_go (ip + 1) L (.int (Op.cmpValue (FP.dcmp a b) op) :: r) h
    | _ => none
  | .dup => mm_dup ip L st h
  | .dup2 => mm_dup2 ip L st h
  | .pop => mm_pop ip L st h
  | .goto _ => mm_go (mm_x0 x) L st h
  | .ifnonnull _ => mm_nn x ip L st h
  | .ifCond c _ => match c with
    | .eq => mm_if (fun a => a = 0) x ip L st h
    | .ne => mm_if (fun a => ¬ a = 0) x ip L st h
    | .lt => mm_if (fun a => a < 0) x ip L st h
    | .ge => mm_if (fun a => 0 ≤ a) x ip L st h
    | .gt => mm_if (fun a => 0 < a) x ip L st h
    | .le => mm_if (fun a => a ≤ 0) x ip L st h
  | .if_icmp c _ => match c with
    | .eq => mm_ic (fun a b => a = b) x ip L st h
    | .ne => mm_ic (fun a b => ¬ a = b) x ip L st h
    | .lt => mm_ic (fun a b => a < b) x ip L st h
    | .ge => mm_ic (fun a b => b ≤ a) x ip L st h
    | .gt => mm_ic (fun a b => b < a) x ip L st h
    | .le => mm_ic (fun a b => a ≤ b) x ip L st h
  | .lcmp => match x with
    | [0, t] => mm_lc (fun a b => a = b) t ip L st h
    | [1, t] => mm_lc (fun a b => ¬ a = b) t ip L st h
    | [2, t] => mm_lc (fun a b => a < b) t ip L st h
    | [3, t] => mm_lc (fun a b => b ≤ a) t ip L st h
    | [4, t] => mm_lc (fun a b => b < a) t ip L st h
    | [5, t] => mm_lc (fun a b => a ≤ b) t ip L st h
    | _ => none
  | .tableswitch _ lo _ _ => mm_swi (mm_swl lo (mm_tl x)) x L st h
  | .lookupswitch _ ps => mm_swi (mm_lkl ps.toList (mm_tl x)) x L st h
  | .getfield _ => mm_get x ip L st h
  | .putfield _ => mm_set x ip L st h
  | .iaload => match x with
    | [20] => mm_xa ip L st h
    | _ => mm_ia 12 ip L st h
  | .baload => mm_ia 14 ip L st h
  | .laload => mm_la ip L st h
  | .aaload => mm_aa ip L st h
  | .iastore => mm_is ip L st h
  | .bastore => mm_bs ip L st h
  | .lastore => mm_ls ip L st h
  | .aastore => mm_as ip L st h
  | .arraylength => match x with
    | [20] => mm_xl ip L st h
    | _ => mm_len ip L st h
  | .new _ => mm_new x ip L st h
  | .newarray _ => mm_na (mm_x0 x) ip L st h
  | .anewarray _ => mm_na 15 ip L st h
  | .invokestatic _ => mm_cal x ip L st h
  | .invokevirtual _ => mm_cal x ip L st h
  | .invokespecial _ => mm_cal x ip L st h
  | .ireturn => mm_ret x st
  | .lreturn => mm_ret x st
  | .areturn => mm_ret x st
  | .return_ => mm_ret x st
  | _ => none
def mm_gd (g : Option Prop) (P : Prop) : Prop := match g with
  | none => P
  | some q => q ∧ P
def mm_swW (F : Nat → Prop) (x : Int32) : List (Int32 × Nat) → Nat → Prop
  | [], d => F d
  | (k, t) :: r, d => (x = k → F t) ∧ (¬ x = k → mm_swW F x r d)
abbrev mm_Q : Type := Option Value → mm_H → Prop
def mm_oW (o : mm_Out) (F : Nat → mm_Lv → List Value → mm_H → Prop) (G : Nat → List Value → mm_Q → Prop) (ip : Nat) (L : mm_Lv) (h : mm_H) (Q : mm_Q) : Prop := match o with
  | none => False
  | some (.inl (g, i, L', s', h')) => mm_gd g (F i L' s' h')
  | some (.inr (.inl (c, t, f, L', s', h'))) => (c → F t L' s' h') ∧ (¬ c → F f L' s' h')
  | some (.inr (.inr (.inl (cs, d, x, L', s', h')))) => mm_swW (fun t => F t L' s' h') x cs d
  | some (.inr (.inr (.inr (.inl (g, m, as, rest))))) => mm_gd g (G m as (fun r h1 => F (ip + 1) L (match r with | none => rest | some v => v :: rest) h1))
  | some (.inr (.inr (.inr (.inr (g, v))))) => mm_gd g (Q v h)
def mm_at (mi ip : Nat) : Option mm_Ins := match mm_lg mm_K mi with
  | none => none
  | some q => mm_lg q.2 ip
def mm_sW (F : Nat → mm_Lv → List Value → mm_H → Prop) (G : Nat → List Value → mm_H → mm_Q → Prop) (mi ip : Nat) (L : mm_Lv) (st : List Value) (h : mm_H) (Q : mm_Q) : Prop := match mm_at mi ip with
  | none => False
  | some (ins, _, x, v) => mm_oW (mm_s1 ins x v ip L st h) F (fun m as P => G m as h P) ip L h Q
def mm_cG (W : Nat → Nat → Nat → mm_Lv → List Value → mm_H → mm_Q → Prop) (d : Nat) (m : Nat) (as : List Value) (h : mm_H) (P : mm_Q) : Prop := match d with
  | 0 => False
  | d + 1 => W d m 0 (mm_pad (mm_en as) (mm_ml m)) [] h P
/-- from instruction ip of method mi, calls at most d deep, within n steps: it returns, and Q of what it answers -/
def mm_wp (n : Nat) : Nat → Nat → Nat → mm_Lv → List Value → mm_H → mm_Q → Prop :=
  Nat.rec (fun _ _ _ _ _ _ _ => False) (fun _ W d mi ip L st h Q => mm_sW (fun i L' s' h' => W d mi i L' s' h' Q) (mm_cG W d) mi ip L st h Q) n
/-- the same, within some number of steps -/
def mm_W (d mi ip : Nat) (L : mm_Lv) (st : List Value) (h : mm_H) (Q : mm_Q) : Prop := ∃ n, mm_wp n d mi ip L st h Q
/-- a method, called -/
def mm_C (d mi : Nat) (as : List Value) (h : mm_H) (Q : mm_Q) : Prop := mm_W d mi 0 (mm_pad (mm_en as) (mm_ml mi)) [] h Q
theorem mm_wp_s (n d mi ip : Nat) (L : mm_Lv) (st : List Value) (h : mm_H) (Q : mm_Q) : mm_wp (n + 1) d mi ip L st h Q = mm_sW (fun i L' s' h' => mm_wp n d mi i L' s' h' Q) (mm_cG (mm_wp n) d) mi ip L st h Q := rfl
theorem mm_gd_mono {g : Option Prop} {P P' : Prop} (f : P → P') (h : mm_gd g P) : mm_gd g P' := by
  cases g with
  | none => exact f h
  | some q => exact ⟨h.1, f h.2⟩
theorem mm_swW_mono {F F' : Nat → Prop} {x : Int32} (f : ∀ t, F t → F' t) : ∀ (cs : List (Int32 × Nat)) (d : Nat), mm_swW F x cs d → mm_swW F' x cs d
  | [], _, h => f _ h
  | (_, _) :: r, d, h => ⟨fun q => f _ (h.1 q), fun q => mm_swW_mono f r d (h.2 q)⟩
theorem mm_oW_mono {o : mm_Out} {F F' : Nat → mm_Lv → List Value → mm_H → Prop} {G G' : Nat → List Value → mm_Q → Prop} {ip : Nat} {L : mm_Lv} {h : mm_H} {Q Q' : mm_Q}
    (hF : ∀ i L s h, F i L s h → F' i L s h) (hG : ∀ m as P P', (∀ r h1, P r h1 → P' r h1) → G m as P → G' m as P') (hQ : ∀ r, Q r h → Q' r h) (H : mm_oW o F G ip L h Q) : mm_oW o F' G' ip L h Q' := by
  match o, H with
  | some (.inl (g, i, L', s', h')), H => exact mm_gd_mono (hF _ _ _ _) H
  | some (.inr (.inl (c, t, f, L', s', h'))), H => exact ⟨fun q => hF _ _ _ _ (H.1 q), fun q => hF _ _ _ _ (H.2 q)⟩
  | some (.inr (.inr (.inl (cs, d, x, L', s', h')))), H => exact mm_swW_mono (fun t => hF _ _ _ _) cs d H
  | some (.inr (.inr (.inr (.inl (g, m, as, rest))))), H => exact mm_gd_mono (hG _ _ _ _ (fun r h1 => hF _ _ _ _)) H
  | some (.inr (.inr (.inr (.inr (g, v))))), H => exact mm_gd_mono (hQ v) H
theorem mm_wp_mono : ∀ (n d mi ip : Nat) (L : mm_Lv) (st : List Value) (h : mm_H) (Q Q' : mm_Q), (∀ r h1, Q r h1 → Q' r h1) → mm_wp n d mi ip L st h Q → ∀ k e, n ≤ k → d ≤ e → mm_wp k e mi ip L st h Q' := by
  intro n
  induction n with
  | zero => intro d mi ip L st h Q Q' _ H; exact False.elim H
  | succ n ih =>
    intro d mi ip L st h Q Q' hQ H k e hk he
    obtain ⟨k, rfl⟩ : ∃ j, k = j + 1 := ⟨k - 1, by omega⟩
    rw [mm_wp_s] at H ⊢
    unfold mm_sW at H ⊢
    cases hc : mm_at mi ip with
    | none => rw [hc] at H; exact False.elim H
    | some q =>
      rw [hc] at H
      obtain ⟨ins, pc, x, v⟩ := q
      refine mm_oW_mono (fun i L s h H => ih _ _ _ _ _ _ _ _ hQ H _ _ (by omega) he) (fun m as P P' hP H => ?_) (fun r => hQ r h) H
      unfold mm_cG at H ⊢
      match d, e, he, H with
      | d + 1, e + 1, he, H => exact ih _ _ _ _ _ _ _ _ hP H _ _ (by omega) (by omega)
theorem mm_swW_det {F : Nat → Prop} {F' : Nat → Prop} {x : Int32} {C : Prop} (f : ∀ t, F t → (F' t → C) → C) : ∀ (cs : List (Int32 × Nat)) (d : Nat), mm_swW F x cs d → (mm_swW F' x cs d → C) → C
  | [], _, h, k => f _ h k
  | (a, _) :: r, d, h, k => by
    by_cases q : x = a
    · exact f _ (h.1 q) (fun z => k ⟨fun _ => z, fun n => absurd q n⟩)
    · exact mm_swW_det f r d (h.2 q) (fun z => k ⟨fun n => absurd n q, fun _ => z⟩)
/-- it answers one thing -/
theorem mm_wp_det : ∀ (n d mi ip : Nat) (L : mm_Lv) (st : List Value) (h : mm_H) (Q : mm_Q), mm_wp n d mi ip L st h Q → ∃ r h1, Q r h1 ∧ mm_wp n d mi ip L st h (fun r2 h2 => r2 = r ∧ h2 = h1) := by
  intro n
  induction n with
  | zero => intro d mi ip L st h Q H; exact False.elim H
  | succ n ih =>
    intro d mi ip L st h Q H
    simp only [mm_wp_s] at H ⊢
    unfold mm_sW at H ⊢
    cases hc : mm_at mi ip with
    | none => rw [hc] at H; exact False.elim H
    | some q =>
      rw [hc] at H
      obtain ⟨ins, pc, x, v⟩ := q
      show ∃ r h1, Q r h1 ∧ mm_oW (mm_s1 ins x v ip L st h) _ _ ip L h _
      change mm_oW (mm_s1 ins x v ip L st h) _ _ ip L h Q at H
      generalize mm_s1 ins x v ip L st h = o at H ⊢
      match o, H with
      | some (.inl (none, i, L', s', h')), H =>
        exact ih _ _ _ _ _ _ _ H
      | some (.inl (some g, i, L', s', h')), H =>
        obtain ⟨r, h1, q1, q2⟩ := ih _ _ _ _ _ _ _ H.2
        exact ⟨r, h1, q1, H.1, q2⟩
      | some (.inr (.inl (c, t, f, L', s', h'))), H =>
        by_cases hcc : c
        · obtain ⟨r, h1, q1, q2⟩ := ih _ _ _ _ _ _ _ (H.1 hcc)
          exact ⟨r, h1, q1, fun _ => q2, fun z => absurd hcc z⟩
        · obtain ⟨r, h1, q1, q2⟩ := ih _ _ _ _ _ _ _ (H.2 hcc)
          exact ⟨r, h1, q1, fun z => absurd z hcc, fun _ => q2⟩
      | some (.inr (.inr (.inl (cs, dd, x, L', s', h')))), H =>
        revert H
        show mm_swW _ x cs dd → ∃ r h1, Q r h1 ∧ mm_swW _ x cs dd
        intro H
        induction cs with
        | nil => exact ih _ _ _ _ _ _ _ H
        | cons a cs ihc =>
          obtain ⟨ka, ta⟩ := a
          by_cases q : x = ka
          · obtain ⟨r, h1, q1, q2⟩ := ih _ _ _ _ _ _ _ (H.1 q)
            exact ⟨r, h1, q1, fun _ => q2, fun z => absurd q z⟩
          · obtain ⟨r, h1, q1, q2⟩ := ihc (H.2 q)
            exact ⟨r, h1, q1, fun z => absurd z q, fun _ => q2⟩
      | some (.inr (.inr (.inr (.inl (g, m, as, rest))))), H =>
        have key : ∀ P : mm_Q, mm_cG (mm_wp n) d m as h P → ∃ r h1, P r h1 ∧ mm_cG (mm_wp n) d m as h (fun r2 h2 => r2 = r ∧ h2 = h1) := by
          intro P HP
          match d, HP with
          | d + 1, HP => exact ih _ _ _ _ _ _ _ HP
        have kmono : ∀ P P' : mm_Q, (∀ r h1, P r h1 → P' r h1) → mm_cG (mm_wp n) d m as h P → mm_cG (mm_wp n) d m as h P' := by
          intro P P' hP HP
          match d, HP with
          | d + 1, HP => exact mm_wp_mono _ _ _ _ _ _ _ _ _ hP HP _ _ (Nat.le_refl _) (Nat.le_refl _)
        have two : ∀ H2 : mm_cG (mm_wp n) d m as h (fun r h1 => mm_wp n d mi (ip + 1) L (match r with | none => rest | some v => v :: rest) h1 Q), ∃ r h1, Q r h1 ∧ mm_cG (mm_wp n) d m as h (fun r0 h0 => mm_wp n d mi (ip + 1) L (match r0 with | none => rest | some v => v :: rest) h0 (fun r2 h2 => r2 = r ∧ h2 = h1)) := by
          intro H2
          obtain ⟨r0, h0, p1, p2⟩ := key _ H2
          obtain ⟨r, h1, q1, q2⟩ := ih _ _ _ _ _ _ _ p1
          exact ⟨r, h1, q1, kmono _ _ (fun a b hab => by rw [hab.1, hab.2]; exact q2) p2⟩
        cases g with
        | none => exact two H
        | some g =>
          obtain ⟨r, h1, q1, q2⟩ := two H.2
          exact ⟨r, h1, q1, H.1, q2⟩
      | some (.inr (.inr (.inr (.inr (none, v))))), H => exact ⟨v, h, H, rfl, rfl⟩
      | some (.inr (.inr (.inr (.inr (some g, v))))), H => exact ⟨v, h, H.2, H.1, rfl, rfl⟩
/-- one step -/
theorem mm_W_step {d mi ip : Nat} {L : mm_Lv} {st : List Value} {h : mm_H} {Q : mm_Q} (H : mm_sW (fun i L' s' h' => mm_W d mi i L' s' h' Q) (mm_cG mm_W d) mi ip L st h Q) : mm_W d mi ip L st h Q := by
  have mono : ∀ {n k i : Nat} {L : mm_Lv} {st : List Value} {h : mm_H}, n ≤ k → mm_wp n d mi i L st h Q → mm_wp k d mi i L st h Q := fun hk hw => mm_wp_mono _ _ _ _ _ _ _ _ _ (fun _ _ z => z) hw _ _ hk (Nat.le_refl _)
  suffices ∃ n, mm_sW (fun i L' s' h' => mm_wp n d mi i L' s' h' Q) (mm_cG (mm_wp n) d) mi ip L st h Q by
    obtain ⟨n, hn⟩ := this
    exact ⟨n + 1, hn⟩
  unfold mm_sW at H ⊢
  cases hc : mm_at mi ip with
  | none => rw [hc] at H; exact False.elim H
  | some q =>
    rw [hc] at H
    obtain ⟨ins, pc, x, v⟩ := q
    show ∃ n, mm_oW (mm_s1 ins x v ip L st h) _ _ ip L h Q
    change mm_oW (mm_s1 ins x v ip L st h) _ _ ip L h Q at H
    generalize mm_s1 ins x v ip L st h = o at H ⊢
    match o, H with
    | some (.inl (none, i, L', s', h')), H => exact H
    | some (.inl (some g, i, L', s', h')), H =>
      obtain ⟨g, n, hn⟩ := H
      exact ⟨n, g, hn⟩
    | some (.inr (.inl (c, t, f, L', s', h'))), H =>
      by_cases hcc : c
      · obtain ⟨n, hn⟩ := H.1 hcc
        exact ⟨n, fun _ => hn, fun z => absurd hcc z⟩
      · obtain ⟨n, hn⟩ := H.2 hcc
        exact ⟨n, fun z => absurd z hcc, fun _ => hn⟩
    | some (.inr (.inr (.inl (cs, dd, x, L', s', h')))), H =>
      revert H
      show mm_swW _ x cs dd → ∃ n, mm_swW _ x cs dd
      intro H
      induction cs with
      | nil => exact H
      | cons a cs ihc =>
        obtain ⟨ka, ta⟩ := a
        by_cases q : x = ka
        · obtain ⟨n, hn⟩ := H.1 q
          exact ⟨n, fun _ => hn, fun z => absurd q z⟩
        · obtain ⟨n, hn⟩ := ihc (H.2 q)
          exact ⟨n, fun z => absurd z q, fun _ => hn⟩
    | some (.inr (.inr (.inr (.inl (g, m, as, rest))))), H =>
      have two : ∀ H2 : mm_cG mm_W d m as h (fun r h1 => mm_W d mi (ip + 1) L (match r with | none => rest | some v => v :: rest) h1 Q), ∃ n, mm_cG (mm_wp n) d m as h (fun r h1 => mm_wp n d mi (ip + 1) L (match r with | none => rest | some v => v :: rest) h1 Q) := by
        intro H2
        match d, H2 with
        | d + 1, H2 =>
          obtain ⟨n, hn⟩ := H2
          obtain ⟨r0, h0, ⟨k, hk⟩, p2⟩ := mm_wp_det _ _ _ _ _ _ _ _ hn
          exact ⟨max n k, mm_wp_mono _ _ _ _ _ _ _ _ _ (fun a b hab => by rw [hab.1, hab.2]; exact mm_wp_mono _ _ _ _ _ _ _ _ _ (fun _ _ z => z) hk _ _ (Nat.le_max_right _ _) (Nat.le_refl _)) p2 _ _ (Nat.le_max_left _ _) (Nat.le_refl _)⟩
      cases g with
      | none => exact two H
      | some g =>
        obtain ⟨n, hn⟩ := two H.2
        exact ⟨n, H.1, hn⟩
    | some (.inr (.inr (.inr (.inr (none, v))))), H => exact ⟨0, H⟩
    | some (.inr (.inr (.inr (.inr (some g, v))))), H => exact ⟨0, H⟩
theorem mm_W_mono {d e mi ip : Nat} {L : mm_Lv} {st : List Value} {h : mm_H} {Q Q' : mm_Q} (H : mm_W d mi ip L st h Q) (hd : d ≤ e) (hQ : ∀ r h1, Q r h1 → Q' r h1) : mm_W e mi ip L st h Q' := by
  obtain ⟨n, hn⟩ := H
  exact ⟨n, mm_wp_mono _ _ _ _ _ _ _ _ _ hQ hn _ _ (Nat.le_refl _) hd⟩
theorem mm_C_mono {d e mi : Nat} {as : List Value} {h : mm_H} {Q Q' : mm_Q} (H : mm_C d mi as h Q) (hd : d ≤ e) (hQ : ∀ r h1, Q r h1 → Q' r h1) : mm_C e mi as h Q' := mm_W_mono H hd hQ
/-- many steps at once: k at most, none through a place of 'cuts', calls by mm_C -/
def mm_x (cuts : List Nat) (d mi : Nat) (Q : mm_Q) (k : Nat) : Nat → mm_Lv → List Value → mm_H → Prop :=
  Nat.rec (fun i L s h => mm_W d mi i L s h Q) (fun _ F i L s h => bif List.elem i cuts then mm_W d mi i L s h Q else mm_sW F (mm_cG mm_W d) mi i L s h Q) k
theorem mm_cG_mono {W W' : Nat → Nat → Nat → mm_Lv → List Value → mm_H → mm_Q → Prop} {d m : Nat} {as : List Value} {h : mm_H} {P P' : mm_Q} (hW : ∀ d i L s h, W d m i L s h P → W' d m i L s h P') (H : mm_cG W d m as h P) : mm_cG W' d m as h P' := by
  unfold mm_cG at H ⊢
  match d, H with
  | d + 1, H => exact hW _ _ _ _ _ H
theorem mm_x_sound (cuts : List Nat) (d mi : Nat) (Q : mm_Q) : ∀ (k i : Nat) (L : mm_Lv) (s : List Value) (h : mm_H), mm_x cuts d mi Q k i L s h → mm_W d mi i L s h Q := by
  intro k
  induction k with
  | zero => intro i L s h H; exact H
  | succ k ih =>
    intro i L s h H
    have H : (bif List.elem i cuts then mm_W d mi i L s h Q else mm_sW (mm_x cuts d mi Q k) (mm_cG mm_W d) mi i L s h Q) := H
    cases hb : List.elem i cuts with
    | true => rw [hb] at H; exact H
    | false =>
      rw [hb] at H
      have H : mm_sW (mm_x cuts d mi Q k) (mm_cG mm_W d) mi i L s h Q := H
      refine mm_W_step ?_
      unfold mm_sW at H ⊢
      cases hc : mm_at mi i with
      | none => rw [hc] at H; exact False.elim H
      | some q =>
        rw [hc] at H
        obtain ⟨ins, pc, x, v⟩ := q
        exact mm_oW_mono (fun i L s h H => ih _ _ _ _ H) (fun m as P P' hP H => mm_cG_mono (fun d i L s h z => mm_W_mono z (Nat.le_refl _) hP) H) (fun r z => z) H
/-- from a place of the cuts: one step, then many -/
theorem mm_run (cuts : List Nat) (k : Nat) {d mi i : Nat} {L : mm_Lv} {s : List Value} {h : mm_H} {Q : mm_Q} (H : mm_sW (mm_x cuts d mi Q k) (mm_cG mm_W d) mi i L s h Q) : mm_W d mi i L s h Q := by
  refine mm_W_step ?_
  unfold mm_sW at H ⊢
  cases hc : mm_at mi i with
  | none => rw [hc] at H; exact False.elim H
  | some q =>
    rw [hc] at H
    obtain ⟨ins, pc, x, v⟩ := q
    exact mm_oW_mono (fun i L s h H => mm_x_sound _ _ _ _ _ _ _ _ _ H) (fun m as P P' hP H => mm_cG_mono (fun d i L s h z => mm_W_mono z (Nat.le_refl _) hP) H) (fun r z => z) H
end
section
/-! what the small machine's heap says of the machine's -/
/-- what stays the same all along: the script's cell, the text's, the first own cell, the heap at the start, the classes, the script -/
abbrev mm_Z : Type := (Nat × Nat × Nat × Heap) × va_G × (Nat → ClassId) × Nat × (Nat → Int32)
def mm_ad (z : mm_Z) (i : Nat) : Nat := if i = 1 then z.1.1 else if i = 2 then z.1.2.1 else z.1.2.2.1 + (i - 3)
def mm_tr (z : mm_Z) : Value → Value
  | .ref i => .ref (mm_ad z i)
  | v => v
def mm_dc (d : String) : Nat := if d = "I" then 0 else if d = "Z" then 3 else if d = "J" then 1 else 2
def mm_v (z : mm_Z) (h : mm_H) (i ty k : Nat) : Value := if ty = 1 then .long (hL h i k) else if ty = 2 then (if hR h i k = 0 then .null else .ref (mm_ad z (hR h i k))) else .int (hI h i k)
def mm_aty (kd : Nat) : Nat := if kd = 13 then 1 else if kd = 15 then 2 else 0
def mm_cell (z : mm_Z) (h : mm_H) (i : Nat) (H : Heap) : Prop :=
  ((hK h i).1 < 12 ∧ ∃ r, mm_cl[(hK h i).1]? = some r ∧ t_OB (mm_ad z i) (z.2.1.1 (hK h i).1) r.2.2 (z.2.1.2 (hK h i).1) H (fun k => mm_v z h i (mm_dc (r.2.1 k).2.2.1) k)) ∨
  (12 ≤ (hK h i).1 ∧ H[mm_ad z i]? = some (arrV (z.2.2.1 (hK h i).1) (hK h i).2 (fun j => mm_v z h i (mm_aty (hK h i).1) j)))
def mm_Rel (z : mm_Z) (h : mm_H) (H : Heap) : Prop :=
  3 ≤ hN h ∧ H.size + 3 = z.1.2.2.1 + hN h ∧ (∀ q : Nat, q < z.1.2.2.1 → H[q]? = z.1.2.2.2[q]?) ∧ (∀ i, (i < 3 ∨ hN h ≤ i) → 16 ≤ (hK h i).1) ∧ (∀ i, 3 ≤ i → i < hN h → (hK h i).1 < 16 ∧ mm_cell z h i H) ∧ hK h 1 = (20, z.2.2.2.1) ∧ ∀ j, hI h 1 j = z.2.2.2.2 j
theorem mm_ad_ne {z : mm_Z} {i j : Nat} (hi : 3 ≤ i) (hj : 3 ≤ j) (h : i ≠ j) : mm_ad z i ≠ mm_ad z j := by
  unfold mm_ad
  rw [if_neg (by omega), if_neg (by omega), if_neg (by omega), if_neg (by omega)]
  omega
theorem mm_ad_ge {z : mm_Z} {i : Nat} (hi : 3 ≤ i) : z.1.2.2.1 ≤ mm_ad z i := by
  unfold mm_ad
  rw [if_neg (by omega), if_neg (by omega)]
  omega
theorem mm_v_congr {z : mm_Z} {h h' : mm_H} {i : Nat} (hi : ∀ k, hI h' i k = hI h i k) (hl : ∀ k, hL h' i k = hL h i k) (hr : ∀ k, hR h' i k = hR h i k) (ty k : Nat) : mm_v z h' i ty k = mm_v z h i ty k := by
  unfold mm_v
  rw [hi, hl, hr]
theorem mm_cell_congr {z : mm_Z} {h h' : mm_H} {i : Nat} {H H' : Heap} (hk : hK h' i = hK h i) (hi : ∀ k, hI h' i k = hI h i k) (hl : ∀ k, hL h' i k = hL h i k) (hr : ∀ k, hR h' i k = hR h i k) (hH : H'[mm_ad z i]? = H[mm_ad z i]?) (hc : mm_cell z h i H) : mm_cell z h' i H' := by
  unfold mm_cell at hc ⊢
  rw [hk]
  rcases hc with ⟨h1, r, h2, h3⟩ | ⟨h1, h2⟩
  · exact Or.inl ⟨h1, r, h2, (h3.kept hH).to (fun k _ => (mm_v_congr hi hl hr _ _).symm)⟩
  · refine Or.inr ⟨h1, ?_⟩
    rw [hH, h2]
    congr 2
    funext j
    exact (mm_v_congr hi hl hr _ _).symm
/-- a write into the row of one cell -/
theorem mm_Rel.write {z : mm_Z} {h h' : mm_H} {H H' : Heap} (hr : mm_Rel z h H) {a : Nat} (ha : 3 ≤ a) (hN' : hN h' = hN h) (hK' : ∀ i, hK h' i = hK h i) (hI' : ∀ i, i ≠ a → ∀ k, hI h' i k = hI h i k) (hL' : ∀ i, i ≠ a → ∀ k, hL h' i k = hL h i k) (hR' : ∀ i, i ≠ a → ∀ k, hR h' i k = hR h i k)
    (hz : H'.size = H.size) (ho : ∀ q : Nat, q ≠ mm_ad z a → H'[q]? = H[q]?) (hc : mm_cell z h' a H') : mm_Rel z h' H' := by
  obtain ⟨r1, r2, r3, r4, r5, r6, r7⟩ := hr
  have hge := mm_ad_ge (z := z) ha
  refine ⟨by rw [hN']; exact r1, by rw [hz, hN']; exact r2, fun q hq => ?_, fun i hi => ?_, fun i h3 hi => ?_, by rw [hK']; exact r6, fun j => ?_⟩
  · rw [ho q (by omega)]; exact r3 q hq
  · rw [hK']; rw [hN'] at hi; exact r4 i hi
  · rw [hN'] at hi
    refine ⟨by rw [hK']; exact (r5 i h3 hi).1, ?_⟩
    by_cases e : i = a
    · subst e; exact hc
    · exact mm_cell_congr (hK' i) (hI' i e) (hL' i e) (hR' i e) (ho _ (mm_ad_ne h3 ha e)) (r5 i h3 hi).2
  · rw [hI' 1 (by omega)]; exact r7 j
/-- a cell more -/
theorem mm_Rel.alloc {z : mm_Z} {h : mm_H} {H H' : Heap} {kd n : Nat} (hr : mm_Rel z h H) (hkd : kd < 16) (hz : H'.size = H.size + 1) (ho : ∀ q : Nat, q < H.size → H'[q]? = H[q]?) (hc : mm_cell z (hA h kd n) (hN h) H') : mm_Rel z (hA h kd n) H' := by
  obtain ⟨r1, r2, r3, r4, r5, r6, r7⟩ := hr
  have eN : hN (hA h kd n) = hN h + 1 := rfl
  have eK : ∀ i, i ≠ hN h → hK (hA h kd n) i = hK h i := fun i hi => if_neg hi
  have eI : ∀ i, i ≠ hN h → ∀ k, hI (hA h kd n) i k = hI h i k := fun i hi k => if_neg hi
  have eL : ∀ i, i ≠ hN h → ∀ k, hL (hA h kd n) i k = hL h i k := fun i hi k => if_neg hi
  have eR : ∀ i, i ≠ hN h → ∀ k, hR (hA h kd n) i k = hR h i k := fun i hi k => if_neg hi
  refine ⟨by rw [eN]; omega, by rw [hz, eN]; omega, fun q hq => ?_, fun i hi => ?_, fun i h3 hi => ?_, by rw [eK 1 (by omega)]; exact r6, fun j => by rw [eI 1 (by omega)]; exact r7 j⟩
  · rw [ho q (by omega)]; exact r3 q hq
  · rw [eN] at hi; rw [eK i (by omega)]; exact r4 i (by omega)
  · rw [eN] at hi
    by_cases e : i = hN h
    · subst e
      refine ⟨?_, hc⟩
      have : hK (hA h kd n) (hN h) = (kd, n) := if_pos rfl
      rw [this]; exact hkd
    · refine ⟨by rw [eK i e]; exact (r5 i h3 (by omega)).1, mm_cell_congr (eK i e) (eI i e) (eL i e) (eR i e) (ho _ ?_) (r5 i h3 (by omega)).2⟩
      have : mm_ad z i = z.1.2.2.1 + (i - 3) := by unfold mm_ad; rw [if_neg (by omega), if_neg (by omega)]
      omega
theorem mm_Rel.in {z : mm_Z} {h : mm_H} {H : Heap} (hr : mm_Rel z h H) {a : Nat} (hk : (hK h a).1 < 16) : 3 ≤ a ∧ a < hN h := by
  have h4 := hr.2.2.2.1 a
  by_cases e : a < 3 ∨ hN h ≤ a
  · exact absurd (h4 e) (by omega)
  · omega
theorem mm_Rel.obj {z : mm_Z} {h : mm_H} {H : Heap} (hr : mm_Rel z h H) {a ci : Nat} {r : vw_C} (hk : (hK h a).1 = ci) (hci : ci < 12) (hc : mm_cl[ci]? = some r) : t_OB (mm_ad z a) (z.2.1.1 ci) r.2.2 (z.2.1.2 ci) H (fun k => mm_v z h a (mm_dc (r.2.1 k).2.2.1) k) := by
  obtain ⟨h3, h4⟩ := hr.in (a := a) (by omega)
  rcases (hr.2.2.2.2.1 a h3 h4).2 with ⟨_, r', e1, e2⟩ | ⟨e1, _⟩
  · rw [hk] at e1 e2
    have : r' = r := Option.some.inj (e1.symm.trans hc)
    subst this
    exact e2
  · omega
theorem mm_Rel.arr {z : mm_Z} {h : mm_H} {H : Heap} (hr : mm_Rel z h H) {a kd : Nat} (hk : (hK h a).1 = kd) (h1 : 12 ≤ kd) (h2 : kd < 16) : H[mm_ad z a]? = some (arrV (z.2.2.1 kd) (hK h a).2 (fun j => mm_v z h a (mm_aty kd) j)) := by
  obtain ⟨h3, h4⟩ := hr.in (a := a) (by omega)
  rcases (hr.2.2.2.2.1 a h3 h4).2 with ⟨e0, _⟩ | ⟨_, e1⟩
  · omega
  · rw [hk] at e1; exact e1
/-- pairs of place and value that the locals hold -/
def mm_pr (z : mm_Z) : Nat → mm_Lv → List (Nat × Value)
  | _, [] => []
  | i, none :: r => mm_pr z (i + 1) r
  | i, some v :: r => (i, mm_tr z v) :: mm_pr z (i + 1) r
theorem mm_tr_cat (z : mm_Z) (v : Value) : (mm_tr z v).category = v.category := by cases v <;> rfl
theorem mm_is2_cat (v : Value) : mm_is2 (some v) = true ↔ v.category = 2 := by cases v <;> simp [mm_is2, Value.category]
theorem mm_pr_mem (z : mm_Z) : ∀ (L : mm_Lv) (i j : Nat) (v : Value), (j, v) ∈ mm_pr z i L ↔ ∃ k w, j = i + k ∧ mm_lg L k = some (some w) ∧ v = mm_tr z w := by
  intro L
  induction L with
  | nil => intro i j v; simp [mm_pr, mm_lg]
  | cons a r ih =>
    intro i j v
    cases a with
    | none =>
      simp only [mm_pr, ih]
      constructor
      · rintro ⟨k, w, h1, h2, h3⟩
        exact ⟨k + 1, w, by omega, h2, h3⟩
      · rintro ⟨k, w, h1, h2, h3⟩
        cases k with
        | zero => simp [mm_lg] at h2
        | succ k => exact ⟨k, w, by omega, h2, h3⟩
    | some a =>
      simp only [mm_pr, List.mem_cons, ih]
      constructor
      · rintro (h | ⟨k, w, h1, h2, h3⟩)
        · cases h; exact ⟨0, a, by omega, rfl, rfl⟩
        · exact ⟨k + 1, w, by omega, h2, h3⟩
      · rintro ⟨k, w, h1, h2, h3⟩
        cases k with
        | zero => simp [mm_lg] at h2; subst h2; subst h3; exact Or.inl (by simp [h1])
        | succ k => exact Or.inr ⟨k, w, by omega, h2, h3⟩
theorem mm_lg_put (v : Option Value) : ∀ (L : mm_Lv) (k j : Nat) (w : Option Value), mm_lg (mm_put v L k) j = some w → (j = k ∧ w = v) ∨ (j ≠ k ∧ mm_lg L j = some w) := by
  intro L
  induction L with
  | nil => intro k j w h; cases k <;> simp [mm_put, mm_lg] at h
  | cons a r ih =>
    intro k j w h
    cases k with
    | zero =>
      cases j with
      | zero => simp [mm_put, mm_lg] at h; exact Or.inl ⟨rfl, h.symm⟩
      | succ j => exact Or.inr ⟨by omega, h⟩
    | succ k =>
      cases j with
      | zero => exact Or.inr ⟨by omega, h⟩
      | succ j =>
        rcases ih k j w h with ⟨h1, h2⟩ | ⟨h1, h2⟩
        · exact Or.inl ⟨by omega, h2⟩
        · exact Or.inr ⟨by omega, h2⟩
theorem mm_lg_cut : ∀ (L : mm_Lv) (k j : Nat) (w : Value), mm_lg (mm_cut true L k) j = some (some w) → mm_lg L j = some (some w) ∧ ¬ (j + 1 = k ∧ w.category = 2) := by
  intro L
  induction L with
  | nil => intro k j w h; cases k <;> simp [mm_cut, mm_lg] at h
  | cons a r ih =>
    intro k j w h
    match k, j, h with
    | 0, j, h => exact ⟨h, by omega⟩
    | 1, 0, h =>
      have h : some (if mm_is2 a then none else a) = some (some w) := h
      cases hb : mm_is2 a with
      | true => rw [hb] at h; simp at h
      | false =>
        rw [hb] at h
        have e : a = some w := Option.some.inj h
        subst e
        refine ⟨rfl, fun q => ?_⟩
        have := (mm_is2_cat w).mpr q.2
        rw [hb] at this; cases this
    | 1, j + 1, h => exact ⟨h, by omega⟩
    | k + 2, 0, h => exact ⟨h, by omega⟩
    | k + 2, j + 1, h =>
      obtain ⟨h1, h2⟩ := ih (k + 1) j w h
      exact ⟨h1, fun q => h2 ⟨by omega, q.2⟩⟩
/-- a store: of a value of one slot -/
theorem mm_has_st1 {z : mm_Z} {ls : Array Slot} {n k : Nat} {L : mm_Lv} {v : Value} (hv : v.category = 1)
    (h : lv_has ls n ((k, mm_tr z v) :: (mm_pr z 0 L).filter (fun q => !(q.1 == k) && !(q.1 + 1 == k && q.2.category == 2)))) : lv_has ls n (mm_pr z 0 (mm_st L k v)) := by
  refine ⟨h.1, h.2.1, fun q hq => ?_⟩
  obtain ⟨j, w⟩ := q
  obtain ⟨i, w', e1, e2, e3⟩ := (mm_pr_mem z _ _ _ _).mp hq
  have hb : mm_is2 (some v) = false := by
    cases hb : mm_is2 (some v) with
    | false => rfl
    | true => exact absurd ((mm_is2_cat v).mp hb) (by omega)
  unfold mm_st at e2
  rw [hb] at e2
  have e2 : mm_lg (mm_put (some v) (mm_cut true L k) k) i = some (some w') := e2
  have ej : j = i := by omega
  subst ej
  rcases mm_lg_put _ _ _ _ _ e2 with ⟨h1, h2⟩ | ⟨h1, h2⟩
  · cases h2
    subst h1
    exact h.2.2 _ (by rw [e3]; exact List.mem_cons_self)
  · obtain ⟨h3, h4⟩ := mm_lg_cut _ _ _ _ h2
    refine h.2.2 _ (List.mem_cons_of_mem _ (List.mem_filter.mpr ⟨(mm_pr_mem z _ _ _ _).mpr ⟨j, w', by omega, h3, e3⟩, ?_⟩))
    have h5 : ¬ (j + 1 = k ∧ w.category = 2) := by rw [e3, mm_tr_cat]; exact h4
    have h6 : (j == k) = false := by simp [h1]
    by_cases h7 : j + 1 = k
    · have h8 : ¬ w.category = 2 := fun q => h5 ⟨h7, q⟩
      simp [h6, h7, h8]
    · simp [h6, h7]
theorem mm_has_st2 {z : mm_Z} {ls : Array Slot} {n k : Nat} {L : mm_Lv} {v : Value} (hv : v.category = 2)
    (h : lv_has ls n ((k, mm_tr z v) :: (mm_pr z 0 L).filter (fun q => !(q.1 == k) && (!(q.1 == k + 1) && !(q.1 + 1 == k && q.2.category == 2))))) : lv_has ls n (mm_pr z 0 (mm_st L k v)) := by
  refine ⟨h.1, h.2.1, fun q hq => ?_⟩
  obtain ⟨j, w⟩ := q
  obtain ⟨i, w', e1, e2, e3⟩ := (mm_pr_mem z _ _ _ _).mp hq
  have hb : mm_is2 (some v) = true := (mm_is2_cat v).mpr hv
  unfold mm_st at e2
  rw [hb] at e2
  have e2 : mm_lg (mm_put none (mm_put (some v) (mm_cut true L k) k) (k + 1)) i = some (some w') := e2
  have ej : j = i := by omega
  subst ej
  rcases mm_lg_put _ _ _ _ _ e2 with ⟨h1, h2⟩ | ⟨h0, e2⟩
  · cases h2
  rcases mm_lg_put _ _ _ _ _ e2 with ⟨h1, h2⟩ | ⟨h1, h2⟩
  · cases h2
    subst h1
    exact h.2.2 _ (by rw [e3]; exact List.mem_cons_self)
  · obtain ⟨h3, h4⟩ := mm_lg_cut _ _ _ _ h2
    refine h.2.2 _ (List.mem_cons_of_mem _ (List.mem_filter.mpr ⟨(mm_pr_mem z _ _ _ _).mpr ⟨j, w', by omega, h3, e3⟩, ?_⟩))
    have h5 : ¬ (j + 1 = k ∧ w.category = 2) := by rw [e3, mm_tr_cat]; exact h4
    have h6 : (j == k) = false := by simp [h1]
    have h9 : (j == k + 1) = false := by simp [h0]
    by_cases h7 : j + 1 = k
    · have h8 : ¬ w.category = 2 := fun q => h5 ⟨h7, q⟩
      simp [h6, h7, h8]
      omega
    · simp [h6, h7, h9]
theorem mm_has_at {z : mm_Z} {ls : Array Slot} {n k : Nat} {L : mm_Lv} {v : Value} (h : lv_has ls n (mm_pr z 0 L)) (hk : mm_lg L k = some (some v)) : ls[k]? = some (.val (mm_tr z v)) :=
  h.2.2 (k, mm_tr z v) ((mm_pr_mem z _ _ _ _).mpr ⟨k, v, by omega, hk, rfl⟩)
theorem mm_pad_lg : ∀ (n : Nat) (L : mm_Lv) (j : Nat) (w : Value), mm_lg (mm_pad L n) j = some (some w) → mm_lg L j = some (some w) := by
  intro n
  induction n with
  | zero => intro L j w h; simp [mm_pad, mm_lg] at h
  | succ n ih =>
    intro L j w h
    cases L with
    | nil =>
      cases j with
      | zero => simp [mm_pad, mm_lg] at h
      | succ j => have := ih [] j w h; simp [mm_lg] at this
    | cons a r =>
      cases j with
      | zero => exact h
      | succ j => exact ih r j w h
theorem mm_en_args (z : mm_Z) : ∀ (as : List Value) (i j : Nat) (w : Value), mm_lg (mm_en as) j = some (some w) → (i + j, mm_tr z w) ∈ lv_args i (as.map (mm_tr z)) := by
  intro as
  induction as with
  | nil => intro i j w h; simp [mm_en, mm_lg] at h
  | cons a r ih =>
    intro i j w h
    simp only [List.map_cons, lv_args]
    unfold mm_en at h
    cases hb : mm_is2 (some a) with
    | true =>
      rw [hb] at h
      have hc : (mm_tr z a).category = 2 := by rw [mm_tr_cat]; exact (mm_is2_cat a).mp hb
      rw [if_pos hc]
      match j, h with
      | 0, h => have : a = w := Option.some.inj (Option.some.inj h); subst this; exact List.mem_cons_self
      | 1, h => simp [mm_lg] at h
      | j + 2, h => exact List.mem_cons_of_mem _ (by have := ih (i + 2) j w h; rwa [show i + 2 + j = i + (j + 2) by omega] at this)
    | false =>
      rw [hb] at h
      have hc : ¬ (mm_tr z a).category = 2 := fun q => by
        rw [mm_tr_cat] at q
        rw [(mm_is2_cat a).mpr q] at hb
        cases hb
      rw [if_neg hc]
      match j, h with
      | 0, h => have : a = w := Option.some.inj (Option.some.inj h); subst this; exact List.mem_cons_self
      | j + 1, h => exact List.mem_cons_of_mem _ (by have := ih (i + 1) j w h; rwa [show i + 1 + j = i + (j + 1) by omega] at this)
theorem mm_has_entry {z : mm_Z} {ls : Array Slot} {n : Nat} {as : List Value} (h : lv_has ls n (lv_args 0 (as.map (mm_tr z)))) : lv_has ls n (mm_pr z 0 (mm_pad (mm_en as) n)) := by
  refine ⟨h.1, h.2.1, fun q hq => ?_⟩
  obtain ⟨j, w⟩ := q
  obtain ⟨i, w', e1, e2, e3⟩ := (mm_pr_mem z _ _ _ _).mp hq
  have e4 := mm_en_args z as 0 i w' (mm_pad_lg _ _ _ _ e2)
  rw [e3, e1]
  exact h.2.2 _ e4
end
section
/-! what is checked of each instruction, by program, and what that says -/
theorem mm_tA_in {i : Nat} {w : Jvm.Cond} (h : mm_tA i w = true) : w ∈ mm_gT := by
  unfold mm_tA at h
  simp only [Bool.and_eq_true, decide_eq_true_eq] at h
  exact List.mem_filter.mpr ⟨List.mem_of_getElem? h.1, h.2⟩
theorem mm_tN_in {i : Nat} {w : Jvm.Cond} (h : mm_tN i w = true) : w ∈ mm_tbl := by
  unfold mm_tN at h
  simp only [decide_eq_true_eq] at h
  exact List.mem_of_getElem? h
theorem mm_inG {i : Nat} {w : Jvm.Cond} (h : mm_tbl[i]? = some w) (g : goodWord w = true) : w ∈ mm_gT := List.mem_filter.mpr ⟨List.mem_of_getElem? h, g⟩
def mm_yn (m : Nat) : MethodName := match mm_lg mm_Y m with
  | some q => q.1
  | none => ⟨"", "", ""⟩
def mm_yb (m : Nat) : ByteArray := match mm_lg mm_Y m with
  | some q => q.2.1
  | none => ⟨#[]⟩
def mm_yr (m : Nat) : Option FieldType := match mm_lg mm_Y m with
  | some q => q.2.2
  | none => none
def mm_po (mi ip pc : Nat) : Bool := match mm_at mi ip with
  | some q => Nat.beq q.2.1 pc
  | none => true
/-- decodes, and the next instruction stands behind it -/
def mm_d (mi ip : Nat) (ins : Instr) (pc l : Nat) : Bool := decide (decode (mm_yb mi) pc = .ok (ins, l)) && mm_po mi (ip + 1) (pc + l)
def mm_tg (mi pc t : Nat) (off : Int) : Bool := match mm_at mi t with
  | some q => decide ((pc : Int) + off = (q.2.1 : Int))
  | none => false
def mm_tgs (mi pc : Nat) : List Nat → List Int → Bool
  | [], [] => true
  | t :: ts, o :: os => mm_tg mi pc t o && mm_tgs mi pc ts os
  | _, _ => false
def mm_cc : Jvm.ClassFile.Cond → Nat
  | .eq => 0
  | .ne => 1
  | .lt => 2
  | .ge => 3
  | .gt => 4
  | .le => 5
def mm_a0 (i : Nat) : List Nat → Nat
  | [] => 0
  | a :: r => match i with
    | 0 => a
    | i + 1 => mm_a0 i r
/-- field k of kind ci, by its link -/
def mm_ckF (own : String) (idx k ty p q : Nat) (ci : Nat) : Bool := match mm_tbl[p]?, mm_cl[ci]? with
  | some (.fieldLink o i r n d), some (C, T, N) => decide (o = own) && Nat.beq i idx && Nat.blt k N && decide ((T k).2.1 = n) && decide ((T k).2.2.1 = d) && Nat.beq (mm_dc d) ty && (decide ((T k).1 = r) || mm_tA q (.sameField r (T k).1 n d)) && goodWord (.fieldLink o i r n d) && Nat.blt ci 12
  | _, _ => false
def mm_fin (ci k : Nat) : Bool := match mm_cl[ci]? with
  | some (C, T, N) => (T k).2.2.2
  | none => false
def mm_dcl (ci k : Nat) : String := match mm_cl[ci]? with
  | some (C, T, N) => (T k).1
  | none => ""
def mm_ckC (own : String) (idx m n : Nat) (aux : List Nat) (k : Nat) : Bool := (if Nat.beq (mm_a0 k aux) 1 then mm_tN (mm_a0 0 aux) (.methodLinkNest own idx (mm_yn m) "TermDraw") else mm_tA (mm_a0 0 aux) (.methodLink own idx (mm_yn m))) && decide ((parseMethodDescriptor (mm_yn m).desc).map (fun d => d.parameters.length) = some n) && decide ((mm_yn m).cls ≠ "java/lang/invoke/MethodHandle") && decide ((mm_yn m).cls ≠ "java/lang/invoke/VarHandle") && Nat.blt m 293
/-- a call up or across the classes: x the name that the link has, y the method that runs -/
def mm_ckU (own C : String) (idx m n : Nat) (x : MethodName) (pl ps pd pc pi pz : Nat) : Bool := mm_tA pl (.methodLink own idx x) && mm_tA ps (.sameMethod x.cls "TermDraw$Order" x.name x.desc) && (mm_tN pd (.declares ⟨"TermDraw$Order", x.name, x.desc⟩) || decide ((⟨"TermDraw$Order", x.name, x.desc⟩ : MethodName) = mm_yn m)) && mm_tA pc (.selects C x (mm_yn m)) && mm_tA pi (.instanceMethod (mm_yn m)) && mm_tA pz (.initialized (mm_yn m).cls) && decide ((parseMethodDescriptor x.desc).map (fun d => d.parameters.length) = some n) && Nat.blt m 293
def mm_kn (k : Nat) : String := match mm_cl[k]? with
  | some r => r.1
  | none => ""
def mm_ckV (mi ip : Nat) (ins : Instr) (idx pc : Nat) (x aux : List Nat) : Bool := mm_d mi ip ins pc 3 && match x with
  | [0, m, n] => (match ins with | .invokestatic _ => true | _ => false) && mm_ckC (mm_yn mi).cls idx m n aux 3 && mm_tA (mm_a0 1 aux) (.static (mm_yn m)) && mm_tA (mm_a0 2 aux) (.initialized (mm_yn m).cls)
  | [1, m, n, k] => (match ins with | .invokevirtual _ => true | _ => false) && Nat.blt 0 n && mm_ckC (mm_yn mi).cls idx m (n - 1) aux 9 && mm_tA (mm_a0 1 aux) (.instanceMethod (mm_yn m)) && mm_tA (mm_a0 2 aux) (.selects (mm_kn k) (mm_yn m) (mm_yn m)) && mm_tA (mm_a0 3 aux) (.initialized (mm_yn m).cls) && Nat.blt k 12
  | [3, m, n, k] => (match ins with | .invokevirtual _ => true | _ => false) && Nat.blt 0 n && Nat.blt k 12 && (match mm_tbl[mm_a0 0 aux]? with | some (.methodLink o i y) => mm_ckU (mm_yn mi).cls (mm_kn k) idx m (n - 1) y (mm_a0 0 aux) (mm_a0 1 aux) (mm_a0 2 aux) (mm_a0 3 aux) (mm_a0 4 aux) (mm_a0 5 aux) | _ => false)
  | [3, m, n, k, k2] => (match ins with | .invokevirtual _ => true | _ => false) && Nat.blt 0 n && Nat.blt k 12 && Nat.blt k2 12 && mm_ckU (mm_yn mi).cls (mm_kn k) idx m (n - 1) (mm_yn m) (mm_a0 0 aux) (mm_a0 1 aux) (mm_a0 2 aux) (mm_a0 3 aux) (mm_a0 5 aux) (mm_a0 6 aux) && mm_ckU (mm_yn mi).cls (mm_kn k2) idx m (n - 1) (mm_yn m) (mm_a0 0 aux) (mm_a0 1 aux) (mm_a0 2 aux) (mm_a0 4 aux) (mm_a0 5 aux) (mm_a0 6 aux)
  | [2, n, k1, m1, k2, m2] => (match ins with | .invokevirtual _ => true | _ => false) && Nat.blt 0 n && Nat.blt k1 12 && Nat.blt k2 12 && (match mm_tbl[mm_a0 0 aux]? with | some (.methodLink o i y) => mm_ckU (mm_yn mi).cls (mm_kn k1) idx m1 (n - 1) y (mm_a0 0 aux) (mm_a0 1 aux) (mm_a0 2 aux) (mm_a0 3 aux) (mm_a0 4 aux) (mm_a0 5 aux) && mm_ckU (mm_yn mi).cls (mm_kn k2) idx m2 (n - 1) y (mm_a0 0 aux) (mm_a0 1 aux) (mm_a0 2 aux) (mm_a0 6 aux) (mm_a0 7 aux) (mm_a0 8 aux) | _ => false)
  | [8, m, n, k] => (match ins with | .invokespecial _ => true | _ => false) && Nat.blt 0 n && mm_ckC (mm_yn mi).cls idx m (n - 1) aux 3 && mm_tA (mm_a0 1 aux) (.instanceMethod (mm_yn m)) && mm_tA (mm_a0 2 aux) (.initialized (mm_yn m).cls) && decide ((mm_yn m).name = "<init>") && decide (mm_yr m = none)
  | [4] => (match ins with | .invokevirtual _ => true | _ => false) && mm_tA (mm_a0 0 aux) (.methodLink (mm_yn mi).cls idx ⟨"java/lang/String", "charAt", "(I)C"⟩)
  | [5] => (match ins with | .invokestatic _ => true | _ => false) && mm_tA (mm_a0 0 aux) (.methodLink (mm_yn mi).cls idx ⟨"java/lang/Float", "floatToRawIntBits", "(F)I"⟩) && decide ((mm_yn mi).cls = "java/lang/Float")
  | [6] => (match ins with | .invokestatic _ => true | _ => false) && mm_tA (mm_a0 0 aux) (.methodLink (mm_yn mi).cls idx ⟨"java/lang/Double", "doubleToRawLongBits", "(D)J"⟩) && decide ((mm_yn mi).cls = "java/lang/Double")
  | [7] => (match ins with | .invokespecial _ => true | _ => false) && mm_tA (mm_a0 0 aux) (.methodLink (mm_yn mi).cls idx Lib.objectInit)
  | _ => false
def mm_inc1 : List (Int × Int) → Bool
  | (a, _) :: (b, o) :: r => decide (a < b) && mm_inc1 ((b, o) :: r)
  | _ => true
def mm_ck (mi ip : Nat) (ins : Instr) (pc : Nat) (x : List Nat) (v : Value) (aux : List Nat) : Bool := match ins with
  | .iload_n k => Nat.beq (mm_x0 x) k.val && mm_d mi ip ins pc 1
  | .lload_n k => Nat.beq (mm_x0 x) k.val && mm_d mi ip ins pc 1
  | .aload_n k => Nat.beq (mm_x0 x) k.val && mm_d mi ip ins pc 1
  | .fload_n k => Nat.beq (mm_x0 x) k.val && mm_d mi ip ins pc 1
  | .dload_n k => Nat.beq (mm_x0 x) k.val && mm_d mi ip ins pc 1
  | .iload k => Nat.beq (mm_x0 x) k && mm_d mi ip ins pc 2
  | .lload k => Nat.beq (mm_x0 x) k && mm_d mi ip ins pc 2
  | .aload k => Nat.beq (mm_x0 x) k && mm_d mi ip ins pc 2
  | .istore_n k => Nat.beq (mm_x0 x) k.val && mm_d mi ip ins pc 1 && Nat.blt (mm_x0 x) (mm_ml mi)
  | .astore_n k => Nat.beq (mm_x0 x) k.val && mm_d mi ip ins pc 1 && Nat.blt (mm_x0 x) (mm_ml mi)
  | .fstore_n k => Nat.beq (mm_x0 x) k.val && mm_d mi ip ins pc 1 && Nat.blt (mm_x0 x) (mm_ml mi)
  | .lstore_n k => Nat.beq (mm_x0 x) k.val && mm_d mi ip ins pc 1 && Nat.blt (mm_x0 x + 1) (mm_ml mi)
  | .dstore_n k => Nat.beq (mm_x0 x) k.val && mm_d mi ip ins pc 1 && Nat.blt (mm_x0 x + 1) (mm_ml mi)
  | .istore k => Nat.beq (mm_x0 x) k && mm_d mi ip ins pc 2 && Nat.blt (mm_x0 x) (mm_ml mi)
  | .lstore k => Nat.beq (mm_x0 x) k && mm_d mi ip ins pc 2 && Nat.blt (mm_x0 x + 1) (mm_ml mi)
  | .iinc k n => Nat.beq (mm_x0 x) k && decide (v = .int (Int32.ofInt n)) && mm_d mi ip ins pc 3 && Nat.blt (mm_x0 x) (mm_ml mi)
  | .iconst n => decide (v = .int (Int32.ofInt n)) && mm_d mi ip ins pc 1
  | .bipush n => decide (v = .int (Int8.ofInt n).toInt32) && mm_d mi ip ins pc 2
  | .sipush n => decide (v = .int (Int16.ofInt n).toInt32) && mm_d mi ip ins pc 3
  | .lconst n => decide (v = .long (Int64.ofNat (n : Nat))) && mm_d mi ip ins pc 1
  | .fconst n => (decide (n = 0) && decide (v = .float FP.fconst0)) && mm_d mi ip ins pc 1
  | .dconst n => ((decide (n = 0) && decide (v = .double FP.dconst0)) || (decide (n = 1) && decide (v = .double FP.dconst1))) && mm_d mi ip ins pc 1
  | .ldc i => (match v with
    | .int k => mm_tA (mm_a0 0 aux) (.constant (mm_yn mi).cls i k)
    | .ref k => Nat.beq k 2 && Nat.beq i 143 && decide ((mm_yn mi).cls = "TermDrawModel")
    | _ => false) && mm_d mi ip ins pc 2
  | .ldc_w i => (match v with
    | .int k => mm_tA (mm_a0 0 aux) (.constant (mm_yn mi).cls i k)
    | _ => false) && mm_d mi ip ins pc 3
  | .ldc2_w i => (match v with
    | .long k => mm_tA (mm_a0 0 aux) (.constantLong (mm_yn mi).cls i k)
    | .double k => mm_tA (mm_a0 0 aux) (.constantDouble (mm_yn mi).cls i k)
    | _ => false) && mm_d mi ip ins pc 3
  | .goto off => mm_d mi ip ins pc 3 && mm_tg mi pc (mm_x0 x) off
  | .ifnonnull off => mm_d mi ip ins pc 3 && mm_tg mi pc (mm_x0 x) off
  | .ifCond _ off => mm_d mi ip ins pc 3 && mm_tg mi pc (mm_x0 x) off
  | .if_icmp _ off => mm_d mi ip ins pc 3 && mm_tg mi pc (mm_x0 x) off
  | .lcmp => decide (decode (mm_yb mi) pc = .ok (.lcmp, 1)) && (match decode (mm_yb mi) (pc + 1), x with
    | .ok (.ifCond c off, 3), [k, t] => Nat.beq (mm_cc c) k && mm_tg mi (pc + 1) t off && mm_po mi (ip + 1) (pc + 4)
    | _, _ => false)
  | .tableswitch d lo hi offs => (match decode (mm_yb mi) pc with
    | .ok (ins2, l) => decide (ins2 = ins)
    | _ => false) && mm_tgs mi pc x (d :: offs.toList) && decide (hi = lo + offs.size - 1) && decide (-2147483648 ≤ lo) && decide (hi < 2147483648)
  | .lookupswitch d ps => (match decode (mm_yb mi) pc with
    | .ok (ins2, l) => decide (ins2 = ins)
    | _ => false) && mm_tgs mi pc x (d :: ps.toList.map (fun q => q.2)) && (ps.toList.zip (ps.toList.drop 1)).all (fun (a, next) => a.1 < next.1) && ps.toList.all (fun q => decide (-2147483648 ≤ q.1) && decide (q.1 < 2147483648))
  | .getfield i => mm_d mi ip ins pc 3 && (match x with
    | k :: ty :: ks => ks.all (fun ci => mm_ckF (mm_yn mi).cls i k ty (mm_a0 0 aux) (mm_a0 1 aux) ci)
    | _ => false)
  | .putfield i => mm_d mi ip ins pc 3 && (match x with
    | k :: ty :: fin :: ks => ks.all (fun ci => mm_ckF (mm_yn mi).cls i k ty (mm_a0 0 aux) 0 ci && ((Nat.beq fin 0 && !(mm_fin ci k)) || (Nat.beq fin 1 && mm_fin ci k && decide ((mm_yn mi).name = "<init>") && decide (mm_dcl ci k = (mm_yn mi).cls))))
    | _ => false)
  | .new i => mm_d mi ip ins pc 3 && (match x with
    | [ci, n] => (match mm_cl[ci]? with
      | some (C, T, N) => Nat.beq n N && mm_tA (mm_a0 0 aux) (.classLink (mm_yn mi).cls i C) && mm_tA (mm_a0 1 aux) (.instantiable C N) && mm_tA (mm_a0 2 aux) (.initialized C) && Nat.blt ci 12
      | none => false)
    | _ => false)
  | .newarray at' => mm_d mi ip ins pc 2 && (match at', x with
    | .int, [12] => true
    | .long, [13] => true
    | .boolean, [14] => true
    | _, _ => false)
  | .anewarray i => mm_d mi ip ins pc 3 && mm_tA (mm_a0 0 aux) (.classLink (mm_yn mi).cls i "TermDraw$Told")
  | .invokestatic i => mm_ckV mi ip ins i pc x aux
  | .invokevirtual i => mm_ckV mi ip ins i pc x aux
  | .invokespecial i => mm_ckV mi ip ins i pc x aux
  | .ireturn => decide (decode (mm_yb mi) pc = .ok (ins, 1)) && (match x with
    | [1] => decide (mm_yr mi = some .int)
    | [3] => decide (mm_yr mi = some .boolean)
    | _ => false)
  | .lreturn => decide (decode (mm_yb mi) pc = .ok (ins, 1)) && (match x with
    | [2] => decide (mm_yr mi = some .long)
    | _ => false)
  | .areturn => decide (decode (mm_yb mi) pc = .ok (ins, 1)) && (match x with
    | [4] => (match mm_yr mi with
      | some (.object _) => true
      | some (.array _) => true
      | _ => false)
    | _ => false)
  | .return_ => decide (decode (mm_yb mi) pc = .ok (ins, 1)) && (match x with
    | [0] => decide (mm_yr mi = none)
    | _ => false)
  | _ => mm_d mi ip ins pc 1
def mm_ckL (mi : Nat) : Nat → List mm_Ins → List (List Nat) → Bool
  | _, [], [] => true
  | ip, (ins, pc, x, v) :: r, a :: as => mm_ck mi ip ins pc x v a && mm_ckL mi (ip + 1) r as
  | _, _, _ => false
/-- a method's check: its instructions, and that the first stands at 0 -/
def mm_ckM (mi : Nat) (aux : List (List Nat)) : Bool := match mm_lg mm_K mi with
  | some q => mm_ckL mi 0 q.2 aux && mm_po mi 0 0 && Nat.ble q.1 40
  | none => true
def mm_lt : Nat → List (List Nat) → List (List Nat)
  | 0, _ => []
  | _, [] => []
  | n + 1, a :: r => a :: mm_lt n r
def mm_ld : Nat → List (List Nat) → List (List Nat)
  | 0, l => l
  | _, [] => []
  | n + 1, _ :: r => mm_ld n r
def mm_kt : Nat → List mm_Ins → List mm_Ins
  | 0, _ => []
  | _, [] => []
  | n + 1, a :: r => a :: mm_kt n r
def mm_kdr : Nat → List mm_Ins → List mm_Ins
  | 0, l => l
  | _, [] => []
  | n + 1, _ :: r => mm_kdr n r
/-- the check of 40 instructions from i on -/
def mm_ckD (mi i : Nat) (aux : List (List Nat)) : Bool := match mm_lg mm_K mi with
  | some q => mm_ckL mi i (mm_kt 40 (mm_kdr i q.2)) (mm_lt 40 (mm_ld i aux)) && Nat.beq q.2.length aux.length
  | none => true
theorem mm_ckL_at {mi : Nat} : ∀ (l : List mm_Ins) (as : List (List Nat)) (ip : Nat), mm_ckL mi ip l as = true → ∀ j q, mm_lg l j = some q → ∃ a, mm_ck mi (ip + j) q.1 q.2.1 q.2.2.1 q.2.2.2 a = true := by
  intro l
  induction l with
  | nil => intro as ip h j q hj; simp [mm_lg] at hj
  | cons a r ih =>
    intro as ip h j q hj
    cases as with
    | nil => obtain ⟨_, _, _, _⟩ := a; simp [mm_ckL] at h
    | cons b bs =>
      obtain ⟨ins, pc, x, v⟩ := a
      simp only [mm_ckL, Bool.and_eq_true] at h
      cases j with
      | zero => simp [mm_lg] at hj; subst hj; exact ⟨b, h.1⟩
      | succ j =>
        obtain ⟨a, ha⟩ := ih bs (ip + 1) h.2 j q hj
        exact ⟨a, by rw [show ip + (j + 1) = ip + 1 + j by omega]; exact ha⟩
theorem mm_kt_lg : ∀ (n j : Nat) (l : List mm_Ins) (q : mm_Ins), j < n → mm_lg l j = some q → mm_lg (mm_kt n l) j = some q := by
  intro n
  induction n with
  | zero => intro j l q h; omega
  | succ n ih =>
    intro j l q h hq
    cases l with
    | nil => simp [mm_lg] at hq
    | cons a r =>
      cases j with
      | zero => exact hq
      | succ j => exact ih j r q (by omega) hq
theorem mm_kdr_lg : ∀ (n j : Nat) (l : List mm_Ins), mm_lg (mm_kdr n l) j = mm_lg l (n + j) := by
  intro n
  induction n with
  | zero => intro j l; simp [mm_kdr]
  | succ n ih =>
    intro j l
    cases l with
    | nil => simp [mm_kdr, mm_lg]
    | cons a r => rw [show n + 1 + j = (n + j) + 1 by omega]; exact ih j r
theorem mm_ckD_at {mi i : Nat} {aux : List (List Nat)} (h : mm_ckD mi i aux = true) {ip : Nat} {q : mm_Ins} (hq : mm_at mi ip = some q) (h1 : i ≤ ip) (h2 : ip < i + 40) : ∃ a, mm_ck mi ip q.1 q.2.1 q.2.2.1 q.2.2.2 a = true := by
  unfold mm_ckD at h
  unfold mm_at at hq
  cases hk : mm_lg mm_K mi with
  | none => rw [hk] at hq; cases hq
  | some k =>
    rw [hk] at hq h
    simp only [Bool.and_eq_true] at h
    have e : mm_lg (mm_kt 40 (mm_kdr i k.2)) (ip - i) = some q := mm_kt_lg _ _ _ _ (by omega) (by rw [mm_kdr_lg, show i + (ip - i) = ip by omega]; exact hq)
    have := mm_ckL_at _ _ _ h.1 _ _ e
    rwa [show i + (ip - i) = ip by omega] at this
theorem mm_ckM_at {mi : Nat} {aux : List (List Nat)} (h : mm_ckM mi aux = true) {ip : Nat} {q : mm_Ins} (hq : mm_at mi ip = some q) : ∃ a, mm_ck mi ip q.1 q.2.1 q.2.2.1 q.2.2.2 a = true := by
  unfold mm_ckM at h
  unfold mm_at at hq
  cases hk : mm_lg mm_K mi with
  | none => rw [hk] at hq; cases hq
  | some k =>
    rw [hk] at hq h
    simp only [Bool.and_eq_true] at h
    have := mm_ckL_at _ _ _ h.1.1 _ _ hq
    rwa [Nat.zero_add] at this
theorem mm_lg_len {α : Type} : ∀ (l : List α) (j : Nat) (q : α), mm_lg l j = some q → j < l.length := by
  intro l
  induction l with
  | nil => intro j q h; simp [mm_lg] at h
  | cons a r ih =>
    intro j q h
    cases j with
    | zero => simp
    | succ j => have := ih j q h; simp; omega
end
section
/-! the machine does what the small machine does: instruction by instruction -/
def mm_isN : Jvm.Cond → Bool
  | .methodLinkNest .. => true
  | .declares _ => true
  | _ => false
/-- the text's cells, two statics of the JDK's -/
def mm_ST (z : mm_Z) (U : State) : Prop := z.1.2.2.2.size = z.1.2.2.1 ∧ ∃ av ff : Nat, vk_S 1 [7] [[40, 97, 124, 110, 41, 42, 110]] (fun _ => z.1.2.1) (fun _ => av) (fun q => z.1.2.2.1 ≤ q) U z.1.2.2.2 ∧ va_Z "java/lang/String" "COMPACT_STRINGS" "Z" (.int 1) (fun q => z.1.2.2.1 ≤ q) U z.1.2.2.2 ∧ va_Z "jdk/internal/util/Preconditions" "SIOOBE_FORMATTER" "Ljava/util/function/BiFunction;" (.ref ff) (fun q => z.1.2.2.1 ≤ q) U z.1.2.2.2
theorem mm_ST.moved {z : mm_Z} {u U : State} (hv : u.vm.Alike U.vm) (h : mm_ST z u) : mm_ST z U := by
  obtain ⟨h1, av, ff, h2, h3, h4⟩ := h
  exact ⟨h1, av, ff, h2.moved hv, h3.moved hv, h4.moved hv⟩
/-- what the tables say, that is no plain word -/
def mm_FN (z : mm_Z) (U : State) : Prop := (∀ w ∈ mm_tbl, mm_isN w = true → va_Nw w U) ∧ va_K z.2.1 mm_cl [(z.2.2.1 12, .int), (z.2.2.1 13, .long), (z.2.2.1 14, .boolean), (z.2.2.1 15, .object "TermDraw$Told")] U ∧ va_AO "TermDraw$Told" U ∧ vk_R "TermDrawModel" 143 "(a|n)*n" z.1.2.1 U ∧ va_X z.1.1 z.2.2.2.1 z.2.2.2.2 U z.1.2.2.2 ∧ z.1.1 < z.1.2.2.1 ∧ mm_ST z U
theorem mm_FN.warm {z : mm_Z} {s U : State} (hW : s.WarmedH U.vm) (h : mm_FN z s) : mm_FN z U := by
  obtain ⟨h1, h2, h3, h4, h5, h6, h7⟩ := h
  refine ⟨fun w hw hn => ?_, va_K.moved hW.alike h2, va_AO.moved hW.alike h3, vk_R.warm hW h4, va_X.moved hW.alike h5, h6, h7.moved hW.alike⟩
  have := h1 w hw hn
  cases w <;> first | exact va_Nw.warmM hW this | exact va_Nw.warmD hW this | cases hn
theorem mm_FN.same {z : mm_Z} {u U : State} (hv : U.vm = u.vm) (h : mm_FN z u) : mm_FN z U := by
  obtain ⟨h1, h2, h3, h4, h5, h6, h7⟩ := h
  have ha : u.vm.Alike U.vm := by rw [hv]; exact Vm.Alike.refl _
  refine ⟨fun w hw hn => ?_, va_K.moved ha h2, va_AO.moved ha h3, vk_R.same hv h4, va_X.moved ha h5, h6, h7.moved ha⟩
  have := h1 w hw hn
  cases w <;> first | exact va_Nw.same rfl hv.symm this | cases hn
/-- a frame of method mi, d calls deep at most below it -/
def mm_Fr (p : Program) (R : Room) (s : State) (m : MethodId) (args : Array Value) (meth : Method) (c : Code) (z : mm_Z) (mi d : Nat) : Prop :=
  p.tables.exec = Jvm.exec ∧ c.code = mm_yb mi ∧ c.maxLocals = mm_ml mi ∧ s.vm.findClass (mm_yn mi).cls = some m.cls ∧ (∀ w ∈ mm_gT, w.before args s = true) ∧ mm_FN z s ∧ ((mm_yn mi).name = "<init>" → meth.name = "<init>") ∧ d + 10 ≤ R.frames ∧ 64 * (d + 10) ≤ R.locals ∧ mm_ml mi ≤ 40
/-- how it goes on -/
def mm_KN (p : Program) (l : Launch) (e : Env) (R : Room) (s : State) (m : MethodId) (args : Array Value) (below : List Frame) (meth : Method) (c : Code) (Q : State → Prop) (z : mm_Z) (mi n0 m0 : Nat) (F : Nat → mm_Lv → List Value → mm_H → Prop) : Prop :=
  ∀ (ip pc : Nat) (L : mm_Lv) (st : List Value) (h : mm_H) (H : Heap) (locs : List Loc) (ls : Array Slot) (cells slots : Nat), F ip L st h → mm_po mi ip pc = true → mm_Rel z h H → lv_has ls (mm_ml mi) (mm_pr z 0 L) → (∀ q ∈ locs, z.1.2.2.1 ≤ q.base) → cells + n0 = hN h → slots + m0 = hM h → W p l e R s m args below meth c H locs cells slots Q (F0 m pc ls (st.map (mm_tr z)))
/-- a contract's start and end -/
def mm_Pc (z : mm_Z) (as : List Value) (h : mm_H) : Array Value → State → Prop := fun v U => v = (as.map (mm_tr z)).toArray ∧ mm_Rel z h U.heap ∧ mm_FN z U
def mm_Qc (z : mm_Z) (r : Option Value) (h : mm_H) : Array Value → State → Outcome → State → Prop := fun _ _ o t => o = .returned (r.map (mm_tr z)) ∧ mm_Rel z h t.heap
theorem mm_Pc_blind (z : mm_Z) (as : List Value) (h : mm_H) : FrameBlind (mm_Pc z as h) := fun a U g mk hp => ⟨hp.1, hp.2.1, mm_FN.same (u := U) rfl hp.2.2⟩
section SIM
variable {p : Program} {l : Launch} {e : Env} {R : Room} {s : State} {m : MethodId} {args : Array Value} {below : List Frame} {meth : Method} {c : Code} {Q : State → Prop}
variable {z : mm_Z} {mi d n0 m0 : Nat} {F : Nat → mm_Lv → List Value → mm_H → Prop}
variable {ip pc : Nat} {L : mm_Lv} {st : List Value} {h : mm_H} {H : Heap} {locs : List Loc} {ls : Array Slot} {cells slots : Nat}
theorem mm_d_dec {ins : Instr} {k : Nat} (h : mm_d mi ip ins pc k = true) : decode (mm_yb mi) pc = .ok (ins, k) ∧ mm_po mi (ip + 1) (pc + k) = true := by
  unfold mm_d at h
  simp only [Bool.and_eq_true, decide_eq_true_eq] at h
  exact h
theorem mm_tg_po {t : Nat} {off : Int} (h : mm_tg mi pc t off = true) : ∃ tgt : Nat, (pc : Int) + off = (tgt : Int) ∧ mm_po mi t tgt = true := by
  unfold mm_tg at h
  unfold mm_po
  cases hc : mm_at mi t with
  | none => rw [hc] at h; cases h
  | some q =>
    rw [hc] at h
    refine ⟨q.2.1, by simpa using h, ?_⟩
    simp
/-- what the rows of loads and stores need -/
theorem mm_s_ld {k : Nat} {v : Value} (hl : lv_has ls (mm_ml mi) (mm_pr z 0 L)) (hk : mm_lg L k = some (some v)) : ls[k]? = some (.val (mm_tr z v)) := mm_has_at hl hk
/-- a field, read -/
theorem mm_getf {own ref : String} {index ci k : Nat} {C : String} {T : u_T} {N : Nat} (hF : mm_Fr p R s m args meth c z mi d) (hRl : mm_Rel z h H) {a : Nat} (hk : (hK h a).1 = ci) (hci : ci < 12) (hc : mm_cl[ci]? = some (C, T, N)) (hu : ∀ w ∈ u_ws C T N, w ∈ mm_gT) (hkN : k < N)
    (hlink : (Jvm.Cond.fieldLink (mm_yn mi).cls index ref (T k).2.1 (T k).2.2.1) ∈ mm_gT) (hsame : (T k).1 = ref ∨ (Jvm.Cond.sameField ref (T k).1 (T k).2.1 (T k).2.2.1) ∈ mm_gT) {v : Value} (hv : mm_v z h a (mm_dc (T k).2.2.1) k = v) (hdg : decode (mm_yb mi) pc = .ok (.getfield index, 3)) {rest : List Value}
    (kk : W p l e R s m args below meth c H locs cells slots Q (F0 m (pc + 3) ls (v :: rest))) : W p l e R s m args below meth c H locs cells slots Q (F0 m pc ls (.ref (mm_ad z a) :: rest)) := by
  obtain ⟨hx, hb, hml, hown, hts, hFN, -⟩ := hF
  obtain ⟨cell, q1, q2, q3, q4⟩ := hRl.obj hk hci hc
  obtain ⟨hS, hfc, kC, hkC, hkind⟩ := hFN.2.1.1 ci _ hc
  obtain ⟨cf, kf, fi, f, hi, hsl⟩ := hS k hkN
  have hi2 : s.fieldFound? ref (T k).2.1 (T k).2.2.1 = some (cf, kf, fi, f) := by
    rcases hsame with e | e
    · rw [← e]; exact hi
    · exact u_same (hts _ e) _ hi
  refine W.getf hx hb hown (hts _ hlink) hi2 (u_facts hfc hkC (u_lays (fun w hw => hts w hw) hu hkN) hi).1 q1 (by rw [q3]; exact fun h => by cases h) (v := v) ?_ rfl rfl hdg kk
  rw [hsl, q4 k hkN]
  exact congrArg some hv
/-- a field, written -/
theorem mm_putf {own ref : String} {index ci k : Nat} {C : String} {T : u_T} {N : Nat} (hF : mm_Fr p R s m args meth c z mi d) (hRl : mm_Rel z h H) {a : Nat} (hk : (hK h a).1 = ci) (hci : ci < 12) (hc : mm_cl[ci]? = some (C, T, N)) (hu : ∀ w ∈ u_ws C T N, w ∈ mm_gT) (hkN : k < N)
    (hty : ∀ k, k < N → ∃ t, parseFieldDescriptor (T k).2.2.1 = some t) (hnm : ∀ a, a < N → ∀ b, b < N → a ≠ b → (T a).2.1 ≠ (T b).2.1)
    (hlink : (Jvm.Cond.fieldLink (mm_yn mi).cls index ref (T k).2.1 (T k).2.2.1) ∈ mm_gT) (hsame : (T k).1 = ref ∨ (Jvm.Cond.sameField ref (T k).1 (T k).2.1 (T k).2.2.1) ∈ mm_gT) (hfin : (T k).2.2.2 = false ∨ ((T k).2.2.2 = true ∧ (mm_yn mi).name = "<init>" ∧ (T k).1 = (mm_yn mi).cls)) {ty : FieldType} {v : Value} (hd : parseFieldDescriptor (T k).2.2.1 = some ty) (hn : narrow ty v = v) (hfit : fits ty v = true)
    {h' : mm_H} (hN' : hN h' = hN h) (hK' : ∀ i, hK h' i = hK h i) (hI' : ∀ i, i ≠ a → ∀ k, hI h' i k = hI h i k) (hL' : ∀ i, i ≠ a → ∀ k, hL h' i k = hL h i k) (hR' : ∀ i, i ≠ a → ∀ k, hR h' i k = hR h i k)
    (hv : ∀ j, j < N → mm_v z h' a (mm_dc (T j).2.2.1) j = updV (fun k => mm_v z h a (mm_dc (T k).2.2.1) k) k v j) (hdg : decode (mm_yb mi) pc = .ok (.putfield index, 3)) {rest : List Value} (hlo : ∀ q ∈ locs, z.1.2.2.1 ≤ q.base)
    (kk : ∀ (H1 : Heap) (locs1 : List Loc), mm_Rel z h' H1 → (∀ q ∈ locs1, z.1.2.2.1 ≤ q.base) → W p l e R s m args below meth c H1 locs1 cells slots Q (F0 m (pc + 3) ls rest)) : W p l e R s m args below meth c H locs cells slots Q (F0 m pc ls (v :: .ref (mm_ad z a) :: rest)) := by
  obtain ⟨hx, hb, hml, hown, hts, hFN, hini, -⟩ := hF
  obtain ⟨ha3, haN⟩ := hRl.in (a := a) (by omega)
  obtain ⟨cell, q1, q2, q3, q4⟩ := hRl.obj hk hci hc
  obtain ⟨hS, hfc, kC, hkC, hkind⟩ := hFN.2.1.1 ci _ hc
  obtain ⟨cf, kf, fi, f, hi, hsl⟩ := hS k hkN
  have hap : ∀ x y, x < N → y < N → x ≠ y → (z.2.1.2 ci) x ≠ (z.2.1.2 ci) y := by
    intro x y hx1 hy1 hne
    obtain ⟨_, _, _, fa, hia, ea⟩ := hS x hx1
    obtain ⟨_, _, _, fb, hib, eb⟩ := hS y hy1
    obtain ⟨tx, htx⟩ := hty x hx1
    obtain ⟨t2, ht2⟩ := hty y hy1
    rw [← ea, ← eb]
    refine u_apart (u_lays (fun w hw => hts w hw) hu hx1) (u_lays (fun w hw => hts w hw) hu hy1) hia hib ?_
    rw [(State.fieldFound?_type hia htx).1, (State.fieldFound?_type hib ht2).1]
    exact hnm x hx1 y hy1 hne
  have hi2 : s.fieldFound? ref (T k).2.1 (T k).2.2.1 = some (cf, kf, fi, f) := by
    rcases hsame with e | e
    · rw [← e]; exact hi
    · exact u_same (hts _ e) _ hi
  have hlay := hts _ (hu _ (u_in_lay hkN))
  unfold u_lay at hlay
  have hst := (u_facts hfc hkC (u_lays (fun w hw => hts w hw) hu hkN) hi).1
  have fin : ∀ H' : Heap, H'[mm_ad z a]? = some (cell.setSlot f.slot v) → H'.size = H.size → (∀ q, q ≠ mm_ad z a → H'[q]? = H[q]?) → W p l e R s m args below meth c H' (locs ++ [⟨mm_ad z a, f.slot⟩]) cells slots Q (F0 m (pc + 3) ls rest) := by
    intro H' e1 e2 e3
    refine kk H' _ (hRl.write ha3 hN' hK' hI' hL' hR' e2 e3 ?_) (fun q hq => ?_)
    · refine Or.inl ⟨by rw [hK', hk]; exact hci, (C, T, N), by rw [hK', hk]; exact hc, ?_⟩
      rw [hK', hk]
      rw [hsl] at e1
      exact t_OB.to (V := updV (fun k => mm_v z h a (mm_dc (T k).2.2.1) k) k v) ⟨_, e1, q2, q3, t_set q4 hap hkN v⟩ (fun j hj => (hv j hj).symm)
    · rcases List.mem_append.mp hq with hq | hq
      · exact hlo q hq
      · rw [List.mem_singleton.mp hq]; exact mm_ad_ge ha3
  rcases hfin with hf | ⟨hf, hin, hdecl⟩
  · rw [if_neg (by rw [hf]; decide)] at hlay
    have h6 := u_store hfc hkC hkind hlay hi hd hn hfit
    exact W.putK hx hb (f := f) ⟨hown, hts _ hlink, ⟨_, _, _, hi2⟩, hst⟩ (by rw [q2]; exact h6) q1 q3 (by rw [hsl]; exact k2_hasslot (q4 k hkN)) rfl rfl hdg fin
  · rw [if_pos hf] at hlay
    have hcf : m.cls = cf := by
      obtain ⟨_, _, c', _, _, _, -, -, hf', -, -, -, hown2, -⟩ := Cond.laysFinal_spec hlay
      have e1 : c' = cf := by have := hi.symm.trans hf'; simp at this; exact this.1.symm
      rw [hdecl] at hown2
      rw [← e1]; exact Option.some.inj (hown.symm.trans hown2)
    have h6 := u_fits hfc hkC hkind (Or.inr hlay) hi hd hn hfit
    exact W.putFinK hx hb hown (hts _ hlink) hi2 hst hcf (hini hin) (by rw [q2]; exact h6) q1 q3 (by rw [hsl]; exact k2_hasslot (q4 k hkN)) rfl rfl hdg fin
/-- an element, read: what the rows need -/
theorem mm_ar_in {kd a : Nat} {i : Int32} (hRl : mm_Rel z h H) (hk : mm_ix h a kd i) (h1 : 12 ≤ kd) (h2 : kd < 16) : ∃ cell : Cell, H[mm_ad z a]? = some cell ∧ cell = arrV (z.2.2.1 kd) (hK h a).2 (fun j => mm_v z h a (mm_aty kd) j) ∧ ¬ (i < 0 ∨ cell.slots.size ≤ i.toNatClampNeg) ∧ cell.slots[i.toNatClampNeg]? = some (mm_v z h a (mm_aty kd) i.toNatClampNeg) := by
  refine ⟨_, hRl.arr hk.1 h1 h2, rfl, by rw [arrV_size]; exact hk.2, ?_⟩
  exact arrV_read _ _ (Nat.not_le.mp fun q => hk.2 (Or.inr q))
/-- an element, written -/
theorem mm_ar_put {kd a : Nat} {i : Int32} {H' : Heap} {cell : Cell} {w : Value} {h' : mm_H} (hRl : mm_Rel z h H) (hk : mm_ix h a kd i) (h1 : 12 ≤ kd) (h2 : kd < 16) (hc : cell = arrV (z.2.2.1 kd) (hK h a).2 (fun j => mm_v z h a (mm_aty kd) j))
    (e1 : H'[mm_ad z a]? = some (cell.setSlot i.toNatClampNeg w)) (e2 : H'.size = H.size) (e3 : ∀ q, q ≠ mm_ad z a → H'[q]? = H[q]?)
    (hN' : hN h' = hN h) (hK' : ∀ i, hK h' i = hK h i) (hI' : ∀ i, i ≠ a → ∀ k, hI h' i k = hI h i k) (hL' : ∀ i, i ≠ a → ∀ k, hL h' i k = hL h i k) (hR' : ∀ i, i ≠ a → ∀ k, hR h' i k = hR h i k)
    (hv : ∀ j, mm_v z h' a (mm_aty kd) j = updV (fun j => mm_v z h a (mm_aty kd) j) i.toNatClampNeg w j) : mm_Rel z h' H' := by
  obtain ⟨ha3, haN⟩ := hRl.in (a := a) (by rw [hk.1]; exact h2)
  refine hRl.write ha3 hN' hK' hI' hL' hR' e2 e3 (Or.inr ⟨by rw [hK', hk.1]; exact h1, ?_⟩)
  rw [hK', hk.1, e1, hc, arrV_store]
  congr 2
  funext j
  exact (hv j).symm
theorem mm_recv {a ci : Nat} (hRl : mm_Rel z h H) (hFN : mm_FN z s) (hk : (hK h a).1 = ci) (hci : ci < 12) : ∃ cell : Cell, H[mm_ad z a]? = some cell ∧ cell.vm.isStatics = false ∧ s.vm.findClass (mm_kn ci) = some cell.cls := by
  have hc : ∃ r, mm_cl[ci]? = some r := by
    refine ⟨mm_cl[ci]'(by simpa using hci), ?_⟩
    simp
  obtain ⟨r, hc⟩ := hc
  obtain ⟨cell, q1, q2, q3, q4⟩ := hRl.obj hk hci hc
  obtain ⟨hS, hfc, kC, hkC, hkind⟩ := hFN.2.1.1 ci _ hc
  refine ⟨cell, q1, by rw [q3]; rfl, ?_⟩
  have : mm_kn ci = r.1 := by unfold mm_kn; rw [hc]
  rw [this, q2]
  exact hfc
theorem mm_rv_eq : ∀ (l a : List Value), mm_rv l a = l.reverse ++ a := by
  intro l
  induction l with
  | nil => intro a; rfl
  | cons v r ih => intro a; rw [mm_rv, ih]; simp
theorem mm_tk_dr : ∀ (n : Nat) (l : List Value), mm_tk n l ++ mm_dr n l = l := by
  intro n
  induction n with
  | zero => intro l; cases l <;> rfl
  | succ n ih =>
    intro l
    cases l with
    | nil => rfl
    | cons a r => simp [mm_tk, mm_dr, ih]
theorem mm_tk_len : ∀ (n : Nat) (l : List Value), n ≤ l.length → (mm_tk n l).length = n := by
  intro n
  induction n with
  | zero => intro l h; cases l <;> rfl
  | succ n ih =>
    intro l h
    cases l with
    | nil => simp at h
    | cons a r => simp [mm_tk]; exact ih r (by simpa using h)
theorem mm_cs_sum : ∀ (l : List Value), ((l.map (mm_tr z)).map fun v => v.category).sum = mm_cs l := by
  intro l
  induction l with
  | nil => rfl
  | cons a r ih =>
    simp only [List.map_cons, List.sum_cons, ih, mm_cs]
    cases a <;> rfl
/-- the stack at a call: the arguments, and what lies below -/
theorem mm_stack {n : Nat} (hn : mm_n n st = true) : st.map (mm_tr z) = ((mm_rv (mm_tk n st) []).map (mm_tr z)).reverse ++ (mm_dr n st).map (mm_tr z) ∧ (mm_rv (mm_tk n st) []).length = n ∧ (((mm_dr n st).map (mm_tr z)).map fun v => v.category).sum ≤ 8 := by
  unfold mm_n at hn
  simp only [Bool.and_eq_true] at hn
  have h1 := Nat.le_of_ble_eq_true hn.1
  have h2 := Nat.le_of_ble_eq_true hn.2
  refine ⟨?_, ?_, ?_⟩
  · rw [mm_rv_eq, List.append_nil, ← List.map_reverse, List.reverse_reverse, ← List.map_append, mm_tk_dr]
  · rw [mm_rv_eq, List.append_nil, List.length_reverse, mm_tk_len _ _ h1]
  · rw [mm_cs_sum]; exact h2
/-- behind a call -/
theorem mm_after {r : Option Value} {h1 : mm_H} {mc ms : Nat} {a : Array Value} {rest st0 : List Value} (hr : va_Run p l e R s m args below meth c H locs cells slots mc ms (F0 m pc ls st0) (rest.map (mm_tr z)) (mm_Qc z r h1 a) (fun q => z.1.2.2.1 ≤ q)) (hlo : ∀ q ∈ locs, z.1.2.2.1 ≤ q.base)
    (kk : ∀ (H1 : Heap) (locs1 : List Loc), mm_Rel z h1 H1 → (∀ q ∈ locs1, z.1.2.2.1 ≤ q.base) → W p l e R s m args below meth c H1 locs1 (cells + mc) (slots + ms) Q (F0 m (pc + 3) ls ((match r with | none => rest | some v => v :: rest).map (mm_tr z)))) : W p l e R s m args below meth c H locs cells slots Q (F0 m pc ls st0) := by
  intro T hT X
  obtain ⟨v, st₀, t, T', L, h0, X', hL, e1, e2, ⟨hv, hRel⟩, stp⟩ := hr T hT X
  have hv : v = r.map (mm_tr z) := Outcome.returned.inj hv
  subst hv
  obtain ⟨t2, a1, b1⟩ := kk T'.heap (locs ++ L) (by rw [e1]; exact hRel) (fun q hq => by
    rcases List.mem_append.mp hq with h | h
    · exact hlo q h
    · exact hL q h) T' rfl X'
  refine ⟨t2, stp t2 ?_, b1⟩
  cases r with
  | none => exact a1
  | some v => exact a1
end SIM
end
section
/-! the classes: their words, names, types -/
def mm_tyb (d : String) : Bool := match parseFieldDescriptor d with
  | some .int => Nat.beq (mm_dc d) 0
  | some .boolean => Nat.beq (mm_dc d) 3
  | some .long => Nat.beq (mm_dc d) 1
  | some (.object _) => Nat.beq (mm_dc d) 2
  | some (.array _) => Nat.beq (mm_dc d) 2
  | _ => false
def mm_tyo (d : String) (t : FieldType) : Prop := (mm_dc d = 0 ∧ t = .int) ∨ (mm_dc d = 3 ∧ t = .boolean) ∨ (mm_dc d = 1 ∧ t = .long) ∨ (mm_dc d = 2 ∧ ((∃ n, t = .object n) ∨ ∃ u, t = .array u))
theorem mm_tyb_o {d : String} (h : mm_tyb d = true) : ∃ t, parseFieldDescriptor d = some t ∧ mm_tyo d t := by
  unfold mm_tyb at h
  split at h
  · rename_i e; exact ⟨_, e, Or.inl ⟨Nat.eq_of_beq_eq_true h, rfl⟩⟩
  · rename_i e; exact ⟨_, e, Or.inr (Or.inl ⟨Nat.eq_of_beq_eq_true h, rfl⟩)⟩
  · rename_i e; exact ⟨_, e, Or.inr (Or.inr (Or.inl ⟨Nat.eq_of_beq_eq_true h, rfl⟩))⟩
  · rename_i n e; exact ⟨_, e, Or.inr (Or.inr (Or.inr ⟨Nat.eq_of_beq_eq_true h, Or.inl ⟨n, rfl⟩⟩))⟩
  · rename_i n e; exact ⟨_, e, Or.inr (Or.inr (Or.inr ⟨Nat.eq_of_beq_eq_true h, Or.inr ⟨n, rfl⟩⟩))⟩
  · cases h
/-- what is checked of a class -/
def mm_clb (r : vw_C) (ps : List Nat) : Bool := decide (u_ws r.1 r.2.1 r.2.2 = ps.filterMap (fun i => mm_tbl[i]?)) && (u_ws r.1 r.2.1 r.2.2).all goodWord && (List.range r.2.2).all (fun k => mm_tyb (r.2.1 k).2.2.1) && (List.range r.2.2).all (fun a => (List.range r.2.2).all (fun b => Nat.beq a b || !(decide ((r.2.1 a).2.1 = (r.2.1 b).2.1))))
def mm_clo (r : vw_C) : Prop := (∀ w ∈ u_ws r.1 r.2.1 r.2.2, w ∈ mm_gT) ∧ (∀ k, k < r.2.2 → ∃ t, parseFieldDescriptor (r.2.1 k).2.2.1 = some t ∧ mm_tyo (r.2.1 k).2.2.1 t) ∧ ∀ a, a < r.2.2 → ∀ b, b < r.2.2 → a ≠ b → (r.2.1 a).2.1 ≠ (r.2.1 b).2.1
theorem mm_clb_o {r : vw_C} {ps : List Nat} (h : mm_clb r ps = true) : mm_clo r := by
  unfold mm_clb at h
  simp only [Bool.and_eq_true, decide_eq_true_eq, List.all_eq_true, List.mem_range] at h
  obtain ⟨⟨⟨h1, h2⟩, h3⟩, h4⟩ := h
  refine ⟨fun w hw => ?_, fun k hk => mm_tyb_o (h3 k hk), fun a ha b hb hne => ?_⟩
  · have g := h2 w hw
    rw [h1] at hw
    obtain ⟨i, -, hi⟩ := List.mem_filterMap.mp hw
    exact mm_inG hi g
  · have := h4 a ha b hb
    rw [Bool.or_eq_true] at this
    rcases this with q | q
    · exact absurd (Nat.eq_of_beq_eq_true q) hne
    · simpa using q
theorem mm_clo0 : mm_clo (mm_R0, mm_T0, 8) := mm_clb_o (ps := [361, 363, 365, 367, 369, 371, 373, 375]) (by decide +kernel)
theorem mm_clo1 : mm_clo (mm_R1, mm_T1, 2) := mm_clb_o (ps := [147, 149]) (by decide +kernel)
theorem mm_clo2 : mm_clo (mm_R2, mm_T2, 9) := mm_clb_o (ps := [431, 433, 417, 419, 421, 423, 425, 427, 429]) (by decide +kernel)
theorem mm_clo3 : mm_clo (mm_R3, mm_T3, 9) := mm_clb_o (ps := [551, 552, 537, 539, 541, 543, 545, 547, 549]) (by decide +kernel)
theorem mm_clo4 : mm_clo (mm_R4, mm_T4, 3) := mm_clb_o (ps := [210, 212, 214]) (by decide +kernel)
theorem mm_clo5 : mm_clo (mm_R5, mm_T5, 5) := mm_clb_o (ps := [259, 261, 263, 265, 267]) (by decide +kernel)
theorem mm_clo6 : mm_clo (mm_R6, mm_T6, 3) := mm_clb_o (ps := [235, 237, 239]) (by decide +kernel)
theorem mm_clo7 : mm_clo (mm_R7, mm_T7, 7) := mm_clb_o (ps := [172, 174, 176, 178, 180, 182, 184]) (by decide +kernel)
theorem mm_clo8 : mm_clo (mm_R8, mm_T8, 20) := mm_clb_o (ps := [478, 480, 482, 484, 486, 488, 490, 492, 494, 496, 498, 500, 502, 504, 506, 508, 510, 512, 514, 516]) (by decide +kernel)
theorem mm_clo9 : mm_clo (mm_R9, mm_T9, 13) := mm_clb_o (ps := [309, 311, 313, 315, 317, 319, 321, 323, 325, 327, 329, 331, 333]) (by decide +kernel)
theorem mm_clo10 : mm_clo (mm_R10, mm_T10, 15) := mm_clb_o (ps := [569, 571, 573, 575, 577, 579, 581, 583, 585, 587, 589, 591, 593, 595, 597]) (by decide +kernel)
theorem mm_clo11 : mm_clo (mm_R11, mm_T11, 65) := mm_clb_o (ps := [1523, 1525, 1527, 1529, 1531, 1533, 1535, 1537, 1539, 1541, 1543, 1545, 1547, 1549, 1551, 1553, 1555, 1557, 1559, 1561, 1563, 1565, 1567, 1569, 1571, 1573, 1575, 1577, 1579, 1581, 1583, 1585, 1587, 1589, 1591, 1593, 1595, 1597, 1599, 1601, 1603, 1605, 1607, 1609, 1611, 1613, 1615, 1617, 1619, 1621, 1623, 1625, 1627, 1629, 1631, 1633, 1635, 1637, 1639, 1641, 1643, 1645, 1647, 1649, 1651]) (by decide +kernel)
theorem mm_cls : ∀ (ci : Nat) (r : vw_C), mm_cl[ci]? = some r → mm_clo r := by
  intro ci r h
  match ci, h with
  | 0, h => cases h; exact mm_clo0
  | 1, h => cases h; exact mm_clo1
  | 2, h => cases h; exact mm_clo2
  | 3, h => cases h; exact mm_clo3
  | 4, h => cases h; exact mm_clo4
  | 5, h => cases h; exact mm_clo5
  | 6, h => cases h; exact mm_clo6
  | 7, h => cases h; exact mm_clo7
  | 8, h => cases h; exact mm_clo8
  | 9, h => cases h; exact mm_clo9
  | 10, h => cases h; exact mm_clo10
  | 11, h => cases h; exact mm_clo11
  | n + 12, h => simp at h
theorem mm_acI : (.arrayClass .int : Jvm.Cond) ∈ mm_gT := mm_tA_in (i := 152) (by decide +kernel)
theorem mm_acJ : (.arrayClass .long : Jvm.Cond) ∈ mm_gT := mm_tA_in (i := 217) (by decide +kernel)
theorem mm_acZ : (.arrayClass .boolean : Jvm.Cond) ∈ mm_gT := mm_tA_in (i := 1654) (by decide +kernel)
theorem mm_oi1 : (.instanceMethod Lib.objectInit : Jvm.Cond) ∈ mm_gT := mm_tA_in (i := 132) (by decide +kernel)
theorem mm_nf1 : (.native ⟨"java/lang/Float", "floatToRawIntBits", "(F)I"⟩ : Jvm.Cond) ∈ mm_gT := mm_tA_in (i := 1903) (by decide +kernel)
theorem mm_nf2 : (.static ⟨"java/lang/Float", "floatToRawIntBits", "(F)I"⟩ : Jvm.Cond) ∈ mm_gT := mm_tA_in (i := 1902) (by decide +kernel)
theorem mm_nf3 : (.initialized "java/lang/Float" : Jvm.Cond) ∈ mm_gT := mm_tA_in (i := 124) (by decide +kernel)
theorem mm_nd1 : (.native ⟨"java/lang/Double", "doubleToRawLongBits", "(D)J"⟩ : Jvm.Cond) ∈ mm_gT := mm_tA_in (i := 1919) (by decide +kernel)
theorem mm_nd2 : (.static ⟨"java/lang/Double", "doubleToRawLongBits", "(D)J"⟩ : Jvm.Cond) ∈ mm_gT := mm_tA_in (i := 1918) (by decide +kernel)
theorem mm_nd3 : (.initialized "java/lang/Double" : Jvm.Cond) ∈ mm_gT := mm_tA_in (i := 125) (by decide +kernel)
set_option maxRecDepth 100000 in
theorem mm_oi2 : (.code Lib.objectInit ⟨#[0xb1]⟩ 1 none : Jvm.Cond) ∈ mm_gT := mm_inG (i := 133) rfl rfl
end
section
/-! one instruction -/
/-- a callee's contract, as a caller needs it -/
def mm_CO (l : Launch) (R : Room) (z : mm_Z) (d n0 m0 : Nat) (h : mm_H) (m : Nat) (as : List Value) (P : mm_Q) : Prop := ∃ r h1, P r h1 ∧ hN h ≤ hN h1 ∧ hM h ≤ hM h1 ∧ hN h1 ≤ R.cells + n0 ∧ hM h1 ≤ R.slots + m0 ∧ mm_ml m ≤ 40 ∧ (m < 293 → Jvm.Cond.code (mm_yn m) (mm_yb m) (mm_ml m) (mm_yr m) ∈ mm_gT) ∧ Met l (mm_yn m) (.code (mm_yn m) (mm_yb m) (mm_ml m) (mm_yr m) :: mm_gT) { frames := d + 9, cells := hN h1 - hN h, slots := hM h1 - hM h, locals := 64 * (d + 9) } (mm_Pc z as h) (mm_Qc z r h1) (hN h1 - hN h) (hM h1 - hM h) (fun q => z.1.2.2.1 ≤ q)
/-- a return, by its instruction -/
def mm_ro (mi pc : Nat) (r : Option Value) : Prop := match r with
  | none => decode (mm_yb mi) pc = .ok (.return_, 1) ∧ mm_yr mi = none
  | some (.int v) => decode (mm_yb mi) pc = .ok (.ireturn, 1) ∧ (mm_yr mi = some .int ∨ (mm_yr mi = some .boolean ∧ (v = 0 ∨ v = 1)))
  | some (.long _) => decode (mm_yb mi) pc = .ok (.lreturn, 1) ∧ mm_yr mi = some .long
  | some (.ref _) => decode (mm_yb mi) pc = .ok (.areturn, 1) ∧ ((∃ n, mm_yr mi = some (.object n)) ∨ ∃ t, mm_yr mi = some (.array t))
  | _ => False
section STEP
variable {p : Program} {l : Launch} {e : Env} {R : Room} {s : State} {m : MethodId} {args : Array Value} {below : List Frame} {meth : Method} {c : Code} {Q : State → Prop}
variable {z : mm_Z} {mi d n0 m0 : Nat} {F : Nat → mm_Lv → List Value → mm_H → Prop} {G : Nat → List Value → mm_Q → Prop} {Qr : mm_Q}
variable {ip pc : Nat} {L : mm_Lv} {st : List Value} {h : mm_H} {H : Heap} {locs : List Loc} {ls : Array Slot} {cells slots : Nat} {x : List Nat} {v : Value} {aux : List Nat}
theorem mm_pr_get {k : Nat} {w : Value} (hk : mm_lg L k = some (some w)) : ∃ j : Nat, (mm_pr z 0 L)[j]? = some (k, mm_tr z w) := List.getElem?_of_mem ((mm_pr_mem z _ _ _ _).mpr ⟨k, w, by omega, hk, rfl⟩)
theorem mm_sI_row {h : mm_H} {a k : Nat} {v : Int32} : hN (sI h a k v) = hN h ∧ (∀ i, hK (sI h a k v) i = hK h i) ∧ (∀ i, i ≠ a → ∀ j, hI (sI h a k v) i j = hI h i j) ∧ (∀ i, i ≠ a → ∀ j, hL (sI h a k v) i j = hL h i j) ∧ (∀ i, i ≠ a → ∀ j, hR (sI h a k v) i j = hR h i j) :=
  ⟨rfl, fun _ => rfl, fun i hi j => if_neg (fun q => hi q.1), fun _ _ _ => rfl, fun _ _ _ => rfl⟩
theorem mm_sL_row {h : mm_H} {a k : Nat} {v : Int64} : hN (sL h a k v) = hN h ∧ (∀ i, hK (sL h a k v) i = hK h i) ∧ (∀ i, i ≠ a → ∀ j, hI (sL h a k v) i j = hI h i j) ∧ (∀ i, i ≠ a → ∀ j, hL (sL h a k v) i j = hL h i j) ∧ (∀ i, i ≠ a → ∀ j, hR (sL h a k v) i j = hR h i j) :=
  ⟨rfl, fun _ => rfl, fun _ _ _ => rfl, fun i hi j => if_neg (fun q => hi q.1), fun _ _ _ => rfl⟩
theorem mm_sR_row {h : mm_H} {a k v : Nat} : hN (sR h a k v) = hN h ∧ (∀ i, hK (sR h a k v) i = hK h i) ∧ (∀ i, i ≠ a → ∀ j, hI (sR h a k v) i j = hI h i j) ∧ (∀ i, i ≠ a → ∀ j, hL (sR h a k v) i j = hL h i j) ∧ (∀ i, i ≠ a → ∀ j, hR (sR h a k v) i j = hR h i j) :=
  ⟨rfl, fun _ => rfl, fun _ _ _ => rfl, fun _ _ _ => rfl, fun i hi j => if_neg (fun q => hi q.1)⟩
theorem mm_v_sI {h : mm_H} {a k j ty ty0 : Nat} {w : Int32} (ht : j = k → ty = ty0) (h0 : ty0 ≠ 1 ∧ ty0 ≠ 2) : mm_v z (sI h a k w) a ty j = if j = k then .int w else mm_v z h a ty j := by
  by_cases e : j = k
  · subst e
    rw [if_pos rfl, ht rfl]
    unfold mm_v
    rw [if_neg h0.1, if_neg h0.2]
    exact congrArg Value.int (if_pos ⟨rfl, rfl⟩)
  · rw [if_neg e]
    unfold mm_v
    have : hI (sI h a k w) a j = hI h a j := if_neg (fun q => e q.2)
    rw [this]
    rfl
theorem mm_v_sL {h : mm_H} {a k j ty : Nat} {w : Int64} (ht : j = k → ty = 1) : mm_v z (sL h a k w) a ty j = if j = k then .long w else mm_v z h a ty j := by
  by_cases e : j = k
  · subst e
    rw [if_pos rfl, ht rfl]
    unfold mm_v
    rw [if_pos rfl]
    exact congrArg Value.long (if_pos ⟨rfl, rfl⟩)
  · rw [if_neg e]
    unfold mm_v
    have : hL (sL h a k w) a j = hL h a j := if_neg (fun q => e q.2)
    rw [this]
    rfl
theorem mm_v_sR {h : mm_H} {a k j ty w : Nat} (hw : ¬ w = 0) (ht : j = k → ty = 2) : mm_v z (sR h a k w) a ty j = if j = k then .ref (mm_ad z w) else mm_v z h a ty j := by
  by_cases e : j = k
  · subst e
    rw [if_pos rfl, ht rfl]
    unfold mm_v
    have : hR (sR h a j w) a j = w := if_pos ⟨rfl, rfl⟩
    rw [if_neg (by decide), if_pos rfl, this, if_neg hw]
  · rw [if_neg e]
    unfold mm_v
    have : hR (sR h a k w) a j = hR h a j := if_neg (fun q => e q.2)
    rw [this]
    rfl
/-- what a checked field is -/
theorem mm_ckF_o {own : String} {idx k ty pp q ci : Nat} (hc : mm_ckF own idx k ty pp q ci = true) : ∃ C T N ref, mm_cl[ci]? = some (C, T, N) ∧ ci < 12 ∧ k < N ∧ mm_dc (T k).2.2.1 = ty ∧ Jvm.Cond.fieldLink own idx ref (T k).2.1 (T k).2.2.1 ∈ mm_gT ∧ ((T k).1 = ref ∨ Jvm.Cond.sameField ref (T k).1 (T k).2.1 (T k).2.2.1 ∈ mm_gT) := by
  unfold mm_ckF at hc
  split at hc
  · rename_i o i r n dd C T N h1 h2
    simp only [Bool.and_eq_true, Bool.or_eq_true, decide_eq_true_eq] at hc
    obtain ⟨⟨⟨⟨⟨⟨⟨⟨e1, e2⟩, e3⟩, e4⟩, e5⟩, e6⟩, e7⟩, e8⟩, e9⟩ := hc
    have e2 := Nat.eq_of_beq_eq_true e2
    have e6 := Nat.eq_of_beq_eq_true e6
    subst e1; subst e2; subst e4; subst e5
    refine ⟨C, T, N, r, h2, by simpa using e9, by simpa using e3, e6, List.mem_filter.mpr ⟨List.mem_of_getElem? h1, e8⟩, ?_⟩
    rcases e7 with e7 | e7
    · exact Or.inl e7
    · exact Or.inr (mm_tA_in e7)
  · cases hc
theorem mm_kd_mem {k : Nat} : ∀ {ks : List Nat}, mm_kd k ks → k ∈ ks
  | [], h => h.elim
  | [c], h => by have : k = c := h; subst this; exact List.mem_cons_self
  | c :: d :: r, h => by
    have h : k = c ∨ mm_kd k (d :: r) := h
    rcases h with h | h
    · subst h; exact List.mem_cons_self
    · exact List.mem_cons_of_mem _ (mm_kd_mem h)
theorem mm_p_iload_n {k : Fin 4} (hF : mm_Fr p R s m args meth c z mi d) (hl : lv_has ls (mm_ml mi) (mm_pr z 0 L)) (hRl : mm_Rel z h H) (hlo : ∀ q ∈ locs, z.1.2.2.1 ≤ q.base) (hce : cells + n0 = hN h) (hsl : slots + m0 = hM h) (ck : mm_ck mi ip (.iload_n k) pc x v aux = true) (HO : mm_oW (mm_s1 (.iload_n k) x v ip L st h) F G ip L h Qr) (K : mm_KN p l e R s m args below meth c Q z mi n0 m0 F) : W p l e R s m args below meth c H locs cells slots Q (F0 m pc ls (st.map (mm_tr z))) := by
  obtain ⟨hx, hb, hml, hown, hts, hFN, hini, hfr, hlc, h40⟩ := id hF
  simp only [mm_ck, Bool.and_eq_true] at ck
  obtain ⟨c1, c2⟩ := ck
  obtain ⟨hd, hp⟩ := mm_d_dec c2
  replace HO : mm_oW (mm_ldI x ip L st h) F G ip L h Qr := HO
  unfold mm_ldI at HO
  split at HO
  · rename_i v hv
    have HF : F (ip + 1) L (.int v :: st) h := HO
    exact lv_iload_n hx hb hd (Nat.eq_of_beq_eq_true c1).symm (mm_s_ld hl hv) (K _ _ _ _ _ _ _ _ _ _ HF hp hRl hl hlo hce hsl)
  · exact HO.elim
theorem mm_p_iload {k : Nat} (hF : mm_Fr p R s m args meth c z mi d) (hl : lv_has ls (mm_ml mi) (mm_pr z 0 L)) (hRl : mm_Rel z h H) (hlo : ∀ q ∈ locs, z.1.2.2.1 ≤ q.base) (hce : cells + n0 = hN h) (hsl : slots + m0 = hM h) (ck : mm_ck mi ip (.iload k) pc x v aux = true) (HO : mm_oW (mm_s1 (.iload k) x v ip L st h) F G ip L h Qr) (K : mm_KN p l e R s m args below meth c Q z mi n0 m0 F) : W p l e R s m args below meth c H locs cells slots Q (F0 m pc ls (st.map (mm_tr z))) := by
  obtain ⟨hx, hb, hml, hown, hts, hFN, hini, hfr, hlc, h40⟩ := id hF
  simp only [mm_ck, Bool.and_eq_true] at ck
  obtain ⟨c1, c2⟩ := ck
  obtain ⟨hd, hp⟩ := mm_d_dec c2
  replace HO : mm_oW (mm_ldI x ip L st h) F G ip L h Qr := HO
  unfold mm_ldI at HO
  split at HO
  · rename_i v hv
    have HF : F (ip + 1) L (.int v :: st) h := HO
    rw [Nat.eq_of_beq_eq_true c1] at hv
    exact lv_iload hx hb hd (mm_s_ld hl hv) (K _ _ _ _ _ _ _ _ _ _ HF hp hRl hl hlo hce hsl)
  · exact HO.elim
theorem mm_p_lload_n {k : Fin 4} (hF : mm_Fr p R s m args meth c z mi d) (hl : lv_has ls (mm_ml mi) (mm_pr z 0 L)) (hRl : mm_Rel z h H) (hlo : ∀ q ∈ locs, z.1.2.2.1 ≤ q.base) (hce : cells + n0 = hN h) (hsl : slots + m0 = hM h) (ck : mm_ck mi ip (.lload_n k) pc x v aux = true) (HO : mm_oW (mm_s1 (.lload_n k) x v ip L st h) F G ip L h Qr) (K : mm_KN p l e R s m args below meth c Q z mi n0 m0 F) : W p l e R s m args below meth c H locs cells slots Q (F0 m pc ls (st.map (mm_tr z))) := by
  obtain ⟨hx, hb, hml, hown, hts, hFN, hini, hfr, hlc, h40⟩ := id hF
  simp only [mm_ck, Bool.and_eq_true] at ck
  obtain ⟨c1, c2⟩ := ck
  obtain ⟨hd, hp⟩ := mm_d_dec c2
  replace HO : mm_oW (mm_ldL x ip L st h) F G ip L h Qr := HO
  unfold mm_ldL at HO
  split at HO
  · rename_i v hv
    have HF : F (ip + 1) L (.long v :: st) h := HO
    exact lv_lload_n hx hb hd (Nat.eq_of_beq_eq_true c1).symm (mm_s_ld hl hv) (K _ _ _ _ _ _ _ _ _ _ HF hp hRl hl hlo hce hsl)
  · exact HO.elim
theorem mm_p_lload {k : Nat} (hF : mm_Fr p R s m args meth c z mi d) (hl : lv_has ls (mm_ml mi) (mm_pr z 0 L)) (hRl : mm_Rel z h H) (hlo : ∀ q ∈ locs, z.1.2.2.1 ≤ q.base) (hce : cells + n0 = hN h) (hsl : slots + m0 = hM h) (ck : mm_ck mi ip (.lload k) pc x v aux = true) (HO : mm_oW (mm_s1 (.lload k) x v ip L st h) F G ip L h Qr) (K : mm_KN p l e R s m args below meth c Q z mi n0 m0 F) : W p l e R s m args below meth c H locs cells slots Q (F0 m pc ls (st.map (mm_tr z))) := by
  obtain ⟨hx, hb, hml, hown, hts, hFN, hini, hfr, hlc, h40⟩ := id hF
  simp only [mm_ck, Bool.and_eq_true] at ck
  obtain ⟨c1, c2⟩ := ck
  obtain ⟨hd, hp⟩ := mm_d_dec c2
  replace HO : mm_oW (mm_ldL x ip L st h) F G ip L h Qr := HO
  unfold mm_ldL at HO
  split at HO
  · rename_i v hv
    have HF : F (ip + 1) L (.long v :: st) h := HO
    rw [Nat.eq_of_beq_eq_true c1] at hv
    exact lv_lload hx hb hd (mm_s_ld hl hv) (K _ _ _ _ _ _ _ _ _ _ HF hp hRl hl hlo hce hsl)
  · exact HO.elim
theorem mm_p_aload_n {k : Fin 4} (hF : mm_Fr p R s m args meth c z mi d) (hl : lv_has ls (mm_ml mi) (mm_pr z 0 L)) (hRl : mm_Rel z h H) (hlo : ∀ q ∈ locs, z.1.2.2.1 ≤ q.base) (hce : cells + n0 = hN h) (hsl : slots + m0 = hM h) (ck : mm_ck mi ip (.aload_n k) pc x v aux = true) (HO : mm_oW (mm_s1 (.aload_n k) x v ip L st h) F G ip L h Qr) (K : mm_KN p l e R s m args below meth c Q z mi n0 m0 F) : W p l e R s m args below meth c H locs cells slots Q (F0 m pc ls (st.map (mm_tr z))) := by
  obtain ⟨hx, hb, hml, hown, hts, hFN, hini, hfr, hlc, h40⟩ := id hF
  simp only [mm_ck, Bool.and_eq_true] at ck
  obtain ⟨c1, c2⟩ := ck
  obtain ⟨hd, hp⟩ := mm_d_dec c2
  replace HO : mm_oW (mm_ldA x ip L st h) F G ip L h Qr := HO
  unfold mm_ldA at HO
  split at HO
  · rename_i v hv
    have HF : F (ip + 1) L (.ref v :: st) h := HO
    exact lv_aload_n hx hb hd (Nat.eq_of_beq_eq_true c1).symm (mm_s_ld hl hv) (K _ _ _ _ _ _ _ _ _ _ HF hp hRl hl hlo hce hsl)
  · exact HO.elim
theorem mm_p_aload {k : Nat} (hF : mm_Fr p R s m args meth c z mi d) (hl : lv_has ls (mm_ml mi) (mm_pr z 0 L)) (hRl : mm_Rel z h H) (hlo : ∀ q ∈ locs, z.1.2.2.1 ≤ q.base) (hce : cells + n0 = hN h) (hsl : slots + m0 = hM h) (ck : mm_ck mi ip (.aload k) pc x v aux = true) (HO : mm_oW (mm_s1 (.aload k) x v ip L st h) F G ip L h Qr) (K : mm_KN p l e R s m args below meth c Q z mi n0 m0 F) : W p l e R s m args below meth c H locs cells slots Q (F0 m pc ls (st.map (mm_tr z))) := by
  obtain ⟨hx, hb, hml, hown, hts, hFN, hini, hfr, hlc, h40⟩ := id hF
  simp only [mm_ck, Bool.and_eq_true] at ck
  obtain ⟨c1, c2⟩ := ck
  obtain ⟨hd, hp⟩ := mm_d_dec c2
  replace HO : mm_oW (mm_ldA x ip L st h) F G ip L h Qr := HO
  unfold mm_ldA at HO
  split at HO
  · rename_i v hv
    have HF : F (ip + 1) L (.ref v :: st) h := HO
    rw [Nat.eq_of_beq_eq_true c1] at hv
    exact lv_aload hx hb hd (mm_s_ld hl hv) (K _ _ _ _ _ _ _ _ _ _ HF hp hRl hl hlo hce hsl)
  · exact HO.elim
theorem mm_p_fload_n {k : Fin 4} (hF : mm_Fr p R s m args meth c z mi d) (hl : lv_has ls (mm_ml mi) (mm_pr z 0 L)) (hRl : mm_Rel z h H) (hlo : ∀ q ∈ locs, z.1.2.2.1 ≤ q.base) (hce : cells + n0 = hN h) (hsl : slots + m0 = hM h) (ck : mm_ck mi ip (.fload_n k) pc x v aux = true) (HO : mm_oW (mm_s1 (.fload_n k) x v ip L st h) F G ip L h Qr) (K : mm_KN p l e R s m args below meth c Q z mi n0 m0 F) : W p l e R s m args below meth c H locs cells slots Q (F0 m pc ls (st.map (mm_tr z))) := by
  obtain ⟨hx, hb, hml, hown, hts, hFN, hini, hfr, hlc, h40⟩ := id hF
  simp only [mm_ck, Bool.and_eq_true] at ck
  obtain ⟨c1, c2⟩ := ck
  obtain ⟨hd, hp⟩ := mm_d_dec c2
  replace HO : mm_oW (mm_ldF x ip L st h) F G ip L h Qr := HO
  unfold mm_ldF at HO
  split at HO
  · rename_i v hv
    have HF : F (ip + 1) L (.float v :: st) h := HO
    exact lv_fload_n hx hb hd (Nat.eq_of_beq_eq_true c1).symm (mm_s_ld hl hv) (K _ _ _ _ _ _ _ _ _ _ HF hp hRl hl hlo hce hsl)
  · exact HO.elim
theorem mm_p_dload_n {k : Fin 4} (hF : mm_Fr p R s m args meth c z mi d) (hl : lv_has ls (mm_ml mi) (mm_pr z 0 L)) (hRl : mm_Rel z h H) (hlo : ∀ q ∈ locs, z.1.2.2.1 ≤ q.base) (hce : cells + n0 = hN h) (hsl : slots + m0 = hM h) (ck : mm_ck mi ip (.dload_n k) pc x v aux = true) (HO : mm_oW (mm_s1 (.dload_n k) x v ip L st h) F G ip L h Qr) (K : mm_KN p l e R s m args below meth c Q z mi n0 m0 F) : W p l e R s m args below meth c H locs cells slots Q (F0 m pc ls (st.map (mm_tr z))) := by
  obtain ⟨hx, hb, hml, hown, hts, hFN, hini, hfr, hlc, h40⟩ := id hF
  simp only [mm_ck, Bool.and_eq_true] at ck
  obtain ⟨c1, c2⟩ := ck
  obtain ⟨hd, hp⟩ := mm_d_dec c2
  replace HO : mm_oW (mm_ldD x ip L st h) F G ip L h Qr := HO
  unfold mm_ldD at HO
  split at HO
  · rename_i v hv
    have HF : F (ip + 1) L (.double v :: st) h := HO
    exact lv_dload_n hx hb hd (Nat.eq_of_beq_eq_true c1).symm (mm_s_ld hl hv) (K _ _ _ _ _ _ _ _ _ _ HF hp hRl hl hlo hce hsl)
  · exact HO.elim
theorem mm_p_istore_n {k : Fin 4} (hF : mm_Fr p R s m args meth c z mi d) (hl : lv_has ls (mm_ml mi) (mm_pr z 0 L)) (hRl : mm_Rel z h H) (hlo : ∀ q ∈ locs, z.1.2.2.1 ≤ q.base) (hce : cells + n0 = hN h) (hsl : slots + m0 = hM h) (ck : mm_ck mi ip (.istore_n k) pc x v aux = true) (HO : mm_oW (mm_s1 (.istore_n k) x v ip L st h) F G ip L h Qr) (K : mm_KN p l e R s m args below meth c Q z mi n0 m0 F) : W p l e R s m args below meth c H locs cells slots Q (F0 m pc ls (st.map (mm_tr z))) := by
  obtain ⟨hx, hb, hml, hown, hts, hFN, hini, hfr, hlc, h40⟩ := id hF
  simp only [mm_ck, Bool.and_eq_true] at ck
  obtain ⟨⟨c1, c2⟩, c3⟩ := ck
  obtain ⟨hd, hp⟩ := mm_d_dec c2
  have c1 := Nat.eq_of_beq_eq_true c1
  have c3 : mm_x0 x < mm_ml mi := by simpa using c3
  replace HO : mm_oW (mm_stI x ip L st h) F G ip L h Qr := HO
  unfold mm_stI at HO
  split at HO
  · rename_i w r
    have HF : F (ip + 1) (mm_st L (mm_x0 x) (.int w)) r h := HO
    skip
    exact lv_istore_n hx hb hd c1.symm hl c3 rfl (fun ls' hl' => K _ _ _ _ _ _ _ _ _ _ HF hp hRl (mm_has_st1 rfl hl') hlo hce hsl)
  · exact HO.elim
theorem mm_p_istore {k : Nat} (hF : mm_Fr p R s m args meth c z mi d) (hl : lv_has ls (mm_ml mi) (mm_pr z 0 L)) (hRl : mm_Rel z h H) (hlo : ∀ q ∈ locs, z.1.2.2.1 ≤ q.base) (hce : cells + n0 = hN h) (hsl : slots + m0 = hM h) (ck : mm_ck mi ip (.istore k) pc x v aux = true) (HO : mm_oW (mm_s1 (.istore k) x v ip L st h) F G ip L h Qr) (K : mm_KN p l e R s m args below meth c Q z mi n0 m0 F) : W p l e R s m args below meth c H locs cells slots Q (F0 m pc ls (st.map (mm_tr z))) := by
  obtain ⟨hx, hb, hml, hown, hts, hFN, hini, hfr, hlc, h40⟩ := id hF
  simp only [mm_ck, Bool.and_eq_true] at ck
  obtain ⟨⟨c1, c2⟩, c3⟩ := ck
  obtain ⟨hd, hp⟩ := mm_d_dec c2
  have c1 := Nat.eq_of_beq_eq_true c1
  have c3 : mm_x0 x < mm_ml mi := by simpa using c3
  replace HO : mm_oW (mm_stI x ip L st h) F G ip L h Qr := HO
  unfold mm_stI at HO
  split at HO
  · rename_i w r
    have HF : F (ip + 1) (mm_st L (mm_x0 x) (.int w)) r h := HO
    rw [← c1] at hd
    exact lv_istore hx hb hd hl c3 rfl (fun ls' hl' => K _ _ _ _ _ _ _ _ _ _ HF hp hRl (mm_has_st1 rfl hl') hlo hce hsl)
  · exact HO.elim
theorem mm_p_lstore_n {k : Fin 4} (hF : mm_Fr p R s m args meth c z mi d) (hl : lv_has ls (mm_ml mi) (mm_pr z 0 L)) (hRl : mm_Rel z h H) (hlo : ∀ q ∈ locs, z.1.2.2.1 ≤ q.base) (hce : cells + n0 = hN h) (hsl : slots + m0 = hM h) (ck : mm_ck mi ip (.lstore_n k) pc x v aux = true) (HO : mm_oW (mm_s1 (.lstore_n k) x v ip L st h) F G ip L h Qr) (K : mm_KN p l e R s m args below meth c Q z mi n0 m0 F) : W p l e R s m args below meth c H locs cells slots Q (F0 m pc ls (st.map (mm_tr z))) := by
  obtain ⟨hx, hb, hml, hown, hts, hFN, hini, hfr, hlc, h40⟩ := id hF
  simp only [mm_ck, Bool.and_eq_true] at ck
  obtain ⟨⟨c1, c2⟩, c3⟩ := ck
  obtain ⟨hd, hp⟩ := mm_d_dec c2
  have c1 := Nat.eq_of_beq_eq_true c1
  have c3 : mm_x0 x + 1 < mm_ml mi := by simpa using c3
  replace HO : mm_oW (mm_stL x ip L st h) F G ip L h Qr := HO
  unfold mm_stL at HO
  split at HO
  · rename_i w r
    have HF : F (ip + 1) (mm_st L (mm_x0 x) (.long w)) r h := HO
    skip
    exact lv_lstore_n hx hb hd c1.symm hl c3 rfl (fun ls' hl' => K _ _ _ _ _ _ _ _ _ _ HF hp hRl (mm_has_st2 rfl hl') hlo hce hsl)
  · exact HO.elim
theorem mm_p_lstore {k : Nat} (hF : mm_Fr p R s m args meth c z mi d) (hl : lv_has ls (mm_ml mi) (mm_pr z 0 L)) (hRl : mm_Rel z h H) (hlo : ∀ q ∈ locs, z.1.2.2.1 ≤ q.base) (hce : cells + n0 = hN h) (hsl : slots + m0 = hM h) (ck : mm_ck mi ip (.lstore k) pc x v aux = true) (HO : mm_oW (mm_s1 (.lstore k) x v ip L st h) F G ip L h Qr) (K : mm_KN p l e R s m args below meth c Q z mi n0 m0 F) : W p l e R s m args below meth c H locs cells slots Q (F0 m pc ls (st.map (mm_tr z))) := by
  obtain ⟨hx, hb, hml, hown, hts, hFN, hini, hfr, hlc, h40⟩ := id hF
  simp only [mm_ck, Bool.and_eq_true] at ck
  obtain ⟨⟨c1, c2⟩, c3⟩ := ck
  obtain ⟨hd, hp⟩ := mm_d_dec c2
  have c1 := Nat.eq_of_beq_eq_true c1
  have c3 : mm_x0 x + 1 < mm_ml mi := by simpa using c3
  replace HO : mm_oW (mm_stL x ip L st h) F G ip L h Qr := HO
  unfold mm_stL at HO
  split at HO
  · rename_i w r
    have HF : F (ip + 1) (mm_st L (mm_x0 x) (.long w)) r h := HO
    rw [← c1] at hd
    exact lv_lstore hx hb hd hl c3 rfl (fun ls' hl' => K _ _ _ _ _ _ _ _ _ _ HF hp hRl (mm_has_st2 rfl hl') hlo hce hsl)
  · exact HO.elim
theorem mm_p_astore_n {k : Fin 4} (hF : mm_Fr p R s m args meth c z mi d) (hl : lv_has ls (mm_ml mi) (mm_pr z 0 L)) (hRl : mm_Rel z h H) (hlo : ∀ q ∈ locs, z.1.2.2.1 ≤ q.base) (hce : cells + n0 = hN h) (hsl : slots + m0 = hM h) (ck : mm_ck mi ip (.astore_n k) pc x v aux = true) (HO : mm_oW (mm_s1 (.astore_n k) x v ip L st h) F G ip L h Qr) (K : mm_KN p l e R s m args below meth c Q z mi n0 m0 F) : W p l e R s m args below meth c H locs cells slots Q (F0 m pc ls (st.map (mm_tr z))) := by
  obtain ⟨hx, hb, hml, hown, hts, hFN, hini, hfr, hlc, h40⟩ := id hF
  simp only [mm_ck, Bool.and_eq_true] at ck
  obtain ⟨⟨c1, c2⟩, c3⟩ := ck
  obtain ⟨hd, hp⟩ := mm_d_dec c2
  have c1 := Nat.eq_of_beq_eq_true c1
  have c3 : mm_x0 x < mm_ml mi := by simpa using c3
  replace HO : mm_oW (mm_stA x ip L st h) F G ip L h Qr := HO
  unfold mm_stA at HO
  split at HO
  · rename_i w r
    have HF : F (ip + 1) (mm_st L (mm_x0 x) (.ref w)) r h := HO
    skip
    exact lv_astore_n hx hb hd c1.symm hl c3 rfl (fun ls' hl' => K _ _ _ _ _ _ _ _ _ _ HF hp hRl (mm_has_st1 rfl hl') hlo hce hsl)
  · exact HO.elim
theorem mm_p_fstore_n {k : Fin 4} (hF : mm_Fr p R s m args meth c z mi d) (hl : lv_has ls (mm_ml mi) (mm_pr z 0 L)) (hRl : mm_Rel z h H) (hlo : ∀ q ∈ locs, z.1.2.2.1 ≤ q.base) (hce : cells + n0 = hN h) (hsl : slots + m0 = hM h) (ck : mm_ck mi ip (.fstore_n k) pc x v aux = true) (HO : mm_oW (mm_s1 (.fstore_n k) x v ip L st h) F G ip L h Qr) (K : mm_KN p l e R s m args below meth c Q z mi n0 m0 F) : W p l e R s m args below meth c H locs cells slots Q (F0 m pc ls (st.map (mm_tr z))) := by
  obtain ⟨hx, hb, hml, hown, hts, hFN, hini, hfr, hlc, h40⟩ := id hF
  simp only [mm_ck, Bool.and_eq_true] at ck
  obtain ⟨⟨c1, c2⟩, c3⟩ := ck
  obtain ⟨hd, hp⟩ := mm_d_dec c2
  have c1 := Nat.eq_of_beq_eq_true c1
  have c3 : mm_x0 x < mm_ml mi := by simpa using c3
  replace HO : mm_oW (mm_stF x ip L st h) F G ip L h Qr := HO
  unfold mm_stF at HO
  split at HO
  · rename_i w r
    have HF : F (ip + 1) (mm_st L (mm_x0 x) (.float w)) r h := HO
    skip
    exact lv_fstore_n hx hb hd c1.symm hl c3 rfl (fun ls' hl' => K _ _ _ _ _ _ _ _ _ _ HF hp hRl (mm_has_st1 rfl hl') hlo hce hsl)
  · exact HO.elim
theorem mm_p_dstore_n {k : Fin 4} (hF : mm_Fr p R s m args meth c z mi d) (hl : lv_has ls (mm_ml mi) (mm_pr z 0 L)) (hRl : mm_Rel z h H) (hlo : ∀ q ∈ locs, z.1.2.2.1 ≤ q.base) (hce : cells + n0 = hN h) (hsl : slots + m0 = hM h) (ck : mm_ck mi ip (.dstore_n k) pc x v aux = true) (HO : mm_oW (mm_s1 (.dstore_n k) x v ip L st h) F G ip L h Qr) (K : mm_KN p l e R s m args below meth c Q z mi n0 m0 F) : W p l e R s m args below meth c H locs cells slots Q (F0 m pc ls (st.map (mm_tr z))) := by
  obtain ⟨hx, hb, hml, hown, hts, hFN, hini, hfr, hlc, h40⟩ := id hF
  simp only [mm_ck, Bool.and_eq_true] at ck
  obtain ⟨⟨c1, c2⟩, c3⟩ := ck
  obtain ⟨hd, hp⟩ := mm_d_dec c2
  have c1 := Nat.eq_of_beq_eq_true c1
  have c3 : mm_x0 x + 1 < mm_ml mi := by simpa using c3
  replace HO : mm_oW (mm_stD x ip L st h) F G ip L h Qr := HO
  unfold mm_stD at HO
  split at HO
  · rename_i w r
    have HF : F (ip + 1) (mm_st L (mm_x0 x) (.double w)) r h := HO
    skip
    exact lv_dstore_n hx hb hd c1.symm hl c3 rfl (fun ls' hl' => K _ _ _ _ _ _ _ _ _ _ HF hp hRl (mm_has_st2 rfl hl') hlo hce hsl)
  · exact HO.elim
theorem mm_p_iinc {k : Nat} {n : Int} (hF : mm_Fr p R s m args meth c z mi d) (hl : lv_has ls (mm_ml mi) (mm_pr z 0 L)) (hRl : mm_Rel z h H) (hlo : ∀ q ∈ locs, z.1.2.2.1 ≤ q.base) (hce : cells + n0 = hN h) (hsl : slots + m0 = hM h) (ck : mm_ck mi ip (.iinc k n) pc x v aux = true) (HO : mm_oW (mm_s1 (.iinc k n) x v ip L st h) F G ip L h Qr) (K : mm_KN p l e R s m args below meth c Q z mi n0 m0 F) : W p l e R s m args below meth c H locs cells slots Q (F0 m pc ls (st.map (mm_tr z))) := by
  obtain ⟨hx, hb, hml, hown, hts, hFN, hini, hfr, hlc, h40⟩ := id hF
  simp only [mm_ck, Bool.and_eq_true, decide_eq_true_eq] at ck
  obtain ⟨⟨⟨c1, c2⟩, c3⟩, c4⟩ := ck
  obtain ⟨hd, hp⟩ := mm_d_dec c3
  have c1 := Nat.eq_of_beq_eq_true c1
  have c4 : mm_x0 x < mm_ml mi := by simpa using c4
  subst c2
  replace HO : mm_oW (mm_inc x (.int (Int32.ofInt n)) ip L st h) F G ip L h Qr := HO
  unfold mm_inc at HO
  dsimp only at HO
  split at HO
  · rename_i w hv
    have HF : F (ip + 1) (mm_st L (mm_x0 x) (.int (w + Int32.ofInt n))) st h := HO
    rw [← c1] at hd
    obtain ⟨j, hj⟩ := mm_pr_get (z := z) hv
    exact lv_iinc hx hb hd hl hj rfl c4 rfl (fun ls' hl' => K _ _ _ _ _ _ _ _ _ _ HF hp hRl (mm_has_st1 rfl hl') hlo hce hsl)
  · exact HO.elim
theorem mm_p_iconst {n : Int} (hF : mm_Fr p R s m args meth c z mi d) (hl : lv_has ls (mm_ml mi) (mm_pr z 0 L)) (hRl : mm_Rel z h H) (hlo : ∀ q ∈ locs, z.1.2.2.1 ≤ q.base) (hce : cells + n0 = hN h) (hsl : slots + m0 = hM h) (ck : mm_ck mi ip (.iconst n) pc x v aux = true) (HO : mm_oW (mm_s1 (.iconst n) x v ip L st h) F G ip L h Qr) (K : mm_KN p l e R s m args below meth c Q z mi n0 m0 F) : W p l e R s m args below meth c H locs cells slots Q (F0 m pc ls (st.map (mm_tr z))) := by
  obtain ⟨hx, hb, hml, hown, hts, hFN, hini, hfr, hlc, h40⟩ := id hF
  simp only [mm_ck, Bool.and_eq_true, decide_eq_true_eq] at ck
  obtain ⟨c1, c2⟩ := ck
  obtain ⟨hd, hp⟩ := mm_d_dec c2
  subst c1
  have HF : F (ip + 1) L (_ :: st) h := HO
  exact lv_iconst hx hb hd rfl (K _ _ _ _ _ _ _ _ _ _ HF hp hRl hl hlo hce hsl)
theorem mm_p_bipush {n : Int} (hF : mm_Fr p R s m args meth c z mi d) (hl : lv_has ls (mm_ml mi) (mm_pr z 0 L)) (hRl : mm_Rel z h H) (hlo : ∀ q ∈ locs, z.1.2.2.1 ≤ q.base) (hce : cells + n0 = hN h) (hsl : slots + m0 = hM h) (ck : mm_ck mi ip (.bipush n) pc x v aux = true) (HO : mm_oW (mm_s1 (.bipush n) x v ip L st h) F G ip L h Qr) (K : mm_KN p l e R s m args below meth c Q z mi n0 m0 F) : W p l e R s m args below meth c H locs cells slots Q (F0 m pc ls (st.map (mm_tr z))) := by
  obtain ⟨hx, hb, hml, hown, hts, hFN, hini, hfr, hlc, h40⟩ := id hF
  simp only [mm_ck, Bool.and_eq_true, decide_eq_true_eq] at ck
  obtain ⟨c1, c2⟩ := ck
  obtain ⟨hd, hp⟩ := mm_d_dec c2
  subst c1
  have HF : F (ip + 1) L (_ :: st) h := HO
  exact lv_bipush hx hb hd rfl (K _ _ _ _ _ _ _ _ _ _ HF hp hRl hl hlo hce hsl)
theorem mm_p_sipush {n : Int} (hF : mm_Fr p R s m args meth c z mi d) (hl : lv_has ls (mm_ml mi) (mm_pr z 0 L)) (hRl : mm_Rel z h H) (hlo : ∀ q ∈ locs, z.1.2.2.1 ≤ q.base) (hce : cells + n0 = hN h) (hsl : slots + m0 = hM h) (ck : mm_ck mi ip (.sipush n) pc x v aux = true) (HO : mm_oW (mm_s1 (.sipush n) x v ip L st h) F G ip L h Qr) (K : mm_KN p l e R s m args below meth c Q z mi n0 m0 F) : W p l e R s m args below meth c H locs cells slots Q (F0 m pc ls (st.map (mm_tr z))) := by
  obtain ⟨hx, hb, hml, hown, hts, hFN, hini, hfr, hlc, h40⟩ := id hF
  simp only [mm_ck, Bool.and_eq_true, decide_eq_true_eq] at ck
  obtain ⟨c1, c2⟩ := ck
  obtain ⟨hd, hp⟩ := mm_d_dec c2
  subst c1
  have HF : F (ip + 1) L (_ :: st) h := HO
  exact lv_sipush hx hb hd rfl (K _ _ _ _ _ _ _ _ _ _ HF hp hRl hl hlo hce hsl)
theorem mm_p_lconst {n : Fin 2} (hF : mm_Fr p R s m args meth c z mi d) (hl : lv_has ls (mm_ml mi) (mm_pr z 0 L)) (hRl : mm_Rel z h H) (hlo : ∀ q ∈ locs, z.1.2.2.1 ≤ q.base) (hce : cells + n0 = hN h) (hsl : slots + m0 = hM h) (ck : mm_ck mi ip (.lconst n) pc x v aux = true) (HO : mm_oW (mm_s1 (.lconst n) x v ip L st h) F G ip L h Qr) (K : mm_KN p l e R s m args below meth c Q z mi n0 m0 F) : W p l e R s m args below meth c H locs cells slots Q (F0 m pc ls (st.map (mm_tr z))) := by
  obtain ⟨hx, hb, hml, hown, hts, hFN, hini, hfr, hlc, h40⟩ := id hF
  simp only [mm_ck, Bool.and_eq_true, decide_eq_true_eq] at ck
  obtain ⟨c1, c2⟩ := ck
  obtain ⟨hd, hp⟩ := mm_d_dec c2
  subst c1
  have HF : F (ip + 1) L (_ :: st) h := HO
  exact lv_lconst hx hb hd rfl (K _ _ _ _ _ _ _ _ _ _ HF hp hRl hl hlo hce hsl)
theorem mm_p_fconst {n : Fin 3} (hF : mm_Fr p R s m args meth c z mi d) (hl : lv_has ls (mm_ml mi) (mm_pr z 0 L)) (hRl : mm_Rel z h H) (hlo : ∀ q ∈ locs, z.1.2.2.1 ≤ q.base) (hce : cells + n0 = hN h) (hsl : slots + m0 = hM h) (ck : mm_ck mi ip (.fconst n) pc x v aux = true) (HO : mm_oW (mm_s1 (.fconst n) x v ip L st h) F G ip L h Qr) (K : mm_KN p l e R s m args below meth c Q z mi n0 m0 F) : W p l e R s m args below meth c H locs cells slots Q (F0 m pc ls (st.map (mm_tr z))) := by
  obtain ⟨hx, hb, hml, hown, hts, hFN, hini, hfr, hlc, h40⟩ := id hF
  simp only [mm_ck, Bool.and_eq_true, decide_eq_true_eq] at ck
  obtain ⟨⟨c1, c3⟩, c2⟩ := ck
  obtain ⟨hd, hp⟩ := mm_d_dec c2
  subst c1; subst c3
  have HF : F (ip + 1) L (_ :: st) h := HO
  exact lv_fconst0 hx hb hd (K _ _ _ _ _ _ _ _ _ _ HF hp hRl hl hlo hce hsl)
theorem mm_p_dconst {n : Fin 2} (hF : mm_Fr p R s m args meth c z mi d) (hl : lv_has ls (mm_ml mi) (mm_pr z 0 L)) (hRl : mm_Rel z h H) (hlo : ∀ q ∈ locs, z.1.2.2.1 ≤ q.base) (hce : cells + n0 = hN h) (hsl : slots + m0 = hM h) (ck : mm_ck mi ip (.dconst n) pc x v aux = true) (HO : mm_oW (mm_s1 (.dconst n) x v ip L st h) F G ip L h Qr) (K : mm_KN p l e R s m args below meth c Q z mi n0 m0 F) : W p l e R s m args below meth c H locs cells slots Q (F0 m pc ls (st.map (mm_tr z))) := by
  obtain ⟨hx, hb, hml, hown, hts, hFN, hini, hfr, hlc, h40⟩ := id hF
  simp only [mm_ck, Bool.and_eq_true, Bool.or_eq_true, decide_eq_true_eq] at ck
  obtain ⟨c1, c2⟩ := ck
  obtain ⟨hd, hp⟩ := mm_d_dec c2
  have HF : F (ip + 1) L (v :: st) h := HO
  rcases c1 with ⟨c1, c3⟩ | ⟨c1, c3⟩
  · subst c1; subst c3
    exact lv_dconst0 hx hb hd (K _ _ _ _ _ _ _ _ _ _ HF hp hRl hl hlo hce hsl)
  · subst c1; subst c3
    exact lv_dconst1 hx hb hd (K _ _ _ _ _ _ _ _ _ _ HF hp hRl hl hlo hce hsl)
theorem mm_p_ldc {i : Nat} (hF : mm_Fr p R s m args meth c z mi d) (hl : lv_has ls (mm_ml mi) (mm_pr z 0 L)) (hRl : mm_Rel z h H) (hlo : ∀ q ∈ locs, z.1.2.2.1 ≤ q.base) (hce : cells + n0 = hN h) (hsl : slots + m0 = hM h) (ck : mm_ck mi ip (.ldc i) pc x v aux = true) (HO : mm_oW (mm_s1 (.ldc i) x v ip L st h) F G ip L h Qr) (K : mm_KN p l e R s m args below meth c Q z mi n0 m0 F) : W p l e R s m args below meth c H locs cells slots Q (F0 m pc ls (st.map (mm_tr z))) := by
  obtain ⟨hx, hb, hml, hown, hts, hFN, hini, hfr, hlc, h40⟩ := id hF
  simp only [mm_ck, Bool.and_eq_true] at ck
  obtain ⟨c1, c2⟩ := ck
  obtain ⟨hd, hp⟩ := mm_d_dec c2
  have HF : F (ip + 1) L (v :: st) h := HO
  split at c1
  · exact lv_ldc hx hb hown (hts _ (mm_tA_in c1)) hd (K _ _ _ _ _ _ _ _ _ _ HF hp hRl hl hlo hce hsl)
  · rename_i k
    simp only [Bool.and_eq_true, decide_eq_true_eq] at c1
    obtain ⟨⟨c3, c4⟩, c5⟩ := c1
    have c3 := Nat.eq_of_beq_eq_true c3
    have c4 := Nat.eq_of_beq_eq_true c4
    subst c3; subst c4
    rw [c5] at hown
    exact va_ldcS hx hb hown hFN.2.2.2.1 hd (K _ _ _ _ _ _ _ _ _ _ HF hp hRl hl hlo hce hsl)
  · cases c1
theorem mm_p_ldcw {i : Nat} (hF : mm_Fr p R s m args meth c z mi d) (hl : lv_has ls (mm_ml mi) (mm_pr z 0 L)) (hRl : mm_Rel z h H) (hlo : ∀ q ∈ locs, z.1.2.2.1 ≤ q.base) (hce : cells + n0 = hN h) (hsl : slots + m0 = hM h) (ck : mm_ck mi ip (.ldc_w i) pc x v aux = true) (HO : mm_oW (mm_s1 (.ldc_w i) x v ip L st h) F G ip L h Qr) (K : mm_KN p l e R s m args below meth c Q z mi n0 m0 F) : W p l e R s m args below meth c H locs cells slots Q (F0 m pc ls (st.map (mm_tr z))) := by
  obtain ⟨hx, hb, hml, hown, hts, hFN, hini, hfr, hlc, h40⟩ := id hF
  simp only [mm_ck, Bool.and_eq_true] at ck
  obtain ⟨c1, c2⟩ := ck
  obtain ⟨hd, hp⟩ := mm_d_dec c2
  have HF : F (ip + 1) L (v :: st) h := HO
  split at c1
  · exact lv_ldcw hx hb hown (hts _ (mm_tA_in c1)) hd (K _ _ _ _ _ _ _ _ _ _ HF hp hRl hl hlo hce hsl)
  · cases c1
theorem mm_p_ldc2 {i : Nat} (hF : mm_Fr p R s m args meth c z mi d) (hl : lv_has ls (mm_ml mi) (mm_pr z 0 L)) (hRl : mm_Rel z h H) (hlo : ∀ q ∈ locs, z.1.2.2.1 ≤ q.base) (hce : cells + n0 = hN h) (hsl : slots + m0 = hM h) (ck : mm_ck mi ip (.ldc2_w i) pc x v aux = true) (HO : mm_oW (mm_s1 (.ldc2_w i) x v ip L st h) F G ip L h Qr) (K : mm_KN p l e R s m args below meth c Q z mi n0 m0 F) : W p l e R s m args below meth c H locs cells slots Q (F0 m pc ls (st.map (mm_tr z))) := by
  obtain ⟨hx, hb, hml, hown, hts, hFN, hini, hfr, hlc, h40⟩ := id hF
  simp only [mm_ck, Bool.and_eq_true] at ck
  obtain ⟨c1, c2⟩ := ck
  obtain ⟨hd, hp⟩ := mm_d_dec c2
  have HF : F (ip + 1) L (v :: st) h := HO
  split at c1
  · exact lv_ldc2 hx hb hown (hts _ (mm_tA_in c1)) hd (K _ _ _ _ _ _ _ _ _ _ HF hp hRl hl hlo hce hsl)
  · exact lv_ldc2d hx hb hown (hts _ (mm_tA_in c1)) hd (K _ _ _ _ _ _ _ _ _ _ HF hp hRl hl hlo hce hsl)
  · cases c1
theorem mm_p_null (hF : mm_Fr p R s m args meth c z mi d) (hl : lv_has ls (mm_ml mi) (mm_pr z 0 L)) (hRl : mm_Rel z h H) (hlo : ∀ q ∈ locs, z.1.2.2.1 ≤ q.base) (hce : cells + n0 = hN h) (hsl : slots + m0 = hM h) (ck : mm_ck mi ip (.aconst_null) pc x v aux = true) (HO : mm_oW (mm_s1 (.aconst_null) x v ip L st h) F G ip L h Qr) (K : mm_KN p l e R s m args below meth c Q z mi n0 m0 F) : W p l e R s m args below meth c H locs cells slots Q (F0 m pc ls (st.map (mm_tr z))) := by
  obtain ⟨hx, hb, hml, hown, hts, hFN, hini, hfr, hlc, h40⟩ := id hF
  obtain ⟨hd, hp⟩ := mm_d_dec (show mm_d mi ip (.aconst_null) pc 1 = true from ck)
  
  have HF : F (ip + 1) L (.null :: st) h := HO
  exact lv_null hx hb hd (K _ _ _ _ _ _ _ _ _ _ HF hp hRl hl hlo hce hsl)
theorem mm_p_iadd (hF : mm_Fr p R s m args meth c z mi d) (hl : lv_has ls (mm_ml mi) (mm_pr z 0 L)) (hRl : mm_Rel z h H) (hlo : ∀ q ∈ locs, z.1.2.2.1 ≤ q.base) (hce : cells + n0 = hN h) (hsl : slots + m0 = hM h) (ck : mm_ck mi ip (.iadd) pc x v aux = true) (HO : mm_oW (mm_s1 (.iadd) x v ip L st h) F G ip L h Qr) (K : mm_KN p l e R s m args below meth c Q z mi n0 m0 F) : W p l e R s m args below meth c H locs cells slots Q (F0 m pc ls (st.map (mm_tr z))) := by
  obtain ⟨hx, hb, hml, hown, hts, hFN, hini, hfr, hlc, h40⟩ := id hF
  obtain ⟨hd, hp⟩ := mm_d_dec (show mm_d mi ip (.iadd) pc 1 = true from ck)
  
  replace HO : mm_oW (mm_bI (fun a b => a + b) ip L st h) F G ip L h Qr := HO
  unfold mm_bI at HO
  split at HO
  · rename_i b a r
    have HF : F (ip + 1) L _ h := HO
    exact lv_iadd hx hb hd (K _ _ _ _ _ _ _ _ _ _ HF hp hRl hl hlo hce hsl)
  · exact HO.elim
theorem mm_p_isub (hF : mm_Fr p R s m args meth c z mi d) (hl : lv_has ls (mm_ml mi) (mm_pr z 0 L)) (hRl : mm_Rel z h H) (hlo : ∀ q ∈ locs, z.1.2.2.1 ≤ q.base) (hce : cells + n0 = hN h) (hsl : slots + m0 = hM h) (ck : mm_ck mi ip (.isub) pc x v aux = true) (HO : mm_oW (mm_s1 (.isub) x v ip L st h) F G ip L h Qr) (K : mm_KN p l e R s m args below meth c Q z mi n0 m0 F) : W p l e R s m args below meth c H locs cells slots Q (F0 m pc ls (st.map (mm_tr z))) := by
  obtain ⟨hx, hb, hml, hown, hts, hFN, hini, hfr, hlc, h40⟩ := id hF
  obtain ⟨hd, hp⟩ := mm_d_dec (show mm_d mi ip (.isub) pc 1 = true from ck)
  
  replace HO : mm_oW (mm_bI (fun a b => a - b) ip L st h) F G ip L h Qr := HO
  unfold mm_bI at HO
  split at HO
  · rename_i b a r
    have HF : F (ip + 1) L _ h := HO
    exact lv_isub hx hb hd (K _ _ _ _ _ _ _ _ _ _ HF hp hRl hl hlo hce hsl)
  · exact HO.elim
theorem mm_p_imul (hF : mm_Fr p R s m args meth c z mi d) (hl : lv_has ls (mm_ml mi) (mm_pr z 0 L)) (hRl : mm_Rel z h H) (hlo : ∀ q ∈ locs, z.1.2.2.1 ≤ q.base) (hce : cells + n0 = hN h) (hsl : slots + m0 = hM h) (ck : mm_ck mi ip (.imul) pc x v aux = true) (HO : mm_oW (mm_s1 (.imul) x v ip L st h) F G ip L h Qr) (K : mm_KN p l e R s m args below meth c Q z mi n0 m0 F) : W p l e R s m args below meth c H locs cells slots Q (F0 m pc ls (st.map (mm_tr z))) := by
  obtain ⟨hx, hb, hml, hown, hts, hFN, hini, hfr, hlc, h40⟩ := id hF
  obtain ⟨hd, hp⟩ := mm_d_dec (show mm_d mi ip (.imul) pc 1 = true from ck)
  
  replace HO : mm_oW (mm_bI (fun a b => a * b) ip L st h) F G ip L h Qr := HO
  unfold mm_bI at HO
  split at HO
  · rename_i b a r
    have HF : F (ip + 1) L _ h := HO
    exact lv_imul hx hb hd (K _ _ _ _ _ _ _ _ _ _ HF hp hRl hl hlo hce hsl)
  · exact HO.elim
theorem mm_p_iand (hF : mm_Fr p R s m args meth c z mi d) (hl : lv_has ls (mm_ml mi) (mm_pr z 0 L)) (hRl : mm_Rel z h H) (hlo : ∀ q ∈ locs, z.1.2.2.1 ≤ q.base) (hce : cells + n0 = hN h) (hsl : slots + m0 = hM h) (ck : mm_ck mi ip (.iand) pc x v aux = true) (HO : mm_oW (mm_s1 (.iand) x v ip L st h) F G ip L h Qr) (K : mm_KN p l e R s m args below meth c Q z mi n0 m0 F) : W p l e R s m args below meth c H locs cells slots Q (F0 m pc ls (st.map (mm_tr z))) := by
  obtain ⟨hx, hb, hml, hown, hts, hFN, hini, hfr, hlc, h40⟩ := id hF
  obtain ⟨hd, hp⟩ := mm_d_dec (show mm_d mi ip (.iand) pc 1 = true from ck)
  
  replace HO : mm_oW (mm_bI (fun a b => a &&& b) ip L st h) F G ip L h Qr := HO
  unfold mm_bI at HO
  split at HO
  · rename_i b a r
    have HF : F (ip + 1) L _ h := HO
    exact lv_iand hx hb hd (K _ _ _ _ _ _ _ _ _ _ HF hp hRl hl hlo hce hsl)
  · exact HO.elim
theorem mm_p_ior (hF : mm_Fr p R s m args meth c z mi d) (hl : lv_has ls (mm_ml mi) (mm_pr z 0 L)) (hRl : mm_Rel z h H) (hlo : ∀ q ∈ locs, z.1.2.2.1 ≤ q.base) (hce : cells + n0 = hN h) (hsl : slots + m0 = hM h) (ck : mm_ck mi ip (.ior) pc x v aux = true) (HO : mm_oW (mm_s1 (.ior) x v ip L st h) F G ip L h Qr) (K : mm_KN p l e R s m args below meth c Q z mi n0 m0 F) : W p l e R s m args below meth c H locs cells slots Q (F0 m pc ls (st.map (mm_tr z))) := by
  obtain ⟨hx, hb, hml, hown, hts, hFN, hini, hfr, hlc, h40⟩ := id hF
  obtain ⟨hd, hp⟩ := mm_d_dec (show mm_d mi ip (.ior) pc 1 = true from ck)
  
  replace HO : mm_oW (mm_bI (fun a b => a ||| b) ip L st h) F G ip L h Qr := HO
  unfold mm_bI at HO
  split at HO
  · rename_i b a r
    have HF : F (ip + 1) L _ h := HO
    exact lv_ior hx hb hd (K _ _ _ _ _ _ _ _ _ _ HF hp hRl hl hlo hce hsl)
  · exact HO.elim
theorem mm_p_irem (hF : mm_Fr p R s m args meth c z mi d) (hl : lv_has ls (mm_ml mi) (mm_pr z 0 L)) (hRl : mm_Rel z h H) (hlo : ∀ q ∈ locs, z.1.2.2.1 ≤ q.base) (hce : cells + n0 = hN h) (hsl : slots + m0 = hM h) (ck : mm_ck mi ip (.irem) pc x v aux = true) (HO : mm_oW (mm_s1 (.irem) x v ip L st h) F G ip L h Qr) (K : mm_KN p l e R s m args below meth c Q z mi n0 m0 F) : W p l e R s m args below meth c H locs cells slots Q (F0 m pc ls (st.map (mm_tr z))) := by
  obtain ⟨hx, hb, hml, hown, hts, hFN, hini, hfr, hlc, h40⟩ := id hF
  obtain ⟨hd, hp⟩ := mm_d_dec (show mm_d mi ip (.irem) pc 1 = true from ck)
  
  replace HO : mm_oW (mm_dI (fun a b => a - a / b * b) ip L st h) F G ip L h Qr := HO
  unfold mm_dI at HO
  split at HO
  · rename_i b a r
    obtain ⟨hg, HF⟩ := HO
    exact lv_irem hx hb hd hg (K _ _ _ _ _ _ _ _ _ _ HF hp hRl hl hlo hce hsl)
  · exact HO.elim
theorem mm_p_ishl (hF : mm_Fr p R s m args meth c z mi d) (hl : lv_has ls (mm_ml mi) (mm_pr z 0 L)) (hRl : mm_Rel z h H) (hlo : ∀ q ∈ locs, z.1.2.2.1 ≤ q.base) (hce : cells + n0 = hN h) (hsl : slots + m0 = hM h) (ck : mm_ck mi ip (.ishl) pc x v aux = true) (HO : mm_oW (mm_s1 (.ishl) x v ip L st h) F G ip L h Qr) (K : mm_KN p l e R s m args below meth c Q z mi n0 m0 F) : W p l e R s m args below meth c H locs cells slots Q (F0 m pc ls (st.map (mm_tr z))) := by
  obtain ⟨hx, hb, hml, hown, hts, hFN, hini, hfr, hlc, h40⟩ := id hF
  obtain ⟨hd, hp⟩ := mm_d_dec (show mm_d mi ip (.ishl) pc 1 = true from ck)
  
  replace HO : mm_oW (mm_bI (fun a b => a <<< (b &&& 31)) ip L st h) F G ip L h Qr := HO
  unfold mm_bI at HO
  split at HO
  · rename_i b a r
    have HF : F (ip + 1) L _ h := HO
    exact lv_ishl hx hb hd (K _ _ _ _ _ _ _ _ _ _ HF hp hRl hl hlo hce hsl)
  · exact HO.elim
theorem mm_p_ishr (hF : mm_Fr p R s m args meth c z mi d) (hl : lv_has ls (mm_ml mi) (mm_pr z 0 L)) (hRl : mm_Rel z h H) (hlo : ∀ q ∈ locs, z.1.2.2.1 ≤ q.base) (hce : cells + n0 = hN h) (hsl : slots + m0 = hM h) (ck : mm_ck mi ip (.ishr) pc x v aux = true) (HO : mm_oW (mm_s1 (.ishr) x v ip L st h) F G ip L h Qr) (K : mm_KN p l e R s m args below meth c Q z mi n0 m0 F) : W p l e R s m args below meth c H locs cells slots Q (F0 m pc ls (st.map (mm_tr z))) := by
  obtain ⟨hx, hb, hml, hown, hts, hFN, hini, hfr, hlc, h40⟩ := id hF
  obtain ⟨hd, hp⟩ := mm_d_dec (show mm_d mi ip (.ishr) pc 1 = true from ck)
  
  replace HO : mm_oW (mm_bI (fun a b => a >>> (b &&& 31)) ip L st h) F G ip L h Qr := HO
  unfold mm_bI at HO
  split at HO
  · rename_i b a r
    have HF : F (ip + 1) L _ h := HO
    exact lv_ishr hx hb hd (K _ _ _ _ _ _ _ _ _ _ HF hp hRl hl hlo hce hsl)
  · exact HO.elim
theorem mm_p_iushr (hF : mm_Fr p R s m args meth c z mi d) (hl : lv_has ls (mm_ml mi) (mm_pr z 0 L)) (hRl : mm_Rel z h H) (hlo : ∀ q ∈ locs, z.1.2.2.1 ≤ q.base) (hce : cells + n0 = hN h) (hsl : slots + m0 = hM h) (ck : mm_ck mi ip (.iushr) pc x v aux = true) (HO : mm_oW (mm_s1 (.iushr) x v ip L st h) F G ip L h Qr) (K : mm_KN p l e R s m args below meth c Q z mi n0 m0 F) : W p l e R s m args below meth c H locs cells slots Q (F0 m pc ls (st.map (mm_tr z))) := by
  obtain ⟨hx, hb, hml, hown, hts, hFN, hini, hfr, hlc, h40⟩ := id hF
  obtain ⟨hd, hp⟩ := mm_d_dec (show mm_d mi ip (.iushr) pc 1 = true from ck)
  
  replace HO : mm_oW (mm_bI (fun a b => (a.toUInt32 >>> (b.toUInt32 &&& Int32.toUInt32 31)).toInt32) ip L st h) F G ip L h Qr := HO
  unfold mm_bI at HO
  split at HO
  · rename_i b a r
    have HF : F (ip + 1) L _ h := HO
    exact lv_iushr hx hb hd rfl (K _ _ _ _ _ _ _ _ _ _ HF hp hRl hl hlo hce hsl)
  · exact HO.elim
theorem mm_p_ladd (hF : mm_Fr p R s m args meth c z mi d) (hl : lv_has ls (mm_ml mi) (mm_pr z 0 L)) (hRl : mm_Rel z h H) (hlo : ∀ q ∈ locs, z.1.2.2.1 ≤ q.base) (hce : cells + n0 = hN h) (hsl : slots + m0 = hM h) (ck : mm_ck mi ip (.ladd) pc x v aux = true) (HO : mm_oW (mm_s1 (.ladd) x v ip L st h) F G ip L h Qr) (K : mm_KN p l e R s m args below meth c Q z mi n0 m0 F) : W p l e R s m args below meth c H locs cells slots Q (F0 m pc ls (st.map (mm_tr z))) := by
  obtain ⟨hx, hb, hml, hown, hts, hFN, hini, hfr, hlc, h40⟩ := id hF
  obtain ⟨hd, hp⟩ := mm_d_dec (show mm_d mi ip (.ladd) pc 1 = true from ck)
  
  replace HO : mm_oW (mm_bL (fun a b => a + b) ip L st h) F G ip L h Qr := HO
  unfold mm_bL at HO
  split at HO
  · rename_i b a r
    have HF : F (ip + 1) L _ h := HO
    exact lv_ladd hx hb hd (K _ _ _ _ _ _ _ _ _ _ HF hp hRl hl hlo hce hsl)
  · exact HO.elim
theorem mm_p_lsub (hF : mm_Fr p R s m args meth c z mi d) (hl : lv_has ls (mm_ml mi) (mm_pr z 0 L)) (hRl : mm_Rel z h H) (hlo : ∀ q ∈ locs, z.1.2.2.1 ≤ q.base) (hce : cells + n0 = hN h) (hsl : slots + m0 = hM h) (ck : mm_ck mi ip (.lsub) pc x v aux = true) (HO : mm_oW (mm_s1 (.lsub) x v ip L st h) F G ip L h Qr) (K : mm_KN p l e R s m args below meth c Q z mi n0 m0 F) : W p l e R s m args below meth c H locs cells slots Q (F0 m pc ls (st.map (mm_tr z))) := by
  obtain ⟨hx, hb, hml, hown, hts, hFN, hini, hfr, hlc, h40⟩ := id hF
  obtain ⟨hd, hp⟩ := mm_d_dec (show mm_d mi ip (.lsub) pc 1 = true from ck)
  
  replace HO : mm_oW (mm_bL (fun a b => a - b) ip L st h) F G ip L h Qr := HO
  unfold mm_bL at HO
  split at HO
  · rename_i b a r
    have HF : F (ip + 1) L _ h := HO
    exact lv_lsub hx hb hd (K _ _ _ _ _ _ _ _ _ _ HF hp hRl hl hlo hce hsl)
  · exact HO.elim
theorem mm_p_lmul (hF : mm_Fr p R s m args meth c z mi d) (hl : lv_has ls (mm_ml mi) (mm_pr z 0 L)) (hRl : mm_Rel z h H) (hlo : ∀ q ∈ locs, z.1.2.2.1 ≤ q.base) (hce : cells + n0 = hN h) (hsl : slots + m0 = hM h) (ck : mm_ck mi ip (.lmul) pc x v aux = true) (HO : mm_oW (mm_s1 (.lmul) x v ip L st h) F G ip L h Qr) (K : mm_KN p l e R s m args below meth c Q z mi n0 m0 F) : W p l e R s m args below meth c H locs cells slots Q (F0 m pc ls (st.map (mm_tr z))) := by
  obtain ⟨hx, hb, hml, hown, hts, hFN, hini, hfr, hlc, h40⟩ := id hF
  obtain ⟨hd, hp⟩ := mm_d_dec (show mm_d mi ip (.lmul) pc 1 = true from ck)
  
  replace HO : mm_oW (mm_bL (fun a b => a * b) ip L st h) F G ip L h Qr := HO
  unfold mm_bL at HO
  split at HO
  · rename_i b a r
    have HF : F (ip + 1) L _ h := HO
    exact lv_lmul hx hb hd (K _ _ _ _ _ _ _ _ _ _ HF hp hRl hl hlo hce hsl)
  · exact HO.elim
theorem mm_p_land (hF : mm_Fr p R s m args meth c z mi d) (hl : lv_has ls (mm_ml mi) (mm_pr z 0 L)) (hRl : mm_Rel z h H) (hlo : ∀ q ∈ locs, z.1.2.2.1 ≤ q.base) (hce : cells + n0 = hN h) (hsl : slots + m0 = hM h) (ck : mm_ck mi ip (.land) pc x v aux = true) (HO : mm_oW (mm_s1 (.land) x v ip L st h) F G ip L h Qr) (K : mm_KN p l e R s m args below meth c Q z mi n0 m0 F) : W p l e R s m args below meth c H locs cells slots Q (F0 m pc ls (st.map (mm_tr z))) := by
  obtain ⟨hx, hb, hml, hown, hts, hFN, hini, hfr, hlc, h40⟩ := id hF
  obtain ⟨hd, hp⟩ := mm_d_dec (show mm_d mi ip (.land) pc 1 = true from ck)
  
  replace HO : mm_oW (mm_bL (fun a b => a &&& b) ip L st h) F G ip L h Qr := HO
  unfold mm_bL at HO
  split at HO
  · rename_i b a r
    have HF : F (ip + 1) L _ h := HO
    exact lv_land hx hb hd (K _ _ _ _ _ _ _ _ _ _ HF hp hRl hl hlo hce hsl)
  · exact HO.elim
theorem mm_p_lor (hF : mm_Fr p R s m args meth c z mi d) (hl : lv_has ls (mm_ml mi) (mm_pr z 0 L)) (hRl : mm_Rel z h H) (hlo : ∀ q ∈ locs, z.1.2.2.1 ≤ q.base) (hce : cells + n0 = hN h) (hsl : slots + m0 = hM h) (ck : mm_ck mi ip (.lor) pc x v aux = true) (HO : mm_oW (mm_s1 (.lor) x v ip L st h) F G ip L h Qr) (K : mm_KN p l e R s m args below meth c Q z mi n0 m0 F) : W p l e R s m args below meth c H locs cells slots Q (F0 m pc ls (st.map (mm_tr z))) := by
  obtain ⟨hx, hb, hml, hown, hts, hFN, hini, hfr, hlc, h40⟩ := id hF
  obtain ⟨hd, hp⟩ := mm_d_dec (show mm_d mi ip (.lor) pc 1 = true from ck)
  
  replace HO : mm_oW (mm_bL (fun a b => a ||| b) ip L st h) F G ip L h Qr := HO
  unfold mm_bL at HO
  split at HO
  · rename_i b a r
    have HF : F (ip + 1) L _ h := HO
    exact lv_lor hx hb hd (K _ _ _ _ _ _ _ _ _ _ HF hp hRl hl hlo hce hsl)
  · exact HO.elim
theorem mm_p_lxor (hF : mm_Fr p R s m args meth c z mi d) (hl : lv_has ls (mm_ml mi) (mm_pr z 0 L)) (hRl : mm_Rel z h H) (hlo : ∀ q ∈ locs, z.1.2.2.1 ≤ q.base) (hce : cells + n0 = hN h) (hsl : slots + m0 = hM h) (ck : mm_ck mi ip (.lxor) pc x v aux = true) (HO : mm_oW (mm_s1 (.lxor) x v ip L st h) F G ip L h Qr) (K : mm_KN p l e R s m args below meth c Q z mi n0 m0 F) : W p l e R s m args below meth c H locs cells slots Q (F0 m pc ls (st.map (mm_tr z))) := by
  obtain ⟨hx, hb, hml, hown, hts, hFN, hini, hfr, hlc, h40⟩ := id hF
  obtain ⟨hd, hp⟩ := mm_d_dec (show mm_d mi ip (.lxor) pc 1 = true from ck)
  
  replace HO : mm_oW (mm_bL (fun a b => a ^^^ b) ip L st h) F G ip L h Qr := HO
  unfold mm_bL at HO
  split at HO
  · rename_i b a r
    have HF : F (ip + 1) L _ h := HO
    exact lv_lxor hx hb hd (K _ _ _ _ _ _ _ _ _ _ HF hp hRl hl hlo hce hsl)
  · exact HO.elim
theorem mm_p_ldiv (hF : mm_Fr p R s m args meth c z mi d) (hl : lv_has ls (mm_ml mi) (mm_pr z 0 L)) (hRl : mm_Rel z h H) (hlo : ∀ q ∈ locs, z.1.2.2.1 ≤ q.base) (hce : cells + n0 = hN h) (hsl : slots + m0 = hM h) (ck : mm_ck mi ip (.ldiv) pc x v aux = true) (HO : mm_oW (mm_s1 (.ldiv) x v ip L st h) F G ip L h Qr) (K : mm_KN p l e R s m args below meth c Q z mi n0 m0 F) : W p l e R s m args below meth c H locs cells slots Q (F0 m pc ls (st.map (mm_tr z))) := by
  obtain ⟨hx, hb, hml, hown, hts, hFN, hini, hfr, hlc, h40⟩ := id hF
  obtain ⟨hd, hp⟩ := mm_d_dec (show mm_d mi ip (.ldiv) pc 1 = true from ck)
  
  replace HO : mm_oW (mm_dL (fun a b => a / b) ip L st h) F G ip L h Qr := HO
  unfold mm_dL at HO
  split at HO
  · rename_i b a r
    obtain ⟨hg, HF⟩ := HO
    exact lv_ldiv hx hb hd hg (K _ _ _ _ _ _ _ _ _ _ HF hp hRl hl hlo hce hsl)
  · exact HO.elim
theorem mm_p_lrem (hF : mm_Fr p R s m args meth c z mi d) (hl : lv_has ls (mm_ml mi) (mm_pr z 0 L)) (hRl : mm_Rel z h H) (hlo : ∀ q ∈ locs, z.1.2.2.1 ≤ q.base) (hce : cells + n0 = hN h) (hsl : slots + m0 = hM h) (ck : mm_ck mi ip (.lrem) pc x v aux = true) (HO : mm_oW (mm_s1 (.lrem) x v ip L st h) F G ip L h Qr) (K : mm_KN p l e R s m args below meth c Q z mi n0 m0 F) : W p l e R s m args below meth c H locs cells slots Q (F0 m pc ls (st.map (mm_tr z))) := by
  obtain ⟨hx, hb, hml, hown, hts, hFN, hini, hfr, hlc, h40⟩ := id hF
  obtain ⟨hd, hp⟩ := mm_d_dec (show mm_d mi ip (.lrem) pc 1 = true from ck)
  
  replace HO : mm_oW (mm_dL (fun a b => a - a / b * b) ip L st h) F G ip L h Qr := HO
  unfold mm_dL at HO
  split at HO
  · rename_i b a r
    obtain ⟨hg, HF⟩ := HO
    exact lv_lrem hx hb hd hg (K _ _ _ _ _ _ _ _ _ _ HF hp hRl hl hlo hce hsl)
  · exact HO.elim
theorem mm_p_lshl (hF : mm_Fr p R s m args meth c z mi d) (hl : lv_has ls (mm_ml mi) (mm_pr z 0 L)) (hRl : mm_Rel z h H) (hlo : ∀ q ∈ locs, z.1.2.2.1 ≤ q.base) (hce : cells + n0 = hN h) (hsl : slots + m0 = hM h) (ck : mm_ck mi ip (.lshl) pc x v aux = true) (HO : mm_oW (mm_s1 (.lshl) x v ip L st h) F G ip L h Qr) (K : mm_KN p l e R s m args below meth c Q z mi n0 m0 F) : W p l e R s m args below meth c H locs cells slots Q (F0 m pc ls (st.map (mm_tr z))) := by
  obtain ⟨hx, hb, hml, hown, hts, hFN, hini, hfr, hlc, h40⟩ := id hF
  obtain ⟨hd, hp⟩ := mm_d_dec (show mm_d mi ip (.lshl) pc 1 = true from ck)
  
  replace HO : mm_oW (mm_sL (fun a b => a <<< (b.toInt64 &&& 63)) ip L st h) F G ip L h Qr := HO
  unfold mm_sL at HO
  split at HO
  · rename_i b a r
    have HF : F (ip + 1) L _ h := HO
    exact lv_lshl hx hb hd rfl (K _ _ _ _ _ _ _ _ _ _ HF hp hRl hl hlo hce hsl)
  · exact HO.elim
theorem mm_p_lshr (hF : mm_Fr p R s m args meth c z mi d) (hl : lv_has ls (mm_ml mi) (mm_pr z 0 L)) (hRl : mm_Rel z h H) (hlo : ∀ q ∈ locs, z.1.2.2.1 ≤ q.base) (hce : cells + n0 = hN h) (hsl : slots + m0 = hM h) (ck : mm_ck mi ip (.lshr) pc x v aux = true) (HO : mm_oW (mm_s1 (.lshr) x v ip L st h) F G ip L h Qr) (K : mm_KN p l e R s m args below meth c Q z mi n0 m0 F) : W p l e R s m args below meth c H locs cells slots Q (F0 m pc ls (st.map (mm_tr z))) := by
  obtain ⟨hx, hb, hml, hown, hts, hFN, hini, hfr, hlc, h40⟩ := id hF
  obtain ⟨hd, hp⟩ := mm_d_dec (show mm_d mi ip (.lshr) pc 1 = true from ck)
  
  replace HO : mm_oW (mm_sL (fun a b => a >>> (b.toInt64 &&& 63)) ip L st h) F G ip L h Qr := HO
  unfold mm_sL at HO
  split at HO
  · rename_i b a r
    have HF : F (ip + 1) L _ h := HO
    exact lv_lshr hx hb hd rfl (K _ _ _ _ _ _ _ _ _ _ HF hp hRl hl hlo hce hsl)
  · exact HO.elim
theorem mm_p_lushr (hF : mm_Fr p R s m args meth c z mi d) (hl : lv_has ls (mm_ml mi) (mm_pr z 0 L)) (hRl : mm_Rel z h H) (hlo : ∀ q ∈ locs, z.1.2.2.1 ≤ q.base) (hce : cells + n0 = hN h) (hsl : slots + m0 = hM h) (ck : mm_ck mi ip (.lushr) pc x v aux = true) (HO : mm_oW (mm_s1 (.lushr) x v ip L st h) F G ip L h Qr) (K : mm_KN p l e R s m args below meth c Q z mi n0 m0 F) : W p l e R s m args below meth c H locs cells slots Q (F0 m pc ls (st.map (mm_tr z))) := by
  obtain ⟨hx, hb, hml, hown, hts, hFN, hini, hfr, hlc, h40⟩ := id hF
  obtain ⟨hd, hp⟩ := mm_d_dec (show mm_d mi ip (.lushr) pc 1 = true from ck)
  
  replace HO : mm_oW (mm_sL (fun a b => (a.toUInt64 >>> (b.toInt64.toUInt64 &&& Int64.toUInt64 63)).toInt64) ip L st h) F G ip L h Qr := HO
  unfold mm_sL at HO
  split at HO
  · rename_i b a r
    have HF : F (ip + 1) L _ h := HO
    exact lv_lushr hx hb hd rfl (K _ _ _ _ _ _ _ _ _ _ HF hp hRl hl hlo hce hsl)
  · exact HO.elim
theorem mm_p_lneg (hF : mm_Fr p R s m args meth c z mi d) (hl : lv_has ls (mm_ml mi) (mm_pr z 0 L)) (hRl : mm_Rel z h H) (hlo : ∀ q ∈ locs, z.1.2.2.1 ≤ q.base) (hce : cells + n0 = hN h) (hsl : slots + m0 = hM h) (ck : mm_ck mi ip (.lneg) pc x v aux = true) (HO : mm_oW (mm_s1 (.lneg) x v ip L st h) F G ip L h Qr) (K : mm_KN p l e R s m args below meth c Q z mi n0 m0 F) : W p l e R s m args below meth c H locs cells slots Q (F0 m pc ls (st.map (mm_tr z))) := by
  obtain ⟨hx, hb, hml, hown, hts, hFN, hini, hfr, hlc, h40⟩ := id hF
  obtain ⟨hd, hp⟩ := mm_d_dec (show mm_d mi ip (.lneg) pc 1 = true from ck)
  
  replace HO : mm_oW (mm_uL (fun a => .long (-a)) ip L st h) F G ip L h Qr := HO
  unfold mm_uL at HO
  split at HO
  · rename_i a r
    have HF : F (ip + 1) L _ h := HO
    exact lv_lneg hx hb hd (K _ _ _ _ _ _ _ _ _ _ HF hp hRl hl hlo hce hsl)
  · exact HO.elim
theorem mm_p_i2l (hF : mm_Fr p R s m args meth c z mi d) (hl : lv_has ls (mm_ml mi) (mm_pr z 0 L)) (hRl : mm_Rel z h H) (hlo : ∀ q ∈ locs, z.1.2.2.1 ≤ q.base) (hce : cells + n0 = hN h) (hsl : slots + m0 = hM h) (ck : mm_ck mi ip (.i2l) pc x v aux = true) (HO : mm_oW (mm_s1 (.i2l) x v ip L st h) F G ip L h Qr) (K : mm_KN p l e R s m args below meth c Q z mi n0 m0 F) : W p l e R s m args below meth c H locs cells slots Q (F0 m pc ls (st.map (mm_tr z))) := by
  obtain ⟨hx, hb, hml, hown, hts, hFN, hini, hfr, hlc, h40⟩ := id hF
  obtain ⟨hd, hp⟩ := mm_d_dec (show mm_d mi ip (.i2l) pc 1 = true from ck)
  
  replace HO : mm_oW (mm_uI (fun a => .long a.toInt64) ip L st h) F G ip L h Qr := HO
  unfold mm_uI at HO
  split at HO
  · rename_i a r
    have HF : F (ip + 1) L _ h := HO
    exact lv_i2l hx hb hd rfl (K _ _ _ _ _ _ _ _ _ _ HF hp hRl hl hlo hce hsl)
  · exact HO.elim
theorem mm_p_l2i (hF : mm_Fr p R s m args meth c z mi d) (hl : lv_has ls (mm_ml mi) (mm_pr z 0 L)) (hRl : mm_Rel z h H) (hlo : ∀ q ∈ locs, z.1.2.2.1 ≤ q.base) (hce : cells + n0 = hN h) (hsl : slots + m0 = hM h) (ck : mm_ck mi ip (.l2i) pc x v aux = true) (HO : mm_oW (mm_s1 (.l2i) x v ip L st h) F G ip L h Qr) (K : mm_KN p l e R s m args below meth c Q z mi n0 m0 F) : W p l e R s m args below meth c H locs cells slots Q (F0 m pc ls (st.map (mm_tr z))) := by
  obtain ⟨hx, hb, hml, hown, hts, hFN, hini, hfr, hlc, h40⟩ := id hF
  obtain ⟨hd, hp⟩ := mm_d_dec (show mm_d mi ip (.l2i) pc 1 = true from ck)
  
  replace HO : mm_oW (mm_uL (fun a => .int a.toInt32) ip L st h) F G ip L h Qr := HO
  unfold mm_uL at HO
  split at HO
  · rename_i a r
    have HF : F (ip + 1) L _ h := HO
    exact lv_l2i hx hb hd rfl (K _ _ _ _ _ _ _ _ _ _ HF hp hRl hl hlo hce hsl)
  · exact HO.elim
theorem mm_p_l2f (hF : mm_Fr p R s m args meth c z mi d) (hl : lv_has ls (mm_ml mi) (mm_pr z 0 L)) (hRl : mm_Rel z h H) (hlo : ∀ q ∈ locs, z.1.2.2.1 ≤ q.base) (hce : cells + n0 = hN h) (hsl : slots + m0 = hM h) (ck : mm_ck mi ip (.l2f) pc x v aux = true) (HO : mm_oW (mm_s1 (.l2f) x v ip L st h) F G ip L h Qr) (K : mm_KN p l e R s m args below meth c Q z mi n0 m0 F) : W p l e R s m args below meth c H locs cells slots Q (F0 m pc ls (st.map (mm_tr z))) := by
  obtain ⟨hx, hb, hml, hown, hts, hFN, hini, hfr, hlc, h40⟩ := id hF
  obtain ⟨hd, hp⟩ := mm_d_dec (show mm_d mi ip (.l2f) pc 1 = true from ck)
  
  replace HO : mm_oW (mm_uL (fun a => .float (FP.l2f a)) ip L st h) F G ip L h Qr := HO
  unfold mm_uL at HO
  split at HO
  · rename_i a r
    have HF : F (ip + 1) L _ h := HO
    exact lv_l2f hx hb hd (K _ _ _ _ _ _ _ _ _ _ HF hp hRl hl hlo hce hsl)
  · exact HO.elim
theorem mm_p_l2d (hF : mm_Fr p R s m args meth c z mi d) (hl : lv_has ls (mm_ml mi) (mm_pr z 0 L)) (hRl : mm_Rel z h H) (hlo : ∀ q ∈ locs, z.1.2.2.1 ≤ q.base) (hce : cells + n0 = hN h) (hsl : slots + m0 = hM h) (ck : mm_ck mi ip (.l2d) pc x v aux = true) (HO : mm_oW (mm_s1 (.l2d) x v ip L st h) F G ip L h Qr) (K : mm_KN p l e R s m args below meth c Q z mi n0 m0 F) : W p l e R s m args below meth c H locs cells slots Q (F0 m pc ls (st.map (mm_tr z))) := by
  obtain ⟨hx, hb, hml, hown, hts, hFN, hini, hfr, hlc, h40⟩ := id hF
  obtain ⟨hd, hp⟩ := mm_d_dec (show mm_d mi ip (.l2d) pc 1 = true from ck)
  
  replace HO : mm_oW (mm_uL (fun a => .double (FP.l2d a)) ip L st h) F G ip L h Qr := HO
  unfold mm_uL at HO
  split at HO
  · rename_i a r
    have HF : F (ip + 1) L _ h := HO
    exact lv_l2d hx hb hd (K _ _ _ _ _ _ _ _ _ _ HF hp hRl hl hlo hce hsl)
  · exact HO.elim
theorem mm_p_d2l (hF : mm_Fr p R s m args meth c z mi d) (hl : lv_has ls (mm_ml mi) (mm_pr z 0 L)) (hRl : mm_Rel z h H) (hlo : ∀ q ∈ locs, z.1.2.2.1 ≤ q.base) (hce : cells + n0 = hN h) (hsl : slots + m0 = hM h) (ck : mm_ck mi ip (.d2l) pc x v aux = true) (HO : mm_oW (mm_s1 (.d2l) x v ip L st h) F G ip L h Qr) (K : mm_KN p l e R s m args below meth c Q z mi n0 m0 F) : W p l e R s m args below meth c H locs cells slots Q (F0 m pc ls (st.map (mm_tr z))) := by
  obtain ⟨hx, hb, hml, hown, hts, hFN, hini, hfr, hlc, h40⟩ := id hF
  obtain ⟨hd, hp⟩ := mm_d_dec (show mm_d mi ip (.d2l) pc 1 = true from ck)
  
  replace HO : mm_oW (mm_uD (fun a => .long (FP.d2l a)) ip L st h) F G ip L h Qr := HO
  unfold mm_uD at HO
  split at HO
  · rename_i a r
    have HF : F (ip + 1) L _ h := HO
    exact lv_d2l hx hb hd (K _ _ _ _ _ _ _ _ _ _ HF hp hRl hl hlo hce hsl)
  · exact HO.elim
theorem mm_p_dneg (hF : mm_Fr p R s m args meth c z mi d) (hl : lv_has ls (mm_ml mi) (mm_pr z 0 L)) (hRl : mm_Rel z h H) (hlo : ∀ q ∈ locs, z.1.2.2.1 ≤ q.base) (hce : cells + n0 = hN h) (hsl : slots + m0 = hM h) (ck : mm_ck mi ip (.dneg) pc x v aux = true) (HO : mm_oW (mm_s1 (.dneg) x v ip L st h) F G ip L h Qr) (K : mm_KN p l e R s m args below meth c Q z mi n0 m0 F) : W p l e R s m args below meth c H locs cells slots Q (F0 m pc ls (st.map (mm_tr z))) := by
  obtain ⟨hx, hb, hml, hown, hts, hFN, hini, hfr, hlc, h40⟩ := id hF
  obtain ⟨hd, hp⟩ := mm_d_dec (show mm_d mi ip (.dneg) pc 1 = true from ck)
  
  replace HO : mm_oW (mm_uD (fun a => .double (FP.dneg a)) ip L st h) F G ip L h Qr := HO
  unfold mm_uD at HO
  split at HO
  · rename_i a r
    have HF : F (ip + 1) L _ h := HO
    exact lv_dneg hx hb hd (K _ _ _ _ _ _ _ _ _ _ HF hp hRl hl hlo hce hsl)
  · exact HO.elim
theorem mm_p_dmul (hF : mm_Fr p R s m args meth c z mi d) (hl : lv_has ls (mm_ml mi) (mm_pr z 0 L)) (hRl : mm_Rel z h H) (hlo : ∀ q ∈ locs, z.1.2.2.1 ≤ q.base) (hce : cells + n0 = hN h) (hsl : slots + m0 = hM h) (ck : mm_ck mi ip (.dmul) pc x v aux = true) (HO : mm_oW (mm_s1 (.dmul) x v ip L st h) F G ip L h Qr) (K : mm_KN p l e R s m args below meth c Q z mi n0 m0 F) : W p l e R s m args below meth c H locs cells slots Q (F0 m pc ls (st.map (mm_tr z))) := by
  obtain ⟨hx, hb, hml, hown, hts, hFN, hini, hfr, hlc, h40⟩ := id hF
  obtain ⟨hd, hp⟩ := mm_d_dec (show mm_d mi ip (.dmul) pc 1 = true from ck)
  
  replace HO : mm_oW (mm_bD FP.dmul ip L st h) F G ip L h Qr := HO
  unfold mm_bD at HO
  split at HO
  · rename_i b a r
    obtain ⟨hg, HF⟩ := HO
    exact lv_dmul hx hb hd hg (K _ _ _ _ _ _ _ _ _ _ HF hp hRl hl hlo hce hsl)
  · exact HO.elim
theorem mm_p_ddiv (hF : mm_Fr p R s m args meth c z mi d) (hl : lv_has ls (mm_ml mi) (mm_pr z 0 L)) (hRl : mm_Rel z h H) (hlo : ∀ q ∈ locs, z.1.2.2.1 ≤ q.base) (hce : cells + n0 = hN h) (hsl : slots + m0 = hM h) (ck : mm_ck mi ip (.ddiv) pc x v aux = true) (HO : mm_oW (mm_s1 (.ddiv) x v ip L st h) F G ip L h Qr) (K : mm_KN p l e R s m args below meth c Q z mi n0 m0 F) : W p l e R s m args below meth c H locs cells slots Q (F0 m pc ls (st.map (mm_tr z))) := by
  obtain ⟨hx, hb, hml, hown, hts, hFN, hini, hfr, hlc, h40⟩ := id hF
  obtain ⟨hd, hp⟩ := mm_d_dec (show mm_d mi ip (.ddiv) pc 1 = true from ck)
  
  replace HO : mm_oW (mm_bD FP.ddiv ip L st h) F G ip L h Qr := HO
  unfold mm_bD at HO
  split at HO
  · rename_i b a r
    obtain ⟨hg, HF⟩ := HO
    exact lv_ddiv hx hb hd hg (K _ _ _ _ _ _ _ _ _ _ HF hp hRl hl hlo hce hsl)
  · exact HO.elim
theorem mm_p_drem (hF : mm_Fr p R s m args meth c z mi d) (hl : lv_has ls (mm_ml mi) (mm_pr z 0 L)) (hRl : mm_Rel z h H) (hlo : ∀ q ∈ locs, z.1.2.2.1 ≤ q.base) (hce : cells + n0 = hN h) (hsl : slots + m0 = hM h) (ck : mm_ck mi ip (.drem) pc x v aux = true) (HO : mm_oW (mm_s1 (.drem) x v ip L st h) F G ip L h Qr) (K : mm_KN p l e R s m args below meth c Q z mi n0 m0 F) : W p l e R s m args below meth c H locs cells slots Q (F0 m pc ls (st.map (mm_tr z))) := by
  obtain ⟨hx, hb, hml, hown, hts, hFN, hini, hfr, hlc, h40⟩ := id hF
  obtain ⟨hd, hp⟩ := mm_d_dec (show mm_d mi ip (.drem) pc 1 = true from ck)
  
  replace HO : mm_oW (mm_bD FP.drem ip L st h) F G ip L h Qr := HO
  unfold mm_bD at HO
  split at HO
  · rename_i b a r
    obtain ⟨hg, HF⟩ := HO
    exact lv_drem hx hb hd hg (K _ _ _ _ _ _ _ _ _ _ HF hp hRl hl hlo hce hsl)
  · exact HO.elim
theorem mm_p_f2d (hF : mm_Fr p R s m args meth c z mi d) (hl : lv_has ls (mm_ml mi) (mm_pr z 0 L)) (hRl : mm_Rel z h H) (hlo : ∀ q ∈ locs, z.1.2.2.1 ≤ q.base) (hce : cells + n0 = hN h) (hsl : slots + m0 = hM h) (ck : mm_ck mi ip (.f2d) pc x v aux = true) (HO : mm_oW (mm_s1 (.f2d) x v ip L st h) F G ip L h Qr) (K : mm_KN p l e R s m args below meth c Q z mi n0 m0 F) : W p l e R s m args below meth c H locs cells slots Q (F0 m pc ls (st.map (mm_tr z))) := by
  obtain ⟨hx, hb, hml, hown, hts, hFN, hini, hfr, hlc, h40⟩ := id hF
  obtain ⟨hd, hp⟩ := mm_d_dec (show mm_d mi ip (.f2d) pc 1 = true from ck)
  
  unfold mm_s1 at HO
  dsimp only at HO
  split at HO
  · rename_i a r
    obtain ⟨hg, HF⟩ := HO
    exact lv_f2d hx hb hd hg (K _ _ _ _ _ _ _ _ _ _ HF hp hRl hl hlo hce hsl)
  · exact HO.elim
theorem mm_p_fdiv (hF : mm_Fr p R s m args meth c z mi d) (hl : lv_has ls (mm_ml mi) (mm_pr z 0 L)) (hRl : mm_Rel z h H) (hlo : ∀ q ∈ locs, z.1.2.2.1 ≤ q.base) (hce : cells + n0 = hN h) (hsl : slots + m0 = hM h) (ck : mm_ck mi ip (.fdiv) pc x v aux = true) (HO : mm_oW (mm_s1 (.fdiv) x v ip L st h) F G ip L h Qr) (K : mm_KN p l e R s m args below meth c Q z mi n0 m0 F) : W p l e R s m args below meth c H locs cells slots Q (F0 m pc ls (st.map (mm_tr z))) := by
  obtain ⟨hx, hb, hml, hown, hts, hFN, hini, hfr, hlc, h40⟩ := id hF
  obtain ⟨hd, hp⟩ := mm_d_dec (show mm_d mi ip (.fdiv) pc 1 = true from ck)
  
  unfold mm_s1 at HO
  dsimp only at HO
  split at HO
  · rename_i b a r
    obtain ⟨hg, HF⟩ := HO
    exact lv_fdiv hx hb hd hg (K _ _ _ _ _ _ _ _ _ _ HF hp hRl hl hlo hce hsl)
  · exact HO.elim
theorem mm_p_fcmp {op : CmpOp} (hF : mm_Fr p R s m args meth c z mi d) (hl : lv_has ls (mm_ml mi) (mm_pr z 0 L)) (hRl : mm_Rel z h H) (hlo : ∀ q ∈ locs, z.1.2.2.1 ≤ q.base) (hce : cells + n0 = hN h) (hsl : slots + m0 = hM h) (ck : mm_ck mi ip (.fcmp op) pc x v aux = true) (HO : mm_oW (mm_s1 (.fcmp op) x v ip L st h) F G ip L h Qr) (K : mm_KN p l e R s m args below meth c Q z mi n0 m0 F) : W p l e R s m args below meth c H locs cells slots Q (F0 m pc ls (st.map (mm_tr z))) := by
  obtain ⟨hx, hb, hml, hown, hts, hFN, hini, hfr, hlc, h40⟩ := id hF
  obtain ⟨hd, hp⟩ := mm_d_dec (show mm_d mi ip (.fcmp op) pc 1 = true from ck)
  
  unfold mm_s1 at HO
  dsimp only at HO
  split at HO
  · rename_i b a r
    have HF : F (ip + 1) L _ h := HO
    exact lv_fcmp hx hb hd (K _ _ _ _ _ _ _ _ _ _ HF hp hRl hl hlo hce hsl)
  · exact HO.elim
theorem mm_p_dcmp {op : CmpOp} (hF : mm_Fr p R s m args meth c z mi d) (hl : lv_has ls (mm_ml mi) (mm_pr z 0 L)) (hRl : mm_Rel z h H) (hlo : ∀ q ∈ locs, z.1.2.2.1 ≤ q.base) (hce : cells + n0 = hN h) (hsl : slots + m0 = hM h) (ck : mm_ck mi ip (.dcmp op) pc x v aux = true) (HO : mm_oW (mm_s1 (.dcmp op) x v ip L st h) F G ip L h Qr) (K : mm_KN p l e R s m args below meth c Q z mi n0 m0 F) : W p l e R s m args below meth c H locs cells slots Q (F0 m pc ls (st.map (mm_tr z))) := by
  obtain ⟨hx, hb, hml, hown, hts, hFN, hini, hfr, hlc, h40⟩ := id hF
  obtain ⟨hd, hp⟩ := mm_d_dec (show mm_d mi ip (.dcmp op) pc 1 = true from ck)
  
  unfold mm_s1 at HO
  dsimp only at HO
  split at HO
  · rename_i b a r
    have HF : F (ip + 1) L _ h := HO
    exact lv_dcmp hx hb hd (K _ _ _ _ _ _ _ _ _ _ HF hp hRl hl hlo hce hsl)
  · exact HO.elim
theorem mm_ca_tr {w : Value} : (mm_tr z w).category = mm_ca w := by cases w <;> rfl

theorem mm_p_dup (hF : mm_Fr p R s m args meth c z mi d) (hl : lv_has ls (mm_ml mi) (mm_pr z 0 L)) (hRl : mm_Rel z h H) (hlo : ∀ q ∈ locs, z.1.2.2.1 ≤ q.base) (hce : cells + n0 = hN h) (hsl : slots + m0 = hM h) (ck : mm_ck mi ip (.dup) pc x v aux = true) (HO : mm_oW (mm_s1 (.dup) x v ip L st h) F G ip L h Qr) (K : mm_KN p l e R s m args below meth c Q z mi n0 m0 F) : W p l e R s m args below meth c H locs cells slots Q (F0 m pc ls (st.map (mm_tr z))) := by
  obtain ⟨hx, hb, hml, hown, hts, hFN, hini, hfr, hlc, h40⟩ := id hF
  obtain ⟨hd, hp⟩ := mm_d_dec (show mm_d mi ip (.dup) pc 1 = true from ck)
  
  replace HO : mm_oW (mm_dup ip L st h) F G ip L h Qr := HO
  unfold mm_dup at HO
  split at HO
  · rename_i w r
    split at HO
    · rename_i hc
      have HF : F (ip + 1) L (w :: w :: r) h := HO
      exact lv_dup hx hb hd (mm_ca_tr.trans hc) (K _ _ _ _ _ _ _ _ _ _ HF hp hRl hl hlo hce hsl)
    · exact HO.elim
  · exact HO.elim
theorem mm_p_pop (hF : mm_Fr p R s m args meth c z mi d) (hl : lv_has ls (mm_ml mi) (mm_pr z 0 L)) (hRl : mm_Rel z h H) (hlo : ∀ q ∈ locs, z.1.2.2.1 ≤ q.base) (hce : cells + n0 = hN h) (hsl : slots + m0 = hM h) (ck : mm_ck mi ip (.pop) pc x v aux = true) (HO : mm_oW (mm_s1 (.pop) x v ip L st h) F G ip L h Qr) (K : mm_KN p l e R s m args below meth c Q z mi n0 m0 F) : W p l e R s m args below meth c H locs cells slots Q (F0 m pc ls (st.map (mm_tr z))) := by
  obtain ⟨hx, hb, hml, hown, hts, hFN, hini, hfr, hlc, h40⟩ := id hF
  obtain ⟨hd, hp⟩ := mm_d_dec (show mm_d mi ip (.pop) pc 1 = true from ck)
  
  replace HO : mm_oW (mm_pop ip L st h) F G ip L h Qr := HO
  unfold mm_pop at HO
  split at HO
  · rename_i w r
    split at HO
    · rename_i hc
      have HF : F (ip + 1) L r h := HO
      exact lv_pop hx hb hd (mm_ca_tr.trans hc) (K _ _ _ _ _ _ _ _ _ _ HF hp hRl hl hlo hce hsl)
    · exact HO.elim
  · exact HO.elim
theorem mm_p_dup2 (hF : mm_Fr p R s m args meth c z mi d) (hl : lv_has ls (mm_ml mi) (mm_pr z 0 L)) (hRl : mm_Rel z h H) (hlo : ∀ q ∈ locs, z.1.2.2.1 ≤ q.base) (hce : cells + n0 = hN h) (hsl : slots + m0 = hM h) (ck : mm_ck mi ip (.dup2) pc x v aux = true) (HO : mm_oW (mm_s1 (.dup2) x v ip L st h) F G ip L h Qr) (K : mm_KN p l e R s m args below meth c Q z mi n0 m0 F) : W p l e R s m args below meth c H locs cells slots Q (F0 m pc ls (st.map (mm_tr z))) := by
  obtain ⟨hx, hb, hml, hown, hts, hFN, hini, hfr, hlc, h40⟩ := id hF
  obtain ⟨hd, hp⟩ := mm_d_dec (show mm_d mi ip (.dup2) pc 1 = true from ck)
  
  replace HO : mm_oW (mm_dup2 ip L st h) F G ip L h Qr := HO
  unfold mm_dup2 at HO
  split at HO
  · rename_i w r
    split at HO
    · rename_i hc
      have HF : F (ip + 1) L (w :: w :: r) h := HO
      exact lv_dup2_2 hx hb hd (mm_ca_tr.trans hc) (K _ _ _ _ _ _ _ _ _ _ HF hp hRl hl hlo hce hsl)
    · rename_i hc
      have hc1 : mm_ca w = 1 := by cases w <;> first | rfl | exact absurd rfl hc
      split at HO
      · rename_i u r
        split at HO
        · rename_i hcu
          have HF : F (ip + 1) L (w :: u :: w :: u :: r) h := HO
          exact lv_dup2_11 hx hb hd (mm_ca_tr.trans hc1) (mm_ca_tr.trans hcu) (K _ _ _ _ _ _ _ _ _ _ HF hp hRl hl hlo hce hsl)
        · exact HO.elim
      · exact HO.elim
  · exact HO.elim
theorem mm_p_goto {off : Int} (hF : mm_Fr p R s m args meth c z mi d) (hl : lv_has ls (mm_ml mi) (mm_pr z 0 L)) (hRl : mm_Rel z h H) (hlo : ∀ q ∈ locs, z.1.2.2.1 ≤ q.base) (hce : cells + n0 = hN h) (hsl : slots + m0 = hM h) (ck : mm_ck mi ip (.goto off) pc x v aux = true) (HO : mm_oW (mm_s1 (.goto off) x v ip L st h) F G ip L h Qr) (K : mm_KN p l e R s m args below meth c Q z mi n0 m0 F) : W p l e R s m args below meth c H locs cells slots Q (F0 m pc ls (st.map (mm_tr z))) := by
  obtain ⟨hx, hb, hml, hown, hts, hFN, hini, hfr, hlc, h40⟩ := id hF
  simp only [mm_ck, Bool.and_eq_true] at ck
  obtain ⟨c1, c2⟩ := ck
  obtain ⟨hd, hp⟩ := mm_d_dec c1
  obtain ⟨tgt, ht, hpt⟩ := mm_tg_po c2
  
  have HF : F (mm_x0 x) L st h := HO
  exact lv_goto hx hb hd ht (K _ _ _ _ _ _ _ _ _ _ HF hpt hRl hl hlo hce hsl)
theorem mm_p_ifnonnull {off : Int} (hF : mm_Fr p R s m args meth c z mi d) (hl : lv_has ls (mm_ml mi) (mm_pr z 0 L)) (hRl : mm_Rel z h H) (hlo : ∀ q ∈ locs, z.1.2.2.1 ≤ q.base) (hce : cells + n0 = hN h) (hsl : slots + m0 = hM h) (ck : mm_ck mi ip (.ifnonnull off) pc x v aux = true) (HO : mm_oW (mm_s1 (.ifnonnull off) x v ip L st h) F G ip L h Qr) (K : mm_KN p l e R s m args below meth c Q z mi n0 m0 F) : W p l e R s m args below meth c H locs cells slots Q (F0 m pc ls (st.map (mm_tr z))) := by
  obtain ⟨hx, hb, hml, hown, hts, hFN, hini, hfr, hlc, h40⟩ := id hF
  simp only [mm_ck, Bool.and_eq_true] at ck
  obtain ⟨c1, c2⟩ := ck
  obtain ⟨hd, hp⟩ := mm_d_dec c1
  obtain ⟨tgt, ht, hpt⟩ := mm_tg_po c2
  
  replace HO : mm_oW (mm_nn x ip L st h) F G ip L h Qr := HO
  unfold mm_nn at HO
  split at HO
  · rename_i a r
    have HF : F (mm_x0 x) L r h := HO
    exact lv_ifnonnull hx hb hd ht (K _ _ _ _ _ _ _ _ _ _ HF hpt hRl hl hlo hce hsl)
  · rename_i r
    have HF : F (ip + 1) L r h := HO
    exact lv_ifnonnullN hx hb hd (K _ _ _ _ _ _ _ _ _ _ HF hp hRl hl hlo hce hsl)
  · exact HO.elim
theorem mm_p_if_eq {off : Int} (hF : mm_Fr p R s m args meth c z mi d) (hl : lv_has ls (mm_ml mi) (mm_pr z 0 L)) (hRl : mm_Rel z h H) (hlo : ∀ q ∈ locs, z.1.2.2.1 ≤ q.base) (hce : cells + n0 = hN h) (hsl : slots + m0 = hM h) (ck : mm_ck mi ip (.ifCond .eq off) pc x v aux = true) (HO : mm_oW (mm_s1 (.ifCond .eq off) x v ip L st h) F G ip L h Qr) (K : mm_KN p l e R s m args below meth c Q z mi n0 m0 F) : W p l e R s m args below meth c H locs cells slots Q (F0 m pc ls (st.map (mm_tr z))) := by
  obtain ⟨hx, hb, hml, hown, hts, hFN, hini, hfr, hlc, h40⟩ := id hF
  simp only [mm_ck, Bool.and_eq_true] at ck
  obtain ⟨c1, c2⟩ := ck
  obtain ⟨hd, hp⟩ := mm_d_dec c1
  obtain ⟨tgt, ht, hpt⟩ := mm_tg_po c2
  
  replace HO : mm_oW (mm_if (fun a => a = 0) x ip L st h) F G ip L h Qr := HO
  unfold mm_if at HO
  split at HO
  · rename_i a r
    exact lv_if_eq hx hb hd ht (fun q => K _ _ _ _ _ _ _ _ _ _ (HO.1 q) hpt hRl hl hlo hce hsl) (fun q => K _ _ _ _ _ _ _ _ _ _ (HO.2 q) hp hRl hl hlo hce hsl)
  · exact HO.elim
theorem mm_p_ic_eq {off : Int} (hF : mm_Fr p R s m args meth c z mi d) (hl : lv_has ls (mm_ml mi) (mm_pr z 0 L)) (hRl : mm_Rel z h H) (hlo : ∀ q ∈ locs, z.1.2.2.1 ≤ q.base) (hce : cells + n0 = hN h) (hsl : slots + m0 = hM h) (ck : mm_ck mi ip (.if_icmp .eq off) pc x v aux = true) (HO : mm_oW (mm_s1 (.if_icmp .eq off) x v ip L st h) F G ip L h Qr) (K : mm_KN p l e R s m args below meth c Q z mi n0 m0 F) : W p l e R s m args below meth c H locs cells slots Q (F0 m pc ls (st.map (mm_tr z))) := by
  obtain ⟨hx, hb, hml, hown, hts, hFN, hini, hfr, hlc, h40⟩ := id hF
  simp only [mm_ck, Bool.and_eq_true] at ck
  obtain ⟨c1, c2⟩ := ck
  obtain ⟨hd, hp⟩ := mm_d_dec c1
  obtain ⟨tgt, ht, hpt⟩ := mm_tg_po c2
  
  replace HO : mm_oW (mm_ic (fun a b => a = b) x ip L st h) F G ip L h Qr := HO
  unfold mm_ic at HO
  split at HO
  · rename_i b a r
    exact lv_icmp_eq hx hb hd ht (fun q => K _ _ _ _ _ _ _ _ _ _ (HO.1 q) hpt hRl hl hlo hce hsl) (fun q => K _ _ _ _ _ _ _ _ _ _ (HO.2 q) hp hRl hl hlo hce hsl)
  · exact HO.elim
theorem mm_p_if_ne {off : Int} (hF : mm_Fr p R s m args meth c z mi d) (hl : lv_has ls (mm_ml mi) (mm_pr z 0 L)) (hRl : mm_Rel z h H) (hlo : ∀ q ∈ locs, z.1.2.2.1 ≤ q.base) (hce : cells + n0 = hN h) (hsl : slots + m0 = hM h) (ck : mm_ck mi ip (.ifCond .ne off) pc x v aux = true) (HO : mm_oW (mm_s1 (.ifCond .ne off) x v ip L st h) F G ip L h Qr) (K : mm_KN p l e R s m args below meth c Q z mi n0 m0 F) : W p l e R s m args below meth c H locs cells slots Q (F0 m pc ls (st.map (mm_tr z))) := by
  obtain ⟨hx, hb, hml, hown, hts, hFN, hini, hfr, hlc, h40⟩ := id hF
  simp only [mm_ck, Bool.and_eq_true] at ck
  obtain ⟨c1, c2⟩ := ck
  obtain ⟨hd, hp⟩ := mm_d_dec c1
  obtain ⟨tgt, ht, hpt⟩ := mm_tg_po c2
  
  replace HO : mm_oW (mm_if (fun a => ¬ a = 0) x ip L st h) F G ip L h Qr := HO
  unfold mm_if at HO
  split at HO
  · rename_i a r
    exact lv_if_ne hx hb hd ht (fun q => K _ _ _ _ _ _ _ _ _ _ (HO.1 q) hpt hRl hl hlo hce hsl) (fun q => K _ _ _ _ _ _ _ _ _ _ (HO.2 (fun z => z q)) hp hRl hl hlo hce hsl)
  · exact HO.elim
theorem mm_p_ic_ne {off : Int} (hF : mm_Fr p R s m args meth c z mi d) (hl : lv_has ls (mm_ml mi) (mm_pr z 0 L)) (hRl : mm_Rel z h H) (hlo : ∀ q ∈ locs, z.1.2.2.1 ≤ q.base) (hce : cells + n0 = hN h) (hsl : slots + m0 = hM h) (ck : mm_ck mi ip (.if_icmp .ne off) pc x v aux = true) (HO : mm_oW (mm_s1 (.if_icmp .ne off) x v ip L st h) F G ip L h Qr) (K : mm_KN p l e R s m args below meth c Q z mi n0 m0 F) : W p l e R s m args below meth c H locs cells slots Q (F0 m pc ls (st.map (mm_tr z))) := by
  obtain ⟨hx, hb, hml, hown, hts, hFN, hini, hfr, hlc, h40⟩ := id hF
  simp only [mm_ck, Bool.and_eq_true] at ck
  obtain ⟨c1, c2⟩ := ck
  obtain ⟨hd, hp⟩ := mm_d_dec c1
  obtain ⟨tgt, ht, hpt⟩ := mm_tg_po c2
  
  replace HO : mm_oW (mm_ic (fun a b => ¬ a = b) x ip L st h) F G ip L h Qr := HO
  unfold mm_ic at HO
  split at HO
  · rename_i b a r
    exact lv_icmp_ne hx hb hd ht (fun q => K _ _ _ _ _ _ _ _ _ _ (HO.1 q) hpt hRl hl hlo hce hsl) (fun q => K _ _ _ _ _ _ _ _ _ _ (HO.2 (fun z => z q)) hp hRl hl hlo hce hsl)
  · exact HO.elim
theorem mm_p_if_lt {off : Int} (hF : mm_Fr p R s m args meth c z mi d) (hl : lv_has ls (mm_ml mi) (mm_pr z 0 L)) (hRl : mm_Rel z h H) (hlo : ∀ q ∈ locs, z.1.2.2.1 ≤ q.base) (hce : cells + n0 = hN h) (hsl : slots + m0 = hM h) (ck : mm_ck mi ip (.ifCond .lt off) pc x v aux = true) (HO : mm_oW (mm_s1 (.ifCond .lt off) x v ip L st h) F G ip L h Qr) (K : mm_KN p l e R s m args below meth c Q z mi n0 m0 F) : W p l e R s m args below meth c H locs cells slots Q (F0 m pc ls (st.map (mm_tr z))) := by
  obtain ⟨hx, hb, hml, hown, hts, hFN, hini, hfr, hlc, h40⟩ := id hF
  simp only [mm_ck, Bool.and_eq_true] at ck
  obtain ⟨c1, c2⟩ := ck
  obtain ⟨hd, hp⟩ := mm_d_dec c1
  obtain ⟨tgt, ht, hpt⟩ := mm_tg_po c2
  
  replace HO : mm_oW (mm_if (fun a => a < 0) x ip L st h) F G ip L h Qr := HO
  unfold mm_if at HO
  split at HO
  · rename_i a r
    exact lv_if_lt hx hb hd ht (fun q => K _ _ _ _ _ _ _ _ _ _ (HO.1 q) hpt hRl hl hlo hce hsl) (fun q => K _ _ _ _ _ _ _ _ _ _ (HO.2 q) hp hRl hl hlo hce hsl)
  · exact HO.elim
theorem mm_p_ic_lt {off : Int} (hF : mm_Fr p R s m args meth c z mi d) (hl : lv_has ls (mm_ml mi) (mm_pr z 0 L)) (hRl : mm_Rel z h H) (hlo : ∀ q ∈ locs, z.1.2.2.1 ≤ q.base) (hce : cells + n0 = hN h) (hsl : slots + m0 = hM h) (ck : mm_ck mi ip (.if_icmp .lt off) pc x v aux = true) (HO : mm_oW (mm_s1 (.if_icmp .lt off) x v ip L st h) F G ip L h Qr) (K : mm_KN p l e R s m args below meth c Q z mi n0 m0 F) : W p l e R s m args below meth c H locs cells slots Q (F0 m pc ls (st.map (mm_tr z))) := by
  obtain ⟨hx, hb, hml, hown, hts, hFN, hini, hfr, hlc, h40⟩ := id hF
  simp only [mm_ck, Bool.and_eq_true] at ck
  obtain ⟨c1, c2⟩ := ck
  obtain ⟨hd, hp⟩ := mm_d_dec c1
  obtain ⟨tgt, ht, hpt⟩ := mm_tg_po c2
  
  replace HO : mm_oW (mm_ic (fun a b => a < b) x ip L st h) F G ip L h Qr := HO
  unfold mm_ic at HO
  split at HO
  · rename_i b a r
    exact lv_icmp_lt hx hb hd ht (fun q => K _ _ _ _ _ _ _ _ _ _ (HO.1 q) hpt hRl hl hlo hce hsl) (fun q => K _ _ _ _ _ _ _ _ _ _ (HO.2 q) hp hRl hl hlo hce hsl)
  · exact HO.elim
theorem mm_p_if_ge {off : Int} (hF : mm_Fr p R s m args meth c z mi d) (hl : lv_has ls (mm_ml mi) (mm_pr z 0 L)) (hRl : mm_Rel z h H) (hlo : ∀ q ∈ locs, z.1.2.2.1 ≤ q.base) (hce : cells + n0 = hN h) (hsl : slots + m0 = hM h) (ck : mm_ck mi ip (.ifCond .ge off) pc x v aux = true) (HO : mm_oW (mm_s1 (.ifCond .ge off) x v ip L st h) F G ip L h Qr) (K : mm_KN p l e R s m args below meth c Q z mi n0 m0 F) : W p l e R s m args below meth c H locs cells slots Q (F0 m pc ls (st.map (mm_tr z))) := by
  obtain ⟨hx, hb, hml, hown, hts, hFN, hini, hfr, hlc, h40⟩ := id hF
  simp only [mm_ck, Bool.and_eq_true] at ck
  obtain ⟨c1, c2⟩ := ck
  obtain ⟨hd, hp⟩ := mm_d_dec c1
  obtain ⟨tgt, ht, hpt⟩ := mm_tg_po c2
  
  replace HO : mm_oW (mm_if (fun a => 0 ≤ a) x ip L st h) F G ip L h Qr := HO
  unfold mm_if at HO
  split at HO
  · rename_i a r
    exact lv_if_ge hx hb hd ht (fun q => K _ _ _ _ _ _ _ _ _ _ (HO.1 q) hpt hRl hl hlo hce hsl) (fun q => K _ _ _ _ _ _ _ _ _ _ (HO.2 q) hp hRl hl hlo hce hsl)
  · exact HO.elim
theorem mm_p_ic_ge {off : Int} (hF : mm_Fr p R s m args meth c z mi d) (hl : lv_has ls (mm_ml mi) (mm_pr z 0 L)) (hRl : mm_Rel z h H) (hlo : ∀ q ∈ locs, z.1.2.2.1 ≤ q.base) (hce : cells + n0 = hN h) (hsl : slots + m0 = hM h) (ck : mm_ck mi ip (.if_icmp .ge off) pc x v aux = true) (HO : mm_oW (mm_s1 (.if_icmp .ge off) x v ip L st h) F G ip L h Qr) (K : mm_KN p l e R s m args below meth c Q z mi n0 m0 F) : W p l e R s m args below meth c H locs cells slots Q (F0 m pc ls (st.map (mm_tr z))) := by
  obtain ⟨hx, hb, hml, hown, hts, hFN, hini, hfr, hlc, h40⟩ := id hF
  simp only [mm_ck, Bool.and_eq_true] at ck
  obtain ⟨c1, c2⟩ := ck
  obtain ⟨hd, hp⟩ := mm_d_dec c1
  obtain ⟨tgt, ht, hpt⟩ := mm_tg_po c2
  
  replace HO : mm_oW (mm_ic (fun a b => b ≤ a) x ip L st h) F G ip L h Qr := HO
  unfold mm_ic at HO
  split at HO
  · rename_i b a r
    exact lv_icmp_ge hx hb hd ht (fun q => K _ _ _ _ _ _ _ _ _ _ (HO.1 q) hpt hRl hl hlo hce hsl) (fun q => K _ _ _ _ _ _ _ _ _ _ (HO.2 q) hp hRl hl hlo hce hsl)
  · exact HO.elim
theorem mm_p_if_gt {off : Int} (hF : mm_Fr p R s m args meth c z mi d) (hl : lv_has ls (mm_ml mi) (mm_pr z 0 L)) (hRl : mm_Rel z h H) (hlo : ∀ q ∈ locs, z.1.2.2.1 ≤ q.base) (hce : cells + n0 = hN h) (hsl : slots + m0 = hM h) (ck : mm_ck mi ip (.ifCond .gt off) pc x v aux = true) (HO : mm_oW (mm_s1 (.ifCond .gt off) x v ip L st h) F G ip L h Qr) (K : mm_KN p l e R s m args below meth c Q z mi n0 m0 F) : W p l e R s m args below meth c H locs cells slots Q (F0 m pc ls (st.map (mm_tr z))) := by
  obtain ⟨hx, hb, hml, hown, hts, hFN, hini, hfr, hlc, h40⟩ := id hF
  simp only [mm_ck, Bool.and_eq_true] at ck
  obtain ⟨c1, c2⟩ := ck
  obtain ⟨hd, hp⟩ := mm_d_dec c1
  obtain ⟨tgt, ht, hpt⟩ := mm_tg_po c2
  
  replace HO : mm_oW (mm_if (fun a => 0 < a) x ip L st h) F G ip L h Qr := HO
  unfold mm_if at HO
  split at HO
  · rename_i a r
    exact lv_if_gt hx hb hd ht (fun q => K _ _ _ _ _ _ _ _ _ _ (HO.1 q) hpt hRl hl hlo hce hsl) (fun q => K _ _ _ _ _ _ _ _ _ _ (HO.2 q) hp hRl hl hlo hce hsl)
  · exact HO.elim
theorem mm_p_ic_gt {off : Int} (hF : mm_Fr p R s m args meth c z mi d) (hl : lv_has ls (mm_ml mi) (mm_pr z 0 L)) (hRl : mm_Rel z h H) (hlo : ∀ q ∈ locs, z.1.2.2.1 ≤ q.base) (hce : cells + n0 = hN h) (hsl : slots + m0 = hM h) (ck : mm_ck mi ip (.if_icmp .gt off) pc x v aux = true) (HO : mm_oW (mm_s1 (.if_icmp .gt off) x v ip L st h) F G ip L h Qr) (K : mm_KN p l e R s m args below meth c Q z mi n0 m0 F) : W p l e R s m args below meth c H locs cells slots Q (F0 m pc ls (st.map (mm_tr z))) := by
  obtain ⟨hx, hb, hml, hown, hts, hFN, hini, hfr, hlc, h40⟩ := id hF
  simp only [mm_ck, Bool.and_eq_true] at ck
  obtain ⟨c1, c2⟩ := ck
  obtain ⟨hd, hp⟩ := mm_d_dec c1
  obtain ⟨tgt, ht, hpt⟩ := mm_tg_po c2
  
  replace HO : mm_oW (mm_ic (fun a b => b < a) x ip L st h) F G ip L h Qr := HO
  unfold mm_ic at HO
  split at HO
  · rename_i b a r
    exact lv_icmp_gt hx hb hd ht (fun q => K _ _ _ _ _ _ _ _ _ _ (HO.1 q) hpt hRl hl hlo hce hsl) (fun q => K _ _ _ _ _ _ _ _ _ _ (HO.2 q) hp hRl hl hlo hce hsl)
  · exact HO.elim
theorem mm_p_if_le {off : Int} (hF : mm_Fr p R s m args meth c z mi d) (hl : lv_has ls (mm_ml mi) (mm_pr z 0 L)) (hRl : mm_Rel z h H) (hlo : ∀ q ∈ locs, z.1.2.2.1 ≤ q.base) (hce : cells + n0 = hN h) (hsl : slots + m0 = hM h) (ck : mm_ck mi ip (.ifCond .le off) pc x v aux = true) (HO : mm_oW (mm_s1 (.ifCond .le off) x v ip L st h) F G ip L h Qr) (K : mm_KN p l e R s m args below meth c Q z mi n0 m0 F) : W p l e R s m args below meth c H locs cells slots Q (F0 m pc ls (st.map (mm_tr z))) := by
  obtain ⟨hx, hb, hml, hown, hts, hFN, hini, hfr, hlc, h40⟩ := id hF
  simp only [mm_ck, Bool.and_eq_true] at ck
  obtain ⟨c1, c2⟩ := ck
  obtain ⟨hd, hp⟩ := mm_d_dec c1
  obtain ⟨tgt, ht, hpt⟩ := mm_tg_po c2
  
  replace HO : mm_oW (mm_if (fun a => a ≤ 0) x ip L st h) F G ip L h Qr := HO
  unfold mm_if at HO
  split at HO
  · rename_i a r
    exact lv_if_le hx hb hd ht (fun q => K _ _ _ _ _ _ _ _ _ _ (HO.1 q) hpt hRl hl hlo hce hsl) (fun q => K _ _ _ _ _ _ _ _ _ _ (HO.2 q) hp hRl hl hlo hce hsl)
  · exact HO.elim
theorem mm_p_ic_le {off : Int} (hF : mm_Fr p R s m args meth c z mi d) (hl : lv_has ls (mm_ml mi) (mm_pr z 0 L)) (hRl : mm_Rel z h H) (hlo : ∀ q ∈ locs, z.1.2.2.1 ≤ q.base) (hce : cells + n0 = hN h) (hsl : slots + m0 = hM h) (ck : mm_ck mi ip (.if_icmp .le off) pc x v aux = true) (HO : mm_oW (mm_s1 (.if_icmp .le off) x v ip L st h) F G ip L h Qr) (K : mm_KN p l e R s m args below meth c Q z mi n0 m0 F) : W p l e R s m args below meth c H locs cells slots Q (F0 m pc ls (st.map (mm_tr z))) := by
  obtain ⟨hx, hb, hml, hown, hts, hFN, hini, hfr, hlc, h40⟩ := id hF
  simp only [mm_ck, Bool.and_eq_true] at ck
  obtain ⟨c1, c2⟩ := ck
  obtain ⟨hd, hp⟩ := mm_d_dec c1
  obtain ⟨tgt, ht, hpt⟩ := mm_tg_po c2
  
  replace HO : mm_oW (mm_ic (fun a b => a ≤ b) x ip L st h) F G ip L h Qr := HO
  unfold mm_ic at HO
  split at HO
  · rename_i b a r
    exact lv_icmp_le hx hb hd ht (fun q => K _ _ _ _ _ _ _ _ _ _ (HO.1 q) hpt hRl hl hlo hce hsl) (fun q => K _ _ _ _ _ _ _ _ _ _ (HO.2 q) hp hRl hl hlo hce hsl)
  · exact HO.elim
end STEP
end
section
/-! the rest of the instructions -/
section STEP2
variable {p : Program} {l : Launch} {e : Env} {R : Room} {s : State} {m : MethodId} {args : Array Value} {below : List Frame} {meth : Method} {c : Code} {Q : State → Prop}
variable {z : mm_Z} {mi d n0 m0 : Nat} {F : Nat → mm_Lv → List Value → mm_H → Prop} {G : Nat → List Value → mm_Q → Prop} {Qr : mm_Q}
variable {ip pc : Nat} {L : mm_Lv} {st : List Value} {h : mm_H} {H : Heap} {locs : List Loc} {ls : Array Slot} {cells slots : Nat} {x : List Nat} {v : Value} {aux : List Nat}
/-- a table's cases -/
theorem mm_swl_in {F' : Nat → Prop} {v : Int32} {df : Nat} : ∀ (ts : List Nat) (lo : Int), mm_swW F' v (mm_swl lo ts) df → -2147483648 ≤ lo → lo + ts.length ≤ 2147483648 → (∃ (j t : Nat), ts[j]? = some t ∧ v.toInt = lo + j ∧ F' t) ∨ ((v.toInt < lo ∨ lo + ts.length ≤ v.toInt) ∧ F' df) := by
  intro ts
  induction ts with
  | nil =>
    intro lo h h1 h2
    refine Or.inr ⟨?_, h⟩
    simp
    omega
  | cons t r ih =>
    intro lo h h1 h2
    have h : (v = Int32.ofInt lo → F' t) ∧ (¬ v = Int32.ofInt lo → mm_swW F' v (mm_swl (lo + 1) r) df) := h
    simp only [List.length_cons] at h2
    have e : (Int32.ofInt lo).toInt = lo := by rw [Int32.toInt_ofInt]; exact Int.bmod_eq_of_le (by simp; omega) (by simp; omega)
    by_cases q : v = Int32.ofInt lo
    · exact Or.inl ⟨0, t, rfl, by rw [q, e]; simp, h.1 q⟩
    · have q2 : v.toInt ≠ lo := fun z => q (Int32.toInt_inj.mp (z.trans e.symm))
      rcases ih (lo + 1) (h.2 q) (by omega) (by omega) with ⟨j, t', e1, e2, e3⟩ | ⟨e1, e2⟩
      · exact Or.inl ⟨j + 1, t', e1, by omega, e3⟩
      · refine Or.inr ⟨?_, e2⟩
        simp only [List.length_cons]
        omega
theorem mm_tgs_at {pc : Nat} : ∀ (ts : List Nat) (os : List Int), mm_tgs mi pc ts os = true → ts.length = os.length ∧ ∀ (j t : Nat), ts[j]? = some t → ∃ o : Int, os[j]? = some o ∧ mm_tg mi pc t o = true := by
  intro ts
  induction ts with
  | nil =>
    intro os h
    cases os with
    | nil => exact ⟨rfl, fun j t q => by simp at q⟩
    | cons o os => simp [mm_tgs] at h
  | cons t r ih =>
    intro os h
    cases os with
    | nil => simp [mm_tgs] at h
    | cons o os =>
      simp only [mm_tgs, Bool.and_eq_true] at h
      obtain ⟨i1, i2⟩ := ih os h.2
      refine ⟨by simp [i1], fun j t' q => ?_⟩
      cases j with
      | zero => simp at q; subst q; exact ⟨o, by simp, h.1⟩
      | succ j => simp at q; simpa using i2 j t' q
/-- a list's cases -/
theorem mm_lkl_in {F' : Nat → Prop} {v : Int32} {df : Nat} {d0 : Int} {pc : Nat} : ∀ (ps : List (Int × Int)) (ts : List Nat), mm_swW F' v (mm_lkl ps ts) df → mm_tgs mi pc ts (ps.map (fun q => q.2)) = true → ps.all (fun q => decide (-2147483648 ≤ q.1) && decide (q.1 < 2147483648)) = true → (∃ (t : Nat), F' t ∧ mm_tg mi pc t (Op.lookupswitch.offset ps d0 v.toInt) = true) ∨ (F' df ∧ Op.lookupswitch.offset ps d0 v.toInt = d0) := by
  intro ps
  induction ps with
  | nil =>
    intro ts h ht hp
    cases ts with
    | nil => exact Or.inr ⟨h, rfl⟩
    | cons t ts => simp [mm_tgs] at ht
  | cons a r ih =>
    intro ts h ht hp
    obtain ⟨k, o⟩ := a
    cases ts with
    | nil => simp [mm_tgs] at ht
    | cons t ts =>
      simp only [List.map_cons, mm_tgs, Bool.and_eq_true] at ht
      simp only [List.all_cons, Bool.and_eq_true, decide_eq_true_eq] at hp
      have h : (v = Int32.ofInt k → F' t) ∧ (¬ v = Int32.ofInt k → mm_swW F' v (mm_lkl r ts) df) := h
      have e : (Int32.ofInt k).toInt = k := by rw [Int32.toInt_ofInt]; exact Int.bmod_eq_of_le (by simp; omega) (by simp; omega)
      by_cases q : v = Int32.ofInt k
      · refine Or.inl ⟨t, h.1 q, ?_⟩
        rw [Op.lookupswitch.offset_cons, if_pos (by rw [q, e])]
        exact ht.1
      · have q2 : ¬ k = v.toInt := fun z => q (Int32.toInt_inj.mp (z.symm.trans e.symm))
        rw [Op.lookupswitch.offset_cons, if_neg q2]
        exact ih ts (h.2 q) ht.2 (by simpa [List.all_eq_true] using hp.2)
theorem mm_p_lcmp (hF : mm_Fr p R s m args meth c z mi d) (hl : lv_has ls (mm_ml mi) (mm_pr z 0 L)) (hRl : mm_Rel z h H) (hlo : ∀ q ∈ locs, z.1.2.2.1 ≤ q.base) (hce : cells + n0 = hN h) (hsl : slots + m0 = hM h) (ck : mm_ck mi ip (.lcmp) pc x v aux = true) (HO : mm_oW (mm_s1 (.lcmp) x v ip L st h) F G ip L h Qr) (K : mm_KN p l e R s m args below meth c Q z mi n0 m0 F) : W p l e R s m args below meth c H locs cells slots Q (F0 m pc ls (st.map (mm_tr z))) := by
  obtain ⟨hx, hb, hml, hown, hts, hFN, hini, hfr, hlc, h40⟩ := id hF
  simp only [mm_ck, Bool.and_eq_true, decide_eq_true_eq] at ck
  obtain ⟨hd, c2⟩ := ck
  split at c2
  · rename_i cc off k t hdc
    simp only [Bool.and_eq_true] at c2
    obtain ⟨⟨c3, ct⟩, hp⟩ := c2
    obtain ⟨tgt, ht, hpt⟩ := mm_tg_po ct
    have c3 := Nat.eq_of_beq_eq_true c3
    subst c3
    cases cc
    · replace HO : mm_oW (mm_lc (fun a b => a = b) t ip L st h) F G ip L h Qr := HO
      unfold mm_lc at HO
      split at HO
      · rename_i b a r
        exact W.lcmp hx hb hd (lv_if_eq hx hb hdc ht (fun q => K _ _ _ _ _ _ _ _ _ _ (HO.1 ((lg_cmp_eq _ _).mp q)) hpt hRl hl hlo hce hsl) (fun q => K _ _ _ _ _ _ _ _ _ _ (HO.2 (fun w => q ((lg_cmp_eq _ _).mpr w))) hp hRl hl hlo hce hsl))
      · exact HO.elim
    · replace HO : mm_oW (mm_lc (fun a b => ¬ a = b) t ip L st h) F G ip L h Qr := HO
      unfold mm_lc at HO
      split at HO
      · rename_i b a r
        exact W.lcmp hx hb hd (lv_if_ne hx hb hdc ht (fun q => K _ _ _ _ _ _ _ _ _ _ (HO.1 (fun w => q ((lg_cmp_eq _ _).mpr w))) hpt hRl hl hlo hce hsl) (fun q => K _ _ _ _ _ _ _ _ _ _ (HO.2 (fun w => w ((lg_cmp_eq _ _).mp q))) hp hRl hl hlo hce hsl))
      · exact HO.elim
    · replace HO : mm_oW (mm_lc (fun a b => a < b) t ip L st h) F G ip L h Qr := HO
      unfold mm_lc at HO
      split at HO
      · rename_i b a r
        exact W.lcmp hx hb hd (lv_if_lt hx hb hdc ht (fun q => K _ _ _ _ _ _ _ _ _ _ (HO.1 ((lg_cmp_lt _ _).mp q)) hpt hRl hl hlo hce hsl) (fun q => K _ _ _ _ _ _ _ _ _ _ (HO.2 (fun w => q ((lg_cmp_lt _ _).mpr w))) hp hRl hl hlo hce hsl))
      · exact HO.elim
    · replace HO : mm_oW (mm_lc (fun a b => b ≤ a) t ip L st h) F G ip L h Qr := HO
      unfold mm_lc at HO
      split at HO
      · rename_i b a r
        exact W.lcmp hx hb hd (lv_if_ge hx hb hdc ht (fun q => K _ _ _ _ _ _ _ _ _ _ (HO.1 ((lg_cmp_ge _ _).mp q)) hpt hRl hl hlo hce hsl) (fun q => K _ _ _ _ _ _ _ _ _ _ (HO.2 (fun w => q ((lg_cmp_ge _ _).mpr w))) hp hRl hl hlo hce hsl))
      · exact HO.elim
    · replace HO : mm_oW (mm_lc (fun a b => b < a) t ip L st h) F G ip L h Qr := HO
      unfold mm_lc at HO
      split at HO
      · rename_i b a r
        exact W.lcmp hx hb hd (lv_if_gt hx hb hdc ht (fun q => K _ _ _ _ _ _ _ _ _ _ (HO.1 ((lg_cmp_gt _ _).mp q)) hpt hRl hl hlo hce hsl) (fun q => K _ _ _ _ _ _ _ _ _ _ (HO.2 (fun w => q ((lg_cmp_gt _ _).mpr w))) hp hRl hl hlo hce hsl))
      · exact HO.elim
    · replace HO : mm_oW (mm_lc (fun a b => a ≤ b) t ip L st h) F G ip L h Qr := HO
      unfold mm_lc at HO
      split at HO
      · rename_i b a r
        exact W.lcmp hx hb hd (lv_if_le hx hb hdc ht (fun q => K _ _ _ _ _ _ _ _ _ _ (HO.1 ((lg_cmp_le _ _).mp q)) hpt hRl hl hlo hce hsl) (fun q => K _ _ _ _ _ _ _ _ _ _ (HO.2 (fun w => q ((lg_cmp_le _ _).mpr w))) hp hRl hl hlo hce hsl))
      · exact HO.elim
  · cases c2
theorem mm_p_table {dd lo hi : Int} {offs : Array Int} (hF : mm_Fr p R s m args meth c z mi d) (hl : lv_has ls (mm_ml mi) (mm_pr z 0 L)) (hRl : mm_Rel z h H) (hlo : ∀ q ∈ locs, z.1.2.2.1 ≤ q.base) (hce : cells + n0 = hN h) (hsl : slots + m0 = hM h) (ck : mm_ck mi ip (.tableswitch dd lo hi offs) pc x v aux = true) (HO : mm_oW (mm_s1 (.tableswitch dd lo hi offs) x v ip L st h) F G ip L h Qr) (K : mm_KN p l e R s m args below meth c Q z mi n0 m0 F) : W p l e R s m args below meth c H locs cells slots Q (F0 m pc ls (st.map (mm_tr z))) := by
  obtain ⟨hx, hb, hml, hown, hts, hFN, hini, hfr, hlc, h40⟩ := id hF
  simp only [mm_ck, Bool.and_eq_true, decide_eq_true_eq] at ck
  obtain ⟨⟨⟨⟨c1, c2⟩, c3⟩, c4⟩, c5⟩ := ck
  split at c1
  · rename_i ins2 len hdc
    have c1 := of_decide_eq_true c1
    subst c1
    replace HO : mm_oW (mm_swi (mm_swl lo (mm_tl x)) x L st h) F G ip L h Qr := HO
    unfold mm_swi at HO
    split at HO
    · rename_i w r
      replace HO : mm_swW (fun t => F t L r h) w (mm_swl lo (mm_tl x)) (mm_x0 x) := HO
      cases x with
      | nil => simp [mm_tgs] at c2
      | cons t0 ts =>
        obtain ⟨q1, q2⟩ := mm_tgs_at _ _ c2
        have q1 : ts.length = offs.size := by simpa using q1
        rcases mm_swl_in (F' := fun t => F t L r h) ts lo HO c4 (by omega) with ⟨j, t, e1, e2, e3⟩ | ⟨e1, e2⟩
        · obtain ⟨o, f1, f2⟩ := q2 (j + 1) t (by simpa using e1)
          obtain ⟨tgt, ht, hpt⟩ := mm_tg_po f2
          have hj : j < ts.length := (List.getElem?_eq_some_iff.mp e1).1
          refine lv_tableIn hx hb hdc (by omega) (by omega) (off := o) ?_ ht (K _ _ _ _ _ _ _ _ _ _ e3 hpt hRl hl hlo hce hsl)
          have : (w.toInt - lo).toNat = j := by omega
          rw [this]
          simpa using f1
        · obtain ⟨o, f1, f2⟩ := q2 0 t0 (by simp)
          obtain ⟨tgt, ht, hpt⟩ := mm_tg_po f2
          have f1 : dd = o := by simpa using f1
          subst f1
          exact lv_tableOut hx hb hdc (by omega) ht (K _ _ _ _ _ _ _ _ _ _ e2 hpt hRl hl hlo hce hsl)
    · exact HO.elim
  · cases c1
theorem mm_p_lookup {dd : Int} {ps : Array (Int × Int)} (hF : mm_Fr p R s m args meth c z mi d) (hl : lv_has ls (mm_ml mi) (mm_pr z 0 L)) (hRl : mm_Rel z h H) (hlo : ∀ q ∈ locs, z.1.2.2.1 ≤ q.base) (hce : cells + n0 = hN h) (hsl : slots + m0 = hM h) (ck : mm_ck mi ip (.lookupswitch dd ps) pc x v aux = true) (HO : mm_oW (mm_s1 (.lookupswitch dd ps) x v ip L st h) F G ip L h Qr) (K : mm_KN p l e R s m args below meth c Q z mi n0 m0 F) : W p l e R s m args below meth c H locs cells slots Q (F0 m pc ls (st.map (mm_tr z))) := by
  obtain ⟨hx, hb, hml, hown, hts, hFN, hini, hfr, hlc, h40⟩ := id hF
  simp only [mm_ck, Bool.and_eq_true] at ck
  obtain ⟨⟨⟨c1, c2⟩, c3⟩, c4⟩ := ck
  split at c1
  · rename_i ins2 len hdc
    have c1 := of_decide_eq_true c1
    subst c1
    replace HO : mm_oW (mm_swi (mm_lkl ps.toList (mm_tl x)) x L st h) F G ip L h Qr := HO
    unfold mm_swi at HO
    split at HO
    · rename_i w r
      replace HO : mm_swW (fun t => F t L r h) w (mm_lkl ps.toList (mm_tl x)) (mm_x0 x) := HO
      cases x with
      | nil => simp [mm_tgs] at c2
      | cons t0 ts =>
        simp only [mm_tgs, Bool.and_eq_true] at c2
        rcases mm_lkl_in (F' := fun t => F t L r h) (d0 := dd) ps.toList ts HO c2.2 c4 with ⟨t, e1, e2⟩ | ⟨e1, e2⟩
        · obtain ⟨tgt, ht, hpt⟩ := mm_tg_po e2
          exact lv_lookup hx hb hdc c3 rfl ht (K _ _ _ _ _ _ _ _ _ _ e1 hpt hRl hl hlo hce hsl)
        · obtain ⟨tgt, ht, hpt⟩ := mm_tg_po c2.1
          exact lv_lookup hx hb hdc c3 e2 ht (K _ _ _ _ _ _ _ _ _ _ e1 hpt hRl hl hlo hce hsl)
    · exact HO.elim
  · cases c1
theorem mm_p_getfield {i : Nat} (hF : mm_Fr p R s m args meth c z mi d) (hl : lv_has ls (mm_ml mi) (mm_pr z 0 L)) (hRl : mm_Rel z h H) (hlo : ∀ q ∈ locs, z.1.2.2.1 ≤ q.base) (hce : cells + n0 = hN h) (hsl : slots + m0 = hM h) (ck : mm_ck mi ip (.getfield i) pc x v aux = true) (HO : mm_oW (mm_s1 (.getfield i) x v ip L st h) F G ip L h Qr) (K : mm_KN p l e R s m args below meth c Q z mi n0 m0 F) : W p l e R s m args below meth c H locs cells slots Q (F0 m pc ls (st.map (mm_tr z))) := by
  obtain ⟨hx, hb, hml, hown, hts, hFN, hini, hfr, hlc, h40⟩ := id hF
  simp only [mm_ck, Bool.and_eq_true] at ck
  obtain ⟨c1, c2⟩ := ck
  obtain ⟨hd, hp⟩ := mm_d_dec c1
  replace HO : mm_oW (mm_get x ip L st h) F G ip L h Qr := HO
  split at c2
  · rename_i k ty ks
    rw [List.all_eq_true] at c2
    have key : ∀ (a : Nat) (r : List Value) (w : Value), mm_kd (hK h a).1 ks → mm_v z h a ty k = mm_tr z w → F (ip + 1) L (w :: r) h → W p l e R s m args below meth c H locs cells slots Q (F0 m pc ls (.ref (mm_ad z a) :: r.map (mm_tr z))) := by
      intro a r w hk hw HF
      obtain ⟨C, T, N, ref, o1, o2, o3, o4, o5, o6⟩ := mm_ckF_o (c2 _ (mm_kd_mem hk))
      exact mm_getf (own := "") hF hRl rfl o2 o1 (mm_cls _ _ o1).1 o3 o5 o6 (by rw [o4]; exact hw) hd (K _ _ _ _ _ _ _ _ _ _ HF hp hRl hl hlo hce hsl)
    unfold mm_get at HO
    split at HO
    · rename_i k2 ty2 ks2 a r heq
      cases heq
      split at HO
      · exact key a r _ HO.1 rfl HO.2
      · refine key a r _ HO.1.1 ?_ HO.2
        show (if hR h a k = 0 then Value.null else .ref (mm_ad z (hR h a k))) = _
        rw [if_neg HO.1.2]
        rfl
      · rename_i n1 n2
        refine key a r _ HO.1 ?_ HO.2
        unfold mm_v
        rw [if_neg n1, if_neg n2]
        rfl
    · exact HO.elim
  · cases c2
theorem mm_p_putfield {i : Nat} (hF : mm_Fr p R s m args meth c z mi d) (hl : lv_has ls (mm_ml mi) (mm_pr z 0 L)) (hRl : mm_Rel z h H) (hlo : ∀ q ∈ locs, z.1.2.2.1 ≤ q.base) (hce : cells + n0 = hN h) (hsl : slots + m0 = hM h) (ck : mm_ck mi ip (.putfield i) pc x v aux = true) (HO : mm_oW (mm_s1 (.putfield i) x v ip L st h) F G ip L h Qr) (K : mm_KN p l e R s m args below meth c Q z mi n0 m0 F) : W p l e R s m args below meth c H locs cells slots Q (F0 m pc ls (st.map (mm_tr z))) := by
  obtain ⟨hx, hb, hml, hown, hts, hFN, hini, hfr, hlc, h40⟩ := id hF
  simp only [mm_ck, Bool.and_eq_true] at ck
  obtain ⟨c1, c2⟩ := ck
  obtain ⟨hd, hp⟩ := mm_d_dec c1
  replace HO : mm_oW (mm_set x ip L st h) F G ip L h Qr := HO
  split at c2
  · rename_i k ty fin ks
    rw [List.all_eq_true] at c2
    have key : ∀ (a : Nat) (r : List Value) (w : Value) (h' : mm_H), mm_kd (hK h a).1 ks → (∀ t : FieldType, (ty = 0 ∧ t = .int) ∨ (ty = 3 ∧ t = .boolean) ∨ (ty = 1 ∧ t = .long) ∨ (ty = 2 ∧ ((∃ n, t = .object n) ∨ ∃ u, t = .array u)) → narrow t (mm_tr z w) = mm_tr z w ∧ fits t (mm_tr z w) = true) → hN h' = hN h → hM h' = hM h → (∀ i, hK h' i = hK h i) → (∀ i, i ≠ a → ∀ k, hI h' i k = hI h i k) → (∀ i, i ≠ a → ∀ k, hL h' i k = hL h i k) → (∀ i, i ≠ a → ∀ k, hR h' i k = hR h i k) → (∀ j ty', (j = k → ty' = ty) → mm_v z h' a ty' j = if j = k then mm_tr z w else mm_v z h a ty' j) → F (ip + 1) L r h' → W p l e R s m args below meth c H locs cells slots Q (F0 m pc ls (mm_tr z w :: .ref (mm_ad z a) :: r.map (mm_tr z))) := by
      intro a r w h' hk hw q1 q1m q2 q3 q4 q5 q6 HF
      have c3 := c2 _ (mm_kd_mem hk)
      rw [Bool.and_eq_true] at c3
      obtain ⟨c3, c4⟩ := c3
      obtain ⟨C, T, N, ref, o1, o2, o3, o4, o5, o6⟩ := mm_ckF_o c3
      obtain ⟨u1, u2, u3⟩ := mm_cls _ _ o1
      obtain ⟨t, t1, t2⟩ := u2 k o3
      have t2 : mm_tyo (T k).2.2.1 t := t2
      unfold mm_tyo at t2
      rw [o4] at t2
      obtain ⟨w1, w2⟩ := hw t t2
      refine mm_putf (own := "") hF hRl rfl o2 o1 u1 o3 (fun k hk => (u2 k hk).imp (fun _ z => z.1)) u3 o5 o6 ?_ t1 w1 w2 q1 q2 q3 q4 q5 (fun j hj => ?_) hd hlo (fun H1 locs1 hR1 hl1 => K _ _ _ _ _ _ _ _ _ _ HF hp hR1 hl hl1 (by rw [q1]; exact hce) (by rw [q1m]; exact hsl))
      · unfold mm_fin mm_dcl at c4
        rw [o1] at c4
        simp only [Bool.or_eq_true, Bool.and_eq_true, decide_eq_true_eq, Bool.not_eq_true'] at c4
        rcases c4 with ⟨_, c4⟩ | ⟨⟨⟨_, c4⟩, c5⟩, c6⟩
        · exact Or.inl c4
        · exact Or.inr ⟨c4, c5, c6⟩
      · exact q6 j _ (fun ej => by subst ej; exact o4)
    unfold mm_set at HO
    split at HO
    · rename_i k2 ty2 fin2 ks2 w a r heq
      cases heq
      split at HO
      · refine key a r (.long w) (sL h a k w) HO.1 (fun t ht => ?_) rfl rfl mm_sL_row.2.1 mm_sL_row.2.2.1 mm_sL_row.2.2.2.1 mm_sL_row.2.2.2.2 (fun j ty' hj => mm_v_sL hj) HO.2
        rcases ht with ⟨h1, _⟩ | ⟨h1, _⟩ | ⟨_, rfl⟩ | ⟨h1, _⟩
        · cases h1
        · cases h1
        · exact ⟨rfl, rfl⟩
        · cases h1
      · exact HO.elim
    · rename_i k2 ty2 fin2 ks2 w a r heq
      cases heq
      split at HO
      · refine key a r (.ref w) (sR h a k w) HO.1.1 (fun t ht => ?_) rfl rfl mm_sR_row.2.1 mm_sR_row.2.2.1 mm_sR_row.2.2.2.1 mm_sR_row.2.2.2.2 (fun j ty' hj => mm_v_sR HO.1.2 hj) HO.2
        rcases ht with ⟨h1, _⟩ | ⟨h1, _⟩ | ⟨h1, _⟩ | ⟨_, ⟨n, rfl⟩ | ⟨n, rfl⟩⟩
        · cases h1
        · cases h1
        · cases h1
        · exact ⟨rfl, rfl⟩
        · exact ⟨rfl, rfl⟩
      · exact HO.elim
    · rename_i k2 ty2 fin2 ks2 w a r heq
      cases heq
      split at HO
      · refine key a r (.int w) (sI h a k w) HO.1 (fun t ht => ?_) rfl rfl mm_sI_row.2.1 mm_sI_row.2.2.1 mm_sI_row.2.2.2.1 mm_sI_row.2.2.2.2 (fun j ty' hj => mm_v_sI hj ⟨by decide, by decide⟩) HO.2
        rcases ht with ⟨_, rfl⟩ | ⟨h1, _⟩ | ⟨h1, _⟩ | ⟨h1, _⟩
        · exact ⟨rfl, rfl⟩
        · cases h1
        · cases h1
        · cases h1
      · refine key a r (.int w) (sI h a k w) HO.1.1 (fun t ht => ?_) rfl rfl mm_sI_row.2.1 mm_sI_row.2.2.1 mm_sI_row.2.2.2.1 mm_sI_row.2.2.2.2 (fun j ty' hj => mm_v_sI hj ⟨by decide, by decide⟩) HO.2
        rcases ht with ⟨h1, _⟩ | ⟨_, rfl⟩ | ⟨h1, _⟩ | ⟨h1, _⟩
        · cases h1
        · rcases HO.1.2 with rfl | rfl <;> exact ⟨rfl, rfl⟩
        · cases h1
        · cases h1
      · exact HO.elim
    · exact HO.elim
  · cases c2
theorem mm_p_iaload (hF : mm_Fr p R s m args meth c z mi d) (hl : lv_has ls (mm_ml mi) (mm_pr z 0 L)) (hRl : mm_Rel z h H) (hlo : ∀ q ∈ locs, z.1.2.2.1 ≤ q.base) (hce : cells + n0 = hN h) (hsl : slots + m0 = hM h) (ck : mm_ck mi ip (.iaload) pc x v aux = true) (HO : mm_oW (mm_s1 (.iaload) x v ip L st h) F G ip L h Qr) (K : mm_KN p l e R s m args below meth c Q z mi n0 m0 F) : W p l e R s m args below meth c H locs cells slots Q (F0 m pc ls (st.map (mm_tr z))) := by
  obtain ⟨hx, hb, hml, hown, hts, hFN, hini, hfr, hlc, h40⟩ := id hF
  replace ck : mm_d mi ip .iaload pc 1 = true := ck
  obtain ⟨hd, hp⟩ := mm_d_dec ck
  unfold mm_s1 at HO
  dsimp only at HO
  split at HO
  · unfold mm_xa at HO
    split at HO
    · rename_i i a r
      obtain ⟨⟨ha, hi⟩, HF⟩ := HO
      subst ha
      obtain ⟨hX, hlt, -⟩ := hFN.2.2.2.2
      obtain ⟨scr, g1, g2, g3, g4, g5⟩ := hX
      have hL : (hK h 1).2 = z.2.2.2.1 := by rw [hRl.2.2.2.2.2.1]
      have hj : i.toNatClampNeg < z.2.2.2.1 := by rw [← hL]; exact Nat.not_le.mp fun q => hi (Or.inr q)
      have HF : F (ip + 1) L (.int (hI h 1 i.toNatClampNeg) :: r) h := HF
      rw [hRl.2.2.2.2.2.2] at HF
      exact W.iald (v := .int (z.2.2.2.2 i.toNatClampNeg)) hx hb (a := mm_ad z 1) (cell := scr) ((hRl.2.2.1 _ hlt).trans g1) g2 g3 (by rw [g4, ← hL]; exact hi) (g5 _ hj) rfl rfl hd (K _ _ _ _ _ _ _ _ _ _ HF hp hRl hl hlo hce hsl)
    · exact HO.elim
  · unfold mm_ia at HO
    split at HO
    · rename_i i a r
      obtain ⟨cell, e1, e2, e3, e4⟩ := mm_ar_in hRl HO.1 (by decide) (by decide)
      have HF : F (ip + 1) L (.int (hI h a i.toNatClampNeg) :: r) h := HO.2
      refine W.iald (v := .int (hI h a i.toNatClampNeg)) hx hb e1 (by rw [e2]; exact (hFN.2.1.2 0 _ rfl).1 _ _) (fun q => by rw [e2] at q; cases q) e3 e4 rfl rfl hd (K _ _ _ _ _ _ _ _ _ _ HF hp hRl hl hlo hce hsl)
    · exact HO.elim
theorem mm_p_baload (hF : mm_Fr p R s m args meth c z mi d) (hl : lv_has ls (mm_ml mi) (mm_pr z 0 L)) (hRl : mm_Rel z h H) (hlo : ∀ q ∈ locs, z.1.2.2.1 ≤ q.base) (hce : cells + n0 = hN h) (hsl : slots + m0 = hM h) (ck : mm_ck mi ip (.baload) pc x v aux = true) (HO : mm_oW (mm_s1 (.baload) x v ip L st h) F G ip L h Qr) (K : mm_KN p l e R s m args below meth c Q z mi n0 m0 F) : W p l e R s m args below meth c H locs cells slots Q (F0 m pc ls (st.map (mm_tr z))) := by
  obtain ⟨hx, hb, hml, hown, hts, hFN, hini, hfr, hlc, h40⟩ := id hF
  replace ck : mm_d mi ip .baload pc 1 = true := ck
  obtain ⟨hd, hp⟩ := mm_d_dec ck
  replace HO : mm_oW (mm_ia 14 ip L st h) F G ip L h Qr := HO
  unfold mm_ia at HO
  split at HO
  · rename_i i a r
    obtain ⟨cell, e1, e2, e3, e4⟩ := mm_ar_in hRl HO.1 (by decide) (by decide)
    have HF : F (ip + 1) L (.int (hI h a i.toNatClampNeg) :: r) h := HO.2
    refine W.zald (v := .int (hI h a i.toNatClampNeg)) hx hb e1 (by rw [e2]; exact (hFN.2.1.2 2 _ rfl).1 _ _) (fun q => by rw [e2] at q; cases q) e3 e4 rfl rfl hd (K _ _ _ _ _ _ _ _ _ _ HF hp hRl hl hlo hce hsl)
  · exact HO.elim
theorem mm_p_laload (hF : mm_Fr p R s m args meth c z mi d) (hl : lv_has ls (mm_ml mi) (mm_pr z 0 L)) (hRl : mm_Rel z h H) (hlo : ∀ q ∈ locs, z.1.2.2.1 ≤ q.base) (hce : cells + n0 = hN h) (hsl : slots + m0 = hM h) (ck : mm_ck mi ip (.laload) pc x v aux = true) (HO : mm_oW (mm_s1 (.laload) x v ip L st h) F G ip L h Qr) (K : mm_KN p l e R s m args below meth c Q z mi n0 m0 F) : W p l e R s m args below meth c H locs cells slots Q (F0 m pc ls (st.map (mm_tr z))) := by
  obtain ⟨hx, hb, hml, hown, hts, hFN, hini, hfr, hlc, h40⟩ := id hF
  replace ck : mm_d mi ip .laload pc 1 = true := ck
  obtain ⟨hd, hp⟩ := mm_d_dec ck
  replace HO : mm_oW (mm_la ip L st h) F G ip L h Qr := HO
  unfold mm_la at HO
  split at HO
  · rename_i i a r
    obtain ⟨cell, e1, e2, e3, e4⟩ := mm_ar_in hRl HO.1 (by decide) (by decide)
    have HF : F (ip + 1) L (.long (hL h a i.toNatClampNeg) :: r) h := HO.2
    refine W.lald (v := .long (hL h a i.toNatClampNeg)) hx hb e1 (by rw [e2]; exact (hFN.2.1.2 1 _ rfl).1 _ _) (fun q => by rw [e2] at q; cases q) e3 e4 rfl rfl hd (K _ _ _ _ _ _ _ _ _ _ HF hp hRl hl hlo hce hsl)
  · exact HO.elim
theorem mm_p_aaload (hF : mm_Fr p R s m args meth c z mi d) (hl : lv_has ls (mm_ml mi) (mm_pr z 0 L)) (hRl : mm_Rel z h H) (hlo : ∀ q ∈ locs, z.1.2.2.1 ≤ q.base) (hce : cells + n0 = hN h) (hsl : slots + m0 = hM h) (ck : mm_ck mi ip (.aaload) pc x v aux = true) (HO : mm_oW (mm_s1 (.aaload) x v ip L st h) F G ip L h Qr) (K : mm_KN p l e R s m args below meth c Q z mi n0 m0 F) : W p l e R s m args below meth c H locs cells slots Q (F0 m pc ls (st.map (mm_tr z))) := by
  obtain ⟨hx, hb, hml, hown, hts, hFN, hini, hfr, hlc, h40⟩ := id hF
  replace ck : mm_d mi ip .aaload pc 1 = true := ck
  obtain ⟨hd, hp⟩ := mm_d_dec ck
  replace HO : mm_oW (mm_aa ip L st h) F G ip L h Qr := HO
  unfold mm_aa at HO
  split at HO
  · rename_i i a r
    obtain ⟨⟨hi, hne⟩, HF⟩ := HO
    obtain ⟨cell, e1, e2, e3, e4⟩ := mm_ar_in hRl hi (by decide) (by decide)
    have HF : F (ip + 1) L (.ref (hR h a i.toNatClampNeg) :: r) h := HF
    have e5 : mm_v z h a (mm_aty 15) i.toNatClampNeg = .ref (mm_ad z (hR h a i.toNatClampNeg)) := by
      show (if hR h a i.toNatClampNeg = 0 then Value.null else .ref (mm_ad z (hR h a i.toNatClampNeg))) = _
      rw [if_neg hne]
    rw [e5] at e4
    exact W.aald (ty := .object "TermDraw$Told") hx hb e1 (by rw [e2]; exact (hFN.2.1.2 3 _ rfl).1 _ _) rfl (fun q => by rw [e2] at q; cases q) e3 e4 rfl rfl hd (K _ _ _ _ _ _ _ _ _ _ HF hp hRl hl hlo hce hsl)
  · exact HO.elim
theorem mm_p_iastore (hF : mm_Fr p R s m args meth c z mi d) (hl : lv_has ls (mm_ml mi) (mm_pr z 0 L)) (hRl : mm_Rel z h H) (hlo : ∀ q ∈ locs, z.1.2.2.1 ≤ q.base) (hce : cells + n0 = hN h) (hsl : slots + m0 = hM h) (ck : mm_ck mi ip (.iastore) pc x v aux = true) (HO : mm_oW (mm_s1 (.iastore) x v ip L st h) F G ip L h Qr) (K : mm_KN p l e R s m args below meth c Q z mi n0 m0 F) : W p l e R s m args below meth c H locs cells slots Q (F0 m pc ls (st.map (mm_tr z))) := by
  obtain ⟨hx, hb, hml, hown, hts, hFN, hini, hfr, hlc, h40⟩ := id hF
  replace ck : mm_d mi ip .iastore pc 1 = true := ck
  obtain ⟨hd, hp⟩ := mm_d_dec ck
  replace HO : mm_oW (mm_is ip L st h) F G ip L h Qr := HO
  unfold mm_is at HO
  split at HO
  · rename_i w i a r
    obtain ⟨hi, HF⟩ := HO
    obtain ⟨cell, e1, e2, e3, e4⟩ := mm_ar_in hRl hi (by decide) (by decide)
    refine W.iast hx hb e1 (by rw [e2]; exact (hFN.2.1.2 0 _ rfl).1 _ _) (fun q => by rw [e2] at q; cases q) e3 rfl rfl hd (fun H1 f1 f2 f3 => ?_)
    have f1 : H1[mm_ad z a]? = some (cell.setSlot i.toNatClampNeg (.int w)) := f1
    refine K (ip + 1) (pc + 1) L r _ H1 _ ls cells slots HF hp (mm_ar_put hRl hi (by decide) (by decide) e2 f1 f2 f3 rfl mm_sI_row.2.1 mm_sI_row.2.2.1 mm_sI_row.2.2.2.1 mm_sI_row.2.2.2.2 (fun j => mm_v_sI (fun _ => rfl) ⟨by decide, by decide⟩)) hl (fun q hq => ?_) hce hsl
    rcases List.mem_append.mp hq with hq | hq
    · exact hlo q hq
    · rw [List.mem_singleton.mp hq]
      exact mm_ad_ge (hRl.in (a := a) (by rw [hi.1]; decide)).1
  · exact HO.elim
theorem mm_p_bastore (hF : mm_Fr p R s m args meth c z mi d) (hl : lv_has ls (mm_ml mi) (mm_pr z 0 L)) (hRl : mm_Rel z h H) (hlo : ∀ q ∈ locs, z.1.2.2.1 ≤ q.base) (hce : cells + n0 = hN h) (hsl : slots + m0 = hM h) (ck : mm_ck mi ip (.bastore) pc x v aux = true) (HO : mm_oW (mm_s1 (.bastore) x v ip L st h) F G ip L h Qr) (K : mm_KN p l e R s m args below meth c Q z mi n0 m0 F) : W p l e R s m args below meth c H locs cells slots Q (F0 m pc ls (st.map (mm_tr z))) := by
  obtain ⟨hx, hb, hml, hown, hts, hFN, hini, hfr, hlc, h40⟩ := id hF
  replace ck : mm_d mi ip .bastore pc 1 = true := ck
  obtain ⟨hd, hp⟩ := mm_d_dec ck
  replace HO : mm_oW (mm_bs ip L st h) F G ip L h Qr := HO
  unfold mm_bs at HO
  split at HO
  · rename_i w i a r
    obtain ⟨hi, HF⟩ := HO
    obtain ⟨cell, e1, e2, e3, e4⟩ := mm_ar_in hRl hi.1 (by decide) (by decide)
    refine W.zast hx hb e1 (by rw [e2]; exact (hFN.2.1.2 2 _ rfl).1 _ _) (fun q => by rw [e2] at q; cases q) e3 rfl rfl hd (fun H1 f1 f2 f3 => ?_)
    have f1 : H1[mm_ad z a]? = some (cell.setSlot i.toNatClampNeg (.int w)) := by rcases hi.2 with rfl | rfl <;> exact f1
    refine K (ip + 1) (pc + 1) L r _ H1 _ ls cells slots HF hp (mm_ar_put hRl hi.1 (by decide) (by decide) e2 f1 f2 f3 rfl mm_sI_row.2.1 mm_sI_row.2.2.1 mm_sI_row.2.2.2.1 mm_sI_row.2.2.2.2 (fun j => mm_v_sI (fun _ => rfl) ⟨by decide, by decide⟩)) hl (fun q hq => ?_) hce hsl
    rcases List.mem_append.mp hq with hq | hq
    · exact hlo q hq
    · rw [List.mem_singleton.mp hq]
      exact mm_ad_ge (hRl.in (a := a) (by rw [hi.1.1]; decide)).1
  · exact HO.elim
theorem mm_p_lastore (hF : mm_Fr p R s m args meth c z mi d) (hl : lv_has ls (mm_ml mi) (mm_pr z 0 L)) (hRl : mm_Rel z h H) (hlo : ∀ q ∈ locs, z.1.2.2.1 ≤ q.base) (hce : cells + n0 = hN h) (hsl : slots + m0 = hM h) (ck : mm_ck mi ip (.lastore) pc x v aux = true) (HO : mm_oW (mm_s1 (.lastore) x v ip L st h) F G ip L h Qr) (K : mm_KN p l e R s m args below meth c Q z mi n0 m0 F) : W p l e R s m args below meth c H locs cells slots Q (F0 m pc ls (st.map (mm_tr z))) := by
  obtain ⟨hx, hb, hml, hown, hts, hFN, hini, hfr, hlc, h40⟩ := id hF
  replace ck : mm_d mi ip .lastore pc 1 = true := ck
  obtain ⟨hd, hp⟩ := mm_d_dec ck
  replace HO : mm_oW (mm_ls ip L st h) F G ip L h Qr := HO
  unfold mm_ls at HO
  split at HO
  · rename_i w i a r
    obtain ⟨hi, HF⟩ := HO
    obtain ⟨cell, e1, e2, e3, e4⟩ := mm_ar_in hRl hi (by decide) (by decide)
    refine W.last hx hb e1 (by rw [e2]; exact (hFN.2.1.2 1 _ rfl).1 _ _) (fun q => by rw [e2] at q; cases q) e3 rfl rfl hd (fun H1 f1 f2 f3 => ?_)
    have f1 : H1[mm_ad z a]? = some (cell.setSlot i.toNatClampNeg (.long w)) := f1
    refine K (ip + 1) (pc + 1) L r _ H1 _ ls cells slots HF hp (mm_ar_put hRl hi (by decide) (by decide) e2 f1 f2 f3 rfl mm_sL_row.2.1 mm_sL_row.2.2.1 mm_sL_row.2.2.2.1 mm_sL_row.2.2.2.2 (fun j => mm_v_sL (fun _ => rfl))) hl (fun q hq => ?_) hce hsl
    rcases List.mem_append.mp hq with hq | hq
    · exact hlo q hq
    · rw [List.mem_singleton.mp hq]
      exact mm_ad_ge (hRl.in (a := a) (by rw [hi.1]; decide)).1
  · exact HO.elim
theorem mm_p_aastore (hF : mm_Fr p R s m args meth c z mi d) (hl : lv_has ls (mm_ml mi) (mm_pr z 0 L)) (hRl : mm_Rel z h H) (hlo : ∀ q ∈ locs, z.1.2.2.1 ≤ q.base) (hce : cells + n0 = hN h) (hsl : slots + m0 = hM h) (ck : mm_ck mi ip (.aastore) pc x v aux = true) (HO : mm_oW (mm_s1 (.aastore) x v ip L st h) F G ip L h Qr) (K : mm_KN p l e R s m args below meth c Q z mi n0 m0 F) : W p l e R s m args below meth c H locs cells slots Q (F0 m pc ls (st.map (mm_tr z))) := by
  obtain ⟨hx, hb, hml, hown, hts, hFN, hini, hfr, hlc, h40⟩ := id hF
  replace ck : mm_d mi ip .aastore pc 1 = true := ck
  obtain ⟨hd, hp⟩ := mm_d_dec ck
  replace HO : mm_oW (mm_as ip L st h) F G ip L h Qr := HO
  unfold mm_as at HO
  split at HO
  · rename_i w i a r
    obtain ⟨⟨hi, hw9⟩, HF⟩ := HO
    obtain ⟨cell, e1, e2, e3, e4⟩ := mm_ar_in hRl hi (by decide) (by decide)
    obtain ⟨cv, g1, g2, g3, -⟩ := hRl.obj (r := (mm_R9, mm_T9, 13)) hw9 (by decide) rfl
    have hw3 := (hRl.in (a := w) (by omega)).1
    have hcls := (hFN.2.1.1 9 _ rfl).2
    obtain ⟨kA, comp, k1, k2, k3, -⟩ := (hFN.2.1.2 3 _ rfl).2
    have hcomp : comp = z.2.1.1 9 := Option.some.inj (k3.symm.trans hcls.1)
    subst hcomp
    obtain ⟨kC, hkC, -⟩ := hcls.2
    have hin : ¬ i < 0 ∧ i.toNatClampNeg < cell.slots.size := ⟨fun q => e3 (Or.inl q), Nat.not_le.mp fun q => e3 (Or.inr q)⟩
    refine W.aast hx hb e1 (fun q h => by rw [e2] at h; cases h) (fun h => by rw [e2] at h; cases h) (by rw [e2]; exact k1) k2 rfl hkC hin g1 (fun q h => by rw [g3] at h; cases h) (by rw [g2]; exact hkC) (by rw [g2]; exact va_assign hcls) rfl rfl hd (fun H1 f1 f2 f3 => ?_)
    refine K (ip + 1) (pc + 1) L r _ H1 _ ls cells slots HF hp (mm_ar_put hRl hi (by decide) (by decide) e2 f1 f2 f3 rfl mm_sR_row.2.1 mm_sR_row.2.2.1 mm_sR_row.2.2.2.1 mm_sR_row.2.2.2.2 (fun j => mm_v_sR (by omega) (fun _ => rfl))) hl (fun q hq => ?_) hce hsl
    rcases List.mem_append.mp hq with hq | hq
    · exact hlo q hq
    · rw [List.mem_singleton.mp hq]
      exact mm_ad_ge (hRl.in (a := a) (by rw [hi.1]; decide)).1
  · exact HO.elim
theorem mm_p_arraylength (hF : mm_Fr p R s m args meth c z mi d) (hl : lv_has ls (mm_ml mi) (mm_pr z 0 L)) (hRl : mm_Rel z h H) (hlo : ∀ q ∈ locs, z.1.2.2.1 ≤ q.base) (hce : cells + n0 = hN h) (hsl : slots + m0 = hM h) (ck : mm_ck mi ip (.arraylength) pc x v aux = true) (HO : mm_oW (mm_s1 (.arraylength) x v ip L st h) F G ip L h Qr) (K : mm_KN p l e R s m args below meth c Q z mi n0 m0 F) : W p l e R s m args below meth c H locs cells slots Q (F0 m pc ls (st.map (mm_tr z))) := by
  obtain ⟨hx, hb, hml, hown, hts, hFN, hini, hfr, hlc, h40⟩ := id hF
  replace ck : mm_d mi ip .arraylength pc 1 = true := ck
  obtain ⟨hd, hp⟩ := mm_d_dec ck
  unfold mm_s1 at HO
  dsimp only at HO
  split at HO
  · unfold mm_xl at HO
    split at HO
    · rename_i a r
      obtain ⟨ha, HF⟩ := HO
      subst ha
      obtain ⟨hX, hlt, -⟩ := hFN.2.2.2.2
      obtain ⟨scr, g1, g2, g3, g4, g5⟩ := hX
      have hL : (hK h 1).2 = z.2.2.2.1 := by rw [hRl.2.2.2.2.2.1]
      have HF : F (ip + 1) L (.int (Int32.ofNat (hK h 1).2) :: r) h := HF
      exact W.alen (n := Int32.ofNat (hK h 1).2) hx hb (a := mm_ad z 1) (cell := scr) ((hRl.2.2.1 _ hlt).trans g1) g2 (by rw [g4, hL] <;> rfl) rfl rfl hd (K _ _ _ _ _ _ _ _ _ _ HF hp hRl hl hlo hce hsl)
    · exact HO.elim
  · unfold mm_len at HO
    split at HO
    · rename_i a r
      obtain ⟨⟨k1, k2⟩, HF⟩ := HO
      have e1 := hRl.arr (a := a) rfl k1 k2
      have HF : F (ip + 1) L (.int (Int32.ofNat (hK h a).2) :: r) h := HF
      have hsz : (arrV (z.2.2.1 (hK h a).1) (hK h a).2 (fun j => mm_v z h a (mm_aty (hK h a).1) j)).slots.size.toInt32 = Int32.ofNat (hK h a).2 := by rw [arrV_size] <;> rfl
      have kk := K _ _ _ _ _ _ _ _ _ _ HF hp hRl hl hlo hce hsl
      have h4 : (hK h a).1 = 12 ∨ (hK h a).1 = 13 ∨ (hK h a).1 = 14 ∨ (hK h a).1 = 15 := by omega
      rcases h4 with q | q | q | q
      · exact W.alen (ty := .int) hx hb e1 (by rw [q]; exact (hFN.2.1.2 0 _ rfl).1 _ _) hsz rfl rfl hd kk
      · exact W.alen (ty := .long) hx hb e1 (by rw [q]; exact (hFN.2.1.2 1 _ rfl).1 _ _) hsz rfl rfl hd kk
      · exact W.alen (ty := .boolean) hx hb e1 (by rw [q]; exact (hFN.2.1.2 2 _ rfl).1 _ _) hsz rfl rfl hd kk
      · exact W.alen (ty := .object "TermDraw$Told") hx hb e1 (by rw [q]; exact (hFN.2.1.2 3 _ rfl).1 _ _) hsz rfl rfl hd kk
    · exact HO.elim
theorem mm_p_new {i : Nat} (hF : mm_Fr p R s m args meth c z mi d) (hl : lv_has ls (mm_ml mi) (mm_pr z 0 L)) (hRl : mm_Rel z h H) (hlo : ∀ q ∈ locs, z.1.2.2.1 ≤ q.base) (hce : cells + n0 = hN h) (hsl : slots + m0 = hM h) (ck : mm_ck mi ip (.new i) pc x v aux = true) (HO : mm_oW (mm_s1 (.new i) x v ip L st h) F G ip L h Qr) (K : mm_KN p l e R s m args below meth c Q z mi n0 m0 F) (HB : ∀ (i : Nat) (L : mm_Lv) (st : List Value) (h : mm_H), F i L st h → hN h ≤ R.cells + n0 ∧ hM h ≤ R.slots + m0) : W p l e R s m args below meth c H locs cells slots Q (F0 m pc ls (st.map (mm_tr z))) := by
  obtain ⟨hx, hb, hml, hown, hts, hFN, hini, hfr, hlc, h40⟩ := id hF
  simp only [mm_ck, Bool.and_eq_true] at ck
  obtain ⟨c1, c2⟩ := ck
  obtain ⟨hd, hp⟩ := mm_d_dec c1
  replace HO : mm_oW (mm_new x ip L st h) F G ip L h Qr := HO
  unfold mm_new at HO
  split at HO
  · rename_i ci n
    have HF : F (ip + 1) L (.ref (hN h) :: st) (hA h ci n) := HO
    obtain ⟨b1, b2⟩ := HB _ _ _ _ HF
    have b1 : hN h + 1 ≤ R.cells + n0 := b1
    have b2 : hM h + n ≤ R.slots + m0 := b2
    dsimp only at c2
    split at c2
    · rename_i C T N hc
      simp only [Bool.and_eq_true] at c2
      obtain ⟨⟨⟨⟨c2, c3⟩, c4⟩, c5⟩, c6⟩ := c2
      have c2 := Nat.eq_of_beq_eq_true c2
      subst c2
      have c6 : ci < 12 := by simpa using c6
      obtain ⟨u1, u2, u3⟩ := mm_cls _ _ hc
      have hKn := hFN.2.1.1 ci _ hc
      have hsz := hRl.2.1
      have h3 := hRl.1
      have had : mm_ad z (hN h) = H.size := by
        unfold mm_ad
        rw [if_neg (by omega), if_neg (by omega)]
        omega
      refine W.newcK hx hb hown (hts _ (mm_tA_in c3)) (hts _ (mm_tA_in c4)) (hts _ (mm_tA_in c5)) rfl hd (by omega) (by omega) hKn.2.1 rfl fun H1 kC hkC e1 z1 o1 => ?_
      have hcell : mm_cell z (hA h ci n) (hN h) H1 := by
        refine Or.inl ?_
        have hk : hK (hA h ci n) (hN h) = (ci, n) := if_pos rfl
        rw [hk]
        refine ⟨c6, _, hc, ?_⟩
        rw [had]
        have ty : ∃ ty : Nat → FieldType, ∀ k, k < n → parseFieldDescriptor (T k).2.2.1 = some (ty k) ∧ mm_tyo (T k).2.2.1 (ty k) := by
          refine ⟨fun k => if q : k < n then (u2 k q).choose else .int, fun k q => ?_⟩
          simp only [dif_pos q]
          exact (u2 k q).choose_spec
        obtain ⟨ty, hty⟩ := ty
        refine (u_born ty hts u1 hKn hkC e1 (fun k q => (hty k q).1)).to (fun k q => ?_)
        have hI0 : hI (hA h ci n) (hN h) k = 0 := if_pos rfl
        have hL0 : hL (hA h ci n) (hN h) k = 0 := if_pos rfl
        have hR0 : hR (hA h ci n) (hN h) k = 0 := if_pos rfl
        rcases (hty k q).2 with ⟨d1, d2⟩ | ⟨d1, d2⟩ | ⟨d1, d2⟩ | ⟨d1, ⟨n', d2⟩ | ⟨n', d2⟩⟩ <;> (show defaultValue (ty k) = mm_v z _ _ (mm_dc (T k).2.2.1) k; rw [d1, d2]; unfold mm_v; rw [hI0, hL0, hR0]; rfl)
      have hRl1 : mm_Rel z (hA h ci n) H1 := hRl.alloc (by omega) z1 o1 hcell
      have kk := K _ _ _ _ _ H1 locs ls (cells + 1) (slots + n) HF hp hRl1 hl hlo (show cells + 1 + n0 = hN h + 1 by omega) (show slots + n + m0 = hM h + n by omega)
      have e2 : (Value.ref (hN h) :: st).map (mm_tr z) = Value.ref H.size :: st.map (mm_tr z) := by rw [← had]; rfl
      rw [e2] at kk
      exact kk
    · cases c2
  · exact HO.elim
theorem mm_p_newarray {at2 : ArrayType} (hF : mm_Fr p R s m args meth c z mi d) (hl : lv_has ls (mm_ml mi) (mm_pr z 0 L)) (hRl : mm_Rel z h H) (hlo : ∀ q ∈ locs, z.1.2.2.1 ≤ q.base) (hce : cells + n0 = hN h) (hsl : slots + m0 = hM h) (ck : mm_ck mi ip (.newarray at2) pc x v aux = true) (HO : mm_oW (mm_s1 (.newarray at2) x v ip L st h) F G ip L h Qr) (K : mm_KN p l e R s m args below meth c Q z mi n0 m0 F) (HB : ∀ (i : Nat) (L : mm_Lv) (st : List Value) (h : mm_H), F i L st h → hN h ≤ R.cells + n0 ∧ hM h ≤ R.slots + m0) : W p l e R s m args below meth c H locs cells slots Q (F0 m pc ls (st.map (mm_tr z))) := by
  obtain ⟨hx, hb, hml, hown, hts, hFN, hini, hfr, hlc, h40⟩ := id hF
  simp only [mm_ck, Bool.and_eq_true] at ck
  obtain ⟨c1, c2⟩ := ck
  obtain ⟨hd, hp⟩ := mm_d_dec c1
  split at c2
  · replace HO : mm_oW (mm_na 12 ip L st h) F G ip L h Qr := HO
    unfold mm_na at HO
    split at HO
    · rename_i n r
      obtain ⟨hn, HF⟩ := HO
      have HF : F (ip + 1) L (.ref (hN h) :: r) (hA h 12 n.toNatClampNeg) := HF
      obtain ⟨b1, b2⟩ := HB _ _ _ _ HF
      have b1 : hN h + 1 ≤ R.cells + n0 := b1
      have b2 : hM h + n.toNatClampNeg ≤ R.slots + m0 := b2
      have hn0 : ¬ n < 0 := fun q => hn (Or.inl q)
      have hn1 : n.toNatClampNeg < 100000 := Nat.not_le.mp fun q => hn (Or.inr q)
      have hsz := hRl.2.1
      have h3 := hRl.1
      have had : mm_ad z (hN h) = H.size := by
        unfold mm_ad
        rw [if_neg (by omega), if_neg (by omega)]
        omega
      refine va_newaK (atype := .int) hx hb (hts _ mm_acI) rfl hd rfl hn0 rfl (by show n.toNatClampNeg * 4 ≤ 536870912; omega) (by omega) (by omega) rfl fun H1 cA e1 z1 o1 hAr hNm => ?_
      have hcA : cA = z.2.2.1 12 := Option.some.inj (hNm.symm.trans (hFN.2.1.2 0 _ rfl).2)
      subst hcA
      have hcell : mm_cell z (hA h 12 n.toNatClampNeg) (hN h) H1 := by
        refine Or.inr ?_
        have hk : hK (hA h 12 n.toNatClampNeg) (hN h) = (12, n.toNatClampNeg) := if_pos rfl
        rw [hk]
        refine ⟨(by decide : 12 ≤ 12), ?_⟩
        rw [had, e1]
        congr 2
        funext j
        have hI0 : hI (hA h 12 n.toNatClampNeg) (hN h) j = 0 := if_pos rfl
        have hL0 : hL (hA h 12 n.toNatClampNeg) (hN h) j = 0 := if_pos rfl
        have hR0 : hR (hA h 12 n.toNatClampNeg) (hN h) j = 0 := if_pos rfl
        unfold mm_v
        rw [hI0, hL0, hR0]
        rfl
      have hRl1 : mm_Rel z (hA h 12 n.toNatClampNeg) H1 := hRl.alloc (by decide) z1 o1 hcell
      have kk := K _ _ _ _ _ H1 locs ls (cells + 1) (slots + n.toNatClampNeg) HF hp hRl1 hl hlo (show cells + 1 + n0 = hN h + 1 by omega) (show slots + n.toNatClampNeg + m0 = hM h + n.toNatClampNeg by omega)
      have e2 : (Value.ref (hN h) :: r).map (mm_tr z) = Value.ref H.size :: r.map (mm_tr z) := by rw [← had]; rfl
      rw [e2] at kk
      exact kk
    · exact HO.elim
  · replace HO : mm_oW (mm_na 13 ip L st h) F G ip L h Qr := HO
    unfold mm_na at HO
    split at HO
    · rename_i n r
      obtain ⟨hn, HF⟩ := HO
      have HF : F (ip + 1) L (.ref (hN h) :: r) (hA h 13 n.toNatClampNeg) := HF
      obtain ⟨b1, b2⟩ := HB _ _ _ _ HF
      have b1 : hN h + 1 ≤ R.cells + n0 := b1
      have b2 : hM h + n.toNatClampNeg ≤ R.slots + m0 := b2
      have hn0 : ¬ n < 0 := fun q => hn (Or.inl q)
      have hn1 : n.toNatClampNeg < 100000 := Nat.not_le.mp fun q => hn (Or.inr q)
      have hsz := hRl.2.1
      have h3 := hRl.1
      have had : mm_ad z (hN h) = H.size := by
        unfold mm_ad
        rw [if_neg (by omega), if_neg (by omega)]
        omega
      refine va_newaK (atype := .long) hx hb (hts _ mm_acJ) rfl hd rfl hn0 rfl (by show n.toNatClampNeg * 8 ≤ 536870912; omega) (by omega) (by omega) rfl fun H1 cA e1 z1 o1 hAr hNm => ?_
      have hcA : cA = z.2.2.1 13 := Option.some.inj (hNm.symm.trans (hFN.2.1.2 1 _ rfl).2)
      subst hcA
      have hcell : mm_cell z (hA h 13 n.toNatClampNeg) (hN h) H1 := by
        refine Or.inr ?_
        have hk : hK (hA h 13 n.toNatClampNeg) (hN h) = (13, n.toNatClampNeg) := if_pos rfl
        rw [hk]
        refine ⟨(by decide : 12 ≤ 13), ?_⟩
        rw [had, e1]
        congr 2
        funext j
        have hI0 : hI (hA h 13 n.toNatClampNeg) (hN h) j = 0 := if_pos rfl
        have hL0 : hL (hA h 13 n.toNatClampNeg) (hN h) j = 0 := if_pos rfl
        have hR0 : hR (hA h 13 n.toNatClampNeg) (hN h) j = 0 := if_pos rfl
        unfold mm_v
        rw [hI0, hL0, hR0]
        rfl
      have hRl1 : mm_Rel z (hA h 13 n.toNatClampNeg) H1 := hRl.alloc (by decide) z1 o1 hcell
      have kk := K _ _ _ _ _ H1 locs ls (cells + 1) (slots + n.toNatClampNeg) HF hp hRl1 hl hlo (show cells + 1 + n0 = hN h + 1 by omega) (show slots + n.toNatClampNeg + m0 = hM h + n.toNatClampNeg by omega)
      have e2 : (Value.ref (hN h) :: r).map (mm_tr z) = Value.ref H.size :: r.map (mm_tr z) := by rw [← had]; rfl
      rw [e2] at kk
      exact kk
    · exact HO.elim
  · replace HO : mm_oW (mm_na 14 ip L st h) F G ip L h Qr := HO
    unfold mm_na at HO
    split at HO
    · rename_i n r
      obtain ⟨hn, HF⟩ := HO
      have HF : F (ip + 1) L (.ref (hN h) :: r) (hA h 14 n.toNatClampNeg) := HF
      obtain ⟨b1, b2⟩ := HB _ _ _ _ HF
      have b1 : hN h + 1 ≤ R.cells + n0 := b1
      have b2 : hM h + n.toNatClampNeg ≤ R.slots + m0 := b2
      have hn0 : ¬ n < 0 := fun q => hn (Or.inl q)
      have hn1 : n.toNatClampNeg < 100000 := Nat.not_le.mp fun q => hn (Or.inr q)
      have hsz := hRl.2.1
      have h3 := hRl.1
      have had : mm_ad z (hN h) = H.size := by
        unfold mm_ad
        rw [if_neg (by omega), if_neg (by omega)]
        omega
      refine va_newaK (atype := .boolean) hx hb (hts _ mm_acZ) rfl hd rfl hn0 rfl (by show n.toNatClampNeg * 1 ≤ 536870912; omega) (by omega) (by omega) rfl fun H1 cA e1 z1 o1 hAr hNm => ?_
      have hcA : cA = z.2.2.1 14 := Option.some.inj (hNm.symm.trans (hFN.2.1.2 2 _ rfl).2)
      subst hcA
      have hcell : mm_cell z (hA h 14 n.toNatClampNeg) (hN h) H1 := by
        refine Or.inr ?_
        have hk : hK (hA h 14 n.toNatClampNeg) (hN h) = (14, n.toNatClampNeg) := if_pos rfl
        rw [hk]
        refine ⟨(by decide : 12 ≤ 14), ?_⟩
        rw [had, e1]
        congr 2
        funext j
        have hI0 : hI (hA h 14 n.toNatClampNeg) (hN h) j = 0 := if_pos rfl
        have hL0 : hL (hA h 14 n.toNatClampNeg) (hN h) j = 0 := if_pos rfl
        have hR0 : hR (hA h 14 n.toNatClampNeg) (hN h) j = 0 := if_pos rfl
        unfold mm_v
        rw [hI0, hL0, hR0]
        rfl
      have hRl1 : mm_Rel z (hA h 14 n.toNatClampNeg) H1 := hRl.alloc (by decide) z1 o1 hcell
      have kk := K _ _ _ _ _ H1 locs ls (cells + 1) (slots + n.toNatClampNeg) HF hp hRl1 hl hlo (show cells + 1 + n0 = hN h + 1 by omega) (show slots + n.toNatClampNeg + m0 = hM h + n.toNatClampNeg by omega)
      have e2 : (Value.ref (hN h) :: r).map (mm_tr z) = Value.ref H.size :: r.map (mm_tr z) := by rw [← had]; rfl
      rw [e2] at kk
      exact kk
    · exact HO.elim
  · cases c2
theorem mm_p_anewarray {i : Nat} (hF : mm_Fr p R s m args meth c z mi d) (hl : lv_has ls (mm_ml mi) (mm_pr z 0 L)) (hRl : mm_Rel z h H) (hlo : ∀ q ∈ locs, z.1.2.2.1 ≤ q.base) (hce : cells + n0 = hN h) (hsl : slots + m0 = hM h) (ck : mm_ck mi ip (.anewarray i) pc x v aux = true) (HO : mm_oW (mm_s1 (.anewarray i) x v ip L st h) F G ip L h Qr) (K : mm_KN p l e R s m args below meth c Q z mi n0 m0 F) (HB : ∀ (i : Nat) (L : mm_Lv) (st : List Value) (h : mm_H), F i L st h → hN h ≤ R.cells + n0 ∧ hM h ≤ R.slots + m0) : W p l e R s m args below meth c H locs cells slots Q (F0 m pc ls (st.map (mm_tr z))) := by
  obtain ⟨hx, hb, hml, hown, hts, hFN, hini, hfr, hlc, h40⟩ := id hF
  simp only [mm_ck, Bool.and_eq_true] at ck
  obtain ⟨c1, c2⟩ := ck
  obtain ⟨hd, hp⟩ := mm_d_dec c1
  replace HO : mm_oW (mm_na 15 ip L st h) F G ip L h Qr := HO
  unfold mm_na at HO
  split at HO
  · rename_i n r
    obtain ⟨hn, HF⟩ := HO
    have HF : F (ip + 1) L (.ref (hN h) :: r) (hA h 15 n.toNatClampNeg) := HF
    obtain ⟨b1, b2⟩ := HB _ _ _ _ HF
    have b1 : hN h + 1 ≤ R.cells + n0 := b1
    have b2 : hM h + n.toNatClampNeg ≤ R.slots + m0 := b2
    have hn0 : ¬ n < 0 := fun q => hn (Or.inl q)
    have hn1 : n.toNatClampNeg < 100000 := Nat.not_le.mp fun q => hn (Or.inr q)
    have hsz := hRl.2.1
    have h3 := hRl.1
    have had : mm_ad z (hN h) = H.size := by
      unfold mm_ad
      rw [if_neg (by omega), if_neg (by omega)]
      omega
    refine W.anew hx hb hown (hts _ (mm_tA_in c2)) (va_AO.use hFN.2.2.1) rfl hd rfl hn0 (by omega) (by omega) (by omega) fun cA kA comp f1 f2 f3 f4 => ?_
    generalize hH1 : H.push ({ cls := cA, slots := Array.replicate n.toNatClampNeg .null, vm := .none } : Cell) = H1
    have z1 : H1.size = H.size + 1 := by rw [← hH1, Array.size_push]
    have e1 : H1[H.size]? = some (arrV cA n.toNatClampNeg (fun _ => .null)) := by rw [← hH1, Array.getElem?_push_size, ← arrV_new]
    have o1 : ∀ q : Nat, q < H.size → H1[q]? = H[q]? := fun q hq => by rw [← hH1, Array.getElem?_push, if_neg (Nat.ne_of_lt hq)]
    obtain ⟨_, _, _, _, _, f5⟩ := (hFN.2.1.2 3 _ rfl).2
    have hcA : cA = z.2.2.1 15 := Option.some.inj (f1.symm.trans f5)
    subst hcA
    have hcell : mm_cell z (hA h 15 n.toNatClampNeg) (hN h) H1 := by
      refine Or.inr ?_
      have hk : hK (hA h 15 n.toNatClampNeg) (hN h) = (15, n.toNatClampNeg) := if_pos rfl
      rw [hk]
      refine ⟨(by decide : 12 ≤ 15), ?_⟩
      rw [had, e1]
      congr 2
      funext j
      have hI0 : hI (hA h 15 n.toNatClampNeg) (hN h) j = 0 := if_pos rfl
      have hL0 : hL (hA h 15 n.toNatClampNeg) (hN h) j = 0 := if_pos rfl
      have hR0 : hR (hA h 15 n.toNatClampNeg) (hN h) j = 0 := if_pos rfl
      unfold mm_v
      rw [hI0, hL0, hR0]
      rfl
    have hRl1 : mm_Rel z (hA h 15 n.toNatClampNeg) H1 := hRl.alloc (by decide) z1 o1 hcell
    have kk := K _ _ _ _ _ H1 locs ls (cells + 1) (slots + n.toNatClampNeg) HF hp hRl1 hl hlo (show cells + 1 + n0 = hN h + 1 by omega) (show slots + n.toNatClampNeg + m0 = hM h + n.toNatClampNeg by omega)
    have e2 : (Value.ref (hN h) :: r).map (mm_tr z) = Value.ref H.size :: r.map (mm_tr z) := by rw [← had]; rfl
    rw [e2] at kk
    exact kk
  · exact HO.elim
end STEP2
end
section
/-! calls and returns -/
theorem mm_ar1 {w d r : Nat} (h : w ≤ 40) (h2 : 64 * (d + 10) ≤ r) : 8 + (w + 11) + 64 * (d + 9) ≤ r := by
  have e : 64 * (d + 10) = 64 * (d + 9) + 64 := Nat.mul_succ 64 (d + 9)
  rw [e] at h2
  generalize 64 * (d + 9) = q at h2 ⊢
  omega
section CALLS
variable {p : Program} {l : Launch} {e : Env} {R : Room} {s : State} {m : MethodId} {args : Array Value} {below : List Frame} {meth : Method} {c : Code} {Q : State → Prop}
variable {z : mm_Z} {mi d n0 m0 : Nat} {F : Nat → mm_Lv → List Value → mm_H → Prop} {G : Nat → List Value → mm_Q → Prop} {Qr : mm_Q}
variable {ip pc : Nat} {L : mm_Lv} {st : List Value} {h : mm_H} {H : Heap} {locs : List Loc} {ls : Array Slot} {cells slots : Nat} {x : List Nat} {v : Value} {aux : List Nat}
theorem mm_gG (y : MethodName) (b : ByteArray) (ml : Nat) (r : Option FieldType) (h : Jvm.Cond.code y b ml r ∈ mm_gT) : GoodIn mm_gT (.code y b ml r :: mm_gT) := by
  intro w hw
  have hw : w ∈ mm_gT := by
    rcases List.mem_cons.mp hw with rfl | hw
    · exact h
    · exact hw
  exact ⟨hw, good_of_word (List.mem_filter.mp hw).2⟩
theorem mm_ckC_o {own : String} {idx k n : Nat} (hc : mm_ckC own idx mi n aux k = true) (hF : mm_FN z s) (hts : ∀ w ∈ mm_gT, w.before args s = true) : ((Jvm.Cond.methodLink own idx (mm_yn mi)).before args s = true ∨ va_Nw (.methodLinkNest own idx (mm_yn mi) "TermDraw") s) ∧ (parseMethodDescriptor (mm_yn mi).desc).map (fun d => d.parameters.length) = some n ∧ (mm_yn mi).cls ≠ "java/lang/invoke/MethodHandle" ∧ (mm_yn mi).cls ≠ "java/lang/invoke/VarHandle" ∧ mi < 293 := by
  unfold mm_ckC at hc
  simp only [Bool.and_eq_true, decide_eq_true_eq] at hc
  obtain ⟨⟨⟨⟨c1, c2⟩, c3⟩, c4⟩, c5⟩ := hc
  refine ⟨?_, c2, c3, c4, by simpa using c5⟩
  split at c1
  · unfold mm_tN at c1
    simp only [decide_eq_true_eq] at c1
    exact Or.inr (hF.1 _ (List.mem_of_getElem? c1) rfl)
  · exact Or.inl (hts _ (mm_tA_in c1))
/-- the stack behind a call -/
def mm_rs (r : Option Value) (rest : List Value) : List Value := match r with
  | none => rest
  | some v => v :: rest
theorem mm_join {rest : List Value} {r : Option Value} {h1 : mm_H} {ar : Array Value} {st0 : List Value}
    (hr : va_Run p l e R s m args below meth c H locs cells slots (hN h1 - hN h) (hM h1 - hM h) (F0 m pc ls st0) (rest.map (mm_tr z)) (mm_Qc z r h1 ar) (fun q => z.1.2.2.1 ≤ q))
    (hlo : ∀ q ∈ locs, z.1.2.2.1 ≤ q.base) (hl : lv_has ls (mm_ml mi) (mm_pr z 0 L)) (hce : cells + n0 = hN h) (hsl : slots + m0 = hM h) (g1 : hN h ≤ hN h1) (g2 : hM h ≤ hM h1) (hp : mm_po mi (ip + 1) (pc + 3) = true)
    (HF : F (ip + 1) L (mm_rs r rest) h1) (K : mm_KN p l e R s m args below meth c Q z mi n0 m0 F) : W p l e R s m args below meth c H locs cells slots Q (F0 m pc ls st0) :=
  mm_after hr hlo (fun H1 locs1 hR1 hl1 => K _ _ _ _ _ _ _ _ _ _ HF hp hR1 hl hl1 (by omega) (by omega))
/-- a static call -/
theorem mm_c_st {rest as : List Value} {k n idx : Nat} (hF : mm_Fr p R s m args meth c z mi d) (hl : lv_has ls (mm_ml mi) (mm_pr z 0 L)) (hRl : mm_Rel z h H) (hlo : ∀ q ∈ locs, z.1.2.2.1 ≤ q.base) (hce : cells + n0 = hN h) (hsl : slots + m0 = hM h)
    (hCO : mm_CO l R z d n0 m0 h k as (fun r h1 => F (ip + 1) L (mm_rs r rest) h1)) (hn : as.length = n) (hw : ((rest.map (mm_tr z)).map fun v => v.category).sum ≤ 8)
    (hk : ((Jvm.Cond.methodLink (mm_yn mi).cls idx (mm_yn k)).before args s = true ∨ va_Nw (.methodLinkNest (mm_yn mi).cls idx (mm_yn k) "TermDraw") s) ∧ (parseMethodDescriptor (mm_yn k).desc).map (fun d => d.parameters.length) = some n ∧ (mm_yn k).cls ≠ "java/lang/invoke/MethodHandle" ∧ (mm_yn k).cls ≠ "java/lang/invoke/VarHandle" ∧ k < 293)
    (hs : (Jvm.Cond.static (mm_yn k)).before args s = true) (hi : (Jvm.Cond.initialized (mm_yn k).cls).before args s = true) (hd : decode (mm_yb mi) pc = .ok (.invokestatic idx, 3)) (hp : mm_po mi (ip + 1) (pc + 3) = true)
    (K : mm_KN p l e R s m args below meth c Q z mi n0 m0 F) : W p l e R s m args below meth c H locs cells slots Q (F0 m pc ls ((as.map (mm_tr z)).reverse ++ rest.map (mm_tr z))) := by
  obtain ⟨hx, hb, hml, hown, hts, hFN, hini, hfr, hlc, h40⟩ := id hF
  obtain ⟨r, h1, HF, g1, g2, g3, g4, g5, g6, hMt⟩ := hCO
  obtain ⟨k1, k2, k3, k4, k5⟩ := hk
  have hG := mm_gG _ _ _ _ (g6 k5)
  have hPS : PreS s H (mm_Pc z as h) (as.map (mm_tr z)) := ⟨mm_Pc_blind z as h, fun U hU hW => ⟨rfl, by rw [hU]; exact hRl, mm_FN.warm hW hFN⟩⟩
  have hCB : (Jvm.Cond.methodLink (mm_yn mi).cls idx (mm_yn k)).before args s = true → CallB R s args (mm_yn mi).cls idx (mm_yn k) (mm_yb k) (mm_ml k) (mm_yr k) (.code (mm_yn k) (mm_yb k) (mm_ml k) (mm_yr k) :: mm_gT) { frames := d + 9, cells := hN h1 - hN h, slots := hM h1 - hM h, locals := 64 * (d + 9) } (hN h1 - hN h) (hM h1 - hM h) n := fun k1 => callB_of (ws' := mm_gT) n hts hG rfl rfl rfl hi k1 ⟨k3, k4, k2⟩ ⟨hfr, mm_ar1 g5 hlc⟩
  have hCN : va_Nw (.methodLinkNest (mm_yn mi).cls idx (mm_yn k) "TermDraw") s → va_CN R s args (mm_yn mi).cls idx (mm_yn k) "TermDraw" (mm_yb k) (mm_ml k) (mm_yr k) (.code (mm_yn k) (mm_yb k) (mm_ml k) (mm_yr k) :: mm_gT) { frames := d + 9, cells := hN h1 - hN h, slots := hM h1 - hM h, locals := 64 * (d + 9) } (hN h1 - hN h) (hM h1 - hM h) n := fun k1 => va_cnB (ws' := mm_gT) n hts hG rfl rfl rfl k1 hi ⟨k3, k4, k2⟩ ⟨hfr, mm_ar1 g5 hlc⟩
  rcases k1 with k1 | k1
  · exact mm_join (mi := mi) (va_runS (Ts := mm_gT) ⟨hx, hb, hml, hown, hts⟩ hMt ⟨hCB k1, hs⟩ hPS rfl (by rw [List.length_map]; exact hn) hl.1 rfl (by show 2 * 0 + _ ≤ _; omega) hd ⟨by omega, by omega⟩) hlo hl hce hsl g1 g2 hp HF K
  · exact mm_join (mi := mi) (va_runSN (Ts := mm_gT) ⟨hx, hb, hml, hown, hts⟩ hMt ⟨hCN k1, hs, trivial⟩ hPS rfl (by rw [List.length_map]; exact hn) hl.1 rfl (by show 2 * 0 + _ ≤ _; omega) hd ⟨by omega, by omega⟩) hlo hl hce hsl g1 g2 hp HF K
/-- a call of an object's own method -/
theorem mm_c_vi {rest as : List Value} {k n idx a ci : Nat} (hF : mm_Fr p R s m args meth c z mi d) (hl : lv_has ls (mm_ml mi) (mm_pr z 0 L)) (hRl : mm_Rel z h H) (hlo : ∀ q ∈ locs, z.1.2.2.1 ≤ q.base) (hce : cells + n0 = hN h) (hsl : slots + m0 = hM h)
    (hCO : mm_CO l R z d n0 m0 h k (.ref a :: as) (fun r h1 => F (ip + 1) L (mm_rs r rest) h1)) (hn : as.length = n) (hw : ((rest.map (mm_tr z)).map fun v => v.category).sum ≤ 8)
    (hk : ((Jvm.Cond.methodLink (mm_yn mi).cls idx (mm_yn k)).before args s = true ∨ va_Nw (.methodLinkNest (mm_yn mi).cls idx (mm_yn k) "TermDraw") s) ∧ (parseMethodDescriptor (mm_yn k).desc).map (fun d => d.parameters.length) = some n ∧ (mm_yn k).cls ≠ "java/lang/invoke/MethodHandle" ∧ (mm_yn k).cls ≠ "java/lang/invoke/VarHandle" ∧ k < 293)
    (hs : (Jvm.Cond.instanceMethod (mm_yn k)).before args s = true) (hse : (Jvm.Cond.selects (mm_kn ci) (mm_yn k) (mm_yn k)).before args s = true) (hka : (hK h a).1 = ci) (hci : ci < 12) (hi : (Jvm.Cond.initialized (mm_yn k).cls).before args s = true) (hd : decode (mm_yb mi) pc = .ok (.invokevirtual idx, 3)) (hp : mm_po mi (ip + 1) (pc + 3) = true)
    (K : mm_KN p l e R s m args below meth c Q z mi n0 m0 F) : W p l e R s m args below meth c H locs cells slots Q (F0 m pc ls ((as.map (mm_tr z)).reverse ++ .ref (mm_ad z a) :: rest.map (mm_tr z))) := by
  obtain ⟨hx, hb, hml, hown, hts, hFN, hini, hfr, hlc, h40⟩ := id hF
  obtain ⟨r, h1, HF, g1, g2, g3, g4, g5, g6, hMt⟩ := hCO
  obtain ⟨k1, k2, k3, k4, k5⟩ := hk
  have hG := mm_gG _ _ _ _ (g6 k5)
  have hPV : PreV s H (mm_kn ci) (mm_ad z a) (mm_Pc z (.ref a :: as) h) (as.map (mm_tr z)) := ⟨mm_Pc_blind z _ h, mm_recv hRl hFN hka hci, fun U hU hW => ⟨rfl, by rw [hU]; exact hRl, mm_FN.warm hW hFN⟩⟩
  have hCB : (Jvm.Cond.methodLink (mm_yn mi).cls idx (mm_yn k)).before args s = true → CallB R s args (mm_yn mi).cls idx (mm_yn k) (mm_yb k) (mm_ml k) (mm_yr k) (.code (mm_yn k) (mm_yb k) (mm_ml k) (mm_yr k) :: mm_gT) { frames := d + 9, cells := hN h1 - hN h, slots := hM h1 - hM h, locals := 64 * (d + 9) } (hN h1 - hN h) (hM h1 - hM h) n := fun k1 => callB_of (ws' := mm_gT) n hts hG rfl rfl rfl hi k1 ⟨k3, k4, k2⟩ ⟨hfr, mm_ar1 g5 hlc⟩
  have hCN : va_Nw (.methodLinkNest (mm_yn mi).cls idx (mm_yn k) "TermDraw") s → va_CN R s args (mm_yn mi).cls idx (mm_yn k) "TermDraw" (mm_yb k) (mm_ml k) (mm_yr k) (.code (mm_yn k) (mm_yb k) (mm_ml k) (mm_yr k) :: mm_gT) { frames := d + 9, cells := hN h1 - hN h, slots := hM h1 - hM h, locals := 64 * (d + 9) } (hN h1 - hN h) (hM h1 - hM h) n := fun k1 => va_cnB (ws' := mm_gT) n hts hG rfl rfl rfl k1 hi ⟨k3, k4, k2⟩ ⟨hfr, mm_ar1 g5 hlc⟩
  rcases k1 with k1 | k1
  · exact mm_join (mi := mi) (va_runV (Ts := mm_gT) ⟨hx, hb, hml, hown, hts⟩ hMt ⟨hCB k1, hs, hse⟩ hPV rfl (by rw [List.length_map]; exact hn) hl.1 rfl (by show 2 * 0 + _ ≤ _; omega) hd ⟨by omega, by omega⟩) hlo hl hce hsl g1 g2 hp HF K
  · exact mm_join (mi := mi) (va_runVN (Ts := mm_gT) ⟨hx, hb, hml, hown, hts⟩ hMt ⟨hCN k1, hs, hse⟩ hPV rfl (by rw [List.length_map]; exact hn) hl.1 rfl (by show 2 * 0 + _ ≤ _; omega) hd ⟨by omega, by omega⟩) hlo hl hce hsl g1 g2 hp HF K
/-- a constructor's call -/
theorem mm_c_in {rest as : List Value} {k n idx a : Nat} (hF : mm_Fr p R s m args meth c z mi d) (hl : lv_has ls (mm_ml mi) (mm_pr z 0 L)) (hRl : mm_Rel z h H) (hlo : ∀ q ∈ locs, z.1.2.2.1 ≤ q.base) (hce : cells + n0 = hN h) (hsl : slots + m0 = hM h)
    (hCO : mm_CO l R z d n0 m0 h k (.ref a :: as) (fun r h1 => F (ip + 1) L (mm_rs r rest) h1)) (hn : as.length = n) (hw : ((rest.map (mm_tr z)).map fun v => v.category).sum ≤ 8)
    (hk : ((Jvm.Cond.methodLink (mm_yn mi).cls idx (mm_yn k)).before args s = true ∨ va_Nw (.methodLinkNest (mm_yn mi).cls idx (mm_yn k) "TermDraw") s) ∧ (parseMethodDescriptor (mm_yn k).desc).map (fun d => d.parameters.length) = some n ∧ (mm_yn k).cls ≠ "java/lang/invoke/MethodHandle" ∧ (mm_yn k).cls ≠ "java/lang/invoke/VarHandle" ∧ k < 293)
    (hs : (Jvm.Cond.instanceMethod (mm_yn k)).before args s = true) (hnm : (mm_yn k).name = "<init>") (hrt : mm_yr k = none) (hi : (Jvm.Cond.initialized (mm_yn k).cls).before args s = true) (hd : decode (mm_yb mi) pc = .ok (.invokespecial idx, 3)) (hp : mm_po mi (ip + 1) (pc + 3) = true)
    (K : mm_KN p l e R s m args below meth c Q z mi n0 m0 F) : W p l e R s m args below meth c H locs cells slots Q (F0 m pc ls ((as.map (mm_tr z)).reverse ++ .ref (mm_ad z a) :: rest.map (mm_tr z))) := by
  obtain ⟨hx, hb, hml, hown, hts, hFN, hini, hfr, hlc, h40⟩ := id hF
  obtain ⟨r, h1, HF, g1, g2, g3, g4, g5, g6, hMt⟩ := hCO
  rw [hrt] at g6 hMt
  obtain ⟨k1, k2, k3, k4, k5⟩ := hk
  have hG := mm_gG _ _ _ _ (g6 k5)
  have hPS : PreS s H (mm_Pc z (.ref a :: as) h) (.ref (mm_ad z a) :: as.map (mm_tr z)) := ⟨mm_Pc_blind z _ h, fun U hU hW => ⟨rfl, by rw [hU]; exact hRl, mm_FN.warm hW hFN⟩⟩
  have hCB : (Jvm.Cond.methodLink (mm_yn mi).cls idx (mm_yn k)).before args s = true → CallB R s args (mm_yn mi).cls idx (mm_yn k) (mm_yb k) (mm_ml k) (none) (.code (mm_yn k) (mm_yb k) (mm_ml k) (none) :: mm_gT) { frames := d + 9, cells := hN h1 - hN h, slots := hM h1 - hM h, locals := 64 * (d + 9) } (hN h1 - hN h) (hM h1 - hM h) n := fun k1 => callB_of (ws' := mm_gT) n hts hG rfl rfl rfl hi k1 ⟨k3, k4, k2⟩ ⟨hfr, mm_ar1 g5 hlc⟩
  have hCN : va_Nw (.methodLinkNest (mm_yn mi).cls idx (mm_yn k) "TermDraw") s → va_CN R s args (mm_yn mi).cls idx (mm_yn k) "TermDraw" (mm_yb k) (mm_ml k) (none) (.code (mm_yn k) (mm_yb k) (mm_ml k) (none) :: mm_gT) { frames := d + 9, cells := hN h1 - hN h, slots := hM h1 - hM h, locals := 64 * (d + 9) } (hN h1 - hN h) (hM h1 - hM h) n := fun k1 => va_cnB (ws' := mm_gT) n hts hG rfl rfl rfl k1 hi ⟨k3, k4, k2⟩ ⟨hfr, mm_ar1 g5 hlc⟩
  rcases k1 with k1 | k1
  · exact mm_join (mi := mi) (va_runI (Ts := mm_gT) ⟨hx, hb, hml, hown, hts⟩ hMt ⟨hCB k1, hnm, hs⟩ hPS rfl (by rw [List.length_map]; exact hn) hl.1 rfl (by show 2 * 0 + _ ≤ _; omega) hd ⟨by omega, by omega⟩) hlo hl hce hsl g1 g2 hp HF K
  · exact mm_join (mi := mi) (va_runIN (Ts := mm_gT) ⟨hx, hb, hml, hown, hts⟩ hMt ⟨hCN k1, hnm, hs⟩ hPS rfl (by rw [List.length_map]; exact hn) hl.1 rfl (by show 2 * 0 + _ ≤ _; omega) hd ⟨by omega, by omega⟩) hlo hl hce hsl g1 g2 hp HF K
/-- what a checked call across the classes says -/
theorem mm_ckU_o {own C : String} {idx k n pl ps pd pcc pi pz : Nat} {x : MethodName} (hc : mm_ckU own C idx k n x pl ps pd pcc pi pz = true) (hF : mm_FN z s) (hts : ∀ w ∈ mm_gT, w.before args s = true) (hcode : k < 293 → Jvm.Cond.code (mm_yn k) (mm_yb k) (mm_ml k) (mm_yr k) ∈ mm_gT) :
    (Jvm.Cond.methodLink own idx x).before args s = true ∧ (Jvm.Cond.sameMethod x.cls "TermDraw$Order" x.name x.desc).before args s = true ∧ va_Decl s ⟨"TermDraw$Order", x.name, x.desc⟩ ∧ (Jvm.Cond.selects C x (mm_yn k)).before args s = true ∧ (Jvm.Cond.instanceMethod (mm_yn k)).before args s = true ∧ (Jvm.Cond.initialized (mm_yn k).cls).before args s = true ∧ (parseMethodDescriptor x.desc).map (fun d => d.parameters.length) = some n ∧ k < 293 := by
  unfold mm_ckU at hc
  simp only [Bool.and_eq_true, Bool.or_eq_true, decide_eq_true_eq] at hc
  obtain ⟨⟨⟨⟨⟨⟨⟨c1, c2⟩, c3⟩, c4⟩, c5⟩, c6⟩, c7⟩, c8⟩ := hc
  have c8 : k < 293 := by simpa using c8
  refine ⟨hts _ (mm_tA_in c1), hts _ (mm_tA_in c2), ?_, hts _ (mm_tA_in c4), hts _ (mm_tA_in c5), hts _ (mm_tA_in c6), c7, c8⟩
  rcases c3 with c3 | c3
  · unfold mm_tN at c3
    simp only [decide_eq_true_eq] at c3
    exact va_Decl.abs (hF.1 _ (List.mem_of_getElem? c3) rfl)
  · rw [c3]
    exact va_Decl.of (hts _ (mm_tA_in c5)) (hts _ (hcode c8))
/-- a call up or across the classes -/
theorem mm_c_vu {rest as : List Value} {k n idx a ci : Nat} {x : MethodName} (hF : mm_Fr p R s m args meth c z mi d) (hl : lv_has ls (mm_ml mi) (mm_pr z 0 L)) (hRl : mm_Rel z h H) (hlo : ∀ q ∈ locs, z.1.2.2.1 ≤ q.base) (hce : cells + n0 = hN h) (hsl : slots + m0 = hM h)
    (hCO : mm_CO l R z d n0 m0 h k (.ref a :: as) (fun r h1 => F (ip + 1) L (mm_rs r rest) h1)) (hn : as.length = n) (hw : ((rest.map (mm_tr z)).map fun v => v.category).sum ≤ 8) {pl ps pd pcc pi pz : Nat}
    (hc : mm_ckU (mm_yn mi).cls (mm_kn ci) idx k n x pl ps pd pcc pi pz = true) (hka : (hK h a).1 = ci) (hci : ci < 12) (hd : decode (mm_yb mi) pc = .ok (.invokevirtual idx, 3)) (hp : mm_po mi (ip + 1) (pc + 3) = true)
    (K : mm_KN p l e R s m args below meth c Q z mi n0 m0 F) : W p l e R s m args below meth c H locs cells slots Q (F0 m pc ls ((as.map (mm_tr z)).reverse ++ .ref (mm_ad z a) :: rest.map (mm_tr z))) := by
  obtain ⟨hx, hb, hml, hown, hts, hFN, hini, hfr, hlc, h40⟩ := id hF
  obtain ⟨r, h1, HF, g1, g2, g3, g4, g5, g6, hMt⟩ := hCO
  obtain ⟨k1, k2, k3, k4, k5, k6, k7, k8⟩ := mm_ckU_o hc hFN hts g6
  have hG := mm_gG _ _ _ _ (g6 k8)
  have hPV : PreV s H (mm_kn ci) (mm_ad z a) (mm_Pc z (.ref a :: as) h) (as.map (mm_tr z)) := ⟨mm_Pc_blind z _ h, mm_recv hRl hFN hka hci, fun U hU hW => ⟨rfl, by rw [hU]; exact hRl, mm_FN.warm hW hFN⟩⟩
  have hcw : va_CU R s args (mm_yn mi).cls (mm_kn ci) "TermDraw$Order" idx x (mm_yn k) (mm_yb k) (mm_ml k) (mm_yr k) (.code (mm_yn k) (mm_yb k) (mm_ml k) (mm_yr k) :: mm_gT) { frames := d + 9, cells := hN h1 - hN h, slots := hM h1 - hM h, locals := 64 * (d + 9) } (hN h1 - hN h) (hM h1 - hM h) n := by
    refine ⟨⟨rfl, rfl, hfr, mm_ar1 g5 hlc, pay_in hts hG, List.mem_cons_self⟩, hts _ (g6 k8), k6, ⟨by decide, by decide⟩, fun sig q => ?_, k1, k2, k3, k4, k5⟩
    rw [q] at k7
    exact (Option.some.inj k7).symm
  exact mm_join (mi := mi) (va_runU (Ts := mm_gT) ⟨hx, hb, hml, hown, hts⟩ hMt hcw hPV rfl (by rw [List.length_map]; exact hn) hl.1 rfl (by show 2 * 0 + _ ≤ _; omega) hd ⟨by omega, by omega⟩) hlo hl hce hsl g1 g2 hp HF K
end CALLS
end
section
/-! any instruction; then the whole -/
/-- the text's charAt -/
def mm_chN : MethodName := ⟨"java/lang/String", "charAt", "(I)C"⟩
def mm_CH (l : Launch) (z : mm_Z) : Prop := ∃ (b : ByteArray) (ml : Nat), ml ≤ 40 ∧ Jvm.Cond.code mm_chN b ml (some .char) ∈ mm_gT ∧ Jvm.Cond.instanceMethod mm_chN ∈ mm_gT ∧ Jvm.Cond.selects "java/lang/String" mm_chN mm_chN ∈ mm_gT ∧ Jvm.Cond.initialized "java/lang/String" ∈ mm_gT ∧
  ∀ (h : mm_H) (i : Int32), vp_in i 7 → Met l mm_chN (.code mm_chN b ml (some .char) :: mm_gT) { frames := 8, cells := 0, slots := 0, locals := 500 } (mm_Pc z [.ref 2, .int i] h) (mm_Qc z (some (.int (mm_chr i.toNatClampNeg))) h) 0 0 (fun q => z.1.2.2.1 ≤ q)
theorem mm_slL (z : mm_Z) : ∀ as : List Value, (lg_sl (as.map (mm_tr z))).length = mm_cs as := by
  intro as
  induction as with
  | nil => rfl
  | cons a r ih =>
    show (lg_sl (mm_tr z a :: r.map (mm_tr z))).length = mm_ca a + mm_cs r
    rw [← ih]
    unfold lg_sl
    rw [List.flatMap_cons, List.length_append]
    congr 1
    cases a <;> rfl
section STEP3
variable {p : Program} {l : Launch} {e : Env} {R : Room} {s : State} {m : MethodId} {args : Array Value} {below : List Frame} {meth : Method} {c : Code} {Q : State → Prop}
variable {z : mm_Z} {mi d n0 m0 : Nat} {F : Nat → mm_Lv → List Value → mm_H → Prop} {G : Nat → List Value → mm_Q → Prop} {Qr : mm_Q}
variable {ip pc : Nat} {L : mm_Lv} {st : List Value} {h : mm_H} {H : Heap} {locs : List Loc} {ls : Array Slot} {cells slots : Nat} {x : List Nat} {v : Value} {aux : List Nat}
theorem mm_rec_o {ks : List Nat} {as : List Value} {P : Prop} (h1 : mm_gd (mm_rec h ks as) P) : ∃ a as', as = .ref a :: as' ∧ mm_kd (hK h a).1 ks ∧ P := by
  unfold mm_rec at h1
  split at h1
  · rename_i a as'
    exact ⟨a, as', rfl, h1.1, h1.2⟩
  · exact h1.1.elim
theorem mm_ckU_k {own C : String} {idx k n pl ps pd pcc pi pz : Nat} {x : MethodName} (hc : mm_ckU own C idx k n x pl ps pd pcc pi pz = true) : k < 293 := by
  unfold mm_ckU at hc
  rw [Bool.and_eq_true] at hc
  simpa using hc.2
theorem mm_n2_o {k n : Nat} (h : mm_n2 k n st = true) : mm_cs (mm_rv (mm_tk n st) []) ≤ mm_ml k := Nat.le_of_ble_eq_true h
/-- the stack at an object's call -/
theorem mm_stackV {n a : Nat} {as : List Value} (hn : mm_n n st = true) (ha : mm_rv (mm_tk n st) [] = .ref a :: as) : st.map (mm_tr z) = (as.map (mm_tr z)).reverse ++ .ref (mm_ad z a) :: (mm_dr n st).map (mm_tr z) ∧ as.length = n - 1 ∧ (((mm_dr n st).map (mm_tr z)).map fun v => v.category).sum ≤ 8 := by
  obtain ⟨e1, e2, e3⟩ := mm_stack (z := z) hn
  rw [ha] at e1 e2
  refine ⟨?_, by simp at e2; omega, e3⟩
  rw [e1, List.map_cons, List.reverse_cons, List.append_assoc]
  rfl
theorem mm_p_static {idx : Nat} (hF : mm_Fr p R s m args meth c z mi d) (hl : lv_has ls (mm_ml mi) (mm_pr z 0 L)) (hRl : mm_Rel z h H) (hlo : ∀ q ∈ locs, z.1.2.2.1 ≤ q.base) (hce : cells + n0 = hN h) (hsl : slots + m0 = hM h) (ck : mm_ck mi ip (.invokestatic idx) pc x v aux = true) (HO : mm_oW (mm_s1 (.invokestatic idx) x v ip L st h) F G ip L h Qr) (K : mm_KN p l e R s m args below meth c Q z mi n0 m0 F) (HG : ∀ (k : Nat) (as : List Value) (P : mm_Q), k < 293 → mm_cs as ≤ mm_ml k → G k as P → (∀ r h1, P r h1 → hN h1 ≤ R.cells + n0 ∧ hM h1 ≤ R.slots + m0) → mm_CO l R z d n0 m0 h k as P) (HB : ∀ (i : Nat) (L : mm_Lv) (st : List Value) (h : mm_H), F i L st h → hN h ≤ R.cells + n0 ∧ hM h ≤ R.slots + m0) : W p l e R s m args below meth c H locs cells slots Q (F0 m pc ls (st.map (mm_tr z))) := by
  obtain ⟨hx, hb, hml, hown, hts, hFN, hini, hfr, hlc, h40⟩ := id hF
  replace ck : mm_ckV mi ip (.invokestatic idx) idx pc x aux = true := ck
  replace HO : mm_oW (mm_cal x ip L st h) F G ip L h Qr := HO
  unfold mm_ckV at ck
  rw [Bool.and_eq_true] at ck
  obtain ⟨c1, c2⟩ := ck
  obtain ⟨hd, hp⟩ := mm_d_dec c1
  split at c2
  · rename_i k n
    simp only [Bool.and_eq_true] at c2
    obtain ⟨⟨⟨-, c2⟩, c3⟩, c4⟩ := c2
    replace HO : mm_oW (if (mm_n n st && mm_n2 k n st) = true then mm_cl2 none k (mm_rv (mm_tk n st) []) (mm_dr n st) else none) F G ip L h Qr := HO
    split at HO
    · rename_i hn
      rw [Bool.and_eq_true] at hn
      obtain ⟨e1, e2, e3⟩ := mm_stack (z := z) hn.1
      rw [e1]
      exact mm_c_st hF hl hRl hlo hce hsl (HG _ _ _ (mm_ckC_o c2 hFN hts).2.2.2.2 (mm_n2_o hn.2) HO (fun _ _ q => HB _ _ _ _ q)) e2 e3 (mm_ckC_o c2 hFN hts) (hts _ (mm_tA_in c3)) (hts _ (mm_tA_in c4)) hd hp K
    · exact HO.elim
  · simp at c2
  · simp at c2
  · simp at c2
  · simp at c2
  · simp at c2
  · simp at c2
  · simp only [Bool.and_eq_true, decide_eq_true_eq] at c2
    obtain ⟨⟨-, c2⟩, c3⟩ := c2
    replace HO : mm_oW (mm_j5 ip L st h) F G ip L h Qr := HO
    unfold mm_j5 at HO
    split at HO
    · rename_i w r
      split at HO
      · rename_i hw
        have hw := Nat.le_of_ble_eq_true hw
        have HF : F (ip + 1) L (.int w.toInt32 :: r) h := HO
        exact vn_f2i hx hb (hml.trans hl.1.symm) hown (hts _ (mm_tA_in c2)) (hts _ mm_nf1) (hts _ mm_nf2) (hts _ mm_nf3) (by omega) (by rw [mm_cs_sum]; omega) hd (K _ _ _ _ _ _ _ _ _ _ HF hp hRl hl hlo hce hsl)
      · exact HO.elim
    · exact HO.elim
  · simp only [Bool.and_eq_true, decide_eq_true_eq] at c2
    obtain ⟨⟨-, c2⟩, c3⟩ := c2
    replace HO : mm_oW (mm_j6 ip L st h) F G ip L h Qr := HO
    unfold mm_j6 at HO
    split at HO
    · rename_i w r
      split at HO
      · rename_i hw
        have hw := Nat.le_of_ble_eq_true hw
        have HF : F (ip + 1) L (.long w.toInt64 :: r) h := HO
        exact vn_d2l hx hb (hml.trans hl.1.symm) hown (hts _ (mm_tA_in c2)) (hts _ mm_nd1) (hts _ mm_nd2) (hts _ mm_nd3) (by omega) (by rw [mm_cs_sum]; omega) hd (K _ _ _ _ _ _ _ _ _ _ HF hp hRl hl hlo hce hsl)
      · exact HO.elim
    · exact HO.elim
  · simp at c2
  · simp at c2
theorem mm_p_virtual {idx : Nat} (hF : mm_Fr p R s m args meth c z mi d) (hl : lv_has ls (mm_ml mi) (mm_pr z 0 L)) (hRl : mm_Rel z h H) (hlo : ∀ q ∈ locs, z.1.2.2.1 ≤ q.base) (hce : cells + n0 = hN h) (hsl : slots + m0 = hM h) (ck : mm_ck mi ip (.invokevirtual idx) pc x v aux = true) (HO : mm_oW (mm_s1 (.invokevirtual idx) x v ip L st h) F G ip L h Qr) (K : mm_KN p l e R s m args below meth c Q z mi n0 m0 F) (HG : ∀ (k : Nat) (as : List Value) (P : mm_Q), k < 293 → mm_cs as ≤ mm_ml k → G k as P → (∀ r h1, P r h1 → hN h1 ≤ R.cells + n0 ∧ hM h1 ≤ R.slots + m0) → mm_CO l R z d n0 m0 h k as P) (hCH : mm_CH l z) (HB : ∀ (i : Nat) (L : mm_Lv) (st : List Value) (h : mm_H), F i L st h → hN h ≤ R.cells + n0 ∧ hM h ≤ R.slots + m0) : W p l e R s m args below meth c H locs cells slots Q (F0 m pc ls (st.map (mm_tr z))) := by
  obtain ⟨hx, hb, hml, hown, hts, hFN, hini, hfr, hlc, h40⟩ := id hF
  replace ck : mm_ckV mi ip (.invokevirtual idx) idx pc x aux = true := ck
  replace HO : mm_oW (mm_cal x ip L st h) F G ip L h Qr := HO
  unfold mm_ckV at ck
  rw [Bool.and_eq_true] at ck
  obtain ⟨c1, c2⟩ := ck
  obtain ⟨hd, hp⟩ := mm_d_dec c1
  split at c2
  · simp at c2
  · rename_i k n ci
    simp only [Bool.and_eq_true] at c2
    obtain ⟨⟨⟨⟨⟨⟨-, c0⟩, c2⟩, c3⟩, c4⟩, c5⟩, c6⟩ := c2
    have c6 : ci < 12 := by simpa using c6
    replace HO : mm_oW (if (mm_n n st && mm_n2 k n st) = true then mm_cl2 (mm_rec h [ci] (mm_rv (mm_tk n st) [])) k (mm_rv (mm_tk n st) []) (mm_dr n st) else none) F G ip L h Qr := HO
    split at HO
    · rename_i hn
      rw [Bool.and_eq_true] at hn
      obtain ⟨a, as, q1, q2, HO⟩ := mm_rec_o HO
      have h2 := mm_n2_o hn.2
      obtain ⟨e1, e2, e3⟩ := mm_stackV (z := z) hn.1 q1
      rw [q1] at HO h2
      rw [e1]
      exact mm_c_vi hF hl hRl hlo hce hsl (HG _ _ _ (mm_ckC_o c2 hFN hts).2.2.2.2 h2 HO (fun _ _ q => HB _ _ _ _ q)) e2 e3 (mm_ckC_o c2 hFN hts) (hts _ (mm_tA_in c3)) (hts _ (mm_tA_in c4)) q2 c6 (hts _ (mm_tA_in c5)) hd hp K
    · exact HO.elim
  · rename_i k n ci
    simp only [Bool.and_eq_true] at c2
    obtain ⟨⟨⟨-, c0⟩, c6⟩, c2⟩ := c2
    have c6 : ci < 12 := by simpa using c6
    replace HO : mm_oW (if (mm_n n st && mm_n2 k n st) = true then mm_cl2 (mm_rec h [ci] (mm_rv (mm_tk n st) [])) k (mm_rv (mm_tk n st) []) (mm_dr n st) else none) F G ip L h Qr := HO
    split at c2
    · split at HO
      · rename_i hn
        rw [Bool.and_eq_true] at hn
        obtain ⟨a, as, q1, q2, HO⟩ := mm_rec_o HO
        have h2 := mm_n2_o hn.2
        obtain ⟨e1, e2, e3⟩ := mm_stackV (z := z) hn.1 q1
        rw [q1] at HO h2
        rw [e1]
        exact mm_c_vu hF hl hRl hlo hce hsl (HG _ _ _ (mm_ckU_k c2) h2 HO (fun _ _ q => HB _ _ _ _ q)) e2 e3 c2 q2 c6 hd hp K
      · exact HO.elim
    · cases c2
  · rename_i k n ci cj
    simp only [Bool.and_eq_true] at c2
    obtain ⟨⟨⟨⟨⟨-, c0⟩, c6⟩, c7⟩, c2⟩, c3⟩ := c2
    have c6 : ci < 12 := by simpa using c6
    have c7 : cj < 12 := by simpa using c7
    replace HO : mm_oW (if (mm_n n st && mm_n2 k n st) = true then mm_cl2 (mm_rec h [ci, cj] (mm_rv (mm_tk n st) [])) k (mm_rv (mm_tk n st) []) (mm_dr n st) else none) F G ip L h Qr := HO
    split at HO
    · rename_i hn
      rw [Bool.and_eq_true] at hn
      obtain ⟨a, as, q1, q2, HO⟩ := mm_rec_o HO
      have h2 := mm_n2_o hn.2
      obtain ⟨e1, e2, e3⟩ := mm_stackV (z := z) hn.1 q1
      rw [q1] at HO h2
      rw [e1]
      have q2 : (hK h a).1 = ci ∨ (hK h a).1 = cj := q2
      rcases q2 with q2 | q2
      · exact mm_c_vu hF hl hRl hlo hce hsl (HG _ _ _ (mm_ckU_k c2) h2 HO (fun _ _ q => HB _ _ _ _ q)) e2 e3 c2 q2 c6 hd hp K
      · exact mm_c_vu hF hl hRl hlo hce hsl (HG _ _ _ (mm_ckU_k c3) h2 HO (fun _ _ q => HB _ _ _ _ q)) e2 e3 c3 q2 c7 hd hp K
    · exact HO.elim
  · rename_i n k1 j1 k2 j2
    simp only [Bool.and_eq_true] at c2
    obtain ⟨⟨⟨⟨-, c0⟩, c6⟩, c7⟩, c2⟩ := c2
    have c6 : k1 < 12 := by simpa using c6
    have c7 : k2 < 12 := by simpa using c7
    split at c2
    · rw [Bool.and_eq_true] at c2
      replace HO : mm_oW (if (mm_n n st && (mm_n2 j1 n st && mm_n2 j2 n st)) = true then (match mm_rv (mm_tk n st) [] with | .ref a :: as => mm_cl2 (some (mm_kd (hK h a).1 [k1, k2])) (if (hK h a).1 = k1 then j1 else j2) (.ref a :: as) (mm_dr n st) | _ => none) else none) F G ip L h Qr := HO
      split at HO
      · rename_i hn
        simp only [Bool.and_eq_true] at hn
        have h2 := mm_n2_o hn.2.1
        have h3 := mm_n2_o hn.2.2
        split at HO
        · rename_i a as q1
          obtain ⟨q2, HO⟩ := HO
          obtain ⟨e1, e2, e3⟩ := mm_stackV (z := z) hn.1 q1
          rw [q1] at h2 h3
          rw [e1]
          by_cases q3 : (hK h a).1 = k1
          · rw [if_pos q3] at HO
            exact mm_c_vu hF hl hRl hlo hce hsl (HG _ _ _ (mm_ckU_k c2.1) h2 HO (fun _ _ q => HB _ _ _ _ q)) e2 e3 c2.1 q3 c6 hd hp K
          · rw [if_neg q3] at HO
            have q2 : (hK h a).1 = k1 ∨ (hK h a).1 = k2 := q2
            exact mm_c_vu hF hl hRl hlo hce hsl (HG _ _ _ (mm_ckU_k c2.2) h3 HO (fun _ _ q => HB _ _ _ _ q)) e2 e3 c2.2 (q2.resolve_left q3) c7 hd hp K
        · exact HO.elim
      · exact HO.elim
    · cases c2
  · simp at c2
  · simp only [Bool.and_eq_true] at c2
    obtain ⟨-, c2⟩ := c2
    replace HO : mm_oW (mm_j4 ip L st h) F G ip L h Qr := HO
    unfold mm_j4 at HO
    split at HO
    · rename_i i r
      split at HO
      · rename_i hw
        have hw := Nat.le_of_ble_eq_true hw
        obtain ⟨hi, HF⟩ := HO
        have HF : F (ip + 1) L (mm_rs (some (.int (mm_chr i.toNatClampNeg))) r) h := HF
        obtain ⟨b0, ml0, k1, k2, k3, k4, k5, hMt⟩ := hCH
        obtain ⟨hB1, hB2⟩ := HB _ _ _ _ HF
        have hMt := hMt h i hi
        obtain ⟨s1, av, ff, s2, -⟩ := hFN.2.2.2.2.2.2
        obtain ⟨cell, g1, g2, g3, -⟩ := (s2.1 0 (by decide)).1
        have hlt : z.1.2.1 < z.1.2.2.1 := by rw [← s1]; exact (Array.getElem?_eq_some_iff.mp g1).1
        have hPV : PreV s H "java/lang/String" (mm_ad z 2) (mm_Pc z [.ref 2, .int i] h) [.int i] := ⟨mm_Pc_blind z _ h, ⟨cell, (hRl.2.2.1 _ hlt).trans g1, g2, g3⟩, fun U hU hW => ⟨rfl, by rw [hU]; exact hRl, mm_FN.warm hW hFN⟩⟩
        have hCB : CallB R s args (mm_yn mi).cls idx mm_chN b0 ml0 (some .char) (.code mm_chN b0 ml0 (some .char) :: mm_gT) { frames := 8, cells := 0, slots := 0, locals := 500 } 0 0 1 := callB_of (ws' := mm_gT) 1 hts (mm_gG _ _ _ _ k2) rfl rfl rfl (hts _ k5) (hts _ (mm_tA_in c2)) ⟨by decide, by decide, by decide +kernel⟩ ⟨by show 8 + 1 ≤ R.frames; omega, by show 8 + (ml0 + 11) + 500 ≤ R.locals; omega⟩
        have hrun := va_runV (l := l) (rest := r.map (mm_tr z)) (cells := cells) (slots := slots) (locs := locs) (g := F0 m pc ls ((Value.int i :: .ref 2 :: r).map (mm_tr z))) (Ts := mm_gT) (meth := meth) (p := p) (e := e) (below := below) ⟨hx, hb, hml, hown, hts⟩ hMt ⟨hCB, hts _ k3, hts _ k4⟩ hPV rfl rfl hl.1 rfl (by show 2 * 0 + _ ≤ _; rw [mm_cs_sum]; omega) hd ⟨by omega, by omega⟩
        exact mm_after hrun hlo (fun H1 locs1 hR1 hl1 => K _ _ _ _ _ _ _ _ _ _ HF hp hR1 hl hl1 hce hsl)
      · exact HO.elim
    · exact HO.elim
  · simp at c2
  · simp at c2
  · simp at c2
  · simp at c2
theorem mm_p_special {idx : Nat} (hF : mm_Fr p R s m args meth c z mi d) (hl : lv_has ls (mm_ml mi) (mm_pr z 0 L)) (hRl : mm_Rel z h H) (hlo : ∀ q ∈ locs, z.1.2.2.1 ≤ q.base) (hce : cells + n0 = hN h) (hsl : slots + m0 = hM h) (ck : mm_ck mi ip (.invokespecial idx) pc x v aux = true) (HO : mm_oW (mm_s1 (.invokespecial idx) x v ip L st h) F G ip L h Qr) (K : mm_KN p l e R s m args below meth c Q z mi n0 m0 F) (HG : ∀ (k : Nat) (as : List Value) (P : mm_Q), k < 293 → mm_cs as ≤ mm_ml k → G k as P → (∀ r h1, P r h1 → hN h1 ≤ R.cells + n0 ∧ hM h1 ≤ R.slots + m0) → mm_CO l R z d n0 m0 h k as P) (HB : ∀ (i : Nat) (L : mm_Lv) (st : List Value) (h : mm_H), F i L st h → hN h ≤ R.cells + n0 ∧ hM h ≤ R.slots + m0) : W p l e R s m args below meth c H locs cells slots Q (F0 m pc ls (st.map (mm_tr z))) := by
  obtain ⟨hx, hb, hml, hown, hts, hFN, hini, hfr, hlc, h40⟩ := id hF
  replace ck : mm_ckV mi ip (.invokespecial idx) idx pc x aux = true := ck
  replace HO : mm_oW (mm_cal x ip L st h) F G ip L h Qr := HO
  unfold mm_ckV at ck
  rw [Bool.and_eq_true] at ck
  obtain ⟨c1, c2⟩ := ck
  obtain ⟨hd, hp⟩ := mm_d_dec c1
  split at c2
  · simp at c2
  · simp at c2
  · simp at c2
  · simp at c2
  · simp at c2
  · rename_i k n ci
    simp only [Bool.and_eq_true, decide_eq_true_eq] at c2
    obtain ⟨⟨⟨⟨⟨⟨-, c0⟩, c2⟩, c3⟩, c4⟩, c5⟩, c6⟩ := c2
    replace HO : mm_oW (if (mm_n n st && mm_n2 k n st) = true then mm_cl2 (mm_rec h [ci] (mm_rv (mm_tk n st) [])) k (mm_rv (mm_tk n st) []) (mm_dr n st) else none) F G ip L h Qr := HO
    split at HO
    · rename_i hn
      rw [Bool.and_eq_true] at hn
      obtain ⟨a, as, q1, q2, HO⟩ := mm_rec_o HO
      have h2 := mm_n2_o hn.2
      obtain ⟨e1, e2, e3⟩ := mm_stackV (z := z) hn.1 q1
      rw [q1] at HO h2
      rw [e1]
      exact mm_c_in hF hl hRl hlo hce hsl (HG _ _ _ (mm_ckC_o c2 hFN hts).2.2.2.2 h2 HO (fun _ _ q => HB _ _ _ _ q)) e2 e3 (mm_ckC_o c2 hFN hts) (hts _ (mm_tA_in c3)) c5 c6 (hts _ (mm_tA_in c4)) hd hp K
    · exact HO.elim
  · simp at c2
  · simp at c2
  · simp at c2
  · simp only [Bool.and_eq_true] at c2
    obtain ⟨-, c2⟩ := c2
    replace HO : mm_oW (mm_j7 ip L st h) F G ip L h Qr := HO
    unfold mm_j7 at HO
    split at HO
    · rename_i w r
      split at HO
      · rename_i hw
        have hw := Nat.le_of_ble_eq_true hw
        have HF : F (ip + 1) L r h := HO
        exact W.objInit hx hb hown (hts _ (mm_tA_in c2)) (hts _ mm_oi1) (hts _ mm_oi2) rfl (hl.1.trans hml.symm) rfl hd (by omega) (by show 2 * 0 + _ + 12 ≤ _; rw [mm_cs_sum]; omega) (K _ _ _ _ _ _ _ _ _ _ HF hp hRl hl hlo hce hsl)
      · exact HO.elim
    · exact HO.elim
  · simp at c2
theorem mm_p_ireturn (hF : mm_Fr p R s m args meth c z mi d) (hl : lv_has ls (mm_ml mi) (mm_pr z 0 L)) (hRl : mm_Rel z h H) (hlo : ∀ q ∈ locs, z.1.2.2.1 ≤ q.base) (hce : cells + n0 = hN h) (hsl : slots + m0 = hM h) (ck : mm_ck mi ip .ireturn pc x v aux = true) (HO : mm_oW (mm_s1 .ireturn x v ip L st h) F G ip L h Qr) (HR : ∀ r : Option Value, Qr r h → mm_ro mi pc r → W p l e R s m args below meth c H locs cells slots Q (F0 m pc ls (mm_rs (r.map (mm_tr z)) []))) : W p l e R s m args below meth c H locs cells slots Q (F0 m pc ls (st.map (mm_tr z))) := by
  replace HO : mm_oW (mm_ret x st) F G ip L h Qr := HO
  simp only [mm_ck, Bool.and_eq_true, decide_eq_true_eq] at ck
  obtain ⟨hd, c2⟩ := ck
  unfold mm_ret at HO
  split at HO
  · simp at c2
  · rename_i w
    simp only [decide_eq_true_eq] at c2
    exact HR (some (.int w)) HO ⟨hd, Or.inl c2⟩
  · rename_i w
    simp only [decide_eq_true_eq] at c2
    exact HR (some (.int w)) HO.2 ⟨hd, Or.inr ⟨c2, HO.1⟩⟩
  · simp at c2
  · simp at c2
  · exact HO.elim
theorem mm_p_lreturn (hF : mm_Fr p R s m args meth c z mi d) (hl : lv_has ls (mm_ml mi) (mm_pr z 0 L)) (hRl : mm_Rel z h H) (hlo : ∀ q ∈ locs, z.1.2.2.1 ≤ q.base) (hce : cells + n0 = hN h) (hsl : slots + m0 = hM h) (ck : mm_ck mi ip .lreturn pc x v aux = true) (HO : mm_oW (mm_s1 .lreturn x v ip L st h) F G ip L h Qr) (HR : ∀ r : Option Value, Qr r h → mm_ro mi pc r → W p l e R s m args below meth c H locs cells slots Q (F0 m pc ls (mm_rs (r.map (mm_tr z)) []))) : W p l e R s m args below meth c H locs cells slots Q (F0 m pc ls (st.map (mm_tr z))) := by
  replace HO : mm_oW (mm_ret x st) F G ip L h Qr := HO
  simp only [mm_ck, Bool.and_eq_true, decide_eq_true_eq] at ck
  obtain ⟨hd, c2⟩ := ck
  unfold mm_ret at HO
  split at HO
  · simp at c2
  · simp at c2
  · simp at c2
  · rename_i w
    simp only [decide_eq_true_eq] at c2
    exact HR (some (.long w)) HO ⟨hd, c2⟩
  · simp at c2
  · exact HO.elim
theorem mm_p_areturn (hF : mm_Fr p R s m args meth c z mi d) (hl : lv_has ls (mm_ml mi) (mm_pr z 0 L)) (hRl : mm_Rel z h H) (hlo : ∀ q ∈ locs, z.1.2.2.1 ≤ q.base) (hce : cells + n0 = hN h) (hsl : slots + m0 = hM h) (ck : mm_ck mi ip .areturn pc x v aux = true) (HO : mm_oW (mm_s1 .areturn x v ip L st h) F G ip L h Qr) (HR : ∀ r : Option Value, Qr r h → mm_ro mi pc r → W p l e R s m args below meth c H locs cells slots Q (F0 m pc ls (mm_rs (r.map (mm_tr z)) []))) : W p l e R s m args below meth c H locs cells slots Q (F0 m pc ls (st.map (mm_tr z))) := by
  replace HO : mm_oW (mm_ret x st) F G ip L h Qr := HO
  simp only [mm_ck, Bool.and_eq_true, decide_eq_true_eq] at ck
  obtain ⟨hd, c2⟩ := ck
  unfold mm_ret at HO
  split at HO
  · simp at c2
  · simp at c2
  · simp at c2
  · simp at c2
  · rename_i w
    refine HR (some (.ref w)) HO ⟨hd, ?_⟩
    replace c2 : (match mm_yr mi with | some (.object _) => true | some (.array _) => true | _ => false) = true := c2
    split at c2
    · rename_i n q
      exact Or.inl ⟨n, q⟩
    · rename_i n q
      exact Or.inr ⟨n, q⟩
    · cases c2
  · exact HO.elim
theorem mm_p_return (hF : mm_Fr p R s m args meth c z mi d) (hl : lv_has ls (mm_ml mi) (mm_pr z 0 L)) (hRl : mm_Rel z h H) (hlo : ∀ q ∈ locs, z.1.2.2.1 ≤ q.base) (hce : cells + n0 = hN h) (hsl : slots + m0 = hM h) (ck : mm_ck mi ip .return_ pc x v aux = true) (HO : mm_oW (mm_s1 .return_ x v ip L st h) F G ip L h Qr) (HR : ∀ r : Option Value, Qr r h → mm_ro mi pc r → W p l e R s m args below meth c H locs cells slots Q (F0 m pc ls (mm_rs (r.map (mm_tr z)) []))) : W p l e R s m args below meth c H locs cells slots Q (F0 m pc ls (st.map (mm_tr z))) := by
  replace HO : mm_oW (mm_ret x st) F G ip L h Qr := HO
  simp only [mm_ck, Bool.and_eq_true, decide_eq_true_eq] at ck
  obtain ⟨hd, c2⟩ := ck
  unfold mm_ret at HO
  split at HO
  · simp only [decide_eq_true_eq] at c2
    exact HR none HO ⟨hd, c2⟩
  · simp at c2
  · simp at c2
  · simp at c2
  · simp at c2
  · exact HO.elim
end STEP3
end
section
/-! any instruction -/
section ANY
variable {p : Program} {l : Launch} {e : Env} {R : Room} {s : State} {m : MethodId} {args : Array Value} {below : List Frame} {meth : Method} {c : Code} {Q : State → Prop}
variable {z : mm_Z} {mi d n0 m0 : Nat} {F : Nat → mm_Lv → List Value → mm_H → Prop} {G : Nat → List Value → mm_Q → Prop} {Qr : mm_Q}
variable {ip pc : Nat} {L : mm_Lv} {st : List Value} {h : mm_H} {H : Heap} {locs : List Loc} {ls : Array Slot} {cells slots : Nat} {x : List Nat} {v : Value} {aux : List Nat}
set_option maxHeartbeats 4000000 in
theorem mm_any {ins : Instr} (hF : mm_Fr p R s m args meth c z mi d) (hl : lv_has ls (mm_ml mi) (mm_pr z 0 L)) (hRl : mm_Rel z h H) (hlo : ∀ q ∈ locs, z.1.2.2.1 ≤ q.base) (hce : cells + n0 = hN h) (hsl : slots + m0 = hM h) (ck : mm_ck mi ip ins pc x v aux = true) (HO : mm_oW (mm_s1 ins x v ip L st h) F G ip L h Qr) (K : mm_KN p l e R s m args below meth c Q z mi n0 m0 F) (HG : ∀ (k : Nat) (as : List Value) (P : mm_Q), k < 293 → mm_cs as ≤ mm_ml k → G k as P → (∀ r h1, P r h1 → hN h1 ≤ R.cells + n0 ∧ hM h1 ≤ R.slots + m0) → mm_CO l R z d n0 m0 h k as P) (hCH : mm_CH l z) (HB : ∀ (i : Nat) (L : mm_Lv) (st : List Value) (h : mm_H), F i L st h → hN h ≤ R.cells + n0 ∧ hM h ≤ R.slots + m0) (HR : ∀ r : Option Value, Qr r h → mm_ro mi pc r → W p l e R s m args below meth c H locs cells slots Q (F0 m pc ls (mm_rs (r.map (mm_tr z)) []))) : W p l e R s m args below meth c H locs cells slots Q (F0 m pc ls (st.map (mm_tr z))) := by
  cases ins with
  | iload_n a0 => exact mm_p_iload_n hF hl hRl hlo hce hsl ck HO K
  | iload a0 => exact mm_p_iload hF hl hRl hlo hce hsl ck HO K
  | lload_n a0 => exact mm_p_lload_n hF hl hRl hlo hce hsl ck HO K
  | lload a0 => exact mm_p_lload hF hl hRl hlo hce hsl ck HO K
  | aload_n a0 => exact mm_p_aload_n hF hl hRl hlo hce hsl ck HO K
  | aload a0 => exact mm_p_aload hF hl hRl hlo hce hsl ck HO K
  | fload_n a0 => exact mm_p_fload_n hF hl hRl hlo hce hsl ck HO K
  | dload_n a0 => exact mm_p_dload_n hF hl hRl hlo hce hsl ck HO K
  | istore_n a0 => exact mm_p_istore_n hF hl hRl hlo hce hsl ck HO K
  | istore a0 => exact mm_p_istore hF hl hRl hlo hce hsl ck HO K
  | lstore_n a0 => exact mm_p_lstore_n hF hl hRl hlo hce hsl ck HO K
  | lstore a0 => exact mm_p_lstore hF hl hRl hlo hce hsl ck HO K
  | astore_n a0 => exact mm_p_astore_n hF hl hRl hlo hce hsl ck HO K
  | fstore_n a0 => exact mm_p_fstore_n hF hl hRl hlo hce hsl ck HO K
  | dstore_n a0 => exact mm_p_dstore_n hF hl hRl hlo hce hsl ck HO K
  | iinc a0 a1 => exact mm_p_iinc hF hl hRl hlo hce hsl ck HO K
  | iconst a0 => exact mm_p_iconst hF hl hRl hlo hce hsl ck HO K
  | bipush a0 => exact mm_p_bipush hF hl hRl hlo hce hsl ck HO K
  | sipush a0 => exact mm_p_sipush hF hl hRl hlo hce hsl ck HO K
  | lconst a0 => exact mm_p_lconst hF hl hRl hlo hce hsl ck HO K
  | fconst a0 => exact mm_p_fconst hF hl hRl hlo hce hsl ck HO K
  | dconst a0 => exact mm_p_dconst hF hl hRl hlo hce hsl ck HO K
  | ldc a0 => exact mm_p_ldc hF hl hRl hlo hce hsl ck HO K
  | ldc_w a0 => exact mm_p_ldcw hF hl hRl hlo hce hsl ck HO K
  | ldc2_w a0 => exact mm_p_ldc2 hF hl hRl hlo hce hsl ck HO K
  | aconst_null => exact mm_p_null hF hl hRl hlo hce hsl ck HO K
  | iadd => exact mm_p_iadd hF hl hRl hlo hce hsl ck HO K
  | isub => exact mm_p_isub hF hl hRl hlo hce hsl ck HO K
  | imul => exact mm_p_imul hF hl hRl hlo hce hsl ck HO K
  | iand => exact mm_p_iand hF hl hRl hlo hce hsl ck HO K
  | ior => exact mm_p_ior hF hl hRl hlo hce hsl ck HO K
  | irem => exact mm_p_irem hF hl hRl hlo hce hsl ck HO K
  | ishl => exact mm_p_ishl hF hl hRl hlo hce hsl ck HO K
  | ishr => exact mm_p_ishr hF hl hRl hlo hce hsl ck HO K
  | iushr => exact mm_p_iushr hF hl hRl hlo hce hsl ck HO K
  | ladd => exact mm_p_ladd hF hl hRl hlo hce hsl ck HO K
  | lsub => exact mm_p_lsub hF hl hRl hlo hce hsl ck HO K
  | lmul => exact mm_p_lmul hF hl hRl hlo hce hsl ck HO K
  | land => exact mm_p_land hF hl hRl hlo hce hsl ck HO K
  | lor => exact mm_p_lor hF hl hRl hlo hce hsl ck HO K
  | lxor => exact mm_p_lxor hF hl hRl hlo hce hsl ck HO K
  | ldiv => exact mm_p_ldiv hF hl hRl hlo hce hsl ck HO K
  | lrem => exact mm_p_lrem hF hl hRl hlo hce hsl ck HO K
  | lshl => exact mm_p_lshl hF hl hRl hlo hce hsl ck HO K
  | lshr => exact mm_p_lshr hF hl hRl hlo hce hsl ck HO K
  | lushr => exact mm_p_lushr hF hl hRl hlo hce hsl ck HO K
  | lneg => exact mm_p_lneg hF hl hRl hlo hce hsl ck HO K
  | i2l => exact mm_p_i2l hF hl hRl hlo hce hsl ck HO K
  | l2i => exact mm_p_l2i hF hl hRl hlo hce hsl ck HO K
  | l2f => exact mm_p_l2f hF hl hRl hlo hce hsl ck HO K
  | l2d => exact mm_p_l2d hF hl hRl hlo hce hsl ck HO K
  | d2l => exact mm_p_d2l hF hl hRl hlo hce hsl ck HO K
  | dneg => exact mm_p_dneg hF hl hRl hlo hce hsl ck HO K
  | dmul => exact mm_p_dmul hF hl hRl hlo hce hsl ck HO K
  | ddiv => exact mm_p_ddiv hF hl hRl hlo hce hsl ck HO K
  | drem => exact mm_p_drem hF hl hRl hlo hce hsl ck HO K
  | f2d => exact mm_p_f2d hF hl hRl hlo hce hsl ck HO K
  | fdiv => exact mm_p_fdiv hF hl hRl hlo hce hsl ck HO K
  | fcmp a0 => exact mm_p_fcmp hF hl hRl hlo hce hsl ck HO K
  | dcmp a0 => exact mm_p_dcmp hF hl hRl hlo hce hsl ck HO K
  | dup => exact mm_p_dup hF hl hRl hlo hce hsl ck HO K
  | pop => exact mm_p_pop hF hl hRl hlo hce hsl ck HO K
  | dup2 => exact mm_p_dup2 hF hl hRl hlo hce hsl ck HO K
  | goto a0 => exact mm_p_goto hF hl hRl hlo hce hsl ck HO K
  | ifnonnull a0 => exact mm_p_ifnonnull hF hl hRl hlo hce hsl ck HO K
  | lcmp => exact mm_p_lcmp hF hl hRl hlo hce hsl ck HO K
  | tableswitch a0 a1 a2 a3 => exact mm_p_table hF hl hRl hlo hce hsl ck HO K
  | lookupswitch a0 a1 => exact mm_p_lookup hF hl hRl hlo hce hsl ck HO K
  | getfield a0 => exact mm_p_getfield hF hl hRl hlo hce hsl ck HO K
  | putfield a0 => exact mm_p_putfield hF hl hRl hlo hce hsl ck HO K
  | iaload => exact mm_p_iaload hF hl hRl hlo hce hsl ck HO K
  | baload => exact mm_p_baload hF hl hRl hlo hce hsl ck HO K
  | laload => exact mm_p_laload hF hl hRl hlo hce hsl ck HO K
  | aaload => exact mm_p_aaload hF hl hRl hlo hce hsl ck HO K
  | iastore => exact mm_p_iastore hF hl hRl hlo hce hsl ck HO K
  | bastore => exact mm_p_bastore hF hl hRl hlo hce hsl ck HO K
  | lastore => exact mm_p_lastore hF hl hRl hlo hce hsl ck HO K
  | aastore => exact mm_p_aastore hF hl hRl hlo hce hsl ck HO K
  | arraylength => exact mm_p_arraylength hF hl hRl hlo hce hsl ck HO K
  | new a0 => exact mm_p_new hF hl hRl hlo hce hsl ck HO K HB
  | newarray a0 => exact mm_p_newarray hF hl hRl hlo hce hsl ck HO K HB
  | anewarray a0 => exact mm_p_anewarray hF hl hRl hlo hce hsl ck HO K HB
  | ifCond cn off =>
    cases cn with
    | eq => exact mm_p_if_eq hF hl hRl hlo hce hsl ck HO K
    | ne => exact mm_p_if_ne hF hl hRl hlo hce hsl ck HO K
    | lt => exact mm_p_if_lt hF hl hRl hlo hce hsl ck HO K
    | ge => exact mm_p_if_ge hF hl hRl hlo hce hsl ck HO K
    | gt => exact mm_p_if_gt hF hl hRl hlo hce hsl ck HO K
    | le => exact mm_p_if_le hF hl hRl hlo hce hsl ck HO K
  | if_icmp cn off =>
    cases cn with
    | eq => exact mm_p_ic_eq hF hl hRl hlo hce hsl ck HO K
    | ne => exact mm_p_ic_ne hF hl hRl hlo hce hsl ck HO K
    | lt => exact mm_p_ic_lt hF hl hRl hlo hce hsl ck HO K
    | ge => exact mm_p_ic_ge hF hl hRl hlo hce hsl ck HO K
    | gt => exact mm_p_ic_gt hF hl hRl hlo hce hsl ck HO K
    | le => exact mm_p_ic_le hF hl hRl hlo hce hsl ck HO K
  | invokestatic i => exact mm_p_static hF hl hRl hlo hce hsl ck HO K HG HB
  | invokevirtual i => exact mm_p_virtual hF hl hRl hlo hce hsl ck HO K HG hCH HB
  | invokespecial i => exact mm_p_special hF hl hRl hlo hce hsl ck HO K HG HB
  | ireturn => exact mm_p_ireturn hF hl hRl hlo hce hsl ck HO HR
  | lreturn => exact mm_p_lreturn hF hl hRl hlo hce hsl ck HO HR
  | areturn => exact mm_p_areturn hF hl hRl hlo hce hsl ck HO HR
  | return_ => exact mm_p_return hF hl hRl hlo hce hsl ck HO HR
  | _ => exact False.elim HO
end ANY
end
section
/-! what the small machine comes to, the machine comes to -/
/-- cells grow only -/
def mm_oG (o : mm_Out) (h : mm_H) : Prop := match o with
  | none => True
  | some (.inl (_, _, _, _, h')) => hN h ≤ hN h' ∧ hM h ≤ hM h'
  | some (.inr (.inl (_, _, _, _, _, h'))) => hN h ≤ hN h' ∧ hM h ≤ hM h'
  | some (.inr (.inr (.inl (_, _, _, _, _, h')))) => hN h ≤ hN h' ∧ hM h ≤ hM h'
  | some (.inr (.inr (.inr _))) => True
theorem mm_oG_r (h : mm_H) : hN h ≤ hN h ∧ hM h ≤ hM h := ⟨Nat.le_refl _, Nat.le_refl _⟩
theorem mm_oG_a (h : mm_H) (k n : Nat) : hN h ≤ hN (hA h k n) ∧ hM h ≤ hM (hA h k n) := ⟨Nat.le_add_right _ _, Nat.le_add_right _ _⟩
set_option maxHeartbeats 4000000 in
theorem mm_s1_grow (ins : Instr) (x : List Nat) (v : Value) (ip : Nat) (L : mm_Lv) (st : List Value) (h : mm_H) : mm_oG (mm_s1 ins x v ip L st h) h := by
  unfold mm_s1
  split <;> (try unfold mm_ldI) <;> (try unfold mm_ldL) <;> (try unfold mm_ldA) <;> (try unfold mm_ldF) <;> (try unfold mm_ldD) <;> (try unfold mm_stI) <;> (try unfold mm_stL) <;> (try unfold mm_stA) <;> (try unfold mm_stF) <;> (try unfold mm_stD) <;> (try unfold mm_inc) <;> (try unfold mm_bI) <;> (try unfold mm_bL) <;> (try unfold mm_dL) <;> (try unfold mm_dI) <;> (try unfold mm_sL) <;> (try unfold mm_uI) <;> (try unfold mm_uL) <;> (try unfold mm_uD) <;> (try unfold mm_bD) <;> (try unfold mm_dup) <;> (try unfold mm_dup2) <;> (try unfold mm_pop) <;> (try unfold mm_nn) <;> (try unfold mm_swi) <;> (try unfold mm_get) <;> (try unfold mm_set) <;> (try unfold mm_la) <;> (try unfold mm_aa) <;> (try unfold mm_is) <;> (try unfold mm_bs) <;> (try unfold mm_ls) <;> (try unfold mm_as) <;> (try unfold mm_new) <;> (try unfold mm_na) <;> (try unfold mm_ret) <;> (try unfold mm_cal) <;> (try unfold mm_cn) <;>
  (repeat' first
    | exact mm_oG_r h
    | exact mm_oG_a h _ _
    | exact trivial
    | split
    | unfold mm_if | unfold mm_ic | unfold mm_lc | unfold mm_xa | unfold mm_ia | unfold mm_xl | unfold mm_len | unfold mm_j4 | unfold mm_j5 | unfold mm_j6 | unfold mm_j7)
theorem mm_swW_any {F : Nat → Prop} {x : Int32} {C : Prop} (f : ∀ t, F t → C) : ∀ (cs : List (Int32 × Nat)) (d : Nat), mm_swW F x cs d → C
  | [], _, h => f _ h
  | (a, _) :: r, d, h => by
    by_cases q : x = a
    · exact f _ (h.1 q)
    · exact mm_swW_any f r d (h.2 q)
theorem mm_grow : ∀ (n d mi ip : Nat) (L : mm_Lv) (st : List Value) (h : mm_H) (r : Option Value) (h1 : mm_H), mm_wp n d mi ip L st h (fun r' h' => r' = r ∧ h' = h1) → hN h ≤ hN h1 ∧ hM h ≤ hM h1 := by
  intro n
  induction n with
  | zero => intro d mi ip L st h r h1 H; exact H.elim
  | succ n ih =>
    intro d mi ip L st h r h1 H
    rw [mm_wp_s] at H
    unfold mm_sW at H
    cases hc : mm_at mi ip with
    | none => rw [hc] at H; exact H.elim
    | some q =>
      rw [hc] at H
      obtain ⟨ins, pc, x, v⟩ := q
      have hg := mm_s1_grow ins x v ip L st h
      change mm_oW (mm_s1 ins x v ip L st h) _ _ ip L h _ at H
      generalize mm_s1 ins x v ip L st h = o at H hg
      have tr : ∀ {h' : mm_H}, (hN h ≤ hN h' ∧ hM h ≤ hM h') → (hN h' ≤ hN h1 ∧ hM h' ≤ hM h1) → hN h ≤ hN h1 ∧ hM h ≤ hM h1 := fun a b => ⟨Nat.le_trans a.1 b.1, Nat.le_trans a.2 b.2⟩
      match o, H, hg with
      | some (.inl (none, i, L', s', h')), H, hg => exact tr hg (ih _ _ _ _ _ _ _ _ H)
      | some (.inl (some g, i, L', s', h')), H, hg => exact tr hg (ih _ _ _ _ _ _ _ _ H.2)
      | some (.inr (.inl (c, t, f, L', s', h'))), H, hg =>
        by_cases hcc : c
        · exact tr hg (ih _ _ _ _ _ _ _ _ (H.1 hcc))
        · exact tr hg (ih _ _ _ _ _ _ _ _ (H.2 hcc))
      | some (.inr (.inr (.inl (cs, dd, x, L', s', h')))), H, hg => exact tr hg (mm_swW_any (fun t z => ih _ _ _ _ _ _ _ _ z) cs dd H)
      | some (.inr (.inr (.inr (.inl (g, m, as, rest))))), H, hg =>
        have key : mm_cG (mm_wp n) d m as h (fun r0 h0 => mm_wp n d mi (ip + 1) L (match r0 with | none => rest | some v => v :: rest) h0 (fun r' h' => r' = r ∧ h' = h1)) → hN h ≤ hN h1 ∧ hM h ≤ hM h1 := by
          intro HP
          match d, HP with
          | d + 1, HP =>
            obtain ⟨r0, h0, p1, p2⟩ := mm_wp_det _ _ _ _ _ _ _ _ HP
            exact tr (ih _ _ _ _ _ _ _ _ p2) (ih _ _ _ _ _ _ _ _ p1)
        cases g with
        | none => exact key H
        | some g => exact key H.2
      | some (.inr (.inr (.inr (.inr (none, v))))), H, hg => exact ⟨by rw [← H.2]; exact Nat.le_refl _, by rw [← H.2]; exact Nat.le_refl _⟩
      | some (.inr (.inr (.inr (.inr (some g, v))))), H, hg => exact ⟨by rw [← H.2.2]; exact Nat.le_refl _, by rw [← H.2.2]; exact Nat.le_refl _⟩
/-- what is checked of all methods -/
def mm_OK (l : Launch) (z : mm_Z) : Prop := (∀ mi, mi < 293 → Jvm.Cond.code (mm_yn mi) (mm_yb mi) (mm_ml mi) (mm_yr mi) ∈ mm_gT) ∧ (∀ mi, mi < 293 → ∀ ip q, mm_at mi ip = some q → ∃ a, mm_ck mi ip q.1 q.2.1 q.2.2.1 q.2.2.2 a = true) ∧ (∀ mi, mi < 293 → mm_po mi 0 0 = true ∧ mm_ml mi ≤ 40 ∧ plainName (mm_yn mi).cls = true) ∧ mm_CH l z
def mm_rm (d : Nat) (h h1 : mm_H) : Room := { frames := d + 10, cells := hN h1 - hN h, slots := hM h1 - hM h, locals := 64 * (d + 10) }
def mm_PM (l : Launch) (z : mm_Z) (n : Nat) : Prop := ∀ (d mi : Nat) (as : List Value) (h : mm_H) (r : Option Value) (h1 : mm_H), mi < 293 → mm_cs as ≤ mm_ml mi → mm_wp n d mi 0 (mm_pad (mm_en as) (mm_ml mi)) [] h (fun r' h' => r' = r ∧ h' = h1) →
  Met l (mm_yn mi) (.code (mm_yn mi) (mm_yb mi) (mm_ml mi) (mm_yr mi) :: mm_gT) (mm_rm d h h1) (mm_Pc z as h) (mm_Qc z r h1) (hN h1 - hN h) (hM h1 - hM h) (fun q => z.1.2.2.1 ≤ q)
/-- a callee's contract, of what is known of shorter runs -/
theorem mm_callee {l : Launch} {z : mm_Z} (hOK : mm_OK l z) {n d n0 m0 : Nat} {R : Room} (hPM : mm_PM l z n) {h : mm_H} {k : Nat} {as : List Value} {P : mm_Q} (hcs : mm_cs as ≤ mm_ml k) (H : mm_cG (mm_wp n) d k as h P) (hk : k < 293) (HB : ∀ r h1, P r h1 → hN h1 ≤ R.cells + n0 ∧ hM h1 ≤ R.slots + m0) : mm_CO l R z d n0 m0 h k as P := by
  unfold mm_cG at H
  match d, H with
  | d + 1, H =>
    obtain ⟨r, h1, p1, p2⟩ := mm_wp_det _ _ _ _ _ _ _ _ H
    obtain ⟨g1, g2⟩ := mm_grow _ _ _ _ _ _ _ _ _ p2
    obtain ⟨b1, b2⟩ := HB r h1 p1
    exact ⟨r, h1, p1, g1, g2, b1, b2, (hOK.2.2.1 k hk).2.1, fun _ => hOK.1 k hk, hPM d k as h r h1 hk hcs p2⟩
/-- a frame's walk, n steps at most -/
def mm_PW (l : Launch) (z : mm_Z) (n : Nat) : Prop := ∀ (p : Program) (e : Env) (R : Room) (s : State) (m : MethodId) (args : Array Value) (below : List Frame) (meth : Method) (c : Code) (Q : State → Prop) (mi d n0 m0 ip pc : Nat) (L : mm_Lv) (st : List Value) (h : mm_H) (H : Heap) (locs : List Loc) (ls : Array Slot) (cells slots : Nat) (r : Option Value) (h1 : mm_H),
  (∀ ip q, mm_at mi ip = some q → ∃ a, mm_ck mi ip q.1 q.2.1 q.2.2.1 q.2.2.2 a = true) → mm_wp n d mi ip L st h (fun r' h' => r' = r ∧ h' = h1) → mm_po mi ip pc = true → mm_Fr p R s m args meth c z mi d → lv_has ls (mm_ml mi) (mm_pr z 0 L) → mm_Rel z h H → (∀ q ∈ locs, z.1.2.2.1 ≤ q.base) → cells + n0 = hN h → slots + m0 = hM h → hN h1 ≤ R.cells + n0 → hM h1 ≤ R.slots + m0 →
  (∀ (pc : Nat) (ls : Array Slot) (H : Heap) (locs : List Loc) (cells slots : Nat), mm_ro mi pc r → mm_Rel z h1 H → (∀ q ∈ locs, z.1.2.2.1 ≤ q.base) → cells + n0 = hN h1 → slots + m0 = hM h1 → W p l e R s m args below meth c H locs cells slots Q (F0 m pc ls (mm_rs (r.map (mm_tr z)) []))) →
  W p l e R s m args below meth c H locs cells slots Q (F0 m pc ls (st.map (mm_tr z)))
theorem mm_walk_s {l : Launch} {z : mm_Z} (hOK : mm_OK l z) {n : Nat} (hPM : mm_PM l z n) (hPW : mm_PW l z n) : mm_PW l z (n + 1) := by
  intro p e R s m args below meth c Q mi d n0 m0 ip pc L st h H locs ls cells slots r h1 hmi HW hp hF hl hRl hlo hce hsl hB1 hB2 HR
  rw [mm_wp_s] at HW
  unfold mm_sW at HW
  cases hc : mm_at mi ip with
  | none => rw [hc] at HW; exact HW.elim
  | some q =>
    rw [hc] at HW
    obtain ⟨aux, ck⟩ := hmi ip q hc
    obtain ⟨ins, pc', x, v⟩ := q
    have hpc : pc' = pc := by
      unfold mm_po at hp
      rw [hc] at hp
      exact Nat.eq_of_beq_eq_true hp
    subst hpc
    have HO : mm_oW (mm_s1 ins x v ip L st h) (fun i L' s' h' => mm_wp n d mi i L' s' h' (fun r' h' => r' = r ∧ h' = h1)) (fun m as P => mm_cG (mm_wp n) d m as h P) ip L h (fun r' h' => r' = r ∧ h' = h1) := HW
    have HBn : ∀ (i : Nat) (L : mm_Lv) (st : List Value) (h : mm_H), mm_wp n d mi i L st h (fun r' h' => r' = r ∧ h' = h1) → hN h ≤ R.cells + n0 ∧ hM h ≤ R.slots + m0 := fun i L st h Hw => by
      obtain ⟨g1, g2⟩ := mm_grow _ _ _ _ _ _ _ _ _ Hw
      exact ⟨Nat.le_trans g1 hB1, Nat.le_trans g2 hB2⟩
    have K : mm_KN p l e R s m args below meth c Q z mi n0 m0 (fun i L' s' h' => mm_wp n d mi i L' s' h' (fun r' h' => r' = r ∧ h' = h1)) := by
      intro ip pc L st h H locs ls cells slots HF hp hRl hl hlo hce hsl
      exact hPW p e R s m args below meth c Q mi d n0 m0 ip pc L st h H locs ls cells slots r h1 hmi HF hp hF hl hRl hlo hce hsl hB1 hB2 HR
    refine mm_any (Qr := fun r' h' => r' = r ∧ h' = h1) hF hl hRl hlo hce hsl ck HO K (fun k as P hk hcs HG hB => mm_callee hOK hPM hcs HG hk hB) hOK.2.2.2 HBn (fun r' hr hro => ?_)
    obtain ⟨rfl, rfl⟩ := hr
    exact HR _ _ _ _ _ _ hro hRl hlo hce hsl
theorem mm_met_s {l : Launch} {z : mm_Z} (hOK : mm_OK l z) {n : Nat} (hPW : mm_PW l z n) : mm_PM l z n := by
  intro d mi as h r h1 hmi hcs HW
  refine Met.ofW (cc := mm_yb mi) (maxL := mm_ml mi) (ret := mm_yr mi) (hOK.2.2.1 mi hmi).2.2 rfl ?_
  intro p e s m args below meth c s₁ B hml hv
  obtain ⟨rfl, hRl, hFN⟩ := hv
  have hts0 := atoms_spec (ws := .code (mm_yn mi) (mm_yb mi) (mm_ml mi) (mm_yr mi) :: mm_gT) B.pre
  have hF : mm_Fr p (mm_rm d h h1) s m (as.map (mm_tr z)).toArray meth c z mi d := ⟨B.exec, B.bytes, hml, findClass_of_methodNamed B.named, fun w hw => hts0 w (List.mem_cons_of_mem _ hw), hFN, fun q => ((name_of_methodNamed B.named B.method).1).trans q, Nat.le_refl _, Nat.le_refl _, (hOK.2.2.1 mi hmi).2.1⟩
  obtain ⟨g1, g2⟩ := mm_grow _ _ _ _ _ _ _ _ _ HW
  have hl := lv_entry (as.map (mm_tr z)) (n := mm_ml mi) (by rw [mm_slL]; exact hcs)
  rw [lg_entry_eq]
  generalize (lg_sl (as.map (mm_tr z)) ++ List.replicate (mm_ml mi - (lg_sl (as.map (mm_tr z))).length) Slot.unset).toArray = ls at hl ⊢
  refine hPW p e (mm_rm d h h1) s m _ below meth c _ mi d (hN h) (hM h) 0 0 _ [] h s.heap [] ls 0 0 r h1 (hOK.2.1 mi hmi) HW (hOK.2.2.1 mi hmi).1 hF (mm_has_entry hl) hRl (fun q hq => by cases hq) (Nat.zero_add _) (Nat.zero_add _) (by show hN h1 ≤ hN h1 - hN h + hN h; omega) (by show hM h1 ≤ hM h1 - hM h + hM h; omega) ?_
  intro pc ls H locs cells slots hro hR1 hlo hce hsl
  have e1 : cells = hN h1 - hN h := by omega
  have e2 : slots = hM h1 - hM h := by omega
  subst e1
  subst e2
  unfold mm_ro at hro
  split at hro
  · obtain ⟨hd, hy⟩ := hro
    exact W.vret B.exec B.bytes (B.returns.trans hy) (fun t hH hW => ⟨rfl, by rw [hH]; exact hR1⟩) hlo hd B.notSynchronized
  · rename_i w
    obtain ⟨hd, hy | ⟨hy, hw⟩⟩ := hro
    · exact W.iret B.exec B.bytes (B.returns.trans hy) (fun t hH hW => ⟨rfl, by rw [hH]; exact hR1⟩) hlo hd B.notSynchronized
    · exact W.zret (ty := .boolean) B.exec B.bytes (B.returns.trans hy) (by rcases hw with rfl | rfl <;> rfl) (fun t hH hW => ⟨rfl, by rw [hH]; exact hR1⟩) hlo hd B.notSynchronized
  · obtain ⟨hd, hy⟩ := hro
    exact W.lret B.exec B.bytes (B.returns.trans hy) (fun t hH hW => ⟨rfl, by rw [hH]; exact hR1⟩) hlo hd B.notSynchronized
  · rename_i w
    obtain ⟨hd, hy⟩ := hro
    rcases hy with ⟨n, hy⟩ | ⟨n, hy⟩
    · exact W.aret (rt := .object n) B.exec B.bytes (B.returns.trans hy) (Or.inl ⟨n, rfl⟩) (Or.inr ⟨_, rfl⟩) (fun t hH hW => ⟨rfl, by rw [hH]; exact hR1⟩) hlo hd B.notSynchronized
    · exact W.aret (rt := .array n) B.exec B.bytes (B.returns.trans hy) (Or.inr ⟨n, rfl⟩) (Or.inr ⟨_, rfl⟩) (fun t hH hW => ⟨rfl, by rw [hH]; exact hR1⟩) hlo hd B.notSynchronized
  · exact hro.elim
theorem mm_all {l : Launch} {z : mm_Z} (hOK : mm_OK l z) : ∀ n, mm_PM l z n ∧ mm_PW l z n := by
  intro n
  induction n with
  | zero =>
    have h : mm_PW l z 0 := by
      intro p e R s m args below meth c Q mi d n0 m0 ip pc L st h H locs ls cells slots r h1 hmi HW
      exact HW.elim
    exact ⟨mm_met_s hOK h, h⟩
  | succ n ih =>
    have h := mm_walk_s hOK ih.1 ih.2
    exact ⟨mm_met_s hOK h, h⟩
end
section
/-! the places of each instruction's words, and the checks -/
def mm_u0 : List (List Nat) := [[], [342], [], [], [343,200,105,1], [345], [], [], [344,141,105,1], [347], [], [], [344,141,105,1], [349], [], [], [344,141,105,1], [352], [], [], [344,141,105,1], [354], [], [], [343,200,105,1], [356], [], [], [343,200,105,1], [358], []]
def mm_u1 : List (List Nat) := [[], [], [], [], [359], [], [], [], [], [279,0], [230,0], [], [], [279,0], [], [922,923,924,110], [], [], [], [926,927,928,108], [], [], [345,0], [], [], [935,735,105,1], [], [347,0], [], [], [], [], [936,937,938,108], [940,251,105,1], [], [], [356,0], [], [359,0], [], [941,942,105,1], [359], [], [358,0], [], [], [941,942,105,1], [], [], [], [], [], [], [], [279,0], [230,0], [], [], [349,0], [], [], [], [345,0], [], [949,728,105,1], [950,951,952,112], [940,251,105,1], [], [352,0], [], [], [358,0], [], [], [279,0], [], [922,923,924,110], [954,955,105,1], [940,251,105,1], [], [], [], [], [], [], [285,0], [230,0], [], [], [354,0], [], [], [], [], [285,0], [], [922,923,924,110], [926,927,928,108], [950,951,952,112], [940,251,105,1], [], [], []]
def mm_u2 : List (List Nat) := [[], [356,0], [], [359,0], [], [954,955,105,1], []]
def mm_u3 : List (List Nat) := [[], [139], [], [], [140,141,105,1], [143], []]
def mm_u4 : List (List Nat) := [[], [145,0], [], [143,0], [], [], [], [143,0], [], [145,0], [], [], [], [612,251,105,1], [], [], [145,0], [], [], [145], []]
def mm_u5 : List (List Nat) := [[], [], [], [], [608,609,610,106], [], [], [], [], [608,609,610,106], [], [], [], [], [608,609,610,106], [], [], [608,609,610,106], []]
def mm_u6 : List (List Nat) := [[], [1122,697,105,1], [], [], [], [], [], [], [], [], [], [], [], [], [], [1123,700,105,1], [], [608,609,610,106], [], [], []]
def mm_u7 : List (List Nat) := [[], [], [], [], [145,0], [], [], [], [143,0], [], [], [], [], [], [143,0], [], [], []]
def mm_u8 : List (List Nat) := [[], [145,0], [], [], [], [], [], [], [], [], [], [], [145,0], [], [], [], [1308,679,680,106], [], [], [1309,683,105,1], [], [], [], [], [], [], [], [], [], [1310,686,105,1], [], [], [], [], [], [], []]
def mm_u9 : List (List Nat) := [[], [383,384,113,1], [], [], [388,141,105,1], [390], [], [], [388,141,105,1], [394], [], [], [388,141,105,1], [398], [], [], [388,141,105,1], [401], [], [], [389,200,105,1], [404], [], [], [389,200,105,1], [406], []]
def mm_u10 : List (List Nat) := [[], [], [408], [], [], [], [], [278,0], [229,0], [], [], [], [], [], [961,963,22,114], [], [], [], [992,994,25,114], [], [], [408,0], [999,1000,1001,1002,1003,113], []]
def mm_u11 : List (List Nat) := [[], [], [], [], [], [], [], [], [], [], [304,0], [], [], [], [], [], [], [], [], [], [278,0], [], [], [965,911,912,110], [], [], [], [348,0], [], [966,778,105,1], [], [], [], [], [290,0], [], [967,968,969,111], [], [], [290,0], [], [], [975,976,977,111], [], [], [], [350,0], [], [966,778,105,1], [], [979,980,105,1], [], [], [], [], [353,0], [], [966,778,105,1], [], [979,980,105,1], [], [], [], [], [], [], [301,0], [], [], [290,0], [], [982,983,984,111], [], [], [], [], [], [], [], [], [986,988,24,114], [], [], []]
def mm_u12 : List (List Nat) := [[], [408,0], [], [], [], [], [390,0], [], [408,0], [], [990,251,105,1], [], [394,0], [], [408,0], [], [990,251,105,1], [], [404,0], [], [408,0], [], [991,735,105,1], [], [406,0], [], [408,0], [], [991,735,105,1], [], [], [408,0], [], [], [408], []]
def mm_u13 : List (List Nat) := [[], [], [], [], [], [], [], [], [408,0], [], [], [], [], [390,0], [], [966,778,105,1], [], [390,0], [], [], [], [966,778,105,1], [], [], [], [996,997,122,0], [], [], [390,0], [], [966,778,105,1], [], [394,0], [], [966,778,105,1], [], [], [], [], [], [], [408,0], [], [], [390,0], [], [], [], [966,778,105,1], [], [390,0], [], [966,778,105,1], [], [], [], [], [], [], [401,0], [], [], [], [], [], [], [], [], [], [990,251,105,1], [], [], []]
def mm_u14 : List (List Nat) := [[], [404,0], [], [1018,728,105,1], [], [], [404,0], [], [1018,728,105,1], [], [], [], [], [], [], [], [], [], [], [], [], [406,0], [], [1018,728,105,1], [], [406,0], [], [1018,728,105,1], [], [], [], [], []]
def mm_u15 : List (List Nat) := [[], [], [], [], [], [], [408,0], [], [], [390,0], [], [966,778,105,1], [], [], [], [390,0], [], [966,778,105,1], [], [], [], [], [], [], []]
def mm_u16 : List (List Nat) := [[], [524,384,113,1], [], [], [525,200,105,1], [528], [], [], [525,200,105,1], [529], [], [], [526,141,105,1], [530], [], [], [535], [], [], [527], []]
def mm_u17 : List (List Nat) := [[], [], [1181,1182,105,1], [], [], [], [], [], [], [], [], [], [533], [], [], [535], [], [], [], [], [], [533], [], [], [], [], [535], []]
def mm_u18 : List (List Nat) := [[], [], [], [], [527,0], [450,0], [], [1023,778,105,1], [], [], [1177,1178,1179,116], [], [], [], [527,0], [452,0], [], [1023,778,105,1], [], [], [1177,1178,1179,116], [], [], [], [], [], [1187,1189,36,116], [], [], [1192,1194,37,116], [1177,1178,1179,116], [], [], [], [], [], [1197,1199,38,116], [], [], [], [1201,1203,39,116], [1177,1178,1179,116], [], [], [], [], [], [1187,1189,36,116], [], [], [], [1197,1199,38,116], [], [], [], [1192,1194,37,116], [], [], [], [1201,1203,39,116], [], [1177,1178,1179,116], [], [], [], [], [1205,1207,40,116], [], [], [], [527,0], [465,0], [], [1023,778,105,1], [1211,1212,123,0], [], [], [1177,1178,1179,116], []]
def mm_u19 : List (List Nat) := [[], [293,0], [], [527,0], [], [1191,1055,1056,115], [1023,778,105,1], [], [], [], [], [527,0], [450,0], [], [1023,778,105,1], [], [], [], [1192,1194,37,116], [], [], [527,0], [457,0], [], [1023,778,105,1], [], [], [], []]
def mm_u20 : List (List Nat) := [[], [], [527,0], [454,0], [], [1023,778,105,1], [1196,997,122,0], [], []]
def mm_u21 : List (List Nat) := [[], [527,0], [450,0], [], [1023,778,105,1], [], [], [286,0], [231,0], [], [], [], [], []]
def mm_u22 : List (List Nat) := [[], [527,0], [463,0], [], [1023,778,105,1], [], [], [], [], [281,0], [231,0], [], [], [], [], []]
def mm_u23 : List (List Nat) := [[], [527,0], [476,0], [], [], [], [], [1192,1194,37,116], [], [], [1209], [], [], [], [1187,1189,36,116], [], [], [], [], [527,0], [468,0], [], [1023,778,105,1], [], [], [], [], [1210], [], [], [], [], [1177,1178,1179,116], []]
def mm_u24 : List (List Nat) := [[], [531,0], [], [], [], [], [], [], [], [], [], [], [527,0], [476,0], [], [], [], [], [], [1256,1174,1175,116], [], [528,0], [], [], [533,0], [1257,735,105,1], [], [529,0], [], [], [535,0], [1257,735,105,1], [], [], [], [], [527,0], [476,0], [1258,1259,1001,1260,1003,113], [], [], [], [], [527,0], [476,0], [], [], [530,0], [], [], [], [], [], [], [414,415], [], [1023,778,105,1], [1261,251,105,1], [], [], [], [], [531,0], [], [], [], [], [531], []]
def mm_u25 : List (List Nat) := [[], [528,0], [], [1022,728,105,1], [], [529,0], [], [1022,728,105,1], [], [], [], [528,0], [], [1022,728,105,1], [], [529,0], [], [1022,728,105,1], [], [], [], [], [], [], [], [], [], [], [], [], [], [527,0], [450,0], [], [1023,778,105,1], [], [], [527,0], [450,0], [], [1023,778,105,1], [], [], [], [], [], [], [], [], [], [], [], [], [], [], [], [], [], []]
def mm_u26 : List (List Nat) := [[], [530,0], [], [], [], [], [], [1023,778,105,1], []]
def mm_u27 : List (List Nat) := [[], [], [], [], [527,0], [476,0], [], [], [], [], [1274,1263,1264,116], [], [], [], [], [], [], [], []]
def mm_u28 : List (List Nat) := [[], [527,0], [472,0], [], [1342,1085,105,1], [], [], [], [], [], [], [], [], [], [527,0], [476,0], [], [], [], [], [1274,1263,1264,116], [], [], [], [], [], [527,0], [450,0], [], [1023,778,105,1], [], [], [], [], [527,0], [], [], [1343,1088,1089,115], [1344,1346,42,116], [], [], [], [], [], [], [], []]
def mm_u29 : List (List Nat) := [[], [527,0], [446,0], [392,0], [], [1023,778,105,1], [], [], [527,0], [446,0], [396,0], [], [1023,778,105,1], [], [], [], [], [], [], [], [], [], [], [], [], [], [527,0], [472,0], [], [1023,778,105,1], [], [], [], [], [527,0], [472,0], [], [], [1261,251,105,1], [], [], [], []]
def mm_u30 : List (List Nat) := [[], [386], [], [], [387,141,105,1], [411], [], [], [387,141,105,1], [416], []]
def mm_u31 : List (List Nat) := [[], [], [], [], [], [], [411,0], [], [], [1005,251,105,1], [], [], [], [], [], [], [], [], [], [], [], [], [], [], [], [], [], [], [], [], [], [1006,843,122,0], [], [], [], [], [], [], [1006,843,122,0], [1007,2036,0,0,1,1009,113], [], [], [], [], [], [], [], [], [416,0], [], [411,0], [], [1024,650,105,1], [], [], [], [], [], []]
def mm_u32 : List (List Nat) := [[], [], [], [], [], [], [], [], [], [], [], [], [], [], [], [], [], [411,0], [], [1011,778,105,1], [], [411,0], [], [1011,778,105,1], [1012,1014,1013,1015,1016,114,1019,1020,116], [], [], [], [], [], [], [416,0], [], [], [411,0], [], [], [], [], [], [1011,778,105,1], [1005,251,105,1], [], [], [], [], [], [], [], []]
def mm_u33 : List (List Nat) := [[], [198], [], [], [199,200,105,1], [202], [], [], [199,200,105,1], [204], []]
def mm_u34 : List (List Nat) := [[], [], [206,0], [206], [], [202,0], [], [202,0], [], [206,0], [641,642,105,1], [], [204,0], [], [204,0], [], [206,0], [641,642,105,1], []]
def mm_u35 : List (List Nat) := [[], [206,0], [], [202,0], [], [], [], [], [], [202,0], [], [206,0], [], [734,735,105,1], [], [204,0], [], [206,0], [], [734,735,105,1], [], [], [206,0], [], [], [206], [], []]
def mm_u36 : List (List Nat) := [[], [], [], [], [206,0], [], [], [202,0], [], [727,728,105,1], [], [], [], [], [], [], [], []]
def mm_u37 : List (List Nat) := [[], [], [723,724,725,109], [], [], [], [], [], [], [730,731,732,109], [], [], [204,0], [], [], [734,735,105,1], [], []]
def mm_u38 : List (List Nat) := [[], [248], [], [], [249,141,105,1], [253], [], [], [249,141,105,1], [254], [], [253,0], [], [], [250,251,105,1], [], [253,0], [], [], [250,251,105,1], [], [253,0], [], [], [250,251,105,1], [], [254,0], [], [], [250,251,105,1], [], [254,0], [], [], [250,251,105,1], [], [], [255], [], [], [257], [], [], [258], []]
def mm_u39 : List (List Nat) := [[], [], [255,0], [255], [], [253,0], [], [253,0], [], [255,0], [657,650,105,1], [], [254,0], [], [254,0], [], [255,0], [657,650,105,1], [], [], [257,0], [257], [], [], [258,0], [258], []]
def mm_u40 : List (List Nat) := [[], [], [255], [], [], [], [794,796,11,111], [], [], [], [813,716,717,107], [], [], [], [827,828,111,0], [257], [], [], [823,824,111,0], [258], []]
def mm_u41 : List (List Nat) := [[], [], [], [798,800,12,111], [], [], [], [], [], [], [], [168,0], [], [], [162,0], [], [], [], [812,675,676,107], [], [], [], [], [798,800,12,111], [], [], [], [], [], []]
def mm_u42 : List (List Nat) := [[802], [], [], [], [], [], [], [], [168,0], [], [], [162,0], [], [], [], [162,0], [], [], [], [162,0], [], [], [], [], [], [], [], [], [803,805,13,111], [830,832,17,111], [], [], [], [], []]
def mm_u43 : List (List Nat) := [[], [162,0], [], [], [], [], [], [807,809,14,111], [], [], [], [814,816,15,111], [], [], [168,0], [], [], [], [], [162,0], [], [], [], [162,0], [], [], [], [], [], [], [], [162,0], [], [], [], [162,0], [], [], [], [], [], [], [], [], [], [], [], [819,821,16,111], [], [], [], [], [], [812,675,676,107], [], [], [], [802], [], [], [], []]
def mm_u44 : List (List Nat) := [[], [], [], [], [], [811,708,709,107], [], [], [], [812,675,676,107], [], [], [], [], [], [794,796,11,111], [], [], [], [813,716,717,107], [], [], [812,675,676,107], [], []]
def mm_u45 : List (List Nat) := [[], [162,0], [], [], [], [162,0], [818,705,107,0], [], [], [], [811,708,709,107], [], [], [], [255,0], [], [], [], [], [811,708,709,107], [], [], [], [253,0], [], [255,0], [], [162,0], [250,251,105,1], [], [254,0], [], [255,0], [], [250,251,105,1], [], [], [255,0], [], [], [], [], [255,0], [], [], [255], [], [812,675,676,107], [], [], [], [], [], []]
def mm_u46 : List (List Nat) := [[], [], [], []]
def mm_u47 : List (List Nat) := [[], [], [], [], [], []]
def mm_u48 : List (List Nat) := [[], [823,824,111,0], [], [], [], [], [], [255,0], [], [], [], [], [], [], [], [], [], [], [], [254,0], [], [], [254,0], [], [826,778,105,1], [], [827,828,111,0], [], [250,251,105,1], [], [], []]
def mm_u49 : List (List Nat) := [[], [], [], [819,821,16,111], [], [827,828,111,0], [], [802], [], [], [], [827,828,111,0], [], [], [], [], [], [823,824,111,0], [], [802], [], [], [], [823,824,111,0], [], [], [], [], [], [], [], [], [], [], [], [], [802], [], [], []]
def mm_u50 : List (List Nat) := [[], [], [], [], [], [], [255,0], [], [], [], [], [], [253,0], [], [826,778,105,1], [], [], [], [], [], [], [], [], [], [], [], [], [], [], [], [], [], [], [], [], [], [], []]
def mm_u51 : List (List Nat) := [[], [], [257,0], [], [971,973,23,111], []]
def mm_u52 : List (List Nat) := [[], [], [], [], [], [], [255,0], [], [], [], [], [], [], [], [], [], [], [], [], [254,0], [], [826,778,105,1], [], [], [], [], [], [], [], [971,973,23,111], []]
def mm_u53 : List (List Nat) := [[], [], [258,0], [], [], [], [], [], []]
def mm_u54 : List (List Nat) := [[], [223], [], [], [224,200,105,1], [226], [], [], [225,141,105,1], [227], []]
def mm_u55 : List (List Nat) := [[], [], [228,0], [228], [], [226,0], [], [226,0], [], [228,0], [648,642,105,1], [], [227,0], [], [227,0], [], [228,0], [649,650,105,1], []]
def mm_u56 : List (List Nat) := [[], [228,0], [], [], [], [], [], [226,0], [], [228,0], [], [784,735,105,1], [], [227,0], [], [228,0], [], [785,251,105,1], [], [], [228,0], [], [], [228], [], []]
def mm_u57 : List (List Nat) := [[], [226,0], [], [878,728,105,1], []]
def mm_u58 : List (List Nat) := [[], [228,0], [], [], [], [], [227,0], [], [228,0], [], [], [777,778,105,1], [], [], []]
def mm_u59 : List (List Nat) := [[], [], [], [], [], [], [228,0], [], [], [], [228,0], [], [], [227,0], [], [777,778,105,1], [], [227,0], [], [777,778,105,1], [], [], [], [], []]
def mm_u60 : List (List Nat) := [[], [], [], [], [], [], [228,0], [], [], [226,0], [], [], [226,0], [], [], [], [878,728,105,1], [784,735,105,1], [], [227,0], [], [], [227,0], [], [], [], [777,778,105,1], [785,251,105,1], [], [], [], [], [228,0], [], [], [228], []]
def mm_u61 : List (List Nat) := [[], [158], [], [], [159], []]
def mm_u62 : List (List Nat) := [[], [], [160], [], [], [167], [], [], [170], []]
def mm_u63 : List (List Nat) := [[], [167,0], [], [], [], [167], [], [], [161,0], [170], []]
def mm_u64 : List (List Nat) := [[], [159,0], [], [160,0], [678,679,680,106], [], [], [], [], [], [], [], [], [], [], [], [], [], [], [160,0], [], [], [160], [], [159,0], [], [160,0], [678,679,680,106], [], [], [], [], [], [160,0], [161], [], [], [163], [], [], [], [], [], [160,0], [], [], [160], []]
def mm_u65 : List (List Nat) := [[], [674,675,676,107], [], [163,0], [682,683,105,1], [], [], [], [], [], [], [165], [], [], [161,0], [160], [], [], [], [], [], [], [159,0], [], [160,0], [678,679,680,106], [682,683,105,1], [], [], [], [], [], [], [165,0], [], [159,0], [], [160,0], [678,679,680,106], [], [], [], [], [685,686,105,1], [], [], [165], [], [], [], [160,0], [], [], [160], [], [], [], [], [], [], [], [], [], [163], []]
def mm_u66 : List (List Nat) := [[], [163,0], [], [], [], [], [707,708,709,107], [], [167,0], [], [], [], [], []]
def mm_u67 : List (List Nat) := [[], [], [715,716,717,107], [], [], [], [], [670,671,672,107], [], []]
def mm_u68 : List (List Nat) := [[], [163,0], [], [], [], [165,0], [696,697,105,1], [], [], [], [], [], [], [165,0], [], [703,700,105,1], [], [], [], [704,705,107,0], [], [], [], [], [], [], [], []]
def mm_u69 : List (List Nat) := [[], [], [], [], [], []]
def mm_u70 : List (List Nat) := [[], [666,667,668,107], [], [670,671,672,107], [], [], [], [], [], [], [167,0], [], [], [163,0], [], [], [], [], [688,690,6,107], [], [], []]
def mm_u71 : List (List Nat) := [[], [692,694,7,107], [], [], [], [], [], [707,708,709,107], [], [], [670,671,672,107], [], [], [711,712,713,107], [], [], [], [715,716,717,107], [], [], [], [], [], [], [], [], [163,0], [], [], [], [], [165,0], [], [], [719,720,721,109], [], [], [], [707,708,709,107], [], [], [670,671,672,107], [], [], [], [], [711,712,713,107], [], []]
def mm_u72 : List (List Nat) := [[], [666,667,668,107], [], [], [208], [], [670,671,672,107], [], [], [], [], [], [], [167,0], [], [], [163,0], [], [], [], [], [741,743,8,107], [], [], []]
def mm_u73 : List (List Nat) := [[], [], [715,716,717,107], [], [], [], [208,0], [], [], [], [], [707,708,709,107], [], [], [165,0], [], [], [670,671,672,107], [], [], [711,712,713,107], [], [], [], [], [], [163,0], [], [], [], [165,0], [], [], [670,671,672,107], [], [], [711,712,713,107], [], [], [], [], [745,731,732,109], [], []]
def mm_u74 : List (List Nat) := [[], [666,667,668,107], [], [276,0], [], [208], [], [], [296], [], [670,671,672,107], [], [], [], [], [], [], [167,0], [], [], [163,0], [], [], [], [], [750,752,9,107], [], [], []]
def mm_u75 : List (List Nat) := [[], [], [754,756,10,107], [], [], [], [], [165,0], [758,759,760,108], [], [], [670,671,672,107], [], [], [715,716,717,107], [], [], [], [], [], [], [], [], [163,0], [], [], [], [], [754,756,10,107], [], [], [], [], [165,0], [], [764,765,766,108], [], [670,671,672,107], [], [], [], [], [711,712,713,107], [], []]
def mm_u76 : List (List Nat) := [[], [], [715,716,717,107], [], [], [], [], [296,0], [], [], [], [], [707,708,709,107], [], [], [], [], [296,0], [], [], [296], [], []]
def mm_u77 : List (List Nat) := [[], [666,667,668,107], [], [773,774,775,110], [], [], [670,671,672,107], [], [], [], [], [], [], [167,0], [], [], [163,0], [], [], [], [163,0], [], [], [], [], [], [], [715,716,717,107], [], [], [], [165,0], [], [780,781,782,110], [], [], [], [707,708,709,107], [], [167,0], [], [], [670,671,672,107], [], [], []]
def mm_u78 : List (List Nat) := [[], [666,667,668,107], [], [674,675,676,107], [], [], [790,791,792,111], []]
def mm_u79 : List (List Nat) := [[], [441], [], [], [442,200,105,1], [447], [], [], [443,141,105,1], [448], [], [], [443,141,105,1], [449], [], [], [443,141,105,1], [451], [], [], [443,141,105,1], [453], [], [], [443,141,105,1], [456], [], [], [443,141,105,1], [458], [], [], [443,141,105,1], [459], [], [], [443,141,105,1], [461], [], [], [443,141,105,1], [462], [], [], [443,141,105,1], [464], [], [], [443,141,105,1], [466], [], [], [443,141,105,1], [467], [], [], [443,141,105,1], [469], [], [], [443,141,105,1], [470], [], [], [443,141,105,1], [471], [], [], [443,141,105,1], [474], [], [], [444], [], [], [445], []]
def mm_u80 : List (List Nat) := [[], [], [1029,1031,26,115], [], [1050,1052,29,115], [], [], [1074,1076,30,115], [], [], [1080,1082,31,115], [], [], [1095,1097,33,115], []]
def mm_u81 : List (List Nat) := [[], [], [475], [], [], [], [], [], [], [], [], [445,0], [409,0], [], [], [445,0], [412,413], [], [1033,778,105,1], [], [], [445,0], [412,413], [], [], [], [1033,778,105,1], [], [], [], [], [445,0], [405,0], [], [1034,728,105,1], [], [445,0], [405,0], [], [1034,728,105,1], [], [], [], [], [], [], [], [], [445,0], [407,0], [], [1034,728,105,1], [], [445,0], [407,0], [], [1034,728,105,1], [], [], [], [], [], [], [], [], [], [], [1035,1037,27,115], [], [], [], [475,0], [], [], [], [], [], [], [], [], [], [], [], [], [], [], [], [], [], [459,0], [], [], [1040,251,105,1], [], [458,0], [], [], [458,0], [], [1033,778,105,1], [], [], [], [], [], [], [1040,251,105,1], [], [], [], [], [1041,1043,28,115], [], [], []]
def mm_u82 : List (List Nat) := [[], [475,0], [], [], [447,0], [], [], [445,0], [405,0], [], [1034,728,105,1], [1039,735,105,1], [], [448,0], [], [], [1040,251,105,1], [], [461,0], [], [], [1040,251,105,1], [], [449,0], [], [], [1040,251,105,1], [], [451,0], [], [], [1040,251,105,1], [], [453,0], [], [], [1040,251,105,1], [], [456,0], [], [], [1040,251,105,1], [], [458,0], [], [], [1040,251,105,1], [], [462,0], [], [], [1040,251,105,1], [], [464,0], [], [], [1040,251,105,1], [], [466,0], [], [], [1040,251,105,1], [], [467,0], [], [], [1040,251,105,1], [], [469,0], [], [], [1040,251,105,1], [], [], [475,0], [], [], [475], []]
def mm_u83 : List (List Nat) := [[], [445,0], [399,0], [], [], [1040,251,105,1], [], [449,0], [], [], [449,0], [], [1033,778,105,1], [], [], [1040,251,105,1], [], [451,0], [], [], [451,0], [], [1033,778,105,1], [], [], [], [445,0], [402,0], [], [1033,778,105,1], [], [1040,251,105,1], [], [461,0], [], [], [461,0], [], [1033,778,105,1], [], [1045,843,122,0], [1040,251,105,1], [], [464,0], [], [], [464,0], [], [1033,778,105,1], [], [], [], [445,0], [391,0], [], [1033,778,105,1], [1046,1047,1048,108], [], [], [1040,251,105,1], []]
def mm_u84 : List (List Nat) := [[], [], [], [], [475,0], [], [], [], [1054,1055,1056,115], [], [], [], [], [], [], [], [], [], [], [], [], [], [], [], [447,0], [], [1034,728,105,1], [], [], [1065,1066,105,1], [1069,1070,1071,115], [], [], [], [], [469,0], [], [1033,778,105,1], [], [], [], [469,0], [], [], [1040,251,105,1], [], [453,0], [], [], [453,0], [], [1033,778,105,1], [], [], [1040,251,105,1], [], [456,0], [], [], [456,0], [], [1033,778,105,1], [], [449,0], [], [1033,778,105,1], [], [1040,251,105,1], [], [], [], [], [], [], []]
def mm_u85 : List (List Nat) := [[], [], [], [], [287,0], [232,0], [], [], [], [], [], [], [], [], [], [287,0], [], [], [], [], [1078,911,912,110], [], [], [], [], [444,0], [355,0], [], [], [], [1033,778,105,1], [], [], [], [], [], [], [], [], [], [1079,980,105,1], [], [], [], [], [1069,1070,1071,115], [], [], [], [], [462,0], [], [], [462,0], [], [1033,778,105,1], [], [], [1040,251,105,1], [], [], [], [], []]
def mm_u86 : List (List Nat) := [[], [470,0], [], [1084,1085,105,1], [], [471,0], [], [1084,1085,105,1], [], [], [], [], [475,0], [], [], [], [], [], [449,0], [], [1033,778,105,1], [], [], [], [], [], [], [1087,1088,1089,115], [1091,1093,32,115], [], [], [], [], [], [], [], [474,0], [], [1033,778,105,1], [], [], [471,0], [], [1033,778,105,1], [], [], [], [], [], [471,0], [], [], [], [], [1040,251,105,1], [], [470,0], [], [], [470,0], [], [1033,778,105,1], [], [], [1040,251,105,1], [], [466,0], [], [], [466,0], [], [1033,778,105,1], [], [], [1040,251,105,1], [], [], [], [], [], [], []]
def mm_u87 : List (List Nat) := [[], [], [], [], [445,0], [409,0], [], [], [445,0], [399,0], [], [1033,778,105,1], [], [], [], [], [1091,1093,32,115], [], [], [], [], [], [], [], [467,0], [], [], [467,0], [], [1033,778,105,1], [], [470,0], [], [474,0], [], [1033,778,105,1], [1033,778,105,1], [], [1040,251,105,1], [], [], [], [], []]
def mm_u88 : List (List Nat) := [[], [445,0], [391,0], [], [1033,778,105,1], [], [], [], [445,0], [395,0], [], [1033,778,105,1], [], [], [], [], [], [], [], [], [], [], [308,0], [], [], [], [], [], [282,0], [], [], [], [], [1078,911,912,110], [], [], [474,0], [], [], [444,0], [351,0], [], [], [], [1033,778,105,1], [1040,251,105,1], [], [], [282,0], [], [], [], [], [1078,911,912,110], [], [], [474,0], [], [], [444,0], [351,0], [], [], [], [1033,778,105,1], [1040,251,105,1], [], [], [], [], []]
def mm_u89 : List (List Nat) := [[], [445,0], [412,413], [], [448,0], [], [1033,778,105,1], [], [], [1033,778,105,1], []]
def mm_u90 : List (List Nat) := [[], [447,0], [], [1034,728,105,1], [1058,1059,105,1], []]
def mm_u91 : List (List Nat) := [[], [447,0], [], [475,0], [], [1073,955,105,1], []]
def mm_u92 : List (List Nat) := [[], [], [], [], [], [], [475,0], [], [], [], [464,0], [], [1033,778,105,1], [], [], [], [], [], [], [], [], [], []]
def mm_u93 : List (List Nat) := [[], [], [], [449,0], [], [1033,778,105,1], [], [], [451,0], [], [1033,778,105,1], [], [], [453,0], [], [1033,778,105,1], [], [], [456,0], [], [1033,778,105,1], [], [], [458,0], [], [1033,778,105,1], [], [], [462,0], [], [1033,778,105,1], [], [], [], [1054,1055,1056,115], [], [], [464,0], [], [1033,778,105,1], [], [], [466,0], [], [1033,778,105,1], [], [], [461,0], [], [1033,778,105,1], [], [], []]
def mm_u94 : List (List Nat) := [[], [], [], [], [], [], [475,0], [], [], [], [1054,1055,1056,115], [], [], [1054,1055,1056,115], [], [], [447,0], [], [1034,728,105,1], [], [447,0], [], [1034,728,105,1], [1283,1284,105,1], [], [], [], [], [], [], [], [], [], [], []]
def mm_u95 : List (List Nat) := [[], [471,0], [], [1084,1085,105,1], [], [], [], [], [449,0], [], [1033,778,105,1], [], [], [], [], [], [], [1087,1088,1089,115], [1091,1093,32,115], [], [], [], [], [], [], [], [474,0], [], [1033,778,105,1], [], [], [471,0], [], [], [471,0], [], [1033,778,105,1], [], [], [1040,251,105,1], [], [], [], [], [], [], [1296,1297,1298,115], []]
def mm_u96 : List (List Nat) := [[], [], [], [], [], [], [444,0], [360,0], [], [], [471,0], [], [1033,778,105,1], [], [], [], [], [], [], [], [], [], [], []]
def mm_u97 : List (List Nat) := [[], [470,0], [], [1033,778,105,1], []]
def mm_u98 : List (List Nat) := [[], [447,0], [], [1034,728,105,1], [], [], [1054,1055,1056,115], [], [], [1328,1062,105,1], []]
def mm_u99 : List (List Nat) := [[], [471,0], [], [1084,1085,105,1], [], [], [], [], [], [], [475,0], [], [], [], [1324,1326,41,115], [], [], [471,0], [], [1033,778,105,1], [], [], [], [471,0], [], [], [471,0], [], [1033,778,105,1], [], [], [1040,251,105,1], [], [], [], []]
def mm_u100 : List (List Nat) := [[], [], [], [471,0], [], [1033,778,105,1], [], [], [], [], [], [], [], [], [], [475,0], [], [], [], [1324,1326,41,115], [], [], [], [], [449,0], [], [1033,778,105,1], [], [], [], [], [], [], [], [], [], [], [], [], [], [], [], [], [], [], [], [], [], []]
def mm_u101 : List (List Nat) := [[], [192], [], [193,194,109], [], [], [195,196,109,0], [271], [], [193,194,109], [], [], [195,196,109,0], [273], [], [193,194,109], [], [], [195,196,109,0], [275], [], [218,219,110], [], [220,221,110,1], [277], [], [], [242,141,105,1], [283], [], [218,219,110], [], [220,221,110,1], [284], [], [243,244,111], [], [245,246,111,0], [289], [], [], [242,141,105,1], [292], [], [], [], [], [], [], [292,0], [], [], [270,251,105,1], [], [], [], [], [300], [], [], [303], [], [], [306], []]
def mm_u102 : List (List Nat) := [[], [271,0], [], [271,0], [637,638,639,109], [], [273,0], [], [273,0], [637,638,639,109], [], [275,0], [], [275,0], [637,638,639,109], [], [277,0], [], [277,0], [644,645,646,110], [], [283,0], [], [283,0], [], [652,650,105,1], [], [284,0], [], [284,0], [644,645,646,110], [], [289,0], [], [289,0], [653,654,655,111], [], [292,0], [], [292,0], [], [652,650,105,1], [], [], [295,0], [295], [], [], [298,0], [298], [], [], [300,0], [300], [], [], [303,0], [303], [], [], [306,0], [306], []]
def mm_u103 : List (List Nat) := [[], [275,0], [], [762,724,725,109], [], [], [], [], [], [], [275,0], [205,0], [], [763,728,105,1], []]
def mm_u104 : List (List Nat) := [[], [], [], [], [275,0], [], [762,724,725,109], [], [], [275,0], [], [], [768,731,732,109], [], []]
def mm_u105 : List (List Nat) := [[], [275,0], [], [762,724,725,109], [], [], [], [930,759,760,108], [], [], [], [], [], [273,0], [207,0], [], [], [], [273,0], [203,0], [], [763,728,105,1], [], [273,0], [205,0], [], [763,728,105,1], [931,932,105,1], [], [], [], [], [], [271,0], [], [762,724,725,109], [], [], [], [930,759,760,108], [], [], [], [], []]
def mm_u106 : List (List Nat) := [[], [271,0], [], [762,724,725,109], [], [], [], [], [271,0], [], [762,724,725,109], [], [], [], [], [], [], [271,0], [205,0], [], [763,728,105,1], [], []]
def mm_u107 : List (List Nat) := [[], [283,0], [], [298,0], [], [277,0], [233,0], [270,251,105,1], [], [], [298,0], [], [], [298], []]
def mm_u108 : List (List Nat) := [[], [], [865,866,867,108], [], [], [277,0], [], [], [870,871,872,108], [], [874,875,876,110], [], [], [], [], [], [], [298,0], [], [], [283,0], [], [], [283,0], [], [], [], [869,778,105,1], [], [], [270,251,105,1], [], [], [], [], [298,0], [], [], [298], []]
def mm_u109 : List (List Nat) := [[], [283,0], [], [], [], [869,778,105,1], []]
def mm_u110 : List (List Nat) := [[], [283,0], [], [869,778,105,1], [], [], [870,871,872,108], [], []]
def mm_u111 : List (List Nat) := [[], [], [870,871,872,108], [], [], [], [], [], [], [], [283,0], [], [869,778,105,1], [], [], [], [], [], [], [], [], [277,0], [], [], [], [], [910,911,912,110], [], [], [], [], [], []]
def mm_u112 : List (List Nat) := [[], [], [], [], [298,0], [], [], [], [], [], [], [865,866,867,108], [], [], [], [], [], [870,871,872,108], [], [], []]
def mm_u113 : List (List Nat) := [[], [], [], [], [], [], [], [283,0], [], [869,778,105,1], [], [], [], [], []]
def mm_u114 : List (List Nat) := [[], [131], [], [134,135,106], [], [], [136,137,106,0], [554], [], [134,135,106], [], [], [136,137,106,0], [555], [], [153,154,107], [], [], [554,0], [155,156,107,0], [556], [], [187,188,108], [], [189,190,108,0], [562], [], [187,188,108], [], [189,190,108,0], [563], [], [], [187], [557], [], [], [], [], [557,0], [], [], [], [557,0], [], [], [], [], [562,0], [], [], [], [], [], [563,0], [], [187,188,108], [], [189,190,108,0], [], [], [], [], [337,338,112], [], [339,340,112,1], [558], [], [378,379,114], [], [380,381,114,1], [559], [], [436,437,115], [], [], [558,0], [], [559,0], [438,439,115,0], [560], [], [519,520,116], [], [], [560,0], [521,522,116,0], [561], [], [], [567], []]
def mm_u115 : List (List Nat) := [[], [554,0], [146,0], [], [], [], [], [], [554,0], [], [604,605,606,106], [], [554,0], [], [604,605,606,106], [], [554,0], [], [604,605,606,106], [], [554,0], [], [604,605,606,106], [], [554,0], [], [604,605,606,106], [], [554,0], [146,0], []]
def mm_u116 : List (List Nat) := [[], [], [], [], [554,0], [146,0], [], [], [], [], [554,0], [], [146], [], []]
def mm_u117 : List (List Nat) := [[], [], [], [], [], [], [621,623,2,105], [], [], [625,627,3,105], [], [], [563,0], [], [658,660,5,105], [], [834,836,18,105], [], [], [], [], [], [845,847,20,105], []]
def mm_u118 : List (List Nat) := [[], [562,0], [299,0], [], [], [], [621,623,2,105], [], [], [625,627,3,105], [], [556,0], [], [563,0], [280,0], [769,770,771,107], [], [563,0], [853,854,855,108], [], [834,836,18,105], [], [], [], [], [562,0], [299,0], [], [], []]
def mm_u119 : List (List Nat) := [[], [], [], [], [562,0], [299,0], [], [], [], [], [625,627,3,105], [], [563,0], [], [861,862,863,108], [], [838,840,19,105], [], [562,0], [299,0], []]
def mm_u120 : List (List Nat) := [[], [], [], [566,0], [], [], [], [], [], [567,0], [], [], []]
def mm_u121 : List (List Nat) := [[], [], [], [], [], [], [], [], [], [], [], [], [], [562,0], [302,0], [], [], [], [562,0], [305,0], [], [], [], [], [625,627,3,105], [], [563,0], [], [302], [], [563,0], [], [305], [], [838,840,19,105], [], []]
def mm_u122 : List (List Nat) := [[], [], [], [], [], [], [], [], [], [], [], [], [], [], [562,0], [294,0], [], [891,778,105,0], [], [], [], [], [], [625,627,3,105], [], [563,0], [294,0], [], [], [892,251,105,0], [], [838,840,19,105], [], []]
def mm_u123 : List (List Nat) := [[], [], [], [], [], [], [], [562,0], [307,0], [], [], [], [], [625,627,3,105], [], [563,0], [], [307], [], [838,840,19,105], [], []]
def mm_u124 : List (List Nat) := [[], [565,0], [], [], [], [], [], [565,0], [], [], [565], [], [], [564,0], [], [], [], [], [], [], [564], [], [], [], [564,0], [629,631,4,105], [562], [], [], [568], [], []]
def mm_u125 : List (List Nat) := [[], [], [], [], [562,0], [299,0], [], [], [], [], [], [], [562,0], [], [905,866,867,108], [], [], [562,0], [], [906,907,908,108], [], [], [914,916,21,105], [], [559,0], [], [562,0], [], [1099,871,872,108], [], [562,0], [], [1099,871,872,108], [], [562,0], [], [905,866,867,108], [], [1100,1101,1102,114], [], [], [914,916,21,105], [], [560,0], [], [1104,1105,1106,115], [], [], []]
def mm_u126 : List (List Nat) := [[], [562,0], [], [], [1112,1113,1114,108], [], [], [], [], [], [], [562,0], [280,0], [], [1116,923,924,110], [], [], [555,0], [], [146], [], [555,0], [], [], [], [562,0], [], [1117,927,928,108], [], [], [1118,1119,1120,106], [], [555,0], [146,0], []]
def mm_u127 : List (List Nat) := [[], [562,0], [], [], [1112,1113,1114,108], [], [], [], [], [], [], [562,0], [280,0], [], [1116,923,924,110], [], [], [562,0], [], [], [562,0], [], [1117,927,928,108], [1128,937,938,108], []]
def mm_u128 : List (List Nat) := [[], [914,916,21,105], [], [], [], [], [559,0], [410,0], [], [], [], [], [], [559,0], [410,0], [], [], [], [], [559,0], [393,0], [], [891,778,105,0], [], [], [], [], [562,0], [], [1133,1047,1048,108], [], [], [], [562,0], [], [562,0], [], [1133,1047,1048,108], [1099,871,872,108], [], [], [], [559,0], [397,0], [], [891,778,105,0], [], [], [559,0], [400,0], [], [891,778,105,0], [], [], [559,0], [403,0], [], [891,778,105,0], [], [], []]
def mm_u129 : List (List Nat) := [[], [914,916,21,105], [], [], [], [], [560,0], [477,0], [], [], [], [], [559,0], [393,0], [], [560,0], [460,0], [], [891,778,105,0], [891,778,105,0], [], [], [560,0], [], [1138,1055,1056,115], [], [], [555,0], [], [146], [], [], [], [], [], [], [], [], [], [], [], [555,0], [], [1139,609,610,106], [], [555,0], [], [], [], [562,0], [280,0], [], [], [], [1116,923,924,110], [], [], [558,0], [346,0], [], [], [], [947,728,105,0], [1118,1119,1120,106], [], [], [], [555,0], [146,0], []]
def mm_u130 : List (List Nat) := [[], [], [], [], [555,0], [146,0], [], [], [], [], [], [555,0], [146,0], [], [], [], [], [555,0], [144,0], [], [891,778,105,0], []]
def mm_u131 : List (List Nat) := [[], [914,916,21,105], [], [1148,1150,34,105], [], [], [554,0], [], [146], [], [], [], [], [], [], [560,0], [], [1156,1070,1071,115], []]
def mm_u132 : List (List Nat) := [[], [914,916,21,105], [], [], [], [], [560,0], [477,0], [], [], [], [], [], [560,0], [477,0], [], [], [], [], [560,0], [], [], [1161,1162,1163,115], []]
def mm_u133 : List (List Nat) := [[], [], [], [1169,1171,35,105], [], [1217], [], [], [], [], [561,0], [536,0], [], [], [561,0], [534,0], []]
def mm_u134 : List (List Nat) := [[], [], [], [1169,1171,35,105], [], [], [], [], [561,0], [536,0], [], [], [], [], [], [], [], [561,0], [534,0], [], [], [], [1222,1223,105,0], [], [], []]
def mm_u135 : List (List Nat) := [[], [], [], [1169,1171,35,105], [], [1239], [], [], [561,0], [536,0], [], [], [], [], [], [], [], [561,0], [534,0], [], [], [], [1240,1241,105,0], [], [1239], []]
def mm_u136 : List (List Nat) := [[], [914,916,21,105], [], [], [], [], [], [], [], [], [], [560,0], [477,0], [], [], [], [], [561,0], [], [562,0], [], [1252,1253,1254,116], [], [561,0], [], [], [1262,1263,1264,116], []]
def mm_u137 : List (List Nat) := [[], [914,916,21,105], [], [], [], [], [], [], [], [], [], [560,0], [477,0], [], [], [], [], [561,0], [], [562,0], [], [1252,1253,1254,116], [], [561,0], [], [], [1270,1271,1272,116], []]
def mm_u138 : List (List Nat) := [[], [914,916,21,105], [], [], [], [], [560,0], [477,0], [], [], [], [], [], [], [], [560,0], [455,0], [], [891,778,105,0], [], [], [560,0], [], [], [1279,1280,1281,115], []]
def mm_u139 : List (List Nat) := [[], [914,916,21,105], [], [], [], [], [560,0], [477,0], [], [], [], [], [], [], [560,0], [], [562,0], [], [], [1292,1293,1294,115], [], [], [], [], [], [], [555,0], [], [146], [], [555,0], [], [558,0], [357,0], [], [947,728,105,0], [1118,1119,1120,106], [], [560,0], [473,0], [], [891,778,105,0], []]
def mm_u140 : List (List Nat) := [[], [555,0], [1304,1305,1306,106], [], [], [], [], [1239], [], [], [914,916,21,105], [], [561,0], [], [560,0], [], [558,0], [], [1154,951,952,112], [1311,1312,1313,115], [], [], [560,0], [477,0], [], [1315,1178,1179,116], [], [], [], [561,0], [536,0], [], [], [561,0], [534,0], []]
def mm_u141 : List (List Nat) := [[], [914,916,21,105], [], [560,0], [1320,1321,1322,115], [], [], [], [], [], [], [], [], [], [], [], [], [], [], [560,0], [], [560,0], [], [1329,1297,1298,115], [], [1330,1331,1332,115], []]
def mm_u142 : List (List Nat) := [[], [914,916,21,105], [], [], [], [], [], [], [], [], [], [560,0], [477,0], [], [], [], [], [561,0], [], [562,0], [], [1252,1253,1254,116], [], [561,0], [], [], [1338,1339,1340,116], []]
def mm_u143 : List (List Nat) := [[], [], [], [], [845,847,20,105], [], [], [562,0], [299,0], [], [], [562,0], [280,0], [234,0], [], [], [562,0], [288,0], [234,0], [], [], [562,0], [302,0], [], [], [562,0], [305,0], [], [], [562,0], [307,0], [], [], [565,0], [], [], [554,0], [146,0], [], [], []]
def mm_u144 : List (List Nat) := [[], [], [], [], [557,0], [], [], [], [557,0], [], [], [], [], [], [], [], [], [562,0], [], [], []]
def mm_u145 : List (List Nat) := [[], [], [], [564,0], [], [], [], [], [629,631,4,105], [563], [], [563,0], [], [562,0], [633,634,635,108], []]
def mm_u146 : List (List Nat) := [[], [], [564,0], [], [], [], [], [564], [], [], [563,0], [562], [], [], [565,0], [], [], [], [842,843,122,0], [565], [], [], [568], []]
def mm_u147 : List (List Nat) := [[], [554,0], [], [146], [], [], [566], [], [], [567], [], []]
def mm_u148 : List (List Nat) := [[], [], [], [556,0], [], [272,0], [662,663,664,107], [], [], [556,0], [], [274,0], [737,738,739,107], [], [], [556,0], [], [746,747,748,107], [], [], [288,0], [], [234], [], [556,0], [], [288,0], [769,770,771,107], [], [], [556,0], [], [291,0], [786,787,788,107], []]
def mm_u149 : List (List Nat) := [[], [554,0], [], [146], [], [], [556,0], [169,0], [566], [], [], [566,0], [], [], [], [], [556,0], [171,0], [567], [], [566,0], [], [], [], [], [838,840,19,105], [], []]
def mm_u150 : List (List Nat) := [[], [], [], [562,0], [272,0], [209,0], [], [], [562,0], [274,0], [209,0], [], [], [562,0], [297,0], [], [], [562,0], [288,0], [234,0], [], [], [562,0], [291,0], [256,0], []]
def mm_u151 : List (List Nat) := [[], [568,0], [], [], [], [558,0], [], [562,0], [918,919,920,112], [], [559,0], [], [562,0], [], [558,0], [957,958,959,114], [], [560,0], [], [562,0], [1025,1026,1027,115], [], [561,0], [], [532], [], [], [568], []]
def mm_u152 : List (List Nat) := [[], [914,916,21,105], [], [], [], [], [560,0], [477,0], [], [], [], [], [], [], [], [], [], [561,0], [], [562,0], [], [], [1173,1174,1175,116], [], []]
def mm_u153 : List (List Nat) := [[], [], [], [], [], [556,0], [1152,667,668,107], [], [556,0], [1153,671,672,107], [], [], [], [], [], [], [556,0], [164,0], [], [], [], [558,0], [], [562,0], [], [556,0], [166,0], [1117,927,928,108], [1154,951,952,112], [], [], [], [], [], [], [], [], [], [], [], [1155,980,105,0], [], [], [], [], [556,0], [1153,671,672,107], [], [], [], [556,0], [164,0], [], [], [], [], [], []]
def mm_u154 : List (List Nat) := [[], [], [], [], [], [], []]
def mm_u155 : List (List Nat) := [[], [], [], [], [], [], []]
def mm_u156 : List (List Nat) := [[], [], [], [], [], [], [], [], [], [], [], []]
def mm_u157 : List (List Nat) := [[], [], [], [], [], [], [], [], [], [], [], []]
def mm_u158 : List (List Nat) := [[], [], [], [], [], [], [], [], [], [], []]
def mm_u159 : List (List Nat) := [[], [], [], [], [], [], [], [], [], [], []]
def mm_u160 : List (List Nat) := [[], [], [], [], [], [], [], [], [], [], [], [], [], [], [], []]
def mm_u161 : List (List Nat) := [[], [], [], [], [], [], [], [], [], [], [], [], [], [], [], [], [], [], [], [], [], []]
def mm_u162 : List (List Nat) := [[], [], [], [], [], [], [], [], [], [], [], [], [], [], [], [], [], [], [], [], [], []]
def mm_u163 : List (List Nat) := [[], [], [], [], [], [], [], [], [], [], [], [], [], [], [], [], [], [], [], [], [947,728,105,0], [], [], [], [], [], [], [], [], [], [], [], [], []]
def mm_u164 : List (List Nat) := [[], [], [], [944,945,105,0], [], [], [], [], [], [], [], [], [], [], [947,728,105,0], [], [], [], [], [], [], [], [], [], [], [], [], [], [], [], [947,728,105,0], [948,735,105,0], [], [], [], [], [], [948,735,105,0], [], [], [], []]
def mm_u165 : List (List Nat) := [[], [], [], [944,945,105,0], [], [], [], [], [], [], [947,728,105,0], [], [], [], [], [], []]
def mm_u166 : List (List Nat) := [[], [], [], [], [], []]
def mm_u167 : List (List Nat) := [[], [], [], [], [], [], [], [], [], [702,686,105,0], [], [], [], [], []]
def mm_u168 : List (List Nat) := [[], [], [], [], [], [], [], [699,700,105,0], [], [], [], [], []]
def mm_u169 : List (List Nat) := [[], [], [], [], [], [], [], [], [], []]
def mm_u170 : List (List Nat) := [[], [934,697,105,0], [], [934,697,105,0], [], [], [], [], [], [], [], [934,697,105,0], [], [], [], [], [], [], [], [], [], [], [], [], [], [], [], [], [], [], [], [], [], [], [], [], [], [], [], [], [], [], [], [], [], [], [], []]
def mm_u171 : List (List Nat) := [[], [], [], [], [], [], [], [], [], [], []]
def mm_u172 : List (List Nat) := [[], [], [], [], [], [], [], [1064], [], [], [], [], []]
def mm_u173 : List (List Nat) := [[], [], [], [], [], [], [], [1061,1062,105,0], [], [], [], [], []]
def mm_u174 : List (List Nat) := [[], [], [], [], [], [1068], [], [], [], [], [], [], [], [], [], [], [], [], [], []]
def mm_u175 : List (List Nat) := [[], [1286,1059,105,0], [], [], [1286,1059,105,0], [], [], [], [], [], [], [], [], [], [], [], [], [], [], [1287,1066,105,0], [], [], [], [], [], [], [], []]
def mm_u176 : List (List Nat) := [[], [], [], [], [], [], [], [], [1228], [], [], [], [1228], [], [], [], [], [], [], [], [], [], [], [], [], [], [], [], [], [], [], [], [1228], [], [], [], [], [], [], []]
def mm_u177 : List (List Nat) := [[], [], [], [], [], [], [], [1228], [], [], [], [], [], [], [], [], [], [1228], [], [], [], [], [], [1232], [], [], []]
def mm_u178 : List (List Nat) := [[], [], [], [], [], [], [], [], [], [], [], [], [], [], [], [], [], [], [1225,1226,105,0], [], [], [], [1229,1230,105,0], [], [], [], [], [], [], [], [], [], [], [1233], [], [], [], [], [], [], [], [], [1234], [], [], [], []]
def mm_u179 : List (List Nat) := [[], [], [], [], [], [], [], [], [], [], [], [], [], [], [], [], [], [], [], [1217], [], [], [], [], [1225,1226,105,0], [], [], [], [1229,1230,105,0], [], [], [1243], [], [], [1244], [], [], [], [], [1245,997,122,0], [], [], [], [], [], [], [], [], [], [], [], [], [], [], [], [], [], [], [], [], [], [], [1246], [], [], [], [], [], [], [], [], [], [], [], [], [], [], [], [], [], [1247], [], [], []]
def mm_u180 : List (List Nat) := [[], [1184,1185,122,0], [], [], [1184,1185,122,0], [], [], [], [], [], [], [], [], [], [], [], [], [], [], [], [], [], [], [], [], []]
def mm_u181 : List (List Nat) := [[], [], [], [], [], [], [], [], [], []]
def mm_u182 : List (List Nat) := [[], [], [], [], [], []]
def mm_u183 : List (List Nat) := [[], [], [], [], [], [], [], [], [], [], []]
def mm_u184 : List (List Nat) := [[], [1357], [], [], [], [1458], [], [], [], [1459], [], [], [], [1461], [], [], [], [1462], [], [], [1468], [], [], [], [1471], [], [], [], [1472], [], [], [], [1480], [], [], [], [1481], [], [], [], [1482], [], [], [], [1483], [], [], [], [1485], [], [], [], [1486], [], [], [], [1487], [], [], [], [1488], [], [], [], [1489], [], [], [], [1491], [], [], [], [1492], [], [], [], [1493], [], [], [], [1494], [], [], [], [1495], [], [], [], [1496], [], [], [], [1497], [], [], [], [1498], [], [], [], [1499], [], [], [], [1500], [], [], [], [1502], [], [], [], [1503], [], [], [], [1504], [], [], [], [1507], [], [], [], [1508], [], [], [], [1509], [], [], [], [1510], [], [], [], [1511], [], [], [], [1515], [], [], [], [1516], [], [], [], [1517], [], [], [], [1518], [], [], [], [1519], [], [], [], [1520], [], [], [], [1521], [], [], [], [1522], [], [1458,0], [], [1358], [], [], [1458,0], [], [1359], [], [], [1458,0], [], [], [], [], [], [], [], [], [], [1458,0], [], [], [], [], [], [], [], [], [1360], [], [], [], [], [], [], [], [1462,0], [], [], [], [1361], [], [], [], [], [], [1463], [], [1401,1403,43,117], [], [1405,1407,44,117], [], [], [1451,1453,54,117], [], [], [1463], []]
def mm_u185 : List (List Nat) := [[], [1460,0], [], [], [], [], [], [], [], [], [1459,0], [], [], [1459,0], [], [], [], [], [], [], [], [], [], [1460,0], [], [], [1460], [], [], [], [], [], [], [1459,0], [], [], [1460,0], [], [], [], [], [1458,0], [], [], [], [], [], [], [], [1460,0], [], [], [1460], [], [], [1478], []]
def mm_u186 : List (List Nat) := [[], [1460,0], [], [], [], [], [], [1460,0], [], [], [1460], [], [], [], [], [], [], [1458,0], [], [], [1459,0], [], [], [1460,0], [], [], [], [], [], [], [], [], [], [1478], [], []]
def mm_u187 : List (List Nat) := [[], [], [], [], [], [], [], [], [1709], [], [], [], [], [], []]
def mm_u188 : List (List Nat) := [[], [], [], [], [], [], [], [], [], [1709], [], [1713], [], [], [], [], []]
def mm_u189 : List (List Nat) := [[], [], [], [1706,1707,117,0], [], [], [], [], [], [], []]
def mm_u190 : List (List Nat) := [[], [], [], [], [1706,1707,117,0], [], [], [1706,1707,117,0], [], []]
def mm_u191 : List (List Nat) := [[], [], [], [], [], [1458,0], [], [], [], [], [1458,0], [], [], [], [], [], [], [], [], [], [], [], []]
def mm_u192 : List (List Nat) := [[], [], [], [], [], [1458,0], [], [], [], [], [1458,0], [], [], [], [], [], [], [], [1458,0], [], [], [], [], [], [], [], [1458,0], [], [], [], [], [], [], [], [1458,0], [], [], [], [], [], [], [], [], []]
def mm_u193 : List (List Nat) := [[], [], [1729,1731,65,117], [], [], [], [], [], [], [], [1710,1711,117,0], [], [], [], [], [], [], [1458,0], [], [], [], [], [], [1458,0], [], [], [], [], [1710,1711,117,0], [], [], [], [], [], [], [], [1799,1800,117,0], [], [1458,0], [], [], [], [], [], [], [], [], [1458,0], [], [], [], [], [1710,1711,117,0], [], [], [], [], [], [], [1802,1803,117,0], [], [1458,0], [], [], [], [], [], [1706,1707,117,0], [], [], [], [], [], [1714,1716,62,117], [], [], [], [], [1729,1731,65,117], [], [], [], [], []]
def mm_u194 : List (List Nat) := [[], [], [1714,1716,62,117], [], [], [], [], [], [], [], [1795,1797,74,117], [1714,1716,62,117], [], [], [], [], [], [], [], [1458,0], [], [], [], [], [], []]
def mm_u195 : List (List Nat) := [[], [], [], [], [], [], [], [], [], [], [], [], [], [], [], []]
def mm_u196 : List (List Nat) := [[], [], [], [], [], [], [], [], [], [], [], [], [], [], [], []]
def mm_u197 : List (List Nat) := [[], [], [], [], [], [1462,0], [], [1463,0], [], [], [], [], [], [], [], [], [1463,0], [], [], [1463], [], [], []]
def mm_u198 : List (List Nat) := [[], [1463,0], [], [], [], [], [], [], [], [], [1664,1666,55,117], [], [], [1664,1666,55,117], [], [], [1664,1666,55,117], [], [], [1664,1666,55,117], [], [], [1664,1666,55,117], [], [1463,0], []]
def mm_u199 : List (List Nat) := [[], [], [], [], [1463,0], [], [1672,1673,117,0], [], [], [], [], [], [1463], [], []]
def mm_u200 : List (List Nat) := [[], [], [1464], [], [], [1465], [], [], [1466], []]
def mm_u201 : List (List Nat) := [[], [1464,0], [], [1463,0], [], [], [1462,0], [], [1464,0], [], [], [], [], [1462,0], [], [1464,0], [], [], [], [], [], [1464,0], [], [], [1464], [], [], [1464,0], [], [1463,0], [], [], [1462,0], [], [1464,0], [], [], [], []]
def mm_u202 : List (List Nat) := [[], [1465,0], [], [], [], [1465], [], [], [1466], [], []]
def mm_u203 : List (List Nat) := [[], [1421,1423,48,117], [], [1704], [1705], [1672,1673,117,0], []]
def mm_u204 : List (List Nat) := [[], [1700,1702,61,117], [], [], [], [], [1464,0], [1436,1438,51,117], [], [], [], [1464,0], [1470], [], [], [1469], [], [1706,1707,117,0], [], [], [1464,0], [], [1463,0], [], [], [1462,0], [], [1464,0], [], [], [1704], [1705], [1672,1673,117,0], [], [], [1464,0], [], [1470,0], [], [], [], [], [], [1469,0], [], [1462,0], [], [1464,0], [], [], [], [], [], [], [], [1469], [], [1709], [], [], [], [], [1464,0], [], [], [1464], [], [], [1464,0], [], [1470,0], [], [], [], [], [], [], [1470,0], [1436,1438,51,117], [], [], [], [], []]
def mm_u205 : List (List Nat) := [[], [1421,1423,48,117], [], [], [], [], [], [1464,0], [1436,1438,51,117], [], [], [], [1464,0], [], [], [1464], [], []]
def mm_u206 : List (List Nat) := [[], [1421,1423,48,117], [], [], [], [1696,1698,60,117], [], [], [], [], [1469,0], [1710,1711,117,0], [], [], [], [1469,0], [], [1706,1707,117,0], [], [], [], [], [1425,1426,117,0], [], [], [], [], [], [], [], [], [], [1470,0], [1436,1438,51,117], [], [], [], [1440,1442,52,117], [], [], [], [], [1696,1698,60,117], [], [], [], [], [], [1469,0], [1714,1716,62,117], [], [], [], [], [], [1458,0], [], [], [1718], [], [], [], [], [1470,0], [1436,1438,51,117], [], [], [1458,0], [], [], [], [], [], [1458,0], [], [], [], [], [], [], [], [1458,0], [], [], [], [], [1469,0], [], [], [1458,0], [], [], [], [], [], [], [], [1421,1423,48,117], [], [], [], [], [1464,0], [], [], [1464], [], [], []]
def mm_u207 : List (List Nat) := [[], [1458,0], [], [], [], [], [1421,1423,48,117], [], [], [], [1696,1698,60,117], [], [], [], [], [1458,0], [], [], [1723], [], [], [], [], [1470,0], [1436,1438,51,117], [], [], [1469,0], [], [], [], [1440,1442,52,117], [], [], [], [], [], [1469], [], [1700,1702,61,117], [], [], [1696,1698,60,117], [], [], [], [], [], [1440,1442,52,117], [], [], [], [], [1458,0], [], [], [1458,0], [], [], [], [], [], [], [], [1458,0], [], [], [1458,0], [], [], [], [], [], [1469,0], [], [], [1458,0], [], [], [], [], [], [], [], [], []]
def mm_u208 : List (List Nat) := [[], [1458,0], [], [], [], [], [1421,1423,48,117], [], [], [], [], [], [], [], [1696,1698,60,117], [], [], [], [], [1458,0], [], [], [1728], [], [], [], [], [1470,0], [1436,1438,51,117], [], [], [], [], [], [1469,0], [1729,1731,65,117], [], [], [1458,0], [], [], [1458,0], [], [], [], [], [], [1469,0], [], [], [1458,0], [], [], [1458,0], [], [], [], [], [], [], [], [], [], [], [], [1458,0], [], [], [], [], [], [], [], [], [], [], [], [1421,1423,48,117], [], [], [], [], [1464,0], [], [], [1464], [], [], []]
def mm_u209 : List (List Nat) := [[], [], [], [], [], [1421,1423,48,117], [], [], [], [1421,1423,48,117], [], [], [], [], [1464,0], [], [], [1464], [], [], [], [1696,1698,60,117], [], [], [], [], [], [], [], [], [], [1470,0], [1436,1438,51,117], [], [], [], [], [1458,0], [], [], [], [], [1469,0], [], [], [1458,0], [], [], [], [], [], [], [], [], [], []]
def mm_u210 : List (List Nat) := [[], [1421,1423,48,117], [], [], [], [], [], [1474,0], [], [], [], [], [], [1464,0], [1436,1438,51,117], [], [], [], [1474,0], [], [], [1474], [], [], [1464,0], [], [], [1464], [], [1409,1411,45,117], [], [], [], [1440,1442,52,117], [], [], [], [], [], [1474,0], [], [], [1474], [], [], [], [1473,0], [], [], [], [], [], [1464,0], [1436,1438,51,117], [], [], [1471,0], [], [1473,0], [], [], [], [], [], [], [], [], [], [], [], [1425,1426,117,0], [], [], [1472,0], [], [1473,0], [], [], [], [], [], [1473,0], [], [1475], [], [], [1475,0], [1476], [], [], [1477], [], [], [1473,0], [], [], [1473], [], [], [1464,0], [], [], [1464], [], []]
def mm_u211 : List (List Nat) := [[], [1421,1423,48,117], [], [], [], [], [], [], [], [], [], [], [], [1425,1426,117,0], [], [], [], [], [], []]
def mm_u212 : List (List Nat) := [[], [], [], [], [1473,0], [], [], [], [], [1448,1449,117,0], [], [], [1472,0], [], [], [], [], [], [], [], [], []]
def mm_u213 : List (List Nat) := [[], [1432,1434,50,117], [], [], [], [], [1421,1423,48,117], [], [], [], [], [], [], [], [], [], [], [], [], [], [], [1464,0], [], [], [1464], [], [], [], [], [], [1476,0], [], [1475,0], [1444,1446,53,117], [], [], [1477,0], [], [], [], [], [], [], [], [1477], [], []]
def mm_u214 : List (List Nat) := [[], [], [], [], [], [], [], [1417,1419,47,117], [], [], [1428,1430,49,117], [], [], [], [], [], [], [1475,0], [1444,1446,53,117], [], [], [], [], [1475,0], [], [], [], [], [], [1477,0], [], [], [], [1476,0], [], [], [], [1476,0], [], [], [], [], [1477,0], [], [], [], [], [], [], [], [], [1475], [], [], [1476], [], [], [1477], [], []]
def mm_u215 : List (List Nat) := [[], [1413,1415,46,117], [], [], [], [], [1421,1423,48,117], [], [], [], [1475,0], [], [], [1476,0], [], [], [1477,0], [], [], [], [1464,0], [], [], [1464], [], [1413,1415,46,117], [], [], [], [], [], [1475,0], [], [], [1475], [], [], [1476,0], [], [], [1476], [], [], [1477,0], [], [], [], [], [], [], [1477], [], [], []]
def mm_u216 : List (List Nat) := [[], [], [1473], [], [], [1474], [], [1409,1411,45,117], [], [], [1421,1423,48,117], [], [], [], [], [], [1464,0], [1436,1438,51,117], [], [], [], [], []]
def mm_u217 : List (List Nat) := [[], [1458,0], [], [], [1473,0], [], [], [], [], [], [], [1473,0], [], [], [1458,0], [], [], [], [], [1471,0], [], [], [], [], [], [1458,0], [], [], [], [], [1472,0], [], [], [], [], [], [], [], [1458,0], [], [], [1475,0], [], [], [], [1458,0], [], [], [1476,0], [], [], [], [1458,0], [], [], [1477,0], [1455,1456,117,0], [], [], []]
def mm_u218 : List (List Nat) := [[], [], [], [1692,1694,59,117], [], [], [], [], [], [1719,1721,63,117], [], [], [], [], [], [1724,1726,64,117], [], [], [], [], [], [], [], [], [1733,1735,66,117], [], [], [1458,0], [], [], [], [], [], [], [], [], [], [], [], [], [1405,1407,44,117], [], [], [], [], [1451,1453,54,117], [], []]
def mm_u219 : List (List Nat) := [[], [1401,1403,43,117], [], [], [], [], [], [], [1461,0], [], [], [1458,0], [], [], [], [], [], []]
def mm_u220 : List (List Nat) := [[], [], [1463], [], [], [1465,0], [1467], [], [], [1466,0], [1468], [], [], [], [], [], [], [], [], [1458,0], [], [], [], [], [1458,0], [], [], [1461,0], [], [], [], [], [1461,0], [], [], [], [], [], [], [1741,1743,68,117], [], [], [], [], [], [], [1458,0], [], [], [1461,0], [], [], [], [], [], [], []]
def mm_u221 : List (List Nat) := [[], [], [1463], [], [], [1467], [], [], [1468], [], []]
def mm_u222 : List (List Nat) := [[], [], [], [1679], [1672,1673,117,0], [], [], [1680,1682,56,117], [], [], [1684,1686,57,117], [], [], [], [1688,1690,58,117], [1737,1739,67,117], [], [], [], [], [1458,0], [], [], [], [], [], [], [], [], [], [], [], [], [], [], [], [], [], [], [], [], [], [], []]
def mm_u223 : List (List Nat) := [[], [1458,0], [], [], [1458,0], [], [], [], [], [], [], []]
def mm_u224 : List (List Nat) := [[], [1458,0], [], [], [1723], [], [], [1680,1682,56,117], [], [], [1684,1686,57,117], [], [], [], [], [1749,1751,69,117], [1733,1735,66,117], [], [], [1458,0], [], [], [], [], [], [], [], [1458,0], [], [], [1458,0], [], [], [], [], [], [], [], [], [], [], [], [], [], [], [1737,1739,67,117], [], [], [], [], [1458,0], [], [], [], [], [], []]
def mm_u225 : List (List Nat) := [[], [], [], [], [1458,0], [], [], [], [], [1672,1673,117,0], []]
def mm_u226 : List (List Nat) := [[], [], [1757,1759,70,117], [], [], [], [], [1741,1743,68,117], [], [1458,0], [], [], [], [], [], [], [], [1458,0], [], [], [], [], [], [], [], [], [], [], [], [1749,1751,69,117], [], [], [], [], [], [], [], [], [], [1458,0], [], [], [], [], [1458,0], [], [], [], [], [], [], [], [], [1458,0], [], [], [], [], [1458,0], [], [], [], [], [], [], [], [], [], [], [], [], [], [], [1458,0], [], [], [], [], [1458,0], [], [], [], [], [], [], [], [], [1458,0], [], [], [], [], [1458,0], [], [], [], [], [], [], [], [], [], [], [], [], [], [], [], [1458,0], [], [], [], [], [], [], [], [1458,0], [], [], [], []]
def mm_u227 : List (List Nat) := [[], [], [], [1467,0], [], [], [], [], [], [1468,0], [], [], []]
def mm_u228 : List (List Nat) := [[], [], [], [1359], [1672,1673,117,0], [], [], [], [], [], [1359], [1672,1673,117,0], [], [], [1458,0], [], [], [], [], [], [], [1458,0], [], [], [], [], [], [], [], [], [1741,1743,68,117], [], [1458,0], [], [], [], [], [], [1458,0], [], [], [], [], [], []]
def mm_u229 : List (List Nat) := [[], [], [], [1359], [1672,1673,117,0], [], [], [], [], [1773], [1672,1673,117,0], [], [], [1458,0], [], [], [], [], [], [], [], [], [], [], [1741,1743,68,117], [], [1458,0], [], [], [], [], [], [], [], []]
def mm_u230 : List (List Nat) := [[], [], [], [1778], [1672,1673,117,0], [], [], [1458,0], [], [], [], [], [], [], [], [], [1741,1743,68,117], [], [1458,0], [], [], [], [], [], []]
def mm_u231 : List (List Nat) := [[], [1482,0], [], [], [], [1482,0], [], [], [], [], [1458,0], [], [], [], [], [], [1458,0], [], [], [], [], [], [], [], [], []]
def mm_u232 : List (List Nat) := [[], [1458,0], [], [], [], [], [], [], [], [], [], [], [], [], [], [], [], [], [], [1458,0], [], [], [], [], [], [1448,1449,117,0], [], [], [1458,0], [], [], [], [], [1821], [], [], [1458,0], [], [], [], [], [], [1481,0], [], [], [], [], [], [], [], [], [], [], [], [], [], [], [], [], [], [], [], [], [], [1458,0], [], [], [], [], [], [1448,1449,117,0], [], [], [], [1458,0], [], [], [], [], [], [], [], [], [], [], [], [], [1458,0], [], [], [], [], [], [], [], [], []]
def mm_u233 : List (List Nat) := [[], [], [], [], [], [], [], [1492,0], [], [], [], [], [], [], [], [], [], [1480,0], [], [1491,0], [], [], [], [], [], [], [], [], [], [], [], [], [], [], [], [], [], [], [], [], [], [1492,0], [], [], [], []]
def mm_u234 : List (List Nat) := [[], [], [], [1490,0], [], [], [], [], [], [], [], [], [], [], [], [], [], [], [], [1830,1832,81,117], [], [], [], [], [], [], [], [], [], [], []]
def mm_u235 : List (List Nat) := [[], [], [1480,0], [], [], [1826,1828,80,117], [], [], [], [1490,0], [], [], [], [1480,0], [], [], [], [1830,1832,81,117], [], [], [1490,0], [], [], [], [], [], [1491,0], [], [], [1491,0], [], [], [], [], [], [], [1492,0], [], [], [1492,0], [], [], [], [], [], [], [], [], [1491,0], [], [], [], [], [1492,0], [], [], [], [], [], [1490,0], [], [], [1490], [], [1485,0], [], [1484,0], [], [], [], [1486,0], [], [1484,0], [], [], [], [1489,0], [], [], [], [], [], [], [], [], [], [1484,0], [], [], [1484], []]
def mm_u236 : List (List Nat) := [[], [], [], [], [], [], [], [], [], [], [], [], [], [1838,997,122,0], [], [], [], [], [], [1489,0], [], [], [], [], [], [], [], [], [], [], [], [], [], [], []]
def mm_u237 : List (List Nat) := [[], [], [1749,1751,69,117], [1479], [], [], [], [], [], [1458,0], [], [], [], [], [1458,0], [], [], [], [], [], [], [], [], [], [1458,0], [], [], [], [], [], [], [], [], [1482,0], [], [], [], [], [1480,0], [], [], [], [1458,0], [], [], [], [], [1795,1797,74,117], [], [], [1481,0], [], [], [], [1458,0], [], [], [], [], [1805,1807,75,117], [], [], [], [], [], [], [], [], [], [], [1458,0], [], [], [], [], [1483,0], [], [], [], [1458,0], [], [], [], [], [1795,1797,74,117], [], [], [], [], [], [1501], [], [], [], [], [1479,0], [], [], [], [1480,0], [], [], [1809,1811,76,117], [], [], [], [1501,0], [], [], [1500,0], [], [], [], [1480,0], [], [], [], [], [], [1501,0], [], [], [], [], [], [1500,0], [], [], [1500,0], [], [], [], [], [], [], [], [], [1500,0], [], [], [1480,0], [], [], [], [], [], [1501,0], [], [], [1501], [], [], [], [], [], [], [1479,0], [], [], [1502,0], [], [], [], [1480,0], [], [], [1809,1811,76,117], [], [], [], []]
def mm_u238 : List (List Nat) := [[], [], [], [1501,0], [], [], [], [], [], [], [], [], [], [], [], [1500,0], [], [], [], [], [], [], [], [], [], [], [], [], [], []]
def mm_u239 : List (List Nat) := [[], [1478,0], [], [], [], [], [1478], [], [1791,1793,73,117], [], [], [1484], [], [], [1490], [], [], [], [], [], [], [1489,0], [], [], [], [], [], [], [], [], [], [1479,0], [], [], [], [], [], [], [1458,0], [], [], [], [], [], [], [], [1479,0], [], [], [], [], [], [], [], [], [1813,1815,77,117], [], [], [], [], [1458,0], [], [], [], [], [], [], [1817,1819,78,117], [], [], [], [], [1822,1824,79,117], [], [], [], [], [], [], [], [], [1490,0], [], [], [1493,0], [], [], [], [], [1494,0], [], [], [], [], [1496,0], [], [], [], [], [], [], [], [], [], [1484,0], [], [], [], [1480,0], [], [1485,0], [], [], [], [1486,0], [], [], [1826,1828,80,117], [], [], [1487,0], [], [], [], [], [1488,0], [], [], [], [1485,0], [], [], [], [1486,0], [], [], [1834,1836,82,117], [], [], [1493,0], [], [], [], [], [1495,0], [], [], [], [], [1493,0], [], [], [], [], [], [], [], [1494,0], [], [], [], [], [1488,0], [], [], [], [], [], [], [1455,1456,117,0], [], [], [], [1496,0], [], [], [], [], [], [1482,0], [], [1485,0], [], [], [], [], [], [], [], [], [], [], [], [], [1490,0], [], [], [], [1839,1841,83,117], [], [], [], [1851,1853,86,117], []]
def mm_u240 : List (List Nat) := [[], [], [], [], [1492,0], [], [], [], [], [1492,0], [], [], [], [], [], [1480,0], [], [1491,0], [], [], [], [], [], [1847,1849,85,117], [], [], [], [], [], [], []]
def mm_u241 : List (List Nat) := [[], [], [], [], [1492,0], [], [], [], [], [], [], [], [], [], [1480,0], [], [1491,0], [], [], [], [], [], [], [], [], [], [], [], []]
def mm_u242 : List (List Nat) := [[], [1497,0], [], [], [], [], [1498,0], [], [], [], [], [], [], [], [1490,0], [], [], [1492,0], [], [], [], [1492,0], [], [], [], [], [], [], [1843,1845,84,117], [], [], [], [1497,0], [], [], [], [], [], [], [], [1498,0], [], [], [], [], [1493,0], [], [], [], [], [], [], [], [1499,0], [], [], [], [], [], [], [], [1492,0], [], [], [], [], [], [1458,0], [], [], [], [], [1499,0], [], [], [], [], [1458,0], [], [], [], [], [], [1458,0], [], [], [], [], [1492,0], [], [], [], [], [], [], [], [], [], [1483,0], [], [], [1847,1849,85,117], [], [], [], [], [1455,1456,117,0], [], [], [], [], []]
def mm_u243 : List (List Nat) := [[], [], [], [], [1501,0], [], [], [1504,0], [], [], [], [], [], [], [1495,0], [], [], [], [], [], [1484,0], [], [], [1487,0], [], [], [], [], [], [], [], [], [], [], [1458,0], [], [], [], [], [1485,0], [], [], [], [], [], [], [1485,0], [], [], [], [1486,0], [], [], [], [], [], [], [], [], [], [], [], [], [], [1485,0], [], [], [1813,1815,77,117], [], [], [1504,0], [], [1502,0], [], [], [], [], [], [], [], [], [], [1479,0], [], [], [], [], [1485,0], [], [], [1813,1815,77,117], [], [], [1504,0], [], [1502,0], [], [], [], [], [], [], [], [], [], [], [], []]
def mm_u244 : List (List Nat) := [[], [], [], [], [1501,0], [], [], [1503,0], [], [], [], [], [], [], [], [], [], [1490,0], [], [], [], [1855,1857,87,117], [], [], [], [], [1501,0], [], [], [1503,0], [], [], [], [], [1504,0], [], [], [], [], [], [], [1455,1456,117,0], [], [], [], [], [], [], []]
def mm_u245 : List (List Nat) := [[], [], [], [], [], [], [], [], [], [], [], [], [], [], [], [], [], [], [], [], [], [], [], []]
def mm_u246 : List (List Nat) := [[], [], [1873,1874,117,0], [], [], [], [], [], [1505], [], [], [], [], [1506], []]
def mm_u247 : List (List Nat) := [[], [1458,0], [], [], [1492,0], [], [], [], [], [], [], [1497,0], [], [], [], [], [], [], [1493,0], [], [], [], [], [], [1869,1871,90,117], [], [], [], [], [1493,0], [], [], [], [], [1497,0], [], [], [], [], [], [1498,0], [], [], [], [], [], [], [1497,0], [], [], [], [1869,1871,90,117], []]
def mm_u248 : List (List Nat) := [[], [], [1493,0], [], [], [], [], [1458,0], [], [], [], [], [], [], [1499,0], [], [], [], [], [], [], [1479,0], [], [], [], [], [1869,1871,90,117], []]
def mm_u249 : List (List Nat) := [[], [], [1855,1857,87,117], [], [], [], [], [], [], [1501,0], [], [], [], [1504,0], [], [], [], [], [1503,0], [], [], [], [], [], [], [], [], [], [], [1876,1878,91,117], [], [1679], [], [1505,0], [], [], [1490,0], [], [], [], [], [1506,0], [], [], [1359], [], [1506,0], [], [], [1490,0], [], [], [1869,1871,90,117], []]
def mm_u250 : List (List Nat) := [[], [], [], [], [1493,0], [], [], [], [], [1869,1871,90,117], [], [], [], [1494,0], [], [], [], [], [1869,1871,90,117], [], [], [], [1876,1878,91,117], [], [], [], [1880,1882,92,117], [], [], [], [1876,1878,91,117], [], [1505,0], [], [], [1506,0], [], [], [], [1880,1882,92,117], [], [], [], [1505,0], [], [], [], [1506,0], [], [1869,1871,90,117], [], [], [], [1884,1886,93,117], [], [], [], [1496,0], [], [], [1888,1889,117,0], [], [], [1869,1871,90,117], []]
def mm_u251 : List (List Nat) := [[], [], [], [], [], [], [], [], [], [], [], [], [], [], [], [], [], [], []]
def mm_u252 : List (List Nat) := [[], [], [], [], [], [], [], [], [], [], [], [], [1941,1942,122,0], [], [], [], [1941,1942,122,0], [], [], [], [], [], [], [], [], [], [], [], [], [], [], [], [], [], [], [], [], [], [], [], [], [], [], [], [], [], [], [], [], [], [], [], [], [], [], [], [], [], [], [], [], [], [], [], [], [], [], [], [], [], [], [], [], [], [], [], [], [], [], [], [], [], [], [], [], [], [], [], [], [], [], [], [], [], [], []]
def mm_u253 : List (List Nat) := [[], [1507,0], [], [], [], [1508,0], [], [], [], [1507,0], [], [], [], [1508,0], [], [], [1938,1939,117,0], [], [], [], [], [1507,0], [], [], [], [1508,0], [], [], [], [1507,0], [], [], [], [1508,0], [], [], [1938,1939,117,0], [], [], [], [], [1493,0], [], [], [], [1493,0], [], [], [], [], [1493,0], [], [], [], [1493,0], [], [], [], [], [], [], [], [], [], [], [], [], [], []]
def mm_u254 : List (List Nat) := [[], [1787,1789,72,117], [], [], [], [], [1490,0], [], [], [], [], [1865,1867,89,117], [], [1507,0], [], [], [1505,0], [], [], [1508,0], [], [], [1506,0], [], [], [1509,0], [], [], [], [], [], [], [], [], [], [1490,0], [], [], [], [], [], [1490,0], [], [], [], [], [1490,0], [], [], [], [1929,843,122,0], [], [1490,0], [], [], [], [], [], [1929,843,122,0], [1930,1932,95,117], [], [], [], [], [], [], [], [], [], [], [], [1490,0], [], [], [1509,0], [], [], [1510,0], [], [], [], [], [], [], [], [], [], [], []]
def mm_u255 : List (List Nat) := [[], [], [], [], [], [], [], [], [], [], [], [], [], [], [], [], [], [1509,0], [], [], [], [1509,0], [], [], [1934,1936,96,117], [], [], [], [], [], [], [1510,0], [], [], [1509,0], [], [], [], [], [], [], [], [], [], [], [], [], [], [], []]
def mm_u256 : List (List Nat) := [[], [1787,1789,72,117], [], [], [], [], [1490,0], [], [], [], [1672,1673,117,0], []]
def mm_u257 : List (List Nat) := [[], [], [], [1863], [1672,1673,117,0], []]
def mm_u258 : List (List Nat) := [[], [], [1783,1785,71,117], [], [], [], [1859,1861,88,117], [], [1864], [], [], [], [], [1865,1867,89,117], [], [], [], [1506,0], [], [], [1505,0], []]
def mm_u259 : List (List Nat) := [[], [], [1783,1785,71,117], [], [], [], [1859,1861,88,117], [], [], [], [], [], [], [1865,1867,89,117], [], [1505,0], [], [], [1506,0], [], [], [1895,1896,124,0], []]
def mm_u260 : List (List Nat) := [[], [], [1783,1785,71,117], [], [], [], [1859,1861,88,117], [], [1909], [], [], [], [], [1865,1867,89,117], [], [1505,0], [], [], [1506,0], [], [], [1910], [], [1911,1912,125,0], []]
def mm_u261 : List (List Nat) := [[], [1787,1789,72,117], [], [], [1859,1861,88,117], [], [], [], [], [], [1490,0], [], [], [], [1672,1673,117,0], [], [], [], [], [], [1925,1927,94,117], [], [1509,0], [], [], []]
def mm_u262 : List (List Nat) := [[], [], [1783,1785,71,117], [], [], [], [1859,1861,88,117], [], [], [], [], [], [1925,1927,94,117], [], [], [], [1509,0], [], [], [], [], [], [], [], []]
def mm_u263 : List (List Nat) := [[], [1511,0], [], [1512,0], [], [], [], [], [1512,0], [], [], [1512], []]
def mm_u264 : List (List Nat) := [[], [], [], [], [], [], [], [], [1706,1707,117,0], [], [], [], [], [1964,1966,99,117], [], [1709], [], [1713], [], [], [], []]
def mm_u265 : List (List Nat) := [[], [], [], [], [1512,0], [], [], [], [], [], [1512,0], [], [], [], [1672,1673,117,0], [], [], [1511,0], [], [], [], [], []]
def mm_u266 : List (List Nat) := [[], [], [1757,1759,70,117], [], [], [], [], [], [1458,0], [], [], [], [], [], [], [], [1458,0], [], [], [], [], [], [], [], [1672,1673,117,0], [], [], [], [], []]
def mm_u267 : List (List Nat) := [[], [], [], [1956,1958,97,117], [], [], [], [], [1787,1789,72,117], [], [1458,0], [], [], [], [], [], [], [], [], [], [], [1512], [], [], [], [], [1480,0], [], [], [], [], [1458,0], [], [], [], [], [1960,1962,98,117], [], [1512,0], []]
def mm_u268 : List (List Nat) := [[], [], [], [1956,1958,97,117], [], [], [], [], [1787,1789,72,117], [], [1481,0], [], [1458,0], [], [], [], [], [], [], [], [], [1972,1973,117,0], []]
def mm_u269 : List (List Nat) := [[], [], [1757,1759,70,117], [], [], [], [], [1778], [1672,1673,117,0], [], [], [], [], [1787,1789,72,117], [], [1458,0], [], [], [], [], [], [], [], [1458,0], [], [], [], [], [], [], [], [], [], [], [], [], [], [], [], [], [], [], [], [], [], [], [], [], [], [], [], [], [], [1458,0], [], [], [], [], [], [1458,0], [], [], [], [], [], [], [], [], [], [], [1455,1456,117,0], [], [], [], [], [], [], [], [], [], [], [1484,0], [], [], [], [], [], [], [1482,0], [], [1485,0], [], [], [], [], [], [], [], [], [1455,1456,117,0], [], [], [], [], [], [], [], [], [1490,0], [], [], [], [], [], [], [1496,0], [], [], [], [], [], [], [], [], [], [], [], []]
def mm_u270 : List (List Nat) := [[], [1787,1789,72,117], [], [], [], [], [1484,0], [], [], [], [], [], [1484,0], [], [], [], [1672,1673,117,0], [], [], [], [], [], [], [1482,0], [], [1485,0], [], [], [], [], [], [1485,0], [], [], [], [1458,0], [], [], [1482,0], [], [1485,0], [], [], [], [], [], [], [], [], [], [1486,0], [], [], [], [], [1487,0], [], [], [], [], [1488,0], [], [], [1455,1456,117,0], [], [], []]
def mm_u271 : List (List Nat) := [[], [], [], [], [1486,0], [], [], [], [], [1458,0], [], [], [1485,0], [], [], [], [], [], [], [], [1458,0], [], [], [1485,0], [], [], [], [], [], [], [], [], [], [], [], [], []]
def mm_u272 : List (List Nat) := [[], [], [], [], [1486,0], [], [], [], [], [1458,0], [], [], [1485,0], [], [], [], [], [], [], [], [1458,0], [], [], [1485,0], [], [], [], [], [], [], [], [], [], [], [], [], [], [], [], [], [], [], [], [], [], []]
def mm_u273 : List (List Nat) := [[], [], [1513], [], [1495,0], [], [], [], [], [], [1484,0], [], [], [1487,0], [], [], [], [], [], [], [], [], [], [1513,0], [], [], [], [], [1515,0], [], [], [1991,1993,101,117], [], [], [], [], [], [1513,0], [], [], [1515,0], [], [], [], [], [1516,0], [], [], [], [], [], [1513,0], [], [], [1513], [], [1516,0], [], [], [], [], [], [], [], [], [], [], [], [], [], [], [1513,0], [], [], [1516,0], [], [], [], [1516,0], [], [], [], [], [1516,0], [], [], [], [1516,0], [], [], [], [], [], [1515,0], [], [], [], [1515,0], [], [], [1995,1997,102,117], [], [], [], [], [], [], [], [1515,0], [], [], [1514], []]
def mm_u274 : List (List Nat) := [[], [], [1783,1785,71,117], [], [], [], [], [], [1987,1989,100,117], [], [], [1512], [], [], [], [], [1492,0], [], [], [], [], [], [], [], [1964,1966,99,117], [], [], [], [], [1458,0], [], [], [1485,0], [], [1514,0], [], [], [], [], [], [], [], [1480,0], [], [1491,0], [], [], [], [], [], [1960,1962,98,117], [], [], [], [1512,0], []]
def mm_u275 : List (List Nat) := [[], [1787,1789,72,117], [], [1401,1403,43,117], [], [], [], [], [], [], [], [1421,1423,48,117], [], [], [], [1696,1698,60,117], [], [], [], [], [], [], [], [1517,0], [], [], [], [1469,0], [1795,1797,74,117], [], [], [], [], [], [1463], [], [], [], [], [], [], [], [], [], [], [], [1517,0], [], [], [1826,1828,80,117], [], [], [], [1490,0], [], [], [], [1517,0], [], [], [], [1830,1832,81,117], [], [], [], [], []]
def mm_u276 : List (List Nat) := [[], [], [1855,1857,87,117], [], [], [], [], [], [], [1501,0], [], [], [], [1504,0], [], [], [], [], [], [], [1455,1456,117,0], [], [], [], [], [], []]
def mm_u277 : List (List Nat) := [[], [1787,1789,72,117], [], [], [], [], [1490,0], [], [], [], [1783,1785,71,117], [], [], [], [], [], [], [1493,0], [], [], [], [], [1494,0], [], [], [], [], [1497,0], [], [], [], [], [1498,0], [], [], [], [], [], [1987,1989,100,117], [], [1513,0], [], [], [1499,0], [], [], [], [], [1492,0], [], [], [], [], [1496,0], [], [], [], [], [], [2007,2009,103,117], [], [], [1495,0], [], [], [], [], []]
def mm_u278 : List (List Nat) := [[], [], [1783,1785,71,117], [], [], [], [], [], [], [], [1497,0], [], [], [], [], [], [], [], [], [], [1490,0], [], [], [], [], [1492,0], [], [], [], [1492,0], [], [], [], [], [], [], [1843,1845,84,117], [], [], [], [], [], [], [], [], [], [], []]
def mm_u279 : List (List Nat) := [[], [], [1783,1785,71,117], [], [], [], [], [], [], [], [1855,1857,87,117], [], [], [], [], [], [], [1501,0], [], [], [1504,0], [], [], [], [], [], [], [], [], [1512], [], [], [1500,0], [], [], [1960,1962,98,117], [], [1504,0], [], [], [], [], [], [], [], []]
def mm_u280 : List (List Nat) := [[], [1512,0], [], [], [2023], [1672,1673,117,0], [], [1909], [], [], [], [], [1706,1707,117,0], [], [], [], [], [], [1512,0], [], [], [1511,0], [], [], [], [], [1909], [], [], [], [1511,0], [], [], [], [], [], [], [], [], [], [], [1709], [], [], [], [], [], [1787,1789,72,117], [], [], [1809,1811,76,117], [], [], [1490,0], [], [], [], [1501,0], [], [], [1500,0], [], [], [], [], [], [1503,0], [], [], [], [], [], [], [], [], [], [], [], [1503,0], [], [], [], [], [1490,0], [], [1869,1871,90,117], [], [], [], [1506,0], [], [], [1505,0], []]
def mm_u281 : List (List Nat) := [[], [1787,1789,72,117], [], [], [], [], [1501,0], [], [], [1518,0], [], [], [], [], [], [], [], [], [], [1490,0], [], [], [1502,0], [], [1491,0], [], [], [], [1492,0], [], [], [], [], [], [], [], [], [1518,0], [], [], [], [], [1519,0], [], [], [], [], [1520,0], [], [], [], [], [1518,0], [], [], [], [], [], [], [], [1519,0], [], [], [], [], [1493,0], [], [], [], [], [], [], [], [], [], [], [], [], [1501,0], [], [], [1518,0], [], [], [], [], [], [], [], [], [], [], [1518,0], [], [], [], [], [], [], [], [1519,0], [], [], [], [], [], [], [], [1520,0], [], [], [], [], [], [], [], [], [], [], [], [], [], [], []]
def mm_u282 : List (List Nat) := [[], [1787,1789,72,117], [], [], [1859,1861,88,117], [], [], [], [], [], [1490,0], [], [1672,1673,117,0], [], [], [], [], [], [1925,1927,94,117], [], [], [], [], [1490,0], [], [], [1522,0], [], [], [], [], [], [], [], [], [], [], [], [1522,0], [], [1509,0], [], [], [], [], [], [], [], [], [], [], [1479,0], [], [], [1521,0], [], [], [], [], [], [], [], [], [], [1484,0], [], [], [], [], [], [1486,0], [], [], [], [], [1522,0], [], [1487,0], [], [], [], [], [], [1521,0], [], [1485,0], [], [], [], [], [], [], [], [], [], [], [], [], [], [], [], [], [1479,0], [], [], [], [1521,0], [], [], [1455,1456,117,0], [], [], [], [], [], []]
def mm_u283 : List (List Nat) := [[], [], [], [1458,0], [], [], [], [], [], [1458,0], [], [], [], [], [], [1458,0], [], [], [], [], [], [1458,0], [], [], [], [], [], [1749,1751,69,117], [], [], [1458,0], [], [], [], [], [], [1458,0], [], [], [], [], [], [1458,0], [], [], [], [], [], [1458,0], [], [], [], [], [], [1460,0], [], [], [1463,0], [], [], []]
def mm_u284 : List (List Nat) := [[], [], [], [], [], [], [], []]
def mm_u285 : List (List Nat) := [[], [1914,1915,125,0], [], [], [1917], [], [1920], []]
def mm_u286 : List (List Nat) := [[], [], [], [], [], [], [], []]
def mm_u287 : List (List Nat) := [[], [1898,1899,124,0], [], [], [1901], [], [1904], []]
def mm_u288 : List (List Nat) := [[], [], [], [], [1214], [], [], [], [], [1215], [], [], [], [], [1215], [], [], [], [], [], [], [], [], [1216], [], [], [], [], [], [], [], [], [], [], [], [], [], [], [], [], [], []]
def mm_u289 : List (List Nat) := [[], [], [], [], [], [], [], [], [], [], [], [], [], [], [], [], [], [], [], []]
def mm_u290 : List (List Nat) := [[], [], [], [], [], [], [], []]
def mm_u291 : List (List Nat) := [[], [], [], [], [], [], []]
def mm_u292 : List (List Nat) := [[], [], [], [], [], [], []]
def mm_u293 : List (List Nat) := [[126,127,105], [], [128,129,105,0], [], [1352,1353,117], [], [1354,1355,117,0], [], [], [], [], [], [], [], [], [], [], [], [], [], [], [], [], [], [], [], [], [], [], [], [], [], [], [], [], [], [], [], [], [], [], [], [], [], [], [], [], [], [600,601,602,105], [], [], [], [], [], [], [], [], [], [], [], [], [], [], [], [], [], [], [], [], [], [], [], [], [], [], [1660,1661,1662,117], [], [], [], [], [], [], [], [], [], [613,614,615,105], [], [], [], [], [], [], [1668,1669,1670,117], [], [], [], [], [], [], [], [], [], [617,618,619,105], [], [], [], [], [], [], [1675,1676,1677,117], [], [], [], [], [849,850,851,105], [], [1745,1746,1747,117], [], [], [], [], [], [], [], [], [], [857,858,859,105], [], [], [], [], [], [], [1753,1754,1755,117], [], [], [], [], [], [], [], [], [], [879,880,881,105], [], [], [], [], [], [], [1761,1762,1763,117], [], [], [], [], [], [], [], [], [], [], [], [], [], [], [883,884,885,105], [], [], [], [], [], [], [], [], [], [], [], [1765,1766,1767,117], [], [], [], [], [], [], [], [], [], [], [], [], [], [], [887,888,889,105], [], [], [], [], [], [], [], [], [], [], [], [1769,1770,1771,117], [], [], [], [], [], [], [], [], [], [893,894,895,105], [], [], [], [], [], [], [1774,1775,1776,117], [], [], [], [], [897,898,899,105], [], [1656,1657,1658,117], [], [], [], [], [], [], [], [], [], [], [], [], [], [], [901,902,903,105], [], [], [], [], [], [], [], [], [], [], [], [1975,1976,1977,117], [], [], [], [], [], [], [], [], [], [], [], [], [], [], [], [], [], [], [], [], [], [], [], [1108,1109,1110,105], [], [], [], [], [], [], [], [], [], [], [], [], [], [], [], [], [], [], [], [], [1952,1953,1954,117], [], [], [], [], [], [], [], [], [], [], [], [], [], [], [1124,1125,1126,105], [], [], [], [], [], [], [], [], [], [], [], [1968,1969,1970,117], [], [], [], [], [], [], [], [], [], [], [], [], [], [], [1129,1130,1131,105], [], [], [], [], [], [], [], [], [], [], [], [1979,1980,1981,117], [], [], [], [], [], [], [], [], [], [], [], [], [], [], [], [], [], [], [1134,1135,1136,105], [], [], [], [], [], [], [], [], [], [], [], [], [], [], [], [1983,1984,1985,117], [], [], [], [], [], [], [], [], [], [1140,1141,1142,105], [], [], [], [], [], [], [1948,1949,1950,117], [], [], [], [], [1144,1145,1146,105], [], [1999,2000,2001,117], [], [], [], [], [], [], [], [], [], [], [], [], [], [], [1157,1158,1159,105], [], [], [], [], [], [], [], [], [], [], [], [2003,2004,2005,117], [], [], [], [], [], [], [], [], [], [], [], [], [], [], [], [], [], [], [], [], [], [], [], [1165,1166,1167,105], [], [], [], [], [], [], [], [], [], [], [], [], [], [], [], [], [], [], [], [], [1779,1780,1781,117], [], [], [], [], [], [], [], [], [], [], [], [], [], [], [1218,1219,1220,105], [], [], [], [], [], [], [], [], [], [], [], [1891,1892,1893,117], [], [], [], [], [], [], [], [], [], [], [], [], [], [], [1235,1236,1237,105], [], [], [], [], [], [], [], [], [], [], [], [1905,1906,1907,117], [], [], [], [], [], [], [], [], [], [], [], [], [], [], [1248,1249,1250,105], [], [], [], [], [], [], [], [], [], [], [], [1921,1922,1923,117], [], [], [], [], [], [], [], [], [], [], [], [], [], [], [1266,1267,1268,105], [], [], [], [], [], [], [], [], [], [], [], [1944,1945,1946,117], [], [], [], [], [], [], [], [], [], [], [], [], [], [], [1275,1276,1277,105], [], [], [], [], [], [], [], [], [], [], [], [2011,2012,2013,117], [], [], [], [], [], [], [], [], [], [], [], [], [], [], [1288,1289,1290,105], [], [], [], [], [], [], [], [], [], [], [], [2015,2016,2017,117], [], [], [], [], [], [], [], [], [], [], [], [], [], [1300,1301,1302,105], [], [], [], [], [], [], [], [], [], [], [2019,2020,2021,117], [], [], [], [], [], [], [], [], [], [], [], [], [], [], [1316,1317,1318,105], [], [], [], [], [], [], [], [], [], [], [], [2024,2025,2026,117], [], [], [], [], [], [], [], [], [], [], [], [], [], [], [1334,1335,1336,105], [], [], [], [], [], [], [], [], [], [], [], [2028,2029,2030,117], [], [], [], [], [], [], [], [], [], [1348,1349,1350,105], [], [], [], [], [], [], [2032,2033,2034,117], [], [], [], [], [], [], []]
theorem mm_c0 : mm_ckM 0 mm_u0 = true := by decide +kernel
theorem mm_c1 : mm_ckM 1 mm_u1 = true := by decide +kernel
theorem mm_c2 : mm_ckM 2 mm_u2 = true := by decide +kernel
theorem mm_c3 : mm_ckM 3 mm_u3 = true := by decide +kernel
theorem mm_c4 : mm_ckM 4 mm_u4 = true := by decide +kernel
theorem mm_c5 : mm_ckM 5 mm_u5 = true := by decide +kernel
theorem mm_c6 : mm_ckM 6 mm_u6 = true := by decide +kernel
theorem mm_c7 : mm_ckM 7 mm_u7 = true := by decide +kernel
theorem mm_c8 : mm_ckM 8 mm_u8 = true := by decide +kernel
theorem mm_c9 : mm_ckM 9 mm_u9 = true := by decide +kernel
theorem mm_c10 : mm_ckM 10 mm_u10 = true := by decide +kernel
theorem mm_c11 : mm_ckM 11 mm_u11 = true := by decide +kernel
theorem mm_c12 : mm_ckM 12 mm_u12 = true := by decide +kernel
theorem mm_c13 : mm_ckM 13 mm_u13 = true := by decide +kernel
theorem mm_c14 : mm_ckM 14 mm_u14 = true := by decide +kernel
theorem mm_c15 : mm_ckM 15 mm_u15 = true := by decide +kernel
theorem mm_c16 : mm_ckM 16 mm_u16 = true := by decide +kernel
theorem mm_c17 : mm_ckM 17 mm_u17 = true := by decide +kernel
theorem mm_c18 : mm_ckM 18 mm_u18 = true := by decide +kernel
theorem mm_c19 : mm_ckM 19 mm_u19 = true := by decide +kernel
theorem mm_c20 : mm_ckM 20 mm_u20 = true := by decide +kernel
theorem mm_c21 : mm_ckM 21 mm_u21 = true := by decide +kernel
theorem mm_c22 : mm_ckM 22 mm_u22 = true := by decide +kernel
theorem mm_c23 : mm_ckM 23 mm_u23 = true := by decide +kernel
theorem mm_c24 : mm_ckM 24 mm_u24 = true := by decide +kernel
theorem mm_c25 : mm_ckM 25 mm_u25 = true := by decide +kernel
theorem mm_c26 : mm_ckM 26 mm_u26 = true := by decide +kernel
theorem mm_c27 : mm_ckM 27 mm_u27 = true := by decide +kernel
theorem mm_c28 : mm_ckM 28 mm_u28 = true := by decide +kernel
theorem mm_c29 : mm_ckM 29 mm_u29 = true := by decide +kernel
theorem mm_c30 : mm_ckM 30 mm_u30 = true := by decide +kernel
theorem mm_c31 : mm_ckM 31 mm_u31 = true := by decide +kernel
theorem mm_c32 : mm_ckM 32 mm_u32 = true := by decide +kernel
theorem mm_c33 : mm_ckM 33 mm_u33 = true := by decide +kernel
theorem mm_c34 : mm_ckM 34 mm_u34 = true := by decide +kernel
theorem mm_c35 : mm_ckM 35 mm_u35 = true := by decide +kernel
theorem mm_c36 : mm_ckM 36 mm_u36 = true := by decide +kernel
theorem mm_c37 : mm_ckM 37 mm_u37 = true := by decide +kernel
theorem mm_c38 : mm_ckM 38 mm_u38 = true := by decide +kernel
theorem mm_c39 : mm_ckM 39 mm_u39 = true := by decide +kernel
theorem mm_c40 : mm_ckM 40 mm_u40 = true := by decide +kernel
theorem mm_c41 : mm_ckM 41 mm_u41 = true := by decide +kernel
theorem mm_c42 : mm_ckM 42 mm_u42 = true := by decide +kernel
theorem mm_c43 : mm_ckM 43 mm_u43 = true := by decide +kernel
theorem mm_c44 : mm_ckM 44 mm_u44 = true := by decide +kernel
theorem mm_c45 : mm_ckM 45 mm_u45 = true := by decide +kernel
theorem mm_c46 : mm_ckM 46 mm_u46 = true := by decide +kernel
theorem mm_c47 : mm_ckM 47 mm_u47 = true := by decide +kernel
theorem mm_c48 : mm_ckM 48 mm_u48 = true := by decide +kernel
theorem mm_c49 : mm_ckM 49 mm_u49 = true := by decide +kernel
theorem mm_c50 : mm_ckM 50 mm_u50 = true := by decide +kernel
theorem mm_c51 : mm_ckM 51 mm_u51 = true := by decide +kernel
theorem mm_c52 : mm_ckM 52 mm_u52 = true := by decide +kernel
theorem mm_c53 : mm_ckM 53 mm_u53 = true := by decide +kernel
theorem mm_c54 : mm_ckM 54 mm_u54 = true := by decide +kernel
theorem mm_c55 : mm_ckM 55 mm_u55 = true := by decide +kernel
theorem mm_c56 : mm_ckM 56 mm_u56 = true := by decide +kernel
theorem mm_c57 : mm_ckM 57 mm_u57 = true := by decide +kernel
theorem mm_c58 : mm_ckM 58 mm_u58 = true := by decide +kernel
theorem mm_c59 : mm_ckM 59 mm_u59 = true := by decide +kernel
theorem mm_c60 : mm_ckM 60 mm_u60 = true := by decide +kernel
theorem mm_c61 : mm_ckM 61 mm_u61 = true := by decide +kernel
theorem mm_c62 : mm_ckM 62 mm_u62 = true := by decide +kernel
theorem mm_c63 : mm_ckM 63 mm_u63 = true := by decide +kernel
theorem mm_c64 : mm_ckM 64 mm_u64 = true := by decide +kernel
theorem mm_c65 : mm_ckM 65 mm_u65 = true := by decide +kernel
theorem mm_c66 : mm_ckM 66 mm_u66 = true := by decide +kernel
theorem mm_c67 : mm_ckM 67 mm_u67 = true := by decide +kernel
theorem mm_c68 : mm_ckM 68 mm_u68 = true := by decide +kernel
theorem mm_c69 : mm_ckM 69 mm_u69 = true := by decide +kernel
theorem mm_c70 : mm_ckM 70 mm_u70 = true := by decide +kernel
theorem mm_c71 : mm_ckM 71 mm_u71 = true := by decide +kernel
theorem mm_c72 : mm_ckM 72 mm_u72 = true := by decide +kernel
theorem mm_c73 : mm_ckM 73 mm_u73 = true := by decide +kernel
theorem mm_c74 : mm_ckM 74 mm_u74 = true := by decide +kernel
theorem mm_c75 : mm_ckM 75 mm_u75 = true := by decide +kernel
theorem mm_c76 : mm_ckM 76 mm_u76 = true := by decide +kernel
theorem mm_c77 : mm_ckM 77 mm_u77 = true := by decide +kernel
theorem mm_c78 : mm_ckM 78 mm_u78 = true := by decide +kernel
theorem mm_c79 : mm_ckM 79 mm_u79 = true := by decide +kernel
theorem mm_c80 : mm_ckM 80 mm_u80 = true := by decide +kernel
theorem mm_c81 : mm_ckM 81 mm_u81 = true := by decide +kernel
theorem mm_c82 : mm_ckM 82 mm_u82 = true := by decide +kernel
theorem mm_c83 : mm_ckM 83 mm_u83 = true := by decide +kernel
theorem mm_c84 : mm_ckM 84 mm_u84 = true := by decide +kernel
theorem mm_c85 : mm_ckM 85 mm_u85 = true := by decide +kernel
theorem mm_c86 : mm_ckM 86 mm_u86 = true := by decide +kernel
theorem mm_c87 : mm_ckM 87 mm_u87 = true := by decide +kernel
theorem mm_c88 : mm_ckM 88 mm_u88 = true := by decide +kernel
theorem mm_c89 : mm_ckM 89 mm_u89 = true := by decide +kernel
theorem mm_c90 : mm_ckM 90 mm_u90 = true := by decide +kernel
theorem mm_c91 : mm_ckM 91 mm_u91 = true := by decide +kernel
theorem mm_c92 : mm_ckM 92 mm_u92 = true := by decide +kernel
theorem mm_c93 : mm_ckM 93 mm_u93 = true := by decide +kernel
theorem mm_c94 : mm_ckM 94 mm_u94 = true := by decide +kernel
theorem mm_c95 : mm_ckM 95 mm_u95 = true := by decide +kernel
theorem mm_c96 : mm_ckM 96 mm_u96 = true := by decide +kernel
theorem mm_c97 : mm_ckM 97 mm_u97 = true := by decide +kernel
theorem mm_c98 : mm_ckM 98 mm_u98 = true := by decide +kernel
theorem mm_c99 : mm_ckM 99 mm_u99 = true := by decide +kernel
theorem mm_c100 : mm_ckM 100 mm_u100 = true := by decide +kernel
theorem mm_c101 : mm_ckM 101 mm_u101 = true := by decide +kernel
theorem mm_c102 : mm_ckM 102 mm_u102 = true := by decide +kernel
theorem mm_c103 : mm_ckM 103 mm_u103 = true := by decide +kernel
theorem mm_c104 : mm_ckM 104 mm_u104 = true := by decide +kernel
theorem mm_c105 : mm_ckM 105 mm_u105 = true := by decide +kernel
theorem mm_c106 : mm_ckM 106 mm_u106 = true := by decide +kernel
theorem mm_c107 : mm_ckM 107 mm_u107 = true := by decide +kernel
theorem mm_c108 : mm_ckM 108 mm_u108 = true := by decide +kernel
theorem mm_c109 : mm_ckM 109 mm_u109 = true := by decide +kernel
theorem mm_c110 : mm_ckM 110 mm_u110 = true := by decide +kernel
theorem mm_c111 : mm_ckM 111 mm_u111 = true := by decide +kernel
theorem mm_c112 : mm_ckM 112 mm_u112 = true := by decide +kernel
theorem mm_c113 : mm_ckM 113 mm_u113 = true := by decide +kernel
theorem mm_c114 : mm_ckM 114 mm_u114 = true := by decide +kernel
theorem mm_c115 : mm_ckM 115 mm_u115 = true := by decide +kernel
theorem mm_c116 : mm_ckM 116 mm_u116 = true := by decide +kernel
theorem mm_c117 : mm_ckM 117 mm_u117 = true := by decide +kernel
theorem mm_c118 : mm_ckM 118 mm_u118 = true := by decide +kernel
theorem mm_c119 : mm_ckM 119 mm_u119 = true := by decide +kernel
theorem mm_c120 : mm_ckM 120 mm_u120 = true := by decide +kernel
theorem mm_c121 : mm_ckM 121 mm_u121 = true := by decide +kernel
theorem mm_c122 : mm_ckM 122 mm_u122 = true := by decide +kernel
theorem mm_c123 : mm_ckM 123 mm_u123 = true := by decide +kernel
theorem mm_c124 : mm_ckM 124 mm_u124 = true := by decide +kernel
theorem mm_c125 : mm_ckM 125 mm_u125 = true := by decide +kernel
theorem mm_c126 : mm_ckM 126 mm_u126 = true := by decide +kernel
theorem mm_c127 : mm_ckM 127 mm_u127 = true := by decide +kernel
theorem mm_c128 : mm_ckM 128 mm_u128 = true := by decide +kernel
theorem mm_c129 : mm_ckM 129 mm_u129 = true := by decide +kernel
theorem mm_c130 : mm_ckM 130 mm_u130 = true := by decide +kernel
theorem mm_c131 : mm_ckM 131 mm_u131 = true := by decide +kernel
theorem mm_c132 : mm_ckM 132 mm_u132 = true := by decide +kernel
theorem mm_c133 : mm_ckM 133 mm_u133 = true := by decide +kernel
theorem mm_c134 : mm_ckM 134 mm_u134 = true := by decide +kernel
theorem mm_c135 : mm_ckM 135 mm_u135 = true := by decide +kernel
theorem mm_c136 : mm_ckM 136 mm_u136 = true := by decide +kernel
theorem mm_c137 : mm_ckM 137 mm_u137 = true := by decide +kernel
theorem mm_c138 : mm_ckM 138 mm_u138 = true := by decide +kernel
theorem mm_c139 : mm_ckM 139 mm_u139 = true := by decide +kernel
theorem mm_c140 : mm_ckM 140 mm_u140 = true := by decide +kernel
theorem mm_c141 : mm_ckM 141 mm_u141 = true := by decide +kernel
theorem mm_c142 : mm_ckM 142 mm_u142 = true := by decide +kernel
theorem mm_c143 : mm_ckM 143 mm_u143 = true := by decide +kernel
theorem mm_c144 : mm_ckM 144 mm_u144 = true := by decide +kernel
theorem mm_c145 : mm_ckM 145 mm_u145 = true := by decide +kernel
theorem mm_c146 : mm_ckM 146 mm_u146 = true := by decide +kernel
theorem mm_c147 : mm_ckM 147 mm_u147 = true := by decide +kernel
theorem mm_c148 : mm_ckM 148 mm_u148 = true := by decide +kernel
theorem mm_c149 : mm_ckM 149 mm_u149 = true := by decide +kernel
theorem mm_c150 : mm_ckM 150 mm_u150 = true := by decide +kernel
theorem mm_c151 : mm_ckM 151 mm_u151 = true := by decide +kernel
theorem mm_c152 : mm_ckM 152 mm_u152 = true := by decide +kernel
theorem mm_c153 : mm_ckM 153 mm_u153 = true := by decide +kernel
theorem mm_c154 : mm_ckM 154 mm_u154 = true := by decide +kernel
theorem mm_c155 : mm_ckM 155 mm_u155 = true := by decide +kernel
theorem mm_c156 : mm_ckM 156 mm_u156 = true := by decide +kernel
theorem mm_c157 : mm_ckM 157 mm_u157 = true := by decide +kernel
theorem mm_c158 : mm_ckM 158 mm_u158 = true := by decide +kernel
theorem mm_c159 : mm_ckM 159 mm_u159 = true := by decide +kernel
theorem mm_c160 : mm_ckM 160 mm_u160 = true := by decide +kernel
theorem mm_c161 : mm_ckM 161 mm_u161 = true := by decide +kernel
theorem mm_c162 : mm_ckM 162 mm_u162 = true := by decide +kernel
theorem mm_c163 : mm_ckM 163 mm_u163 = true := by decide +kernel
theorem mm_c164 : mm_ckM 164 mm_u164 = true := by decide +kernel
theorem mm_c165 : mm_ckM 165 mm_u165 = true := by decide +kernel
theorem mm_c166 : mm_ckM 166 mm_u166 = true := by decide +kernel
theorem mm_c167 : mm_ckM 167 mm_u167 = true := by decide +kernel
theorem mm_c168 : mm_ckM 168 mm_u168 = true := by decide +kernel
theorem mm_c169 : mm_ckM 169 mm_u169 = true := by decide +kernel
theorem mm_c170 : mm_ckM 170 mm_u170 = true := by decide +kernel
theorem mm_c171 : mm_ckM 171 mm_u171 = true := by decide +kernel
theorem mm_c172 : mm_ckM 172 mm_u172 = true := by decide +kernel
theorem mm_c173 : mm_ckM 173 mm_u173 = true := by decide +kernel
theorem mm_c174 : mm_ckM 174 mm_u174 = true := by decide +kernel
theorem mm_c175 : mm_ckM 175 mm_u175 = true := by decide +kernel
theorem mm_c176 : mm_ckM 176 mm_u176 = true := by decide +kernel
theorem mm_c177 : mm_ckM 177 mm_u177 = true := by decide +kernel
theorem mm_c178 : mm_ckM 178 mm_u178 = true := by decide +kernel
theorem mm_c179 : mm_ckM 179 mm_u179 = true := by decide +kernel
theorem mm_c180 : mm_ckM 180 mm_u180 = true := by decide +kernel
theorem mm_c181 : mm_ckM 181 mm_u181 = true := by decide +kernel
theorem mm_c182 : mm_ckM 182 mm_u182 = true := by decide +kernel
theorem mm_c183 : mm_ckM 183 mm_u183 = true := by decide +kernel
theorem mm_c184 : mm_ckM 184 mm_u184 = true := by decide +kernel
theorem mm_c185 : mm_ckM 185 mm_u185 = true := by decide +kernel
theorem mm_c186 : mm_ckM 186 mm_u186 = true := by decide +kernel
theorem mm_c187 : mm_ckM 187 mm_u187 = true := by decide +kernel
theorem mm_c188 : mm_ckM 188 mm_u188 = true := by decide +kernel
theorem mm_c189 : mm_ckM 189 mm_u189 = true := by decide +kernel
theorem mm_c190 : mm_ckM 190 mm_u190 = true := by decide +kernel
theorem mm_c191 : mm_ckM 191 mm_u191 = true := by decide +kernel
theorem mm_c192 : mm_ckM 192 mm_u192 = true := by decide +kernel
theorem mm_c193 : mm_ckM 193 mm_u193 = true := by decide +kernel
theorem mm_c194 : mm_ckM 194 mm_u194 = true := by decide +kernel
theorem mm_c195 : mm_ckM 195 mm_u195 = true := by decide +kernel
theorem mm_c196 : mm_ckM 196 mm_u196 = true := by decide +kernel
theorem mm_c197 : mm_ckM 197 mm_u197 = true := by decide +kernel
theorem mm_c198 : mm_ckM 198 mm_u198 = true := by decide +kernel
theorem mm_c199 : mm_ckM 199 mm_u199 = true := by decide +kernel
theorem mm_c200 : mm_ckM 200 mm_u200 = true := by decide +kernel
theorem mm_c201 : mm_ckM 201 mm_u201 = true := by decide +kernel
theorem mm_c202 : mm_ckM 202 mm_u202 = true := by decide +kernel
theorem mm_c203 : mm_ckM 203 mm_u203 = true := by decide +kernel
theorem mm_c204 : mm_ckM 204 mm_u204 = true := by decide +kernel
theorem mm_c205 : mm_ckM 205 mm_u205 = true := by decide +kernel
theorem mm_c206 : mm_ckM 206 mm_u206 = true := by decide +kernel
theorem mm_c207 : mm_ckM 207 mm_u207 = true := by decide +kernel
theorem mm_c208 : mm_ckM 208 mm_u208 = true := by decide +kernel
theorem mm_c209 : mm_ckM 209 mm_u209 = true := by decide +kernel
theorem mm_c210 : mm_ckM 210 mm_u210 = true := by decide +kernel
theorem mm_c211 : mm_ckM 211 mm_u211 = true := by decide +kernel
theorem mm_c212 : mm_ckM 212 mm_u212 = true := by decide +kernel
theorem mm_c213 : mm_ckM 213 mm_u213 = true := by decide +kernel
theorem mm_c214 : mm_ckM 214 mm_u214 = true := by decide +kernel
theorem mm_c215 : mm_ckM 215 mm_u215 = true := by decide +kernel
theorem mm_c216 : mm_ckM 216 mm_u216 = true := by decide +kernel
theorem mm_c217 : mm_ckM 217 mm_u217 = true := by decide +kernel
theorem mm_c218 : mm_ckM 218 mm_u218 = true := by decide +kernel
theorem mm_c219 : mm_ckM 219 mm_u219 = true := by decide +kernel
theorem mm_c220 : mm_ckM 220 mm_u220 = true := by decide +kernel
theorem mm_c221 : mm_ckM 221 mm_u221 = true := by decide +kernel
theorem mm_c222 : mm_ckM 222 mm_u222 = true := by decide +kernel
theorem mm_c223 : mm_ckM 223 mm_u223 = true := by decide +kernel
theorem mm_c224 : mm_ckM 224 mm_u224 = true := by decide +kernel
theorem mm_c225 : mm_ckM 225 mm_u225 = true := by decide +kernel
theorem mm_c226 : mm_ckM 226 mm_u226 = true := by decide +kernel
theorem mm_c227 : mm_ckM 227 mm_u227 = true := by decide +kernel
theorem mm_c228 : mm_ckM 228 mm_u228 = true := by decide +kernel
theorem mm_c229 : mm_ckM 229 mm_u229 = true := by decide +kernel
theorem mm_c230 : mm_ckM 230 mm_u230 = true := by decide +kernel
theorem mm_c231 : mm_ckM 231 mm_u231 = true := by decide +kernel
theorem mm_c232 : mm_ckM 232 mm_u232 = true := by decide +kernel
theorem mm_c233 : mm_ckM 233 mm_u233 = true := by decide +kernel
theorem mm_c234 : mm_ckM 234 mm_u234 = true := by decide +kernel
theorem mm_c235 : mm_ckM 235 mm_u235 = true := by decide +kernel
theorem mm_c236 : mm_ckM 236 mm_u236 = true := by decide +kernel
theorem mm_c237 : mm_ckM 237 mm_u237 = true := by decide +kernel
theorem mm_c238 : mm_ckM 238 mm_u238 = true := by decide +kernel
theorem mm_c239 : mm_ckM 239 mm_u239 = true := by decide +kernel
theorem mm_c240 : mm_ckM 240 mm_u240 = true := by decide +kernel
theorem mm_c241 : mm_ckM 241 mm_u241 = true := by decide +kernel
theorem mm_c242 : mm_ckM 242 mm_u242 = true := by decide +kernel
theorem mm_c243 : mm_ckM 243 mm_u243 = true := by decide +kernel
theorem mm_c244 : mm_ckM 244 mm_u244 = true := by decide +kernel
theorem mm_c245 : mm_ckM 245 mm_u245 = true := by decide +kernel
theorem mm_c246 : mm_ckM 246 mm_u246 = true := by decide +kernel
theorem mm_c247 : mm_ckM 247 mm_u247 = true := by decide +kernel
theorem mm_c248 : mm_ckM 248 mm_u248 = true := by decide +kernel
theorem mm_c249 : mm_ckM 249 mm_u249 = true := by decide +kernel
theorem mm_c250 : mm_ckM 250 mm_u250 = true := by decide +kernel
theorem mm_c251 : mm_ckM 251 mm_u251 = true := by decide +kernel
theorem mm_c252 : mm_ckM 252 mm_u252 = true := by decide +kernel
theorem mm_c253 : mm_ckM 253 mm_u253 = true := by decide +kernel
theorem mm_c254 : mm_ckM 254 mm_u254 = true := by decide +kernel
theorem mm_c255 : mm_ckM 255 mm_u255 = true := by decide +kernel
theorem mm_c256 : mm_ckM 256 mm_u256 = true := by decide +kernel
theorem mm_c257 : mm_ckM 257 mm_u257 = true := by decide +kernel
theorem mm_c258 : mm_ckM 258 mm_u258 = true := by decide +kernel
theorem mm_c259 : mm_ckM 259 mm_u259 = true := by decide +kernel
theorem mm_c260 : mm_ckM 260 mm_u260 = true := by decide +kernel
theorem mm_c261 : mm_ckM 261 mm_u261 = true := by decide +kernel
theorem mm_c262 : mm_ckM 262 mm_u262 = true := by decide +kernel
theorem mm_c263 : mm_ckM 263 mm_u263 = true := by decide +kernel
theorem mm_c264 : mm_ckM 264 mm_u264 = true := by decide +kernel
theorem mm_c265 : mm_ckM 265 mm_u265 = true := by decide +kernel
theorem mm_c266 : mm_ckM 266 mm_u266 = true := by decide +kernel
theorem mm_c267 : mm_ckM 267 mm_u267 = true := by decide +kernel
theorem mm_c268 : mm_ckM 268 mm_u268 = true := by decide +kernel
theorem mm_c269 : mm_ckM 269 mm_u269 = true := by decide +kernel
theorem mm_c270 : mm_ckM 270 mm_u270 = true := by decide +kernel
theorem mm_c271 : mm_ckM 271 mm_u271 = true := by decide +kernel
theorem mm_c272 : mm_ckM 272 mm_u272 = true := by decide +kernel
theorem mm_c273 : mm_ckM 273 mm_u273 = true := by decide +kernel
theorem mm_c274 : mm_ckM 274 mm_u274 = true := by decide +kernel
theorem mm_c275 : mm_ckM 275 mm_u275 = true := by decide +kernel
theorem mm_c276 : mm_ckM 276 mm_u276 = true := by decide +kernel
theorem mm_c277 : mm_ckM 277 mm_u277 = true := by decide +kernel
theorem mm_c278 : mm_ckM 278 mm_u278 = true := by decide +kernel
theorem mm_c279 : mm_ckM 279 mm_u279 = true := by decide +kernel
theorem mm_c280 : mm_ckM 280 mm_u280 = true := by decide +kernel
theorem mm_c281 : mm_ckM 281 mm_u281 = true := by decide +kernel
theorem mm_c282 : mm_ckM 282 mm_u282 = true := by decide +kernel
theorem mm_c283 : mm_ckM 283 mm_u283 = true := by decide +kernel
theorem mm_c284 : mm_ckM 284 mm_u284 = true := by decide +kernel
theorem mm_c285 : mm_ckM 285 mm_u285 = true := by decide +kernel
theorem mm_c286 : mm_ckM 286 mm_u286 = true := by decide +kernel
theorem mm_c287 : mm_ckM 287 mm_u287 = true := by decide +kernel
theorem mm_c288 : mm_ckM 288 mm_u288 = true := by decide +kernel
theorem mm_c289 : mm_ckM 289 mm_u289 = true := by decide +kernel
theorem mm_c290 : mm_ckM 290 mm_u290 = true := by decide +kernel
theorem mm_c291 : mm_ckM 291 mm_u291 = true := by decide +kernel
theorem mm_c292 : mm_ckM 292 mm_u292 = true := by decide +kernel
end
section
set_option maxRecDepth 100000 in
theorem mm_w0 : Jvm.Cond.code (mm_yn 0) (mm_yb 0) (mm_ml 0) (mm_yr 0) ∈ mm_gT := mm_inG (i := 341) rfl rfl
set_option maxRecDepth 100000 in
theorem mm_w1 : Jvm.Cond.code (mm_yn 1) (mm_yb 1) (mm_ml 1) (mm_yr 1) ∈ mm_gT := mm_inG (i := 921) rfl rfl
set_option maxRecDepth 100000 in
theorem mm_w2 : Jvm.Cond.code (mm_yn 2) (mm_yb 2) (mm_ml 2) (mm_yr 2) ∈ mm_gT := mm_inG (i := 953) rfl rfl
set_option maxRecDepth 100000 in
theorem mm_w3 : Jvm.Cond.code (mm_yn 3) (mm_yb 3) (mm_ml 3) (mm_yr 3) ∈ mm_gT := mm_inG (i := 138) rfl rfl
set_option maxRecDepth 100000 in
theorem mm_w4 : Jvm.Cond.code (mm_yn 4) (mm_yb 4) (mm_ml 4) (mm_yr 4) ∈ mm_gT := mm_inG (i := 611) rfl rfl
set_option maxRecDepth 100000 in
theorem mm_w5 : Jvm.Cond.code (mm_yn 5) (mm_yb 5) (mm_ml 5) (mm_yr 5) ∈ mm_gT := mm_inG (i := 607) rfl rfl
set_option maxRecDepth 100000 in
theorem mm_w6 : Jvm.Cond.code (mm_yn 6) (mm_yb 6) (mm_ml 6) (mm_yr 6) ∈ mm_gT := mm_inG (i := 1121) rfl rfl
set_option maxRecDepth 100000 in
theorem mm_w7 : Jvm.Cond.code (mm_yn 7) (mm_yb 7) (mm_ml 7) (mm_yr 7) ∈ mm_gT := mm_inG (i := 681) rfl rfl
set_option maxRecDepth 100000 in
theorem mm_w8 : Jvm.Cond.code (mm_yn 8) (mm_yb 8) (mm_ml 8) (mm_yr 8) ∈ mm_gT := mm_inG (i := 1307) rfl rfl
set_option maxRecDepth 100000 in
theorem mm_w9 : Jvm.Cond.code (mm_yn 9) (mm_yb 9) (mm_ml 9) (mm_yr 9) ∈ mm_gT := mm_inG (i := 382) rfl rfl
set_option maxRecDepth 100000 in
theorem mm_w10 : Jvm.Cond.code (mm_yn 10) (mm_yb 10) (mm_ml 10) (mm_yr 10) ∈ mm_gT := mm_inG (i := 960) rfl rfl
set_option maxRecDepth 100000 in
theorem mm_w11 : Jvm.Cond.code (mm_yn 11) (mm_yb 11) (mm_ml 11) (mm_yr 11) ∈ mm_gT := mm_inG (i := 964) rfl rfl
set_option maxRecDepth 100000 in
theorem mm_w12 : Jvm.Cond.code (mm_yn 12) (mm_yb 12) (mm_ml 12) (mm_yr 12) ∈ mm_gT := mm_inG (i := 989) rfl rfl
set_option maxRecDepth 100000 in
theorem mm_w13 : Jvm.Cond.code (mm_yn 13) (mm_yb 13) (mm_ml 13) (mm_yr 13) ∈ mm_gT := mm_inG (i := 995) rfl rfl
set_option maxRecDepth 100000 in
theorem mm_w14 : Jvm.Cond.code (mm_yn 14) (mm_yb 14) (mm_ml 14) (mm_yr 14) ∈ mm_gT := mm_inG (i := 1017) rfl rfl
set_option maxRecDepth 100000 in
theorem mm_w15 : Jvm.Cond.code (mm_yn 15) (mm_yb 15) (mm_ml 15) (mm_yr 15) ∈ mm_gT := mm_inG (i := 1103) rfl rfl
set_option maxRecDepth 100000 in
theorem mm_w16 : Jvm.Cond.code (mm_yn 16) (mm_yb 16) (mm_ml 16) (mm_yr 16) ∈ mm_gT := mm_inG (i := 523) rfl rfl
set_option maxRecDepth 100000 in
theorem mm_w17 : Jvm.Cond.code (mm_yn 17) (mm_yb 17) (mm_ml 17) (mm_yr 17) ∈ mm_gT := mm_inG (i := 1180) rfl rfl
set_option maxRecDepth 100000 in
theorem mm_w18 : Jvm.Cond.code (mm_yn 18) (mm_yb 18) (mm_ml 18) (mm_yr 18) ∈ mm_gT := mm_inG (i := 1176) rfl rfl
set_option maxRecDepth 100000 in
theorem mm_w19 : Jvm.Cond.code (mm_yn 19) (mm_yb 19) (mm_ml 19) (mm_yr 19) ∈ mm_gT := mm_inG (i := 1190) rfl rfl
set_option maxRecDepth 100000 in
theorem mm_w20 : Jvm.Cond.code (mm_yn 20) (mm_yb 20) (mm_ml 20) (mm_yr 20) ∈ mm_gT := mm_inG (i := 1195) rfl rfl
set_option maxRecDepth 100000 in
theorem mm_w21 : Jvm.Cond.code (mm_yn 21) (mm_yb 21) (mm_ml 21) (mm_yr 21) ∈ mm_gT := mm_inG (i := 1200) rfl rfl
set_option maxRecDepth 100000 in
theorem mm_w22 : Jvm.Cond.code (mm_yn 22) (mm_yb 22) (mm_ml 22) (mm_yr 22) ∈ mm_gT := mm_inG (i := 1204) rfl rfl
set_option maxRecDepth 100000 in
theorem mm_w23 : Jvm.Cond.code (mm_yn 23) (mm_yb 23) (mm_ml 23) (mm_yr 23) ∈ mm_gT := mm_inG (i := 1208) rfl rfl
set_option maxRecDepth 100000 in
theorem mm_w24 : Jvm.Cond.code (mm_yn 24) (mm_yb 24) (mm_ml 24) (mm_yr 24) ∈ mm_gT := mm_inG (i := 1255) rfl rfl
set_option maxRecDepth 100000 in
theorem mm_w25 : Jvm.Cond.code (mm_yn 25) (mm_yb 25) (mm_ml 25) (mm_yr 25) ∈ mm_gT := mm_inG (i := 1021) rfl rfl
set_option maxRecDepth 100000 in
theorem mm_w26 : Jvm.Cond.code (mm_yn 26) (mm_yb 26) (mm_ml 26) (mm_yr 26) ∈ mm_gT := mm_inG (i := 1265) rfl rfl
set_option maxRecDepth 100000 in
theorem mm_w27 : Jvm.Cond.code (mm_yn 27) (mm_yb 27) (mm_ml 27) (mm_yr 27) ∈ mm_gT := mm_inG (i := 1273) rfl rfl
set_option maxRecDepth 100000 in
theorem mm_w28 : Jvm.Cond.code (mm_yn 28) (mm_yb 28) (mm_ml 28) (mm_yr 28) ∈ mm_gT := mm_inG (i := 1341) rfl rfl
set_option maxRecDepth 100000 in
theorem mm_w29 : Jvm.Cond.code (mm_yn 29) (mm_yb 29) (mm_ml 29) (mm_yr 29) ∈ mm_gT := mm_inG (i := 1347) rfl rfl
set_option maxRecDepth 100000 in
theorem mm_w30 : Jvm.Cond.code (mm_yn 30) (mm_yb 30) (mm_ml 30) (mm_yr 30) ∈ mm_gT := mm_inG (i := 385) rfl rfl
set_option maxRecDepth 100000 in
theorem mm_w31 : Jvm.Cond.code (mm_yn 31) (mm_yb 31) (mm_ml 31) (mm_yr 31) ∈ mm_gT := mm_inG (i := 1004) rfl rfl
set_option maxRecDepth 100000 in
theorem mm_w32 : Jvm.Cond.code (mm_yn 32) (mm_yb 32) (mm_ml 32) (mm_yr 32) ∈ mm_gT := mm_inG (i := 1010) rfl rfl
set_option maxRecDepth 100000 in
theorem mm_w33 : Jvm.Cond.code (mm_yn 33) (mm_yb 33) (mm_ml 33) (mm_yr 33) ∈ mm_gT := mm_inG (i := 197) rfl rfl
set_option maxRecDepth 100000 in
theorem mm_w34 : Jvm.Cond.code (mm_yn 34) (mm_yb 34) (mm_ml 34) (mm_yr 34) ∈ mm_gT := mm_inG (i := 640) rfl rfl
set_option maxRecDepth 100000 in
theorem mm_w35 : Jvm.Cond.code (mm_yn 35) (mm_yb 35) (mm_ml 35) (mm_yr 35) ∈ mm_gT := mm_inG (i := 733) rfl rfl
set_option maxRecDepth 100000 in
theorem mm_w36 : Jvm.Cond.code (mm_yn 36) (mm_yb 36) (mm_ml 36) (mm_yr 36) ∈ mm_gT := mm_inG (i := 726) rfl rfl
set_option maxRecDepth 100000 in
theorem mm_w37 : Jvm.Cond.code (mm_yn 37) (mm_yb 37) (mm_ml 37) (mm_yr 37) ∈ mm_gT := mm_inG (i := 722) rfl rfl
set_option maxRecDepth 100000 in
theorem mm_w38 : Jvm.Cond.code (mm_yn 38) (mm_yb 38) (mm_ml 38) (mm_yr 38) ∈ mm_gT := mm_inG (i := 247) rfl rfl
set_option maxRecDepth 100000 in
theorem mm_w39 : Jvm.Cond.code (mm_yn 39) (mm_yb 39) (mm_ml 39) (mm_yr 39) ∈ mm_gT := mm_inG (i := 656) rfl rfl
set_option maxRecDepth 100000 in
theorem mm_w40 : Jvm.Cond.code (mm_yn 40) (mm_yb 40) (mm_ml 40) (mm_yr 40) ∈ mm_gT := mm_inG (i := 793) rfl rfl
set_option maxRecDepth 100000 in
theorem mm_w41 : Jvm.Cond.code (mm_yn 41) (mm_yb 41) (mm_ml 41) (mm_yr 41) ∈ mm_gT := mm_inG (i := 797) rfl rfl
set_option maxRecDepth 100000 in
theorem mm_w42 : Jvm.Cond.code (mm_yn 42) (mm_yb 42) (mm_ml 42) (mm_yr 42) ∈ mm_gT := mm_inG (i := 801) rfl rfl
set_option maxRecDepth 100000 in
theorem mm_w43 : Jvm.Cond.code (mm_yn 43) (mm_yb 43) (mm_ml 43) (mm_yr 43) ∈ mm_gT := mm_inG (i := 806) rfl rfl
set_option maxRecDepth 100000 in
theorem mm_w44 : Jvm.Cond.code (mm_yn 44) (mm_yb 44) (mm_ml 44) (mm_yr 44) ∈ mm_gT := mm_inG (i := 810) rfl rfl
set_option maxRecDepth 100000 in
theorem mm_w45 : Jvm.Cond.code (mm_yn 45) (mm_yb 45) (mm_ml 45) (mm_yr 45) ∈ mm_gT := mm_inG (i := 817) rfl rfl
set_option maxRecDepth 100000 in
theorem mm_w46 : Jvm.Cond.code (mm_yn 46) (mm_yb 46) (mm_ml 46) (mm_yr 46) ∈ mm_gT := mm_inG (i := 829) rfl rfl
set_option maxRecDepth 100000 in
theorem mm_w47 : Jvm.Cond.code (mm_yn 47) (mm_yb 47) (mm_ml 47) (mm_yr 47) ∈ mm_gT := mm_inG (i := 825) rfl rfl
set_option maxRecDepth 100000 in
theorem mm_w48 : Jvm.Cond.code (mm_yn 48) (mm_yb 48) (mm_ml 48) (mm_yr 48) ∈ mm_gT := mm_inG (i := 822) rfl rfl
set_option maxRecDepth 100000 in
theorem mm_w49 : Jvm.Cond.code (mm_yn 49) (mm_yb 49) (mm_ml 49) (mm_yr 49) ∈ mm_gT := mm_inG (i := 833) rfl rfl
set_option maxRecDepth 100000 in
theorem mm_w50 : Jvm.Cond.code (mm_yn 50) (mm_yb 50) (mm_ml 50) (mm_yr 50) ∈ mm_gT := mm_inG (i := 974) rfl rfl
set_option maxRecDepth 100000 in
theorem mm_w51 : Jvm.Cond.code (mm_yn 51) (mm_yb 51) (mm_ml 51) (mm_yr 51) ∈ mm_gT := mm_inG (i := 970) rfl rfl
set_option maxRecDepth 100000 in
theorem mm_w52 : Jvm.Cond.code (mm_yn 52) (mm_yb 52) (mm_ml 52) (mm_yr 52) ∈ mm_gT := mm_inG (i := 978) rfl rfl
set_option maxRecDepth 100000 in
theorem mm_w53 : Jvm.Cond.code (mm_yn 53) (mm_yb 53) (mm_ml 53) (mm_yr 53) ∈ mm_gT := mm_inG (i := 985) rfl rfl
set_option maxRecDepth 100000 in
theorem mm_w54 : Jvm.Cond.code (mm_yn 54) (mm_yb 54) (mm_ml 54) (mm_yr 54) ∈ mm_gT := mm_inG (i := 222) rfl rfl
set_option maxRecDepth 100000 in
theorem mm_w55 : Jvm.Cond.code (mm_yn 55) (mm_yb 55) (mm_ml 55) (mm_yr 55) ∈ mm_gT := mm_inG (i := 647) rfl rfl
set_option maxRecDepth 100000 in
theorem mm_w56 : Jvm.Cond.code (mm_yn 56) (mm_yb 56) (mm_ml 56) (mm_yr 56) ∈ mm_gT := mm_inG (i := 783) rfl rfl
set_option maxRecDepth 100000 in
theorem mm_w57 : Jvm.Cond.code (mm_yn 57) (mm_yb 57) (mm_ml 57) (mm_yr 57) ∈ mm_gT := mm_inG (i := 925) rfl rfl
set_option maxRecDepth 100000 in
theorem mm_w58 : Jvm.Cond.code (mm_yn 58) (mm_yb 58) (mm_ml 58) (mm_yr 58) ∈ mm_gT := mm_inG (i := 776) rfl rfl
set_option maxRecDepth 100000 in
theorem mm_w59 : Jvm.Cond.code (mm_yn 59) (mm_yb 59) (mm_ml 59) (mm_yr 59) ∈ mm_gT := mm_inG (i := 913) rfl rfl
set_option maxRecDepth 100000 in
theorem mm_w60 : Jvm.Cond.code (mm_yn 60) (mm_yb 60) (mm_ml 60) (mm_yr 60) ∈ mm_gT := mm_inG (i := 877) rfl rfl
set_option maxRecDepth 100000 in
theorem mm_w61 : Jvm.Cond.code (mm_yn 61) (mm_yb 61) (mm_ml 61) (mm_yr 61) ∈ mm_gT := mm_inG (i := 157) rfl rfl
set_option maxRecDepth 100000 in
theorem mm_w62 : Jvm.Cond.code (mm_yn 62) (mm_yb 62) (mm_ml 62) (mm_yr 62) ∈ mm_gT := mm_inG (i := 669) rfl rfl
set_option maxRecDepth 100000 in
theorem mm_w63 : Jvm.Cond.code (mm_yn 63) (mm_yb 63) (mm_ml 63) (mm_yr 63) ∈ mm_gT := mm_inG (i := 710) rfl rfl
set_option maxRecDepth 100000 in
theorem mm_w64 : Jvm.Cond.code (mm_yn 64) (mm_yb 64) (mm_ml 64) (mm_yr 64) ∈ mm_gT := mm_inG (i := 677) rfl rfl
set_option maxRecDepth 100000 in
theorem mm_w65 : Jvm.Cond.code (mm_yn 65) (mm_yb 65) (mm_ml 65) (mm_yr 65) ∈ mm_gT := mm_inG (i := 673) rfl rfl
set_option maxRecDepth 100000 in
theorem mm_w66 : Jvm.Cond.code (mm_yn 66) (mm_yb 66) (mm_ml 66) (mm_yr 66) ∈ mm_gT := mm_inG (i := 718) rfl rfl
set_option maxRecDepth 100000 in
theorem mm_w67 : Jvm.Cond.code (mm_yn 67) (mm_yb 67) (mm_ml 67) (mm_yr 67) ∈ mm_gT := mm_inG (i := 714) rfl rfl
set_option maxRecDepth 100000 in
theorem mm_w68 : Jvm.Cond.code (mm_yn 68) (mm_yb 68) (mm_ml 68) (mm_yr 68) ∈ mm_gT := mm_inG (i := 695) rfl rfl
set_option maxRecDepth 100000 in
theorem mm_w69 : Jvm.Cond.code (mm_yn 69) (mm_yb 69) (mm_ml 69) (mm_yr 69) ∈ mm_gT := mm_inG (i := 706) rfl rfl
set_option maxRecDepth 100000 in
theorem mm_w70 : Jvm.Cond.code (mm_yn 70) (mm_yb 70) (mm_ml 70) (mm_yr 70) ∈ mm_gT := mm_inG (i := 665) rfl rfl
set_option maxRecDepth 100000 in
theorem mm_w71 : Jvm.Cond.code (mm_yn 71) (mm_yb 71) (mm_ml 71) (mm_yr 71) ∈ mm_gT := mm_inG (i := 691) rfl rfl
set_option maxRecDepth 100000 in
theorem mm_w72 : Jvm.Cond.code (mm_yn 72) (mm_yb 72) (mm_ml 72) (mm_yr 72) ∈ mm_gT := mm_inG (i := 740) rfl rfl
set_option maxRecDepth 100000 in
theorem mm_w73 : Jvm.Cond.code (mm_yn 73) (mm_yb 73) (mm_ml 73) (mm_yr 73) ∈ mm_gT := mm_inG (i := 744) rfl rfl
set_option maxRecDepth 100000 in
theorem mm_w74 : Jvm.Cond.code (mm_yn 74) (mm_yb 74) (mm_ml 74) (mm_yr 74) ∈ mm_gT := mm_inG (i := 749) rfl rfl
set_option maxRecDepth 100000 in
theorem mm_w75 : Jvm.Cond.code (mm_yn 75) (mm_yb 75) (mm_ml 75) (mm_yr 75) ∈ mm_gT := mm_inG (i := 753) rfl rfl
set_option maxRecDepth 100000 in
theorem mm_w76 : Jvm.Cond.code (mm_yn 76) (mm_yb 76) (mm_ml 76) (mm_yr 76) ∈ mm_gT := mm_inG (i := 757) rfl rfl
set_option maxRecDepth 100000 in
theorem mm_w77 : Jvm.Cond.code (mm_yn 77) (mm_yb 77) (mm_ml 77) (mm_yr 77) ∈ mm_gT := mm_inG (i := 772) rfl rfl
set_option maxRecDepth 100000 in
theorem mm_w78 : Jvm.Cond.code (mm_yn 78) (mm_yb 78) (mm_ml 78) (mm_yr 78) ∈ mm_gT := mm_inG (i := 789) rfl rfl
set_option maxRecDepth 100000 in
theorem mm_w79 : Jvm.Cond.code (mm_yn 79) (mm_yb 79) (mm_ml 79) (mm_yr 79) ∈ mm_gT := mm_inG (i := 440) rfl rfl
set_option maxRecDepth 100000 in
theorem mm_w80 : Jvm.Cond.code (mm_yn 80) (mm_yb 80) (mm_ml 80) (mm_yr 80) ∈ mm_gT := mm_inG (i := 1028) rfl rfl
set_option maxRecDepth 100000 in
theorem mm_w81 : Jvm.Cond.code (mm_yn 81) (mm_yb 81) (mm_ml 81) (mm_yr 81) ∈ mm_gT := mm_inG (i := 1032) rfl rfl
set_option maxRecDepth 100000 in
theorem mm_w82 : Jvm.Cond.code (mm_yn 82) (mm_yb 82) (mm_ml 82) (mm_yr 82) ∈ mm_gT := mm_inG (i := 1038) rfl rfl
set_option maxRecDepth 100000 in
theorem mm_w83 : Jvm.Cond.code (mm_yn 83) (mm_yb 83) (mm_ml 83) (mm_yr 83) ∈ mm_gT := mm_inG (i := 1044) rfl rfl
set_option maxRecDepth 100000 in
theorem mm_w84 : Jvm.Cond.code (mm_yn 84) (mm_yb 84) (mm_ml 84) (mm_yr 84) ∈ mm_gT := mm_inG (i := 1053) rfl rfl
set_option maxRecDepth 100000 in
theorem mm_w85 : Jvm.Cond.code (mm_yn 85) (mm_yb 85) (mm_ml 85) (mm_yr 85) ∈ mm_gT := mm_inG (i := 1077) rfl rfl
set_option maxRecDepth 100000 in
theorem mm_w86 : Jvm.Cond.code (mm_yn 86) (mm_yb 86) (mm_ml 86) (mm_yr 86) ∈ mm_gT := mm_inG (i := 1083) rfl rfl
set_option maxRecDepth 100000 in
theorem mm_w87 : Jvm.Cond.code (mm_yn 87) (mm_yb 87) (mm_ml 87) (mm_yr 87) ∈ mm_gT := mm_inG (i := 1098) rfl rfl
set_option maxRecDepth 100000 in
theorem mm_w88 : Jvm.Cond.code (mm_yn 88) (mm_yb 88) (mm_ml 88) (mm_yr 88) ∈ mm_gT := mm_inG (i := 1094) rfl rfl
set_option maxRecDepth 100000 in
theorem mm_w89 : Jvm.Cond.code (mm_yn 89) (mm_yb 89) (mm_ml 89) (mm_yr 89) ∈ mm_gT := mm_inG (i := 1090) rfl rfl
set_option maxRecDepth 100000 in
theorem mm_w90 : Jvm.Cond.code (mm_yn 90) (mm_yb 90) (mm_ml 90) (mm_yr 90) ∈ mm_gT := mm_inG (i := 1057) rfl rfl
set_option maxRecDepth 100000 in
theorem mm_w91 : Jvm.Cond.code (mm_yn 91) (mm_yb 91) (mm_ml 91) (mm_yr 91) ∈ mm_gT := mm_inG (i := 1072) rfl rfl
set_option maxRecDepth 100000 in
theorem mm_w92 : Jvm.Cond.code (mm_yn 92) (mm_yb 92) (mm_ml 92) (mm_yr 92) ∈ mm_gT := mm_inG (i := 1107) rfl rfl
set_option maxRecDepth 100000 in
theorem mm_w93 : Jvm.Cond.code (mm_yn 93) (mm_yb 93) (mm_ml 93) (mm_yr 93) ∈ mm_gT := mm_inG (i := 1164) rfl rfl
set_option maxRecDepth 100000 in
theorem mm_w94 : Jvm.Cond.code (mm_yn 94) (mm_yb 94) (mm_ml 94) (mm_yr 94) ∈ mm_gT := mm_inG (i := 1282) rfl rfl
set_option maxRecDepth 100000 in
theorem mm_w95 : Jvm.Cond.code (mm_yn 95) (mm_yb 95) (mm_ml 95) (mm_yr 95) ∈ mm_gT := mm_inG (i := 1295) rfl rfl
set_option maxRecDepth 100000 in
theorem mm_w96 : Jvm.Cond.code (mm_yn 96) (mm_yb 96) (mm_ml 96) (mm_yr 96) ∈ mm_gT := mm_inG (i := 1299) rfl rfl
set_option maxRecDepth 100000 in
theorem mm_w97 : Jvm.Cond.code (mm_yn 97) (mm_yb 97) (mm_ml 97) (mm_yr 97) ∈ mm_gT := mm_inG (i := 1314) rfl rfl
set_option maxRecDepth 100000 in
theorem mm_w98 : Jvm.Cond.code (mm_yn 98) (mm_yb 98) (mm_ml 98) (mm_yr 98) ∈ mm_gT := mm_inG (i := 1327) rfl rfl
set_option maxRecDepth 100000 in
theorem mm_w99 : Jvm.Cond.code (mm_yn 99) (mm_yb 99) (mm_ml 99) (mm_yr 99) ∈ mm_gT := mm_inG (i := 1323) rfl rfl
set_option maxRecDepth 100000 in
theorem mm_w100 : Jvm.Cond.code (mm_yn 100) (mm_yb 100) (mm_ml 100) (mm_yr 100) ∈ mm_gT := mm_inG (i := 1333) rfl rfl
set_option maxRecDepth 100000 in
theorem mm_w101 : Jvm.Cond.code (mm_yn 101) (mm_yb 101) (mm_ml 101) (mm_yr 101) ∈ mm_gT := mm_inG (i := 191) rfl rfl
set_option maxRecDepth 100000 in
theorem mm_w102 : Jvm.Cond.code (mm_yn 102) (mm_yb 102) (mm_ml 102) (mm_yr 102) ∈ mm_gT := mm_inG (i := 636) rfl rfl
set_option maxRecDepth 100000 in
theorem mm_w103 : Jvm.Cond.code (mm_yn 103) (mm_yb 103) (mm_ml 103) (mm_yr 103) ∈ mm_gT := mm_inG (i := 761) rfl rfl
set_option maxRecDepth 100000 in
theorem mm_w104 : Jvm.Cond.code (mm_yn 104) (mm_yb 104) (mm_ml 104) (mm_yr 104) ∈ mm_gT := mm_inG (i := 767) rfl rfl
set_option maxRecDepth 100000 in
theorem mm_w105 : Jvm.Cond.code (mm_yn 105) (mm_yb 105) (mm_ml 105) (mm_yr 105) ∈ mm_gT := mm_inG (i := 929) rfl rfl
set_option maxRecDepth 100000 in
theorem mm_w106 : Jvm.Cond.code (mm_yn 106) (mm_yb 106) (mm_ml 106) (mm_yr 106) ∈ mm_gT := mm_inG (i := 939) rfl rfl
set_option maxRecDepth 100000 in
theorem mm_w107 : Jvm.Cond.code (mm_yn 107) (mm_yb 107) (mm_ml 107) (mm_yr 107) ∈ mm_gT := mm_inG (i := 856) rfl rfl
set_option maxRecDepth 100000 in
theorem mm_w108 : Jvm.Cond.code (mm_yn 108) (mm_yb 108) (mm_ml 108) (mm_yr 108) ∈ mm_gT := mm_inG (i := 864) rfl rfl
set_option maxRecDepth 100000 in
theorem mm_w109 : Jvm.Cond.code (mm_yn 109) (mm_yb 109) (mm_ml 109) (mm_yr 109) ∈ mm_gT := mm_inG (i := 873) rfl rfl
set_option maxRecDepth 100000 in
theorem mm_w110 : Jvm.Cond.code (mm_yn 110) (mm_yb 110) (mm_ml 110) (mm_yr 110) ∈ mm_gT := mm_inG (i := 868) rfl rfl
set_option maxRecDepth 100000 in
theorem mm_w111 : Jvm.Cond.code (mm_yn 111) (mm_yb 111) (mm_ml 111) (mm_yr 111) ∈ mm_gT := mm_inG (i := 909) rfl rfl
set_option maxRecDepth 100000 in
theorem mm_w112 : Jvm.Cond.code (mm_yn 112) (mm_yb 112) (mm_ml 112) (mm_yr 112) ∈ mm_gT := mm_inG (i := 1115) rfl rfl
set_option maxRecDepth 100000 in
theorem mm_w113 : Jvm.Cond.code (mm_yn 113) (mm_yb 113) (mm_ml 113) (mm_yr 113) ∈ mm_gT := mm_inG (i := 1049) rfl rfl
set_option maxRecDepth 100000 in
theorem mm_w114 : Jvm.Cond.code (mm_yn 114) (mm_yb 114) (mm_ml 114) (mm_yr 114) ∈ mm_gT := mm_inG (i := 130) rfl rfl
set_option maxRecDepth 100000 in
theorem mm_w115 : Jvm.Cond.code (mm_yn 115) (mm_yb 115) (mm_ml 115) (mm_yr 115) ∈ mm_gT := mm_inG (i := 603) rfl rfl
set_option maxRecDepth 100000 in
theorem mm_w116 : Jvm.Cond.code (mm_yn 116) (mm_yb 116) (mm_ml 116) (mm_yr 116) ∈ mm_gT := mm_inG (i := 616) rfl rfl
set_option maxRecDepth 100000 in
theorem mm_w117 : Jvm.Cond.code (mm_yn 117) (mm_yb 117) (mm_ml 117) (mm_yr 117) ∈ mm_gT := mm_inG (i := 620) rfl rfl
set_option maxRecDepth 100000 in
theorem mm_w118 : Jvm.Cond.code (mm_yn 118) (mm_yb 118) (mm_ml 118) (mm_yr 118) ∈ mm_gT := mm_inG (i := 852) rfl rfl
set_option maxRecDepth 100000 in
theorem mm_w119 : Jvm.Cond.code (mm_yn 119) (mm_yb 119) (mm_ml 119) (mm_yr 119) ∈ mm_gT := mm_inG (i := 860) rfl rfl
set_option maxRecDepth 100000 in
theorem mm_w120 : Jvm.Cond.code (mm_yn 120) (mm_yb 120) (mm_ml 120) (mm_yr 120) ∈ mm_gT := mm_inG (i := 882) rfl rfl
set_option maxRecDepth 100000 in
theorem mm_w121 : Jvm.Cond.code (mm_yn 121) (mm_yb 121) (mm_ml 121) (mm_yr 121) ∈ mm_gT := mm_inG (i := 886) rfl rfl
set_option maxRecDepth 100000 in
theorem mm_w122 : Jvm.Cond.code (mm_yn 122) (mm_yb 122) (mm_ml 122) (mm_yr 122) ∈ mm_gT := mm_inG (i := 890) rfl rfl
set_option maxRecDepth 100000 in
theorem mm_w123 : Jvm.Cond.code (mm_yn 123) (mm_yb 123) (mm_ml 123) (mm_yr 123) ∈ mm_gT := mm_inG (i := 896) rfl rfl
set_option maxRecDepth 100000 in
theorem mm_w124 : Jvm.Cond.code (mm_yn 124) (mm_yb 124) (mm_ml 124) (mm_yr 124) ∈ mm_gT := mm_inG (i := 900) rfl rfl
set_option maxRecDepth 100000 in
theorem mm_w125 : Jvm.Cond.code (mm_yn 125) (mm_yb 125) (mm_ml 125) (mm_yr 125) ∈ mm_gT := mm_inG (i := 904) rfl rfl
set_option maxRecDepth 100000 in
theorem mm_w126 : Jvm.Cond.code (mm_yn 126) (mm_yb 126) (mm_ml 126) (mm_yr 126) ∈ mm_gT := mm_inG (i := 1111) rfl rfl
set_option maxRecDepth 100000 in
theorem mm_w127 : Jvm.Cond.code (mm_yn 127) (mm_yb 127) (mm_ml 127) (mm_yr 127) ∈ mm_gT := mm_inG (i := 1127) rfl rfl
set_option maxRecDepth 100000 in
theorem mm_w128 : Jvm.Cond.code (mm_yn 128) (mm_yb 128) (mm_ml 128) (mm_yr 128) ∈ mm_gT := mm_inG (i := 1132) rfl rfl
set_option maxRecDepth 100000 in
theorem mm_w129 : Jvm.Cond.code (mm_yn 129) (mm_yb 129) (mm_ml 129) (mm_yr 129) ∈ mm_gT := mm_inG (i := 1137) rfl rfl
set_option maxRecDepth 100000 in
theorem mm_w130 : Jvm.Cond.code (mm_yn 130) (mm_yb 130) (mm_ml 130) (mm_yr 130) ∈ mm_gT := mm_inG (i := 1143) rfl rfl
set_option maxRecDepth 100000 in
theorem mm_w131 : Jvm.Cond.code (mm_yn 131) (mm_yb 131) (mm_ml 131) (mm_yr 131) ∈ mm_gT := mm_inG (i := 1147) rfl rfl
set_option maxRecDepth 100000 in
theorem mm_w132 : Jvm.Cond.code (mm_yn 132) (mm_yb 132) (mm_ml 132) (mm_yr 132) ∈ mm_gT := mm_inG (i := 1160) rfl rfl
set_option maxRecDepth 100000 in
theorem mm_w133 : Jvm.Cond.code (mm_yn 133) (mm_yb 133) (mm_ml 133) (mm_yr 133) ∈ mm_gT := mm_inG (i := 1168) rfl rfl
set_option maxRecDepth 100000 in
theorem mm_w134 : Jvm.Cond.code (mm_yn 134) (mm_yb 134) (mm_ml 134) (mm_yr 134) ∈ mm_gT := mm_inG (i := 1221) rfl rfl
set_option maxRecDepth 100000 in
theorem mm_w135 : Jvm.Cond.code (mm_yn 135) (mm_yb 135) (mm_ml 135) (mm_yr 135) ∈ mm_gT := mm_inG (i := 1238) rfl rfl
set_option maxRecDepth 100000 in
theorem mm_w136 : Jvm.Cond.code (mm_yn 136) (mm_yb 136) (mm_ml 136) (mm_yr 136) ∈ mm_gT := mm_inG (i := 1251) rfl rfl
set_option maxRecDepth 100000 in
theorem mm_w137 : Jvm.Cond.code (mm_yn 137) (mm_yb 137) (mm_ml 137) (mm_yr 137) ∈ mm_gT := mm_inG (i := 1269) rfl rfl
set_option maxRecDepth 100000 in
theorem mm_w138 : Jvm.Cond.code (mm_yn 138) (mm_yb 138) (mm_ml 138) (mm_yr 138) ∈ mm_gT := mm_inG (i := 1278) rfl rfl
set_option maxRecDepth 100000 in
theorem mm_w139 : Jvm.Cond.code (mm_yn 139) (mm_yb 139) (mm_ml 139) (mm_yr 139) ∈ mm_gT := mm_inG (i := 1291) rfl rfl
set_option maxRecDepth 100000 in
theorem mm_w140 : Jvm.Cond.code (mm_yn 140) (mm_yb 140) (mm_ml 140) (mm_yr 140) ∈ mm_gT := mm_inG (i := 1303) rfl rfl
set_option maxRecDepth 100000 in
theorem mm_w141 : Jvm.Cond.code (mm_yn 141) (mm_yb 141) (mm_ml 141) (mm_yr 141) ∈ mm_gT := mm_inG (i := 1319) rfl rfl
set_option maxRecDepth 100000 in
theorem mm_w142 : Jvm.Cond.code (mm_yn 142) (mm_yb 142) (mm_ml 142) (mm_yr 142) ∈ mm_gT := mm_inG (i := 1337) rfl rfl
set_option maxRecDepth 100000 in
theorem mm_w143 : Jvm.Cond.code (mm_yn 143) (mm_yb 143) (mm_ml 143) (mm_yr 143) ∈ mm_gT := mm_inG (i := 1351) rfl rfl
set_option maxRecDepth 100000 in
theorem mm_w144 : Jvm.Cond.code (mm_yn 144) (mm_yb 144) (mm_ml 144) (mm_yr 144) ∈ mm_gT := mm_inG (i := 632) rfl rfl
set_option maxRecDepth 100000 in
theorem mm_w145 : Jvm.Cond.code (mm_yn 145) (mm_yb 145) (mm_ml 145) (mm_yr 145) ∈ mm_gT := mm_inG (i := 628) rfl rfl
set_option maxRecDepth 100000 in
theorem mm_w146 : Jvm.Cond.code (mm_yn 146) (mm_yb 146) (mm_ml 146) (mm_yr 146) ∈ mm_gT := mm_inG (i := 841) rfl rfl
set_option maxRecDepth 100000 in
theorem mm_w147 : Jvm.Cond.code (mm_yn 147) (mm_yb 147) (mm_ml 147) (mm_yr 147) ∈ mm_gT := mm_inG (i := 624) rfl rfl
set_option maxRecDepth 100000 in
theorem mm_w148 : Jvm.Cond.code (mm_yn 148) (mm_yb 148) (mm_ml 148) (mm_yr 148) ∈ mm_gT := mm_inG (i := 661) rfl rfl
set_option maxRecDepth 100000 in
theorem mm_w149 : Jvm.Cond.code (mm_yn 149) (mm_yb 149) (mm_ml 149) (mm_yr 149) ∈ mm_gT := mm_inG (i := 837) rfl rfl
set_option maxRecDepth 100000 in
theorem mm_w150 : Jvm.Cond.code (mm_yn 150) (mm_yb 150) (mm_ml 150) (mm_yr 150) ∈ mm_gT := mm_inG (i := 848) rfl rfl
set_option maxRecDepth 100000 in
theorem mm_w151 : Jvm.Cond.code (mm_yn 151) (mm_yb 151) (mm_ml 151) (mm_yr 151) ∈ mm_gT := mm_inG (i := 917) rfl rfl
set_option maxRecDepth 100000 in
theorem mm_w152 : Jvm.Cond.code (mm_yn 152) (mm_yb 152) (mm_ml 152) (mm_yr 152) ∈ mm_gT := mm_inG (i := 1172) rfl rfl
set_option maxRecDepth 100000 in
theorem mm_w153 : Jvm.Cond.code (mm_yn 153) (mm_yb 153) (mm_ml 153) (mm_yr 153) ∈ mm_gT := mm_inG (i := 1151) rfl rfl
set_option maxRecDepth 100000 in
theorem mm_w154 : Jvm.Cond.code (mm_yn 154) (mm_yb 154) (mm_ml 154) (mm_yr 154) ∈ mm_gT := mm_inG (i := 142) rfl rfl
set_option maxRecDepth 100000 in
theorem mm_w155 : Jvm.Cond.code (mm_yn 155) (mm_yb 155) (mm_ml 155) (mm_yr 155) ∈ mm_gT := mm_inG (i := 201) rfl rfl
set_option maxRecDepth 100000 in
theorem mm_w156 : Jvm.Cond.code (mm_yn 156) (mm_yb 156) (mm_ml 156) (mm_yr 156) ∈ mm_gT := mm_inG (i := 779) rfl rfl
set_option maxRecDepth 100000 in
theorem mm_w157 : Jvm.Cond.code (mm_yn 157) (mm_yb 157) (mm_ml 157) (mm_yr 157) ∈ mm_gT := mm_inG (i := 729) rfl rfl
set_option maxRecDepth 100000 in
theorem mm_w158 : Jvm.Cond.code (mm_yn 158) (mm_yb 158) (mm_ml 158) (mm_yr 158) ∈ mm_gT := mm_inG (i := 252) rfl rfl
set_option maxRecDepth 100000 in
theorem mm_w159 : Jvm.Cond.code (mm_yn 159) (mm_yb 159) (mm_ml 159) (mm_yr 159) ∈ mm_gT := mm_inG (i := 736) rfl rfl
set_option maxRecDepth 100000 in
theorem mm_w160 : Jvm.Cond.code (mm_yn 160) (mm_yb 160) (mm_ml 160) (mm_yr 160) ∈ mm_gT := mm_inG (i := 1086) rfl rfl
set_option maxRecDepth 100000 in
theorem mm_w161 : Jvm.Cond.code (mm_yn 161) (mm_yb 161) (mm_ml 161) (mm_yr 161) ∈ mm_gT := mm_inG (i := 651) rfl rfl
set_option maxRecDepth 100000 in
theorem mm_w162 : Jvm.Cond.code (mm_yn 162) (mm_yb 162) (mm_ml 162) (mm_yr 162) ∈ mm_gT := mm_inG (i := 643) rfl rfl
set_option maxRecDepth 100000 in
theorem mm_w163 : Jvm.Cond.code (mm_yn 163) (mm_yb 163) (mm_ml 163) (mm_yr 163) ∈ mm_gT := mm_inG (i := 946) rfl rfl
set_option maxRecDepth 100000 in
theorem mm_w164 : Jvm.Cond.code (mm_yn 164) (mm_yb 164) (mm_ml 164) (mm_yr 164) ∈ mm_gT := mm_inG (i := 943) rfl rfl
set_option maxRecDepth 100000 in
theorem mm_w165 : Jvm.Cond.code (mm_yn 165) (mm_yb 165) (mm_ml 165) (mm_yr 165) ∈ mm_gT := mm_inG (i := 956) rfl rfl
set_option maxRecDepth 100000 in
theorem mm_w166 : Jvm.Cond.code (mm_yn 166) (mm_yb 166) (mm_ml 166) (mm_yr 166) ∈ mm_gT := mm_inG (i := 687) rfl rfl
set_option maxRecDepth 100000 in
theorem mm_w167 : Jvm.Cond.code (mm_yn 167) (mm_yb 167) (mm_ml 167) (mm_yr 167) ∈ mm_gT := mm_inG (i := 701) rfl rfl
set_option maxRecDepth 100000 in
theorem mm_w168 : Jvm.Cond.code (mm_yn 168) (mm_yb 168) (mm_ml 168) (mm_yr 168) ∈ mm_gT := mm_inG (i := 698) rfl rfl
set_option maxRecDepth 100000 in
theorem mm_w169 : Jvm.Cond.code (mm_yn 169) (mm_yb 169) (mm_ml 169) (mm_yr 169) ∈ mm_gT := mm_inG (i := 684) rfl rfl
set_option maxRecDepth 100000 in
theorem mm_w170 : Jvm.Cond.code (mm_yn 170) (mm_yb 170) (mm_ml 170) (mm_yr 170) ∈ mm_gT := mm_inG (i := 933) rfl rfl
set_option maxRecDepth 100000 in
theorem mm_w171 : Jvm.Cond.code (mm_yn 171) (mm_yb 171) (mm_ml 171) (mm_yr 171) ∈ mm_gT := mm_inG (i := 981) rfl rfl
set_option maxRecDepth 100000 in
theorem mm_w172 : Jvm.Cond.code (mm_yn 172) (mm_yb 172) (mm_ml 172) (mm_yr 172) ∈ mm_gT := mm_inG (i := 1063) rfl rfl
set_option maxRecDepth 100000 in
theorem mm_w173 : Jvm.Cond.code (mm_yn 173) (mm_yb 173) (mm_ml 173) (mm_yr 173) ∈ mm_gT := mm_inG (i := 1060) rfl rfl
set_option maxRecDepth 100000 in
theorem mm_w174 : Jvm.Cond.code (mm_yn 174) (mm_yb 174) (mm_ml 174) (mm_yr 174) ∈ mm_gT := mm_inG (i := 1067) rfl rfl
set_option maxRecDepth 100000 in
theorem mm_w175 : Jvm.Cond.code (mm_yn 175) (mm_yb 175) (mm_ml 175) (mm_yr 175) ∈ mm_gT := mm_inG (i := 1285) rfl rfl
set_option maxRecDepth 100000 in
theorem mm_w176 : Jvm.Cond.code (mm_yn 176) (mm_yb 176) (mm_ml 176) (mm_yr 176) ∈ mm_gT := mm_inG (i := 1227) rfl rfl
set_option maxRecDepth 100000 in
theorem mm_w177 : Jvm.Cond.code (mm_yn 177) (mm_yb 177) (mm_ml 177) (mm_yr 177) ∈ mm_gT := mm_inG (i := 1231) rfl rfl
set_option maxRecDepth 100000 in
theorem mm_w178 : Jvm.Cond.code (mm_yn 178) (mm_yb 178) (mm_ml 178) (mm_yr 178) ∈ mm_gT := mm_inG (i := 1224) rfl rfl
set_option maxRecDepth 100000 in
theorem mm_w179 : Jvm.Cond.code (mm_yn 179) (mm_yb 179) (mm_ml 179) (mm_yr 179) ∈ mm_gT := mm_inG (i := 1242) rfl rfl
set_option maxRecDepth 100000 in
theorem mm_w180 : Jvm.Cond.code (mm_yn 180) (mm_yb 180) (mm_ml 180) (mm_yr 180) ∈ mm_gT := mm_inG (i := 1183) rfl rfl
set_option maxRecDepth 100000 in
theorem mm_w181 : Jvm.Cond.code (mm_yn 181) (mm_yb 181) (mm_ml 181) (mm_yr 181) ∈ mm_gT := mm_inG (i := 1674) rfl rfl
set_option maxRecDepth 100000 in
theorem mm_w182 : Jvm.Cond.code (mm_yn 182) (mm_yb 182) (mm_ml 182) (mm_yr 182) ∈ mm_gT := mm_inG (i := 1457) rfl rfl
set_option maxRecDepth 100000 in
theorem mm_w183 : Jvm.Cond.code (mm_yn 183) (mm_yb 183) (mm_ml 183) (mm_yr 183) ∈ mm_gT := mm_inG (i := 1450) rfl rfl
set_option maxRecDepth 100000 in
theorem mm_w184 : Jvm.Cond.code (mm_yn 184) (mm_yb 184) (mm_ml 184) (mm_yr 184) ∈ mm_gT := mm_inG (i := 1356) rfl rfl
set_option maxRecDepth 100000 in
theorem mm_w185 : Jvm.Cond.code (mm_yn 185) (mm_yb 185) (mm_ml 185) (mm_yr 185) ∈ mm_gT := mm_inG (i := 1744) rfl rfl
set_option maxRecDepth 100000 in
theorem mm_w186 : Jvm.Cond.code (mm_yn 186) (mm_yb 186) (mm_ml 186) (mm_yr 186) ∈ mm_gT := mm_inG (i := 1659) rfl rfl
set_option maxRecDepth 100000 in
theorem mm_w187 : Jvm.Cond.code (mm_yn 187) (mm_yb 187) (mm_ml 187) (mm_yr 187) ∈ mm_gT := mm_inG (i := 1708) rfl rfl
set_option maxRecDepth 100000 in
theorem mm_w188 : Jvm.Cond.code (mm_yn 188) (mm_yb 188) (mm_ml 188) (mm_yr 188) ∈ mm_gT := mm_inG (i := 1712) rfl rfl
set_option maxRecDepth 100000 in
theorem mm_w189 : Jvm.Cond.code (mm_yn 189) (mm_yb 189) (mm_ml 189) (mm_yr 189) ∈ mm_gT := mm_inG (i := 1804) rfl rfl
set_option maxRecDepth 100000 in
theorem mm_w190 : Jvm.Cond.code (mm_yn 190) (mm_yb 190) (mm_ml 190) (mm_yr 190) ∈ mm_gT := mm_inG (i := 1801) rfl rfl
set_option maxRecDepth 100000 in
theorem mm_w191 : Jvm.Cond.code (mm_yn 191) (mm_yb 191) (mm_ml 191) (mm_yr 191) ∈ mm_gT := mm_inG (i := 1717) rfl rfl
set_option maxRecDepth 100000 in
theorem mm_w192 : Jvm.Cond.code (mm_yn 192) (mm_yb 192) (mm_ml 192) (mm_yr 192) ∈ mm_gT := mm_inG (i := 1732) rfl rfl
set_option maxRecDepth 100000 in
theorem mm_w193 : Jvm.Cond.code (mm_yn 193) (mm_yb 193) (mm_ml 193) (mm_yr 193) ∈ mm_gT := mm_inG (i := 1798) rfl rfl
set_option maxRecDepth 100000 in
theorem mm_w194 : Jvm.Cond.code (mm_yn 194) (mm_yb 194) (mm_ml 194) (mm_yr 194) ∈ mm_gT := mm_inG (i := 1808) rfl rfl
set_option maxRecDepth 100000 in
theorem mm_w195 : Jvm.Cond.code (mm_yn 195) (mm_yb 195) (mm_ml 195) (mm_yr 195) ∈ mm_gT := mm_inG (i := 1427) rfl rfl
set_option maxRecDepth 100000 in
theorem mm_w196 : Jvm.Cond.code (mm_yn 196) (mm_yb 196) (mm_ml 196) (mm_yr 196) ∈ mm_gT := mm_inG (i := 1974) rfl rfl
set_option maxRecDepth 100000 in
theorem mm_w197 : Jvm.Cond.code (mm_yn 197) (mm_yb 197) (mm_ml 197) (mm_yr 197) ∈ mm_gT := mm_inG (i := 1667) rfl rfl
set_option maxRecDepth 100000 in
theorem mm_w198 : Jvm.Cond.code (mm_yn 198) (mm_yb 198) (mm_ml 198) (mm_yr 198) ∈ mm_gT := mm_inG (i := 1663) rfl rfl
set_option maxRecDepth 100000 in
theorem mm_w199 : Jvm.Cond.code (mm_yn 199) (mm_yb 199) (mm_ml 199) (mm_yr 199) ∈ mm_gT := mm_inG (i := 1671) rfl rfl
set_option maxRecDepth 100000 in
theorem mm_w200 : Jvm.Cond.code (mm_yn 200) (mm_yb 200) (mm_ml 200) (mm_yr 200) ∈ mm_gT := mm_inG (i := 1404) rfl rfl
set_option maxRecDepth 100000 in
theorem mm_w201 : Jvm.Cond.code (mm_yn 201) (mm_yb 201) (mm_ml 201) (mm_yr 201) ∈ mm_gT := mm_inG (i := 1424) rfl rfl
set_option maxRecDepth 100000 in
theorem mm_w202 : Jvm.Cond.code (mm_yn 202) (mm_yb 202) (mm_ml 202) (mm_yr 202) ∈ mm_gT := mm_inG (i := 1439) rfl rfl
set_option maxRecDepth 100000 in
theorem mm_w203 : Jvm.Cond.code (mm_yn 203) (mm_yb 203) (mm_ml 203) (mm_yr 203) ∈ mm_gT := mm_inG (i := 1703) rfl rfl
set_option maxRecDepth 100000 in
theorem mm_w204 : Jvm.Cond.code (mm_yn 204) (mm_yb 204) (mm_ml 204) (mm_yr 204) ∈ mm_gT := mm_inG (i := 1699) rfl rfl
set_option maxRecDepth 100000 in
theorem mm_w205 : Jvm.Cond.code (mm_yn 205) (mm_yb 205) (mm_ml 205) (mm_yr 205) ∈ mm_gT := mm_inG (i := 1443) rfl rfl
set_option maxRecDepth 100000 in
theorem mm_w206 : Jvm.Cond.code (mm_yn 206) (mm_yb 206) (mm_ml 206) (mm_yr 206) ∈ mm_gT := mm_inG (i := 1695) rfl rfl
set_option maxRecDepth 100000 in
theorem mm_w207 : Jvm.Cond.code (mm_yn 207) (mm_yb 207) (mm_ml 207) (mm_yr 207) ∈ mm_gT := mm_inG (i := 1722) rfl rfl
set_option maxRecDepth 100000 in
theorem mm_w208 : Jvm.Cond.code (mm_yn 208) (mm_yb 208) (mm_ml 208) (mm_yr 208) ∈ mm_gT := mm_inG (i := 1727) rfl rfl
set_option maxRecDepth 100000 in
theorem mm_w209 : Jvm.Cond.code (mm_yn 209) (mm_yb 209) (mm_ml 209) (mm_yr 209) ∈ mm_gT := mm_inG (i := 1736) rfl rfl
set_option maxRecDepth 100000 in
theorem mm_w210 : Jvm.Cond.code (mm_yn 210) (mm_yb 210) (mm_ml 210) (mm_yr 210) ∈ mm_gT := mm_inG (i := 1435) rfl rfl
set_option maxRecDepth 100000 in
theorem mm_w211 : Jvm.Cond.code (mm_yn 211) (mm_yb 211) (mm_ml 211) (mm_yr 211) ∈ mm_gT := mm_inG (i := 1420) rfl rfl
set_option maxRecDepth 100000 in
theorem mm_w212 : Jvm.Cond.code (mm_yn 212) (mm_yb 212) (mm_ml 212) (mm_yr 212) ∈ mm_gT := mm_inG (i := 1447) rfl rfl
set_option maxRecDepth 100000 in
theorem mm_w213 : Jvm.Cond.code (mm_yn 213) (mm_yb 213) (mm_ml 213) (mm_yr 213) ∈ mm_gT := mm_inG (i := 1431) rfl rfl
set_option maxRecDepth 100000 in
theorem mm_w214 : Jvm.Cond.code (mm_yn 214) (mm_yb 214) (mm_ml 214) (mm_yr 214) ∈ mm_gT := mm_inG (i := 1416) rfl rfl
set_option maxRecDepth 100000 in
theorem mm_w215 : Jvm.Cond.code (mm_yn 215) (mm_yb 215) (mm_ml 215) (mm_yr 215) ∈ mm_gT := mm_inG (i := 1412) rfl rfl
set_option maxRecDepth 100000 in
theorem mm_w216 : Jvm.Cond.code (mm_yn 216) (mm_yb 216) (mm_ml 216) (mm_yr 216) ∈ mm_gT := mm_inG (i := 1408) rfl rfl
set_option maxRecDepth 100000 in
theorem mm_w217 : Jvm.Cond.code (mm_yn 217) (mm_yb 217) (mm_ml 217) (mm_yr 217) ∈ mm_gT := mm_inG (i := 1454) rfl rfl
set_option maxRecDepth 100000 in
theorem mm_w218 : Jvm.Cond.code (mm_yn 218) (mm_yb 218) (mm_ml 218) (mm_yr 218) ∈ mm_gT := mm_inG (i := 1691) rfl rfl
set_option maxRecDepth 100000 in
theorem mm_w219 : Jvm.Cond.code (mm_yn 219) (mm_yb 219) (mm_ml 219) (mm_yr 219) ∈ mm_gT := mm_inG (i := 1687) rfl rfl
set_option maxRecDepth 100000 in
theorem mm_w220 : Jvm.Cond.code (mm_yn 220) (mm_yb 220) (mm_ml 220) (mm_yr 220) ∈ mm_gT := mm_inG (i := 1740) rfl rfl
set_option maxRecDepth 100000 in
theorem mm_w221 : Jvm.Cond.code (mm_yn 221) (mm_yb 221) (mm_ml 221) (mm_yr 221) ∈ mm_gT := mm_inG (i := 1683) rfl rfl
set_option maxRecDepth 100000 in
theorem mm_w222 : Jvm.Cond.code (mm_yn 222) (mm_yb 222) (mm_ml 222) (mm_yr 222) ∈ mm_gT := mm_inG (i := 1678) rfl rfl
set_option maxRecDepth 100000 in
theorem mm_w223 : Jvm.Cond.code (mm_yn 223) (mm_yb 223) (mm_ml 223) (mm_yr 223) ∈ mm_gT := mm_inG (i := 1752) rfl rfl
set_option maxRecDepth 100000 in
theorem mm_w224 : Jvm.Cond.code (mm_yn 224) (mm_yb 224) (mm_ml 224) (mm_yr 224) ∈ mm_gT := mm_inG (i := 1748) rfl rfl
set_option maxRecDepth 100000 in
theorem mm_w225 : Jvm.Cond.code (mm_yn 225) (mm_yb 225) (mm_ml 225) (mm_yr 225) ∈ mm_gT := mm_inG (i := 1760) rfl rfl
set_option maxRecDepth 100000 in
theorem mm_w226 : Jvm.Cond.code (mm_yn 226) (mm_yb 226) (mm_ml 226) (mm_yr 226) ∈ mm_gT := mm_inG (i := 1756) rfl rfl
set_option maxRecDepth 100000 in
theorem mm_w227 : Jvm.Cond.code (mm_yn 227) (mm_yb 227) (mm_ml 227) (mm_yr 227) ∈ mm_gT := mm_inG (i := 1764) rfl rfl
set_option maxRecDepth 100000 in
theorem mm_w228 : Jvm.Cond.code (mm_yn 228) (mm_yb 228) (mm_ml 228) (mm_yr 228) ∈ mm_gT := mm_inG (i := 1768) rfl rfl
set_option maxRecDepth 100000 in
theorem mm_w229 : Jvm.Cond.code (mm_yn 229) (mm_yb 229) (mm_ml 229) (mm_yr 229) ∈ mm_gT := mm_inG (i := 1772) rfl rfl
set_option maxRecDepth 100000 in
theorem mm_w230 : Jvm.Cond.code (mm_yn 230) (mm_yb 230) (mm_ml 230) (mm_yr 230) ∈ mm_gT := mm_inG (i := 1777) rfl rfl
set_option maxRecDepth 100000 in
theorem mm_w231 : Jvm.Cond.code (mm_yn 231) (mm_yb 231) (mm_ml 231) (mm_yr 231) ∈ mm_gT := mm_inG (i := 1816) rfl rfl
set_option maxRecDepth 100000 in
theorem mm_w232 : Jvm.Cond.code (mm_yn 232) (mm_yb 232) (mm_ml 232) (mm_yr 232) ∈ mm_gT := mm_inG (i := 1820) rfl rfl
set_option maxRecDepth 100000 in
theorem mm_w233 : Jvm.Cond.code (mm_yn 233) (mm_yb 233) (mm_ml 233) (mm_yr 233) ∈ mm_gT := mm_inG (i := 1833) rfl rfl
set_option maxRecDepth 100000 in
theorem mm_w234 : Jvm.Cond.code (mm_yn 234) (mm_yb 234) (mm_ml 234) (mm_yr 234) ∈ mm_gT := mm_inG (i := 1829) rfl rfl
set_option maxRecDepth 100000 in
theorem mm_w235 : Jvm.Cond.code (mm_yn 235) (mm_yb 235) (mm_ml 235) (mm_yr 235) ∈ mm_gT := mm_inG (i := 1825) rfl rfl
set_option maxRecDepth 100000 in
theorem mm_w236 : Jvm.Cond.code (mm_yn 236) (mm_yb 236) (mm_ml 236) (mm_yr 236) ∈ mm_gT := mm_inG (i := 1837) rfl rfl
set_option maxRecDepth 100000 in
theorem mm_w237 : Jvm.Cond.code (mm_yn 237) (mm_yb 237) (mm_ml 237) (mm_yr 237) ∈ mm_gT := mm_inG (i := 1794) rfl rfl
set_option maxRecDepth 100000 in
theorem mm_w238 : Jvm.Cond.code (mm_yn 238) (mm_yb 238) (mm_ml 238) (mm_yr 238) ∈ mm_gT := mm_inG (i := 1812) rfl rfl
set_option maxRecDepth 100000 in
theorem mm_w239 : Jvm.Cond.code (mm_yn 239) (mm_yb 239) (mm_ml 239) (mm_yr 239) ∈ mm_gT := mm_inG (i := 1790) rfl rfl
set_option maxRecDepth 100000 in
theorem mm_w240 : Jvm.Cond.code (mm_yn 240) (mm_yb 240) (mm_ml 240) (mm_yr 240) ∈ mm_gT := mm_inG (i := 1846) rfl rfl
set_option maxRecDepth 100000 in
theorem mm_w241 : Jvm.Cond.code (mm_yn 241) (mm_yb 241) (mm_ml 241) (mm_yr 241) ∈ mm_gT := mm_inG (i := 1850) rfl rfl
set_option maxRecDepth 100000 in
theorem mm_w242 : Jvm.Cond.code (mm_yn 242) (mm_yb 242) (mm_ml 242) (mm_yr 242) ∈ mm_gT := mm_inG (i := 1842) rfl rfl
set_option maxRecDepth 100000 in
theorem mm_w243 : Jvm.Cond.code (mm_yn 243) (mm_yb 243) (mm_ml 243) (mm_yr 243) ∈ mm_gT := mm_inG (i := 1858) rfl rfl
set_option maxRecDepth 100000 in
theorem mm_w244 : Jvm.Cond.code (mm_yn 244) (mm_yb 244) (mm_ml 244) (mm_yr 244) ∈ mm_gT := mm_inG (i := 1854) rfl rfl
set_option maxRecDepth 100000 in
theorem mm_w245 : Jvm.Cond.code (mm_yn 245) (mm_yb 245) (mm_ml 245) (mm_yr 245) ∈ mm_gT := mm_inG (i := 1875) rfl rfl
set_option maxRecDepth 100000 in
theorem mm_w246 : Jvm.Cond.code (mm_yn 246) (mm_yb 246) (mm_ml 246) (mm_yr 246) ∈ mm_gT := mm_inG (i := 1872) rfl rfl
set_option maxRecDepth 100000 in
theorem mm_w247 : Jvm.Cond.code (mm_yn 247) (mm_yb 247) (mm_ml 247) (mm_yr 247) ∈ mm_gT := mm_inG (i := 1879) rfl rfl
set_option maxRecDepth 100000 in
theorem mm_w248 : Jvm.Cond.code (mm_yn 248) (mm_yb 248) (mm_ml 248) (mm_yr 248) ∈ mm_gT := mm_inG (i := 1883) rfl rfl
set_option maxRecDepth 100000 in
theorem mm_w249 : Jvm.Cond.code (mm_yn 249) (mm_yb 249) (mm_ml 249) (mm_yr 249) ∈ mm_gT := mm_inG (i := 1887) rfl rfl
set_option maxRecDepth 100000 in
theorem mm_w250 : Jvm.Cond.code (mm_yn 250) (mm_yb 250) (mm_ml 250) (mm_yr 250) ∈ mm_gT := mm_inG (i := 1868) rfl rfl
set_option maxRecDepth 100000 in
theorem mm_w251 : Jvm.Cond.code (mm_yn 251) (mm_yb 251) (mm_ml 251) (mm_yr 251) ∈ mm_gT := mm_inG (i := 1890) rfl rfl
set_option maxRecDepth 100000 in
theorem mm_w252 : Jvm.Cond.code (mm_yn 252) (mm_yb 252) (mm_ml 252) (mm_yr 252) ∈ mm_gT := mm_inG (i := 1940) rfl rfl
set_option maxRecDepth 100000 in
theorem mm_w253 : Jvm.Cond.code (mm_yn 253) (mm_yb 253) (mm_ml 253) (mm_yr 253) ∈ mm_gT := mm_inG (i := 1937) rfl rfl
set_option maxRecDepth 100000 in
theorem mm_w254 : Jvm.Cond.code (mm_yn 254) (mm_yb 254) (mm_ml 254) (mm_yr 254) ∈ mm_gT := mm_inG (i := 1928) rfl rfl
set_option maxRecDepth 100000 in
theorem mm_w255 : Jvm.Cond.code (mm_yn 255) (mm_yb 255) (mm_ml 255) (mm_yr 255) ∈ mm_gT := mm_inG (i := 1933) rfl rfl
set_option maxRecDepth 100000 in
theorem mm_w256 : Jvm.Cond.code (mm_yn 256) (mm_yb 256) (mm_ml 256) (mm_yr 256) ∈ mm_gT := mm_inG (i := 1786) rfl rfl
set_option maxRecDepth 100000 in
theorem mm_w257 : Jvm.Cond.code (mm_yn 257) (mm_yb 257) (mm_ml 257) (mm_yr 257) ∈ mm_gT := mm_inG (i := 1862) rfl rfl
set_option maxRecDepth 100000 in
theorem mm_w258 : Jvm.Cond.code (mm_yn 258) (mm_yb 258) (mm_ml 258) (mm_yr 258) ∈ mm_gT := mm_inG (i := 1782) rfl rfl
set_option maxRecDepth 100000 in
theorem mm_w259 : Jvm.Cond.code (mm_yn 259) (mm_yb 259) (mm_ml 259) (mm_yr 259) ∈ mm_gT := mm_inG (i := 1894) rfl rfl
set_option maxRecDepth 100000 in
theorem mm_w260 : Jvm.Cond.code (mm_yn 260) (mm_yb 260) (mm_ml 260) (mm_yr 260) ∈ mm_gT := mm_inG (i := 1908) rfl rfl
set_option maxRecDepth 100000 in
theorem mm_w261 : Jvm.Cond.code (mm_yn 261) (mm_yb 261) (mm_ml 261) (mm_yr 261) ∈ mm_gT := mm_inG (i := 1924) rfl rfl
set_option maxRecDepth 100000 in
theorem mm_w262 : Jvm.Cond.code (mm_yn 262) (mm_yb 262) (mm_ml 262) (mm_yr 262) ∈ mm_gT := mm_inG (i := 1947) rfl rfl
set_option maxRecDepth 100000 in
theorem mm_w263 : Jvm.Cond.code (mm_yn 263) (mm_yb 263) (mm_ml 263) (mm_yr 263) ∈ mm_gT := mm_inG (i := 1967) rfl rfl
set_option maxRecDepth 100000 in
theorem mm_w264 : Jvm.Cond.code (mm_yn 264) (mm_yb 264) (mm_ml 264) (mm_yr 264) ∈ mm_gT := mm_inG (i := 1963) rfl rfl
set_option maxRecDepth 100000 in
theorem mm_w265 : Jvm.Cond.code (mm_yn 265) (mm_yb 265) (mm_ml 265) (mm_yr 265) ∈ mm_gT := mm_inG (i := 1951) rfl rfl
set_option maxRecDepth 100000 in
theorem mm_w266 : Jvm.Cond.code (mm_yn 266) (mm_yb 266) (mm_ml 266) (mm_yr 266) ∈ mm_gT := mm_inG (i := 1959) rfl rfl
set_option maxRecDepth 100000 in
theorem mm_w267 : Jvm.Cond.code (mm_yn 267) (mm_yb 267) (mm_ml 267) (mm_yr 267) ∈ mm_gT := mm_inG (i := 1955) rfl rfl
set_option maxRecDepth 100000 in
theorem mm_w268 : Jvm.Cond.code (mm_yn 268) (mm_yb 268) (mm_ml 268) (mm_yr 268) ∈ mm_gT := mm_inG (i := 1971) rfl rfl
set_option maxRecDepth 100000 in
theorem mm_w269 : Jvm.Cond.code (mm_yn 269) (mm_yb 269) (mm_ml 269) (mm_yr 269) ∈ mm_gT := mm_inG (i := 1978) rfl rfl
set_option maxRecDepth 100000 in
theorem mm_w270 : Jvm.Cond.code (mm_yn 270) (mm_yb 270) (mm_ml 270) (mm_yr 270) ∈ mm_gT := mm_inG (i := 1982) rfl rfl
set_option maxRecDepth 100000 in
theorem mm_w271 : Jvm.Cond.code (mm_yn 271) (mm_yb 271) (mm_ml 271) (mm_yr 271) ∈ mm_gT := mm_inG (i := 1994) rfl rfl
set_option maxRecDepth 100000 in
theorem mm_w272 : Jvm.Cond.code (mm_yn 272) (mm_yb 272) (mm_ml 272) (mm_yr 272) ∈ mm_gT := mm_inG (i := 1998) rfl rfl
set_option maxRecDepth 100000 in
theorem mm_w273 : Jvm.Cond.code (mm_yn 273) (mm_yb 273) (mm_ml 273) (mm_yr 273) ∈ mm_gT := mm_inG (i := 1990) rfl rfl
set_option maxRecDepth 100000 in
theorem mm_w274 : Jvm.Cond.code (mm_yn 274) (mm_yb 274) (mm_ml 274) (mm_yr 274) ∈ mm_gT := mm_inG (i := 1986) rfl rfl
set_option maxRecDepth 100000 in
theorem mm_w275 : Jvm.Cond.code (mm_yn 275) (mm_yb 275) (mm_ml 275) (mm_yr 275) ∈ mm_gT := mm_inG (i := 2002) rfl rfl
set_option maxRecDepth 100000 in
theorem mm_w276 : Jvm.Cond.code (mm_yn 276) (mm_yb 276) (mm_ml 276) (mm_yr 276) ∈ mm_gT := mm_inG (i := 2010) rfl rfl
set_option maxRecDepth 100000 in
theorem mm_w277 : Jvm.Cond.code (mm_yn 277) (mm_yb 277) (mm_ml 277) (mm_yr 277) ∈ mm_gT := mm_inG (i := 2006) rfl rfl
set_option maxRecDepth 100000 in
theorem mm_w278 : Jvm.Cond.code (mm_yn 278) (mm_yb 278) (mm_ml 278) (mm_yr 278) ∈ mm_gT := mm_inG (i := 2014) rfl rfl
set_option maxRecDepth 100000 in
theorem mm_w279 : Jvm.Cond.code (mm_yn 279) (mm_yb 279) (mm_ml 279) (mm_yr 279) ∈ mm_gT := mm_inG (i := 2018) rfl rfl
set_option maxRecDepth 100000 in
theorem mm_w280 : Jvm.Cond.code (mm_yn 280) (mm_yb 280) (mm_ml 280) (mm_yr 280) ∈ mm_gT := mm_inG (i := 2022) rfl rfl
set_option maxRecDepth 100000 in
theorem mm_w281 : Jvm.Cond.code (mm_yn 281) (mm_yb 281) (mm_ml 281) (mm_yr 281) ∈ mm_gT := mm_inG (i := 2027) rfl rfl
set_option maxRecDepth 100000 in
theorem mm_w282 : Jvm.Cond.code (mm_yn 282) (mm_yb 282) (mm_ml 282) (mm_yr 282) ∈ mm_gT := mm_inG (i := 2031) rfl rfl
set_option maxRecDepth 100000 in
theorem mm_w283 : Jvm.Cond.code (mm_yn 283) (mm_yb 283) (mm_ml 283) (mm_yr 283) ∈ mm_gT := mm_inG (i := 2035) rfl rfl
set_option maxRecDepth 100000 in
theorem mm_w284 : Jvm.Cond.code (mm_yn 284) (mm_yb 284) (mm_ml 284) (mm_yr 284) ∈ mm_gT := mm_inG (i := 1916) rfl rfl
set_option maxRecDepth 100000 in
theorem mm_w285 : Jvm.Cond.code (mm_yn 285) (mm_yb 285) (mm_ml 285) (mm_yr 285) ∈ mm_gT := mm_inG (i := 1913) rfl rfl
set_option maxRecDepth 100000 in
theorem mm_w286 : Jvm.Cond.code (mm_yn 286) (mm_yb 286) (mm_ml 286) (mm_yr 286) ∈ mm_gT := mm_inG (i := 1900) rfl rfl
set_option maxRecDepth 100000 in
theorem mm_w287 : Jvm.Cond.code (mm_yn 287) (mm_yb 287) (mm_ml 287) (mm_yr 287) ∈ mm_gT := mm_inG (i := 1897) rfl rfl
set_option maxRecDepth 100000 in
theorem mm_w288 : Jvm.Cond.code (mm_yn 288) (mm_yb 288) (mm_ml 288) (mm_yr 288) ∈ mm_gT := mm_inG (i := 1213) rfl rfl
set_option maxRecDepth 100000 in
theorem mm_w289 : Jvm.Cond.code (mm_yn 289) (mm_yb 289) (mm_ml 289) (mm_yr 289) ∈ mm_gT := mm_inG (i := 1943) rfl rfl
set_option maxRecDepth 100000 in
theorem mm_w290 : Jvm.Cond.code (mm_yn 290) (mm_yb 290) (mm_ml 290) (mm_yr 290) ∈ mm_gT := mm_inG (i := 1186) rfl rfl
set_option maxRecDepth 100000 in
theorem mm_w291 : Jvm.Cond.code (mm_yn 291) (mm_yb 291) (mm_ml 291) (mm_yr 291) ∈ mm_gT := mm_inG (i := 998) rfl rfl
set_option maxRecDepth 100000 in
theorem mm_w292 : Jvm.Cond.code (mm_yn 292) (mm_yb 292) (mm_ml 292) (mm_yr 292) ∈ mm_gT := mm_inG (i := 844) rfl rfl
end
section
/-! the check of the law, by forties -/
theorem mm_cL0 : mm_ckD 293 0 mm_u293 = true := by decide +kernel
theorem mm_cL40 : mm_ckD 293 40 mm_u293 = true := by decide +kernel
theorem mm_cL80 : mm_ckD 293 80 mm_u293 = true := by decide +kernel
theorem mm_cL120 : mm_ckD 293 120 mm_u293 = true := by decide +kernel
theorem mm_cL160 : mm_ckD 293 160 mm_u293 = true := by decide +kernel
theorem mm_cL200 : mm_ckD 293 200 mm_u293 = true := by decide +kernel
theorem mm_cL240 : mm_ckD 293 240 mm_u293 = true := by decide +kernel
theorem mm_cL280 : mm_ckD 293 280 mm_u293 = true := by decide +kernel
theorem mm_cL320 : mm_ckD 293 320 mm_u293 = true := by decide +kernel
theorem mm_cL360 : mm_ckD 293 360 mm_u293 = true := by decide +kernel
theorem mm_cL400 : mm_ckD 293 400 mm_u293 = true := by decide +kernel
theorem mm_cL440 : mm_ckD 293 440 mm_u293 = true := by decide +kernel
theorem mm_cL480 : mm_ckD 293 480 mm_u293 = true := by decide +kernel
theorem mm_cL520 : mm_ckD 293 520 mm_u293 = true := by decide +kernel
theorem mm_cL560 : mm_ckD 293 560 mm_u293 = true := by decide +kernel
theorem mm_cL600 : mm_ckD 293 600 mm_u293 = true := by decide +kernel
theorem mm_cL640 : mm_ckD 293 640 mm_u293 = true := by decide +kernel
theorem mm_cL680 : mm_ckD 293 680 mm_u293 = true := by decide +kernel
theorem mm_cL720 : mm_ckD 293 720 mm_u293 = true := by decide +kernel
end
