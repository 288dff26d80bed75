-- ===== PART A: goes FIRST, ahead of the names: the tables' words, and 'selects' of the private methods out of them =====
/-- a private method of a class that the tables say can be made, by its rows of tables_1 -/
def lw_okq (q : MethodName × Nat) : Prop := (q.1.cls ≠ "java/lang/invoke/MethodHandle" ∧ q.1.cls ≠ "java/lang/invoke/VarHandle") ∧ Cond.instantiable q.1.cls q.2 ∈ tables_1 ∧ Cond.privateMethod q.1 ∈ tables_1 ∧ Cond.instanceMethod q.1 ∈ tables_1
theorem lw_p0 : lw_okq (⟨"FeastRules$Rule", "dateTold", "(LFeastRules$Almanac;)Z"⟩, 15) := ⟨⟨by decide +kernel, by decide +kernel⟩, List.mem_of_getElem? (i := 302) (by decide +kernel), List.mem_of_getElem? (i := 469) (by decide +kernel), List.mem_of_getElem? (i := 470) (by decide +kernel)⟩
theorem lw_p1 : lw_okq (⟨"FeastRules$Rule", "weekdayTold", "(LFeastRules$Almanac;)Z"⟩, 15) := ⟨⟨by decide +kernel, by decide +kernel⟩, List.mem_of_getElem? (i := 302) (by decide +kernel), List.mem_of_getElem? (i := 473) (by decide +kernel), List.mem_of_getElem? (i := 474) (by decide +kernel)⟩
theorem lw_p2 : lw_okq (⟨"FeastRules$Rule", "countsInMonth", "(LFeastRules$Almanac;)Z"⟩, 15) := ⟨⟨by decide +kernel, by decide +kernel⟩, List.mem_of_getElem? (i := 302) (by decide +kernel), List.mem_of_getElem? (i := 477) (by decide +kernel), List.mem_of_getElem? (i := 478) (by decide +kernel)⟩
theorem lw_p3 : lw_okq (⟨"FeastRules$Rule", "placeTold", "(III)Z"⟩, 15) := ⟨⟨by decide +kernel, by decide +kernel⟩, List.mem_of_getElem? (i := 302) (by decide +kernel), List.mem_of_getElem? (i := 481) (by decide +kernel), List.mem_of_getElem? (i := 482) (by decide +kernel)⟩
theorem lw_p4 : lw_okq (⟨"FeastRules$Rule", "countsInYear", "(LFeastRules$Almanac;)Z"⟩, 15) := ⟨⟨by decide +kernel, by decide +kernel⟩, List.mem_of_getElem? (i := 302) (by decide +kernel), List.mem_of_getElem? (i := 485) (by decide +kernel), List.mem_of_getElem? (i := 486) (by decide +kernel)⟩
theorem lw_p5 : lw_okq (⟨"FeastRules", "refuse", "(I)I"⟩, 10) := ⟨⟨by decide +kernel, by decide +kernel⟩, List.mem_of_getElem? (i := 23) (by decide +kernel), List.mem_of_getElem? (i := 542) (by decide +kernel), List.mem_of_getElem? (i := 543) (by decide +kernel)⟩
theorem lw_p6 : lw_okq (⟨"FeastRules", "deny", "(I)Z"⟩, 10) := ⟨⟨by decide +kernel, by decide +kernel⟩, List.mem_of_getElem? (i := 23) (by decide +kernel), List.mem_of_getElem? (i := 554) (by decide +kernel), List.mem_of_getElem? (i := 555) (by decide +kernel)⟩
theorem lw_p7 : lw_okq (⟨"FeastRules$Reader", "advance", "()V"⟩, 9) := ⟨⟨by decide +kernel, by decide +kernel⟩, List.mem_of_getElem? (i := 49) (by decide +kernel), List.mem_of_getElem? (i := 571) (by decide +kernel), List.mem_of_getElem? (i := 572) (by decide +kernel)⟩
theorem lw_p8 : lw_okq (⟨"FeastRules$Reader", "isWord", "(Ljava/lang/String;)Z"⟩, 9) := ⟨⟨by decide +kernel, by decide +kernel⟩, List.mem_of_getElem? (i := 49) (by decide +kernel), List.mem_of_getElem? (i := 576) (by decide +kernel), List.mem_of_getElem? (i := 577) (by decide +kernel)⟩
theorem lw_p9 : lw_okq (⟨"FeastRules$Reader", "ruleText", "()V"⟩, 9) := ⟨⟨by decide +kernel, by decide +kernel⟩, List.mem_of_getElem? (i := 49) (by decide +kernel), List.mem_of_getElem? (i := 628) (by decide +kernel), List.mem_of_getElem? (i := 629) (by decide +kernel)⟩
theorem lw_p10 : lw_okq (⟨"FeastRules$Reader", "refuse", "(II)V"⟩, 9) := ⟨⟨by decide +kernel, by decide +kernel⟩, List.mem_of_getElem? (i := 49) (by decide +kernel), List.mem_of_getElem? (i := 632) (by decide +kernel), List.mem_of_getElem? (i := 633) (by decide +kernel)⟩
theorem lw_p11 : lw_okq (⟨"FeastRules$Reader", "newName", "()I"⟩, 9) := ⟨⟨by decide +kernel, by decide +kernel⟩, List.mem_of_getElem? (i := 49) (by decide +kernel), List.mem_of_getElem? (i := 636) (by decide +kernel), List.mem_of_getElem? (i := 637) (by decide +kernel)⟩
theorem lw_p12 : lw_okq (⟨"FeastRules$Reader", "name", "()I"⟩, 9) := ⟨⟨by decide +kernel, by decide +kernel⟩, List.mem_of_getElem? (i := 49) (by decide +kernel), List.mem_of_getElem? (i := 640) (by decide +kernel), List.mem_of_getElem? (i := 641) (by decide +kernel)⟩
theorem lw_p13 : lw_okq (⟨"FeastRules$Reader", "isOwnWord", "()Z"⟩, 9) := ⟨⟨by decide +kernel, by decide +kernel⟩, List.mem_of_getElem? (i := 49) (by decide +kernel), List.mem_of_getElem? (i := 644) (by decide +kernel), List.mem_of_getElem? (i := 645) (by decide +kernel)⟩
theorem lw_p14 : lw_okq (⟨"FeastRules$Reader", "wordAmong", "(Ljava/lang/String;)I"⟩, 9) := ⟨⟨by decide +kernel, by decide +kernel⟩, List.mem_of_getElem? (i := 49) (by decide +kernel), List.mem_of_getElem? (i := 649) (by decide +kernel), List.mem_of_getElem? (i := 650) (by decide +kernel)⟩
theorem lw_p15 : lw_okq (⟨"FeastRules$Reader", "pass", "(Z)V"⟩, 9) := ⟨⟨by decide +kernel, by decide +kernel⟩, List.mem_of_getElem? (i := 49) (by decide +kernel), List.mem_of_getElem? (i := 675) (by decide +kernel), List.mem_of_getElem? (i := 676) (by decide +kernel)⟩
def lw_privs_1 : List (MethodName × Nat) := [(⟨"FeastRules$Rule", "dateTold", "(LFeastRules$Almanac;)Z"⟩, 15), (⟨"FeastRules$Rule", "weekdayTold", "(LFeastRules$Almanac;)Z"⟩, 15), (⟨"FeastRules$Rule", "countsInMonth", "(LFeastRules$Almanac;)Z"⟩, 15), (⟨"FeastRules$Rule", "placeTold", "(III)Z"⟩, 15), (⟨"FeastRules$Rule", "countsInYear", "(LFeastRules$Almanac;)Z"⟩, 15), (⟨"FeastRules", "refuse", "(I)I"⟩, 10), (⟨"FeastRules", "deny", "(I)Z"⟩, 10), (⟨"FeastRules$Reader", "advance", "()V"⟩, 9), (⟨"FeastRules$Reader", "isWord", "(Ljava/lang/String;)Z"⟩, 9), (⟨"FeastRules$Reader", "ruleText", "()V"⟩, 9), (⟨"FeastRules$Reader", "refuse", "(II)V"⟩, 9), (⟨"FeastRules$Reader", "newName", "()I"⟩, 9), (⟨"FeastRules$Reader", "name", "()I"⟩, 9), (⟨"FeastRules$Reader", "isOwnWord", "()Z"⟩, 9), (⟨"FeastRules$Reader", "wordAmong", "(Ljava/lang/String;)I"⟩, 9), (⟨"FeastRules$Reader", "pass", "(Z)V"⟩, 9)]
theorem lw_r1 : ∀ q ∈ lw_privs_1, lw_okq q := List.forall_mem_cons.mpr ⟨lw_p0, List.forall_mem_cons.mpr ⟨lw_p1, List.forall_mem_cons.mpr ⟨lw_p2, List.forall_mem_cons.mpr ⟨lw_p3, List.forall_mem_cons.mpr ⟨lw_p4, List.forall_mem_cons.mpr ⟨lw_p5, List.forall_mem_cons.mpr ⟨lw_p6, List.forall_mem_cons.mpr ⟨lw_p7, List.forall_mem_cons.mpr ⟨lw_p8, List.forall_mem_cons.mpr ⟨lw_p9, List.forall_mem_cons.mpr ⟨lw_p10, List.forall_mem_cons.mpr ⟨lw_p11, List.forall_mem_cons.mpr ⟨lw_p12, List.forall_mem_cons.mpr ⟨lw_p13, List.forall_mem_cons.mpr ⟨lw_p14, List.forall_mem_cons.mpr ⟨lw_p15, fun _ h => absurd h List.not_mem_nil⟩⟩⟩⟩⟩⟩⟩⟩⟩⟩⟩⟩⟩⟩⟩⟩
theorem lw_p16 : lw_okq (⟨"FeastRules$Reader", "number", "(II)I"⟩, 9) := ⟨⟨by decide +kernel, by decide +kernel⟩, List.mem_of_getElem? (i := 49) (by decide +kernel), List.mem_of_getElem? (i := 679) (by decide +kernel), List.mem_of_getElem? (i := 680) (by decide +kernel)⟩
theorem lw_p17 : lw_okq (⟨"FeastRules$Reader", "dateText", "()I"⟩, 9) := ⟨⟨by decide +kernel, by decide +kernel⟩, List.mem_of_getElem? (i := 49) (by decide +kernel), List.mem_of_getElem? (i := 684) (by decide +kernel), List.mem_of_getElem? (i := 685) (by decide +kernel)⟩
theorem lw_p18 : lw_okq (⟨"FeastRules$Reader", "isSign", "(C)Z"⟩, 9) := ⟨⟨by decide +kernel, by decide +kernel⟩, List.mem_of_getElem? (i := 49) (by decide +kernel), List.mem_of_getElem? (i := 688) (by decide +kernel), List.mem_of_getElem? (i := 689) (by decide +kernel)⟩
theorem lw_p19 : lw_okq (⟨"FeastRules$Reader", "partText", "(ILFeastRules$Rule;)V"⟩, 9) := ⟨⟨by decide +kernel, by decide +kernel⟩, List.mem_of_getElem? (i := 49) (by decide +kernel), List.mem_of_getElem? (i := 704) (by decide +kernel), List.mem_of_getElem? (i := 705) (by decide +kernel)⟩
theorem lw_p20 : lw_okq (⟨"FeastRules$Reader", "rowText", "(II)V"⟩, 9) := ⟨⟨by decide +kernel, by decide +kernel⟩, List.mem_of_getElem? (i := 49) (by decide +kernel), List.mem_of_getElem? (i := 708) (by decide +kernel), List.mem_of_getElem? (i := 709) (by decide +kernel)⟩
theorem lw_p21 : lw_okq (⟨"FeastRules$Reader", "member", "(II)I"⟩, 9) := ⟨⟨by decide +kernel, by decide +kernel⟩, List.mem_of_getElem? (i := 49) (by decide +kernel), List.mem_of_getElem? (i := 713) (by decide +kernel), List.mem_of_getElem? (i := 714) (by decide +kernel)⟩
theorem lw_p22 : lw_okq (⟨"FeastRules$Reader", "nextInRow", "()Z"⟩, 9) := ⟨⟨by decide +kernel, by decide +kernel⟩, List.mem_of_getElem? (i := 49) (by decide +kernel), List.mem_of_getElem? (i := 723) (by decide +kernel), List.mem_of_getElem? (i := 724) (by decide +kernel)⟩
theorem lw_p23 : lw_okq (⟨"FeastRules$Reader", "setText", "()V"⟩, 9) := ⟨⟨by decide +kernel, by decide +kernel⟩, List.mem_of_getElem? (i := 49) (by decide +kernel), List.mem_of_getElem? (i := 755) (by decide +kernel), List.mem_of_getElem? (i := 756) (by decide +kernel)⟩
theorem lw_p24 : lw_okq (⟨"FeastRules$Reader", "sumText", "(I)V"⟩, 9) := ⟨⟨by decide +kernel, by decide +kernel⟩, List.mem_of_getElem? (i := 49) (by decide +kernel), List.mem_of_getElem? (i := 760) (by decide +kernel), List.mem_of_getElem? (i := 761) (by decide +kernel)⟩
theorem lw_p25 : lw_okq (⟨"FeastRules$Reader", "bothText", "(I)V"⟩, 9) := ⟨⟨by decide +kernel, by decide +kernel⟩, List.mem_of_getElem? (i := 49) (by decide +kernel), List.mem_of_getElem? (i := 764) (by decide +kernel), List.mem_of_getElem? (i := 765) (by decide +kernel)⟩
theorem lw_p26 : lw_okq (⟨"FeastRules$Reader", "oneText", "(I)V"⟩, 9) := ⟨⟨by decide +kernel, by decide +kernel⟩, List.mem_of_getElem? (i := 49) (by decide +kernel), List.mem_of_getElem? (i := 768) (by decide +kernel), List.mem_of_getElem? (i := 769) (by decide +kernel)⟩
theorem lw_p27 : lw_okq (⟨"FeastRules$Reader", "firstText", "(I)V"⟩, 9) := ⟨⟨by decide +kernel, by decide +kernel⟩, List.mem_of_getElem? (i := 49) (by decide +kernel), List.mem_of_getElem? (i := 772) (by decide +kernel), List.mem_of_getElem? (i := 773) (by decide +kernel)⟩
theorem lw_p28 : lw_okq (⟨"FeastRules$Reader", "daysText", "()V"⟩, 9) := ⟨⟨by decide +kernel, by decide +kernel⟩, List.mem_of_getElem? (i := 49) (by decide +kernel), List.mem_of_getElem? (i := 777) (by decide +kernel), List.mem_of_getElem? (i := 778) (by decide +kernel)⟩
theorem lw_p29 : lw_okq (⟨"FeastRules$Reader", "knownName", "()I"⟩, 9) := ⟨⟨by decide +kernel, by decide +kernel⟩, List.mem_of_getElem? (i := 49) (by decide +kernel), List.mem_of_getElem? (i := 785) (by decide +kernel), List.mem_of_getElem? (i := 786) (by decide +kernel)⟩
theorem lw_p30 : lw_okq (⟨"FeastRules$Ledger", "rowOf", "(II)LFeastRules$Row;"⟩, 8) := ⟨⟨by decide +kernel, by decide +kernel⟩, List.mem_of_getElem? (i := 169) (by decide +kernel), List.mem_of_getElem? (i := 819) (by decide +kernel), List.mem_of_getElem? (i := 820) (by decide +kernel)⟩
theorem lw_p31 : lw_okq (⟨"FeastRules$Ledger", "putTogether", "(I)V"⟩, 8) := ⟨⟨by decide +kernel, by decide +kernel⟩, List.mem_of_getElem? (i := 169) (by decide +kernel), List.mem_of_getElem? (i := 867) (by decide +kernel), List.mem_of_getElem? (i := 868) (by decide +kernel)⟩
def lw_privs_2 : List (MethodName × Nat) := [(⟨"FeastRules$Reader", "number", "(II)I"⟩, 9), (⟨"FeastRules$Reader", "dateText", "()I"⟩, 9), (⟨"FeastRules$Reader", "isSign", "(C)Z"⟩, 9), (⟨"FeastRules$Reader", "partText", "(ILFeastRules$Rule;)V"⟩, 9), (⟨"FeastRules$Reader", "rowText", "(II)V"⟩, 9), (⟨"FeastRules$Reader", "member", "(II)I"⟩, 9), (⟨"FeastRules$Reader", "nextInRow", "()Z"⟩, 9), (⟨"FeastRules$Reader", "setText", "()V"⟩, 9), (⟨"FeastRules$Reader", "sumText", "(I)V"⟩, 9), (⟨"FeastRules$Reader", "bothText", "(I)V"⟩, 9), (⟨"FeastRules$Reader", "oneText", "(I)V"⟩, 9), (⟨"FeastRules$Reader", "firstText", "(I)V"⟩, 9), (⟨"FeastRules$Reader", "daysText", "()V"⟩, 9), (⟨"FeastRules$Reader", "knownName", "()I"⟩, 9), (⟨"FeastRules$Ledger", "rowOf", "(II)LFeastRules$Row;"⟩, 8), (⟨"FeastRules$Ledger", "putTogether", "(I)V"⟩, 8)]
theorem lw_r2 : ∀ q ∈ lw_privs_2, lw_okq q := List.forall_mem_cons.mpr ⟨lw_p16, List.forall_mem_cons.mpr ⟨lw_p17, List.forall_mem_cons.mpr ⟨lw_p18, List.forall_mem_cons.mpr ⟨lw_p19, List.forall_mem_cons.mpr ⟨lw_p20, List.forall_mem_cons.mpr ⟨lw_p21, List.forall_mem_cons.mpr ⟨lw_p22, List.forall_mem_cons.mpr ⟨lw_p23, List.forall_mem_cons.mpr ⟨lw_p24, List.forall_mem_cons.mpr ⟨lw_p25, List.forall_mem_cons.mpr ⟨lw_p26, List.forall_mem_cons.mpr ⟨lw_p27, List.forall_mem_cons.mpr ⟨lw_p28, List.forall_mem_cons.mpr ⟨lw_p29, List.forall_mem_cons.mpr ⟨lw_p30, List.forall_mem_cons.mpr ⟨lw_p31, fun _ h => absurd h List.not_mem_nil⟩⟩⟩⟩⟩⟩⟩⟩⟩⟩⟩⟩⟩⟩⟩⟩
theorem lw_p32 : lw_okq (⟨"FeastRules$Ledger", "perform", "(II)V"⟩, 8) := ⟨⟨by decide +kernel, by decide +kernel⟩, List.mem_of_getElem? (i := 169) (by decide +kernel), List.mem_of_getElem? (i := 887) (by decide +kernel), List.mem_of_getElem? (i := 888) (by decide +kernel)⟩
theorem lw_p33 : lw_okq (⟨"FeastRules$Ledger", "lay", "(LFeastRules$DaySet;)V"⟩, 8) := ⟨⟨by decide +kernel, by decide +kernel⟩, List.mem_of_getElem? (i := 169) (by decide +kernel), List.mem_of_getElem? (i := 891) (by decide +kernel), List.mem_of_getElem? (i := 892) (by decide +kernel)⟩
theorem lw_p34 : lw_okq (⟨"FeastRules$DaySet", "word", "(I)J"⟩, 1) := ⟨⟨by decide +kernel, by decide +kernel⟩, List.mem_of_getElem? (i := 178) (by decide +kernel), List.mem_of_getElem? (i := 908) (by decide +kernel), List.mem_of_getElem? (i := 909) (by decide +kernel)⟩
theorem lw_p35 : lw_okq (⟨"FeastRules$Ledger", "join", "(ILFeastRules$DaySet;)V"⟩, 8) := ⟨⟨by decide +kernel, by decide +kernel⟩, List.mem_of_getElem? (i := 169) (by decide +kernel), List.mem_of_getElem? (i := 937) (by decide +kernel), List.mem_of_getElem? (i := 938) (by decide +kernel)⟩
theorem lw_p36 : lw_okq (⟨"FeastRules$Seen", "isSo", "()Z"⟩, 12) := ⟨⟨by decide +kernel, by decide +kernel⟩, List.mem_of_getElem? (i := 243) (by decide +kernel), List.mem_of_getElem? (i := 1066) (by decide +kernel), List.mem_of_getElem? (i := 1067) (by decide +kernel)⟩
theorem lw_p37 : lw_okq (⟨"FeastRules$Seen", "countYear", "(II)V"⟩, 12) := ⟨⟨by decide +kernel, by decide +kernel⟩, List.mem_of_getElem? (i := 243) (by decide +kernel), List.mem_of_getElem? (i := 1072) (by decide +kernel), List.mem_of_getElem? (i := 1073) (by decide +kernel)⟩
theorem lw_p38 : lw_okq (⟨"FeastRules$Seen", "choose", "(II)V"⟩, 12) := ⟨⟨by decide +kernel, by decide +kernel⟩, List.mem_of_getElem? (i := 243) (by decide +kernel), List.mem_of_getElem? (i := 1076) (by decide +kernel), List.mem_of_getElem? (i := 1077) (by decide +kernel)⟩
theorem lw_p39 : lw_okq (⟨"FeastRules", "turn", "(III)Z"⟩, 10) := ⟨⟨by decide +kernel, by decide +kernel⟩, List.mem_of_getElem? (i := 23) (by decide +kernel), List.mem_of_getElem? (i := 1094) (by decide +kernel), List.mem_of_getElem? (i := 1095) (by decide +kernel)⟩
theorem lw_p40 : lw_okq (⟨"FeastRules$Ledger", "markOf", "(II)I"⟩, 8) := ⟨⟨by decide +kernel, by decide +kernel⟩, List.mem_of_getElem? (i := 169) (by decide +kernel), List.mem_of_getElem? (i := 1103) (by decide +kernel), List.mem_of_getElem? (i := 1104) (by decide +kernel)⟩
theorem lw_p41 : lw_okq (⟨"FeastRules$Ledger", "mark", "(III)V"⟩, 8) := ⟨⟨by decide +kernel, by decide +kernel⟩, List.mem_of_getElem? (i := 169) (by decide +kernel), List.mem_of_getElem? (i := 1108) (by decide +kernel), List.mem_of_getElem? (i := 1109) (by decide +kernel)⟩
theorem lw_p42 : lw_okq (⟨"FeastRules", "draw", "(I)I"⟩, 10) := ⟨⟨by decide +kernel, by decide +kernel⟩, List.mem_of_getElem? (i := 23) (by decide +kernel), List.mem_of_getElem? (i := 1156) (by decide +kernel), List.mem_of_getElem? (i := 1157) (by decide +kernel)⟩
theorem lw_p43 : lw_okq (⟨"FeastRules", "restoreRule", "()V"⟩, 10) := ⟨⟨by decide +kernel, by decide +kernel⟩, List.mem_of_getElem? (i := 23) (by decide +kernel), List.mem_of_getElem? (i := 1175) (by decide +kernel), List.mem_of_getElem? (i := 1176) (by decide +kernel)⟩
theorem lw_p44 : lw_okq (⟨"FeastRulesModel", "refuses", "(I)I"⟩, 47) := ⟨⟨by decide +kernel, by decide +kernel⟩, List.mem_of_getElem? (i := 1200) (by decide +kernel), List.mem_of_getElem? (i := 1355) (by decide +kernel), List.mem_of_getElem? (i := 1356) (by decide +kernel)⟩
theorem lw_p45 : lw_okq (⟨"FeastRulesModel", "isRefused", "(I)Z"⟩, 47) := ⟨⟨by decide +kernel, by decide +kernel⟩, List.mem_of_getElem? (i := 1200) (by decide +kernel), List.mem_of_getElem? (i := 1363) (by decide +kernel), List.mem_of_getElem? (i := 1364) (by decide +kernel)⟩
theorem lw_p46 : lw_okq (⟨"FeastRulesModel", "laysDays", "()V"⟩, 47) := ⟨⟨by decide +kernel, by decide +kernel⟩, List.mem_of_getElem? (i := 1200) (by decide +kernel), List.mem_of_getElem? (i := 1383) (by decide +kernel), List.mem_of_getElem? (i := 1384) (by decide +kernel)⟩
theorem lw_p47 : lw_okq (⟨"FeastRulesModel", "look", "()I"⟩, 47) := ⟨⟨by decide +kernel, by decide +kernel⟩, List.mem_of_getElem? (i := 1200) (by decide +kernel), List.mem_of_getElem? (i := 1393) (by decide +kernel), List.mem_of_getElem? (i := 1394) (by decide +kernel)⟩
def lw_privs_3 : List (MethodName × Nat) := [(⟨"FeastRules$Ledger", "perform", "(II)V"⟩, 8), (⟨"FeastRules$Ledger", "lay", "(LFeastRules$DaySet;)V"⟩, 8), (⟨"FeastRules$DaySet", "word", "(I)J"⟩, 1), (⟨"FeastRules$Ledger", "join", "(ILFeastRules$DaySet;)V"⟩, 8), (⟨"FeastRules$Seen", "isSo", "()Z"⟩, 12), (⟨"FeastRules$Seen", "countYear", "(II)V"⟩, 12), (⟨"FeastRules$Seen", "choose", "(II)V"⟩, 12), (⟨"FeastRules", "turn", "(III)Z"⟩, 10), (⟨"FeastRules$Ledger", "markOf", "(II)I"⟩, 8), (⟨"FeastRules$Ledger", "mark", "(III)V"⟩, 8), (⟨"FeastRules", "draw", "(I)I"⟩, 10), (⟨"FeastRules", "restoreRule", "()V"⟩, 10), (⟨"FeastRulesModel", "refuses", "(I)I"⟩, 47), (⟨"FeastRulesModel", "isRefused", "(I)Z"⟩, 47), (⟨"FeastRulesModel", "laysDays", "()V"⟩, 47), (⟨"FeastRulesModel", "look", "()I"⟩, 47)]
theorem lw_r3 : ∀ q ∈ lw_privs_3, lw_okq q := List.forall_mem_cons.mpr ⟨lw_p32, List.forall_mem_cons.mpr ⟨lw_p33, List.forall_mem_cons.mpr ⟨lw_p34, List.forall_mem_cons.mpr ⟨lw_p35, List.forall_mem_cons.mpr ⟨lw_p36, List.forall_mem_cons.mpr ⟨lw_p37, List.forall_mem_cons.mpr ⟨lw_p38, List.forall_mem_cons.mpr ⟨lw_p39, List.forall_mem_cons.mpr ⟨lw_p40, List.forall_mem_cons.mpr ⟨lw_p41, List.forall_mem_cons.mpr ⟨lw_p42, List.forall_mem_cons.mpr ⟨lw_p43, List.forall_mem_cons.mpr ⟨lw_p44, List.forall_mem_cons.mpr ⟨lw_p45, List.forall_mem_cons.mpr ⟨lw_p46, List.forall_mem_cons.mpr ⟨lw_p47, fun _ h => absurd h List.not_mem_nil⟩⟩⟩⟩⟩⟩⟩⟩⟩⟩⟩⟩⟩⟩⟩⟩
theorem lw_p48 : lw_okq (⟨"FeastRulesModel", "fail", "(II)V"⟩, 47) := ⟨⟨by decide +kernel, by decide +kernel⟩, List.mem_of_getElem? (i := 1200) (by decide +kernel), List.mem_of_getElem? (i := 1397) (by decide +kernel), List.mem_of_getElem? (i := 1398) (by decide +kernel)⟩
theorem lw_p49 : lw_okq (⟨"FeastRulesModel", "statementTold", "()V"⟩, 47) := ⟨⟨by decide +kernel, by decide +kernel⟩, List.mem_of_getElem? (i := 1200) (by decide +kernel), List.mem_of_getElem? (i := 1401) (by decide +kernel), List.mem_of_getElem? (i := 1402) (by decide +kernel)⟩
theorem lw_p50 : lw_okq (⟨"FeastRulesModel", "takes", "(I)Z"⟩, 47) := ⟨⟨by decide +kernel, by decide +kernel⟩, List.mem_of_getElem? (i := 1200) (by decide +kernel), List.mem_of_getElem? (i := 1405) (by decide +kernel), List.mem_of_getElem? (i := 1406) (by decide +kernel)⟩
theorem lw_p51 : lw_okq (⟨"FeastRulesModel", "ownHere", "()I"⟩, 47) := ⟨⟨by decide +kernel, by decide +kernel⟩, List.mem_of_getElem? (i := 1200) (by decide +kernel), List.mem_of_getElem? (i := 1409) (by decide +kernel), List.mem_of_getElem? (i := 1410) (by decide +kernel)⟩
theorem lw_p52 : lw_okq (⟨"FeastRulesModel", "isWordHere", "()Z"⟩, 47) := ⟨⟨by decide +kernel, by decide +kernel⟩, List.mem_of_getElem? (i := 1200) (by decide +kernel), List.mem_of_getElem? (i := 1413) (by decide +kernel), List.mem_of_getElem? (i := 1414) (by decide +kernel)⟩
theorem lw_p53 : lw_okq (⟨"FeastRulesModel", "isLike", "(II)Z"⟩, 47) := ⟨⟨by decide +kernel, by decide +kernel⟩, List.mem_of_getElem? (i := 1200) (by decide +kernel), List.mem_of_getElem? (i := 1420) (by decide +kernel), List.mem_of_getElem? (i := 1421) (by decide +kernel)⟩
theorem lw_p54 : lw_okq (⟨"FeastRulesModel", "passes", "()V"⟩, 47) := ⟨⟨by decide +kernel, by decide +kernel⟩, List.mem_of_getElem? (i := 1200) (by decide +kernel), List.mem_of_getElem? (i := 1424) (by decide +kernel), List.mem_of_getElem? (i := 1425) (by decide +kernel)⟩
theorem lw_p55 : lw_okq (⟨"FeastRulesModel", "ruleTold", "(I)V"⟩, 47) := ⟨⟨by decide +kernel, by decide +kernel⟩, List.mem_of_getElem? (i := 1200) (by decide +kernel), List.mem_of_getElem? (i := 1428) (by decide +kernel), List.mem_of_getElem? (i := 1429) (by decide +kernel)⟩
theorem lw_p56 : lw_okq (⟨"FeastRulesModel", "newName", "()I"⟩, 47) := ⟨⟨by decide +kernel, by decide +kernel⟩, List.mem_of_getElem? (i := 1200) (by decide +kernel), List.mem_of_getElem? (i := 1435) (by decide +kernel), List.mem_of_getElem? (i := 1436) (by decide +kernel)⟩
theorem lw_p57 : lw_okq (⟨"FeastRulesModel", "name", "()I"⟩, 47) := ⟨⟨by decide +kernel, by decide +kernel⟩, List.mem_of_getElem? (i := 1200) (by decide +kernel), List.mem_of_getElem? (i := 1439) (by decide +kernel), List.mem_of_getElem? (i := 1440) (by decide +kernel)⟩
theorem lw_p58 : lw_okq (⟨"FeastRulesModel", "named", "(I)I"⟩, 47) := ⟨⟨by decide +kernel, by decide +kernel⟩, List.mem_of_getElem? (i := 1200) (by decide +kernel), List.mem_of_getElem? (i := 1443) (by decide +kernel), List.mem_of_getElem? (i := 1444) (by decide +kernel)⟩
theorem lw_p59 : lw_okq (⟨"FeastRulesModel", "asks", "(I)V"⟩, 47) := ⟨⟨by decide +kernel, by decide +kernel⟩, List.mem_of_getElem? (i := 1200) (by decide +kernel), List.mem_of_getElem? (i := 1450) (by decide +kernel), List.mem_of_getElem? (i := 1451) (by decide +kernel)⟩
theorem lw_p60 : lw_okq (⟨"FeastRulesModel", "number", "(II)I"⟩, 47) := ⟨⟨by decide +kernel, by decide +kernel⟩, List.mem_of_getElem? (i := 1200) (by decide +kernel), List.mem_of_getElem? (i := 1454) (by decide +kernel), List.mem_of_getElem? (i := 1455) (by decide +kernel)⟩
theorem lw_p61 : lw_okq (⟨"FeastRulesModel", "date", "()I"⟩, 47) := ⟨⟨by decide +kernel, by decide +kernel⟩, List.mem_of_getElem? (i := 1200) (by decide +kernel), List.mem_of_getElem? (i := 1462) (by decide +kernel), List.mem_of_getElem? (i := 1463) (by decide +kernel)⟩
theorem lw_p62 : lw_okq (⟨"FeastRulesModel", "asksSign", "(I)V"⟩, 47) := ⟨⟨by decide +kernel, by decide +kernel⟩, List.mem_of_getElem? (i := 1200) (by decide +kernel), List.mem_of_getElem? (i := 1466) (by decide +kernel), List.mem_of_getElem? (i := 1467) (by decide +kernel)⟩
theorem lw_p63 : lw_okq (⟨"FeastRulesModel", "takesSign", "(I)Z"⟩, 47) := ⟨⟨by decide +kernel, by decide +kernel⟩, List.mem_of_getElem? (i := 1200) (by decide +kernel), List.mem_of_getElem? (i := 1470) (by decide +kernel), List.mem_of_getElem? (i := 1471) (by decide +kernel)⟩
def lw_privs_4 : List (MethodName × Nat) := [(⟨"FeastRulesModel", "fail", "(II)V"⟩, 47), (⟨"FeastRulesModel", "statementTold", "()V"⟩, 47), (⟨"FeastRulesModel", "takes", "(I)Z"⟩, 47), (⟨"FeastRulesModel", "ownHere", "()I"⟩, 47), (⟨"FeastRulesModel", "isWordHere", "()Z"⟩, 47), (⟨"FeastRulesModel", "isLike", "(II)Z"⟩, 47), (⟨"FeastRulesModel", "passes", "()V"⟩, 47), (⟨"FeastRulesModel", "ruleTold", "(I)V"⟩, 47), (⟨"FeastRulesModel", "newName", "()I"⟩, 47), (⟨"FeastRulesModel", "name", "()I"⟩, 47), (⟨"FeastRulesModel", "named", "(I)I"⟩, 47), (⟨"FeastRulesModel", "asks", "(I)V"⟩, 47), (⟨"FeastRulesModel", "number", "(II)I"⟩, 47), (⟨"FeastRulesModel", "date", "()I"⟩, 47), (⟨"FeastRulesModel", "asksSign", "(I)V"⟩, 47), (⟨"FeastRulesModel", "takesSign", "(I)Z"⟩, 47)]
theorem lw_r4 : ∀ q ∈ lw_privs_4, lw_okq q := List.forall_mem_cons.mpr ⟨lw_p48, List.forall_mem_cons.mpr ⟨lw_p49, List.forall_mem_cons.mpr ⟨lw_p50, List.forall_mem_cons.mpr ⟨lw_p51, List.forall_mem_cons.mpr ⟨lw_p52, List.forall_mem_cons.mpr ⟨lw_p53, List.forall_mem_cons.mpr ⟨lw_p54, List.forall_mem_cons.mpr ⟨lw_p55, List.forall_mem_cons.mpr ⟨lw_p56, List.forall_mem_cons.mpr ⟨lw_p57, List.forall_mem_cons.mpr ⟨lw_p58, List.forall_mem_cons.mpr ⟨lw_p59, List.forall_mem_cons.mpr ⟨lw_p60, List.forall_mem_cons.mpr ⟨lw_p61, List.forall_mem_cons.mpr ⟨lw_p62, List.forall_mem_cons.mpr ⟨lw_p63, fun _ h => absurd h List.not_mem_nil⟩⟩⟩⟩⟩⟩⟩⟩⟩⟩⟩⟩⟩⟩⟩⟩
theorem lw_p64 : lw_okq (⟨"FeastRulesModel", "dayOf", "(III)I"⟩, 47) := ⟨⟨by decide +kernel, by decide +kernel⟩, List.mem_of_getElem? (i := 1200) (by decide +kernel), List.mem_of_getElem? (i := 1474) (by decide +kernel), List.mem_of_getElem? (i := 1475) (by decide +kernel)⟩
theorem lw_p65 : lw_okq (⟨"FeastRulesModel", "partTold", "(II)V"⟩, 47) := ⟨⟨by decide +kernel, by decide +kernel⟩, List.mem_of_getElem? (i := 1200) (by decide +kernel), List.mem_of_getElem? (i := 1483) (by decide +kernel), List.mem_of_getElem? (i := 1484) (by decide +kernel)⟩
theorem lw_p66 : lw_okq (⟨"FeastRulesModel", "inTold", "(I)V"⟩, 47) := ⟨⟨by decide +kernel, by decide +kernel⟩, List.mem_of_getElem? (i := 1200) (by decide +kernel), List.mem_of_getElem? (i := 1487) (by decide +kernel), List.mem_of_getElem? (i := 1488) (by decide +kernel)⟩
theorem lw_p67 : lw_okq (⟨"FeastRulesModel", "room", "(I)V"⟩, 47) := ⟨⟨by decide +kernel, by decide +kernel⟩, List.mem_of_getElem? (i := 1200) (by decide +kernel), List.mem_of_getElem? (i := 1491) (by decide +kernel), List.mem_of_getElem? (i := 1492) (by decide +kernel)⟩
theorem lw_p68 : lw_okq (⟨"FeastRulesModel", "placesTold", "(IIII)V"⟩, 47) := ⟨⟨by decide +kernel, by decide +kernel⟩, List.mem_of_getElem? (i := 1200) (by decide +kernel), List.mem_of_getElem? (i := 1495) (by decide +kernel), List.mem_of_getElem? (i := 1496) (by decide +kernel)⟩
theorem lw_p69 : lw_okq (⟨"FeastRulesModel", "place", "(I)I"⟩, 47) := ⟨⟨by decide +kernel, by decide +kernel⟩, List.mem_of_getElem? (i := 1200) (by decide +kernel), List.mem_of_getElem? (i := 1499) (by decide +kernel), List.mem_of_getElem? (i := 1500) (by decide +kernel)⟩
theorem lw_p70 : lw_okq (⟨"FeastRulesModel", "byTold", "(I)V"⟩, 47) := ⟨⟨by decide +kernel, by decide +kernel⟩, List.mem_of_getElem? (i := 1200) (by decide +kernel), List.mem_of_getElem? (i := 1503) (by decide +kernel), List.mem_of_getElem? (i := 1504) (by decide +kernel)⟩
theorem lw_p71 : lw_okq (⟨"FeastRulesModel", "weekday", "()I"⟩, 47) := ⟨⟨by decide +kernel, by decide +kernel⟩, List.mem_of_getElem? (i := 1200) (by decide +kernel), List.mem_of_getElem? (i := 1507) (by decide +kernel), List.mem_of_getElem? (i := 1508) (by decide +kernel)⟩
theorem lw_p72 : lw_okq (⟨"FeastRulesModel", "setTold", "(I)V"⟩, 47) := ⟨⟨by decide +kernel, by decide +kernel⟩, List.mem_of_getElem? (i := 1200) (by decide +kernel), List.mem_of_getElem? (i := 1513) (by decide +kernel), List.mem_of_getElem? (i := 1514) (by decide +kernel)⟩
theorem lw_p73 : lw_okq (⟨"FeastRulesModel", "sumTold", "()V"⟩, 47) := ⟨⟨by decide +kernel, by decide +kernel⟩, List.mem_of_getElem? (i := 1200) (by decide +kernel), List.mem_of_getElem? (i := 1517) (by decide +kernel), List.mem_of_getElem? (i := 1518) (by decide +kernel)⟩
theorem lw_p74 : lw_okq (⟨"FeastRulesModel", "opens", "(I)V"⟩, 47) := ⟨⟨by decide +kernel, by decide +kernel⟩, List.mem_of_getElem? (i := 1200) (by decide +kernel), List.mem_of_getElem? (i := 1521) (by decide +kernel), List.mem_of_getElem? (i := 1522) (by decide +kernel)⟩
theorem lw_p75 : lw_okq (⟨"FeastRulesModel", "daysTold", "()V"⟩, 47) := ⟨⟨by decide +kernel, by decide +kernel⟩, List.mem_of_getElem? (i := 1200) (by decide +kernel), List.mem_of_getElem? (i := 1525) (by decide +kernel), List.mem_of_getElem? (i := 1526) (by decide +kernel)⟩
theorem lw_p76 : lw_okq (⟨"FeastRulesModel", "codes", "(II)V"⟩, 47) := ⟨⟨by decide +kernel, by decide +kernel⟩, List.mem_of_getElem? (i := 1200) (by decide +kernel), List.mem_of_getElem? (i := 1529) (by decide +kernel), List.mem_of_getElem? (i := 1530) (by decide +kernel)⟩
theorem lw_p77 : lw_okq (⟨"FeastRulesModel", "what", "()I"⟩, 47) := ⟨⟨by decide +kernel, by decide +kernel⟩, List.mem_of_getElem? (i := 1200) (by decide +kernel), List.mem_of_getElem? (i := 1533) (by decide +kernel), List.mem_of_getElem? (i := 1534) (by decide +kernel)⟩
theorem lw_p78 : lw_okq (⟨"FeastRulesModel", "goesOn", "()Z"⟩, 47) := ⟨⟨by decide +kernel, by decide +kernel⟩, List.mem_of_getElem? (i := 1200) (by decide +kernel), List.mem_of_getElem? (i := 1537) (by decide +kernel), List.mem_of_getElem? (i := 1538) (by decide +kernel)⟩
theorem lw_p79 : lw_okq (⟨"FeastRulesModel", "movesTold", "()V"⟩, 47) := ⟨⟨by decide +kernel, by decide +kernel⟩, List.mem_of_getElem? (i := 1200) (by decide +kernel), List.mem_of_getElem? (i := 1541) (by decide +kernel), List.mem_of_getElem? (i := 1542) (by decide +kernel)⟩
def lw_privs_5 : List (MethodName × Nat) := [(⟨"FeastRulesModel", "dayOf", "(III)I"⟩, 47), (⟨"FeastRulesModel", "partTold", "(II)V"⟩, 47), (⟨"FeastRulesModel", "inTold", "(I)V"⟩, 47), (⟨"FeastRulesModel", "room", "(I)V"⟩, 47), (⟨"FeastRulesModel", "placesTold", "(IIII)V"⟩, 47), (⟨"FeastRulesModel", "place", "(I)I"⟩, 47), (⟨"FeastRulesModel", "byTold", "(I)V"⟩, 47), (⟨"FeastRulesModel", "weekday", "()I"⟩, 47), (⟨"FeastRulesModel", "setTold", "(I)V"⟩, 47), (⟨"FeastRulesModel", "sumTold", "()V"⟩, 47), (⟨"FeastRulesModel", "opens", "(I)V"⟩, 47), (⟨"FeastRulesModel", "daysTold", "()V"⟩, 47), (⟨"FeastRulesModel", "codes", "(II)V"⟩, 47), (⟨"FeastRulesModel", "what", "()I"⟩, 47), (⟨"FeastRulesModel", "goesOn", "()Z"⟩, 47), (⟨"FeastRulesModel", "movesTold", "()V"⟩, 47)]
theorem lw_r5 : ∀ q ∈ lw_privs_5, lw_okq q := List.forall_mem_cons.mpr ⟨lw_p64, List.forall_mem_cons.mpr ⟨lw_p65, List.forall_mem_cons.mpr ⟨lw_p66, List.forall_mem_cons.mpr ⟨lw_p67, List.forall_mem_cons.mpr ⟨lw_p68, List.forall_mem_cons.mpr ⟨lw_p69, List.forall_mem_cons.mpr ⟨lw_p70, List.forall_mem_cons.mpr ⟨lw_p71, List.forall_mem_cons.mpr ⟨lw_p72, List.forall_mem_cons.mpr ⟨lw_p73, List.forall_mem_cons.mpr ⟨lw_p74, List.forall_mem_cons.mpr ⟨lw_p75, List.forall_mem_cons.mpr ⟨lw_p76, List.forall_mem_cons.mpr ⟨lw_p77, List.forall_mem_cons.mpr ⟨lw_p78, List.forall_mem_cons.mpr ⟨lw_p79, fun _ h => absurd h List.not_mem_nil⟩⟩⟩⟩⟩⟩⟩⟩⟩⟩⟩⟩⟩⟩⟩⟩
theorem lw_p80 : lw_okq (⟨"FeastRulesModel", "joins", "(Z)V"⟩, 47) := ⟨⟨by decide +kernel, by decide +kernel⟩, List.mem_of_getElem? (i := 1200) (by decide +kernel), List.mem_of_getElem? (i := 1545) (by decide +kernel), List.mem_of_getElem? (i := 1546) (by decide +kernel)⟩
theorem lw_p81 : lw_okq (⟨"FeastRulesModel", "begins", "()V"⟩, 47) := ⟨⟨by decide +kernel, by decide +kernel⟩, List.mem_of_getElem? (i := 1200) (by decide +kernel), List.mem_of_getElem? (i := 1549) (by decide +kernel), List.mem_of_getElem? (i := 1550) (by decide +kernel)⟩
theorem lw_p82 : lw_okq (⟨"FeastRulesModel", "allAnew", "()V"⟩, 47) := ⟨⟨by decide +kernel, by decide +kernel⟩, List.mem_of_getElem? (i := 1200) (by decide +kernel), List.mem_of_getElem? (i := 1553) (by decide +kernel), List.mem_of_getElem? (i := 1554) (by decide +kernel)⟩
theorem lw_p83 : lw_okq (⟨"FeastRulesModel", "handMany", "(Z)I"⟩, 47) := ⟨⟨by decide +kernel, by decide +kernel⟩, List.mem_of_getElem? (i := 1200) (by decide +kernel), List.mem_of_getElem? (i := 1561) (by decide +kernel), List.mem_of_getElem? (i := 1562) (by decide +kernel)⟩
theorem lw_p84 : lw_okq (⟨"FeastRulesModel", "isWhat", "(I)Z"⟩, 47) := ⟨⟨by decide +kernel, by decide +kernel⟩, List.mem_of_getElem? (i := 1200) (by decide +kernel), List.mem_of_getElem? (i := 1572) (by decide +kernel), List.mem_of_getElem? (i := 1573) (by decide +kernel)⟩
theorem lw_p85 : lw_okq (⟨"FeastRulesModel", "isRule", "(I)Z"⟩, 47) := ⟨⟨by decide +kernel, by decide +kernel⟩, List.mem_of_getElem? (i := 1200) (by decide +kernel), List.mem_of_getElem? (i := 1576) (by decide +kernel), List.mem_of_getElem? (i := 1577) (by decide +kernel)⟩
theorem lw_p86 : lw_okq (⟨"FeastRulesModel", "isSet", "(I)Z"⟩, 47) := ⟨⟨by decide +kernel, by decide +kernel⟩, List.mem_of_getElem? (i := 1200) (by decide +kernel), List.mem_of_getElem? (i := 1580) (by decide +kernel), List.mem_of_getElem? (i := 1581) (by decide +kernel)⟩
theorem lw_p87 : lw_okq (⟨"FeastRulesModel", "ruleHas", "(II)I"⟩, 47) := ⟨⟨by decide +kernel, by decide +kernel⟩, List.mem_of_getElem? (i := 1200) (by decide +kernel), List.mem_of_getElem? (i := 1584) (by decide +kernel), List.mem_of_getElem? (i := 1585) (by decide +kernel)⟩
theorem lw_p88 : lw_okq (⟨"FeastRulesModel", "fromOf", "(I)I"⟩, 47) := ⟨⟨by decide +kernel, by decide +kernel⟩, List.mem_of_getElem? (i := 1200) (by decide +kernel), List.mem_of_getElem? (i := 1592) (by decide +kernel), List.mem_of_getElem? (i := 1593) (by decide +kernel)⟩
theorem lw_p89 : lw_okq (⟨"FeastRulesModel", "longMonthOf", "(I)I"⟩, 47) := ⟨⟨by decide +kernel, by decide +kernel⟩, List.mem_of_getElem? (i := 1200) (by decide +kernel), List.mem_of_getElem? (i := 1611) (by decide +kernel), List.mem_of_getElem? (i := 1612) (by decide +kernel)⟩
theorem lw_p90 : lw_okq (⟨"FeastRulesModel", "isAsked", "(I)Z"⟩, 47) := ⟨⟨by decide +kernel, by decide +kernel⟩, List.mem_of_getElem? (i := 1200) (by decide +kernel), List.mem_of_getElem? (i := 1619) (by decide +kernel), List.mem_of_getElem? (i := 1620) (by decide +kernel)⟩
theorem lw_p91 : lw_okq (⟨"FeastRulesModel", "lays", "(I)V"⟩, 47) := ⟨⟨by decide +kernel, by decide +kernel⟩, List.mem_of_getElem? (i := 1200) (by decide +kernel), List.mem_of_getElem? (i := 1623) (by decide +kernel), List.mem_of_getElem? (i := 1624) (by decide +kernel)⟩
theorem lw_p92 : lw_okq (⟨"FeastRulesModel", "laysBase", "(I)V"⟩, 47) := ⟨⟨by decide +kernel, by decide +kernel⟩, List.mem_of_getElem? (i := 1200) (by decide +kernel), List.mem_of_getElem? (i := 1627) (by decide +kernel), List.mem_of_getElem? (i := 1628) (by decide +kernel)⟩
theorem lw_p93 : lw_okq (⟨"FeastRulesModel", "laysPeriod", "(II)I"⟩, 47) := ⟨⟨by decide +kernel, by decide +kernel⟩, List.mem_of_getElem? (i := 1200) (by decide +kernel), List.mem_of_getElem? (i := 1631) (by decide +kernel), List.mem_of_getElem? (i := 1632) (by decide +kernel)⟩
theorem lw_p94 : lw_okq (⟨"FeastRulesModel", "periodOf", "(II)I"⟩, 47) := ⟨⟨by decide +kernel, by decide +kernel⟩, List.mem_of_getElem? (i := 1200) (by decide +kernel), List.mem_of_getElem? (i := 1635) (by decide +kernel), List.mem_of_getElem? (i := 1636) (by decide +kernel)⟩
theorem lw_p95 : lw_okq (⟨"FeastRulesModel", "isOfPeriod", "(II)Z"⟩, 47) := ⟨⟨by decide +kernel, by decide +kernel⟩, List.mem_of_getElem? (i := 1200) (by decide +kernel), List.mem_of_getElem? (i := 1639) (by decide +kernel), List.mem_of_getElem? (i := 1640) (by decide +kernel)⟩
def lw_privs_6 : List (MethodName × Nat) := [(⟨"FeastRulesModel", "joins", "(Z)V"⟩, 47), (⟨"FeastRulesModel", "begins", "()V"⟩, 47), (⟨"FeastRulesModel", "allAnew", "()V"⟩, 47), (⟨"FeastRulesModel", "handMany", "(Z)I"⟩, 47), (⟨"FeastRulesModel", "isWhat", "(I)Z"⟩, 47), (⟨"FeastRulesModel", "isRule", "(I)Z"⟩, 47), (⟨"FeastRulesModel", "isSet", "(I)Z"⟩, 47), (⟨"FeastRulesModel", "ruleHas", "(II)I"⟩, 47), (⟨"FeastRulesModel", "fromOf", "(I)I"⟩, 47), (⟨"FeastRulesModel", "longMonthOf", "(I)I"⟩, 47), (⟨"FeastRulesModel", "isAsked", "(I)Z"⟩, 47), (⟨"FeastRulesModel", "lays", "(I)V"⟩, 47), (⟨"FeastRulesModel", "laysBase", "(I)V"⟩, 47), (⟨"FeastRulesModel", "laysPeriod", "(II)I"⟩, 47), (⟨"FeastRulesModel", "periodOf", "(II)I"⟩, 47), (⟨"FeastRulesModel", "isOfPeriod", "(II)Z"⟩, 47)]
theorem lw_r6 : ∀ q ∈ lw_privs_6, lw_okq q := List.forall_mem_cons.mpr ⟨lw_p80, List.forall_mem_cons.mpr ⟨lw_p81, List.forall_mem_cons.mpr ⟨lw_p82, List.forall_mem_cons.mpr ⟨lw_p83, List.forall_mem_cons.mpr ⟨lw_p84, List.forall_mem_cons.mpr ⟨lw_p85, List.forall_mem_cons.mpr ⟨lw_p86, List.forall_mem_cons.mpr ⟨lw_p87, List.forall_mem_cons.mpr ⟨lw_p88, List.forall_mem_cons.mpr ⟨lw_p89, List.forall_mem_cons.mpr ⟨lw_p90, List.forall_mem_cons.mpr ⟨lw_p91, List.forall_mem_cons.mpr ⟨lw_p92, List.forall_mem_cons.mpr ⟨lw_p93, List.forall_mem_cons.mpr ⟨lw_p94, List.forall_mem_cons.mpr ⟨lw_p95, fun _ h => absurd h List.not_mem_nil⟩⟩⟩⟩⟩⟩⟩⟩⟩⟩⟩⟩⟩⟩⟩⟩
theorem lw_p96 : lw_okq (⟨"FeastRulesModel", "isInMonths", "(II)Z"⟩, 47) := ⟨⟨by decide +kernel, by decide +kernel⟩, List.mem_of_getElem? (i := 1200) (by decide +kernel), List.mem_of_getElem? (i := 1643) (by decide +kernel), List.mem_of_getElem? (i := 1644) (by decide +kernel)⟩
theorem lw_p97 : lw_okq (⟨"FeastRulesModel", "hasIn", "(I)Z"⟩, 47) := ⟨⟨by decide +kernel, by decide +kernel⟩, List.mem_of_getElem? (i := 1200) (by decide +kernel), List.mem_of_getElem? (i := 1647) (by decide +kernel), List.mem_of_getElem? (i := 1648) (by decide +kernel)⟩
theorem lw_p98 : lw_okq (⟨"FeastRulesModel", "hasOn", "(I)Z"⟩, 47) := ⟨⟨by decide +kernel, by decide +kernel⟩, List.mem_of_getElem? (i := 1200) (by decide +kernel), List.mem_of_getElem? (i := 1651) (by decide +kernel), List.mem_of_getElem? (i := 1652) (by decide +kernel)⟩
theorem lw_p99 : lw_okq (⟨"FeastRulesModel", "isDated", "(II)Z"⟩, 47) := ⟨⟨by decide +kernel, by decide +kernel⟩, List.mem_of_getElem? (i := 1200) (by decide +kernel), List.mem_of_getElem? (i := 1655) (by decide +kernel), List.mem_of_getElem? (i := 1656) (by decide +kernel)⟩
theorem lw_p100 : lw_okq (⟨"FeastRulesModel", "hasBy", "(I)Z"⟩, 47) := ⟨⟨by decide +kernel, by decide +kernel⟩, List.mem_of_getElem? (i := 1200) (by decide +kernel), List.mem_of_getElem? (i := 1659) (by decide +kernel), List.mem_of_getElem? (i := 1660) (by decide +kernel)⟩
theorem lw_p101 : lw_okq (⟨"FeastRulesModel", "isWeekday", "(II)Z"⟩, 47) := ⟨⟨by decide +kernel, by decide +kernel⟩, List.mem_of_getElem? (i := 1200) (by decide +kernel), List.mem_of_getElem? (i := 1663) (by decide +kernel), List.mem_of_getElem? (i := 1664) (by decide +kernel)⟩
theorem lw_p102 : lw_okq (⟨"FeastRulesModel", "isOfMonth", "(II)Z"⟩, 47) := ⟨⟨by decide +kernel, by decide +kernel⟩, List.mem_of_getElem? (i := 1200) (by decide +kernel), List.mem_of_getElem? (i := 1667) (by decide +kernel), List.mem_of_getElem? (i := 1668) (by decide +kernel)⟩
theorem lw_p103 : lw_okq (⟨"FeastRulesModel", "isPlaced", "(IIII)Z"⟩, 47) := ⟨⟨by decide +kernel, by decide +kernel⟩, List.mem_of_getElem? (i := 1200) (by decide +kernel), List.mem_of_getElem? (i := 1671) (by decide +kernel), List.mem_of_getElem? (i := 1672) (by decide +kernel)⟩
theorem lw_p104 : lw_okq (⟨"FeastRulesModel", "isDateOfBegin", "(II)Z"⟩, 47) := ⟨⟨by decide +kernel, by decide +kernel⟩, List.mem_of_getElem? (i := 1200) (by decide +kernel), List.mem_of_getElem? (i := 1675) (by decide +kernel), List.mem_of_getElem? (i := 1676) (by decide +kernel)⟩
theorem lw_p105 : lw_okq (⟨"FeastRulesModel", "isOfYear", "(II)Z"⟩, 47) := ⟨⟨by decide +kernel, by decide +kernel⟩, List.mem_of_getElem? (i := 1200) (by decide +kernel), List.mem_of_getElem? (i := 1679) (by decide +kernel), List.mem_of_getElem? (i := 1680) (by decide +kernel)⟩
theorem lw_p106 : lw_okq (⟨"FeastRulesModel", "isAt", "(III)Z"⟩, 47) := ⟨⟨by decide +kernel, by decide +kernel⟩, List.mem_of_getElem? (i := 1200) (by decide +kernel), List.mem_of_getElem? (i := 1686) (by decide +kernel), List.mem_of_getElem? (i := 1687) (by decide +kernel)⟩
theorem lw_p107 : lw_okq (⟨"FeastRulesModel", "laysDaysBy", "(II[ZI)V"⟩, 47) := ⟨⟨by decide +kernel, by decide +kernel⟩, List.mem_of_getElem? (i := 1200) (by decide +kernel), List.mem_of_getElem? (i := 1690) (by decide +kernel), List.mem_of_getElem? (i := 1691) (by decide +kernel)⟩
theorem lw_p108 : lw_okq (⟨"FeastRulesModel", "isGone", "(III)Z"⟩, 47) := ⟨⟨by decide +kernel, by decide +kernel⟩, List.mem_of_getElem? (i := 1200) (by decide +kernel), List.mem_of_getElem? (i := 1694) (by decide +kernel), List.mem_of_getElem? (i := 1695) (by decide +kernel)⟩
theorem lw_p109 : lw_okq (⟨"FeastRulesModel", "lays0", "(I)V"⟩, 47) := ⟨⟨by decide +kernel, by decide +kernel⟩, List.mem_of_getElem? (i := 1200) (by decide +kernel), List.mem_of_getElem? (i := 1698) (by decide +kernel), List.mem_of_getElem? (i := 1699) (by decide +kernel)⟩
theorem lw_p110 : lw_okq (⟨"FeastRulesModel", "laysSet", "(I)V"⟩, 47) := ⟨⟨by decide +kernel, by decide +kernel⟩, List.mem_of_getElem? (i := 1200) (by decide +kernel), List.mem_of_getElem? (i := 1702) (by decide +kernel), List.mem_of_getElem? (i := 1703) (by decide +kernel)⟩
theorem lw_p111 : lw_okq (⟨"FeastRulesModel", "does", "(II)V"⟩, 47) := ⟨⟨by decide +kernel, by decide +kernel⟩, List.mem_of_getElem? (i := 1200) (by decide +kernel), List.mem_of_getElem? (i := 1706) (by decide +kernel), List.mem_of_getElem? (i := 1707) (by decide +kernel)⟩
def lw_privs_7 : List (MethodName × Nat) := [(⟨"FeastRulesModel", "isInMonths", "(II)Z"⟩, 47), (⟨"FeastRulesModel", "hasIn", "(I)Z"⟩, 47), (⟨"FeastRulesModel", "hasOn", "(I)Z"⟩, 47), (⟨"FeastRulesModel", "isDated", "(II)Z"⟩, 47), (⟨"FeastRulesModel", "hasBy", "(I)Z"⟩, 47), (⟨"FeastRulesModel", "isWeekday", "(II)Z"⟩, 47), (⟨"FeastRulesModel", "isOfMonth", "(II)Z"⟩, 47), (⟨"FeastRulesModel", "isPlaced", "(IIII)Z"⟩, 47), (⟨"FeastRulesModel", "isDateOfBegin", "(II)Z"⟩, 47), (⟨"FeastRulesModel", "isOfYear", "(II)Z"⟩, 47), (⟨"FeastRulesModel", "isAt", "(III)Z"⟩, 47), (⟨"FeastRulesModel", "laysDaysBy", "(II[ZI)V"⟩, 47), (⟨"FeastRulesModel", "isGone", "(III)Z"⟩, 47), (⟨"FeastRulesModel", "lays0", "(I)V"⟩, 47), (⟨"FeastRulesModel", "laysSet", "(I)V"⟩, 47), (⟨"FeastRulesModel", "does", "(II)V"⟩, 47)]
theorem lw_r7 : ∀ q ∈ lw_privs_7, lw_okq q := List.forall_mem_cons.mpr ⟨lw_p96, List.forall_mem_cons.mpr ⟨lw_p97, List.forall_mem_cons.mpr ⟨lw_p98, List.forall_mem_cons.mpr ⟨lw_p99, List.forall_mem_cons.mpr ⟨lw_p100, List.forall_mem_cons.mpr ⟨lw_p101, List.forall_mem_cons.mpr ⟨lw_p102, List.forall_mem_cons.mpr ⟨lw_p103, List.forall_mem_cons.mpr ⟨lw_p104, List.forall_mem_cons.mpr ⟨lw_p105, List.forall_mem_cons.mpr ⟨lw_p106, List.forall_mem_cons.mpr ⟨lw_p107, List.forall_mem_cons.mpr ⟨lw_p108, List.forall_mem_cons.mpr ⟨lw_p109, List.forall_mem_cons.mpr ⟨lw_p110, List.forall_mem_cons.mpr ⟨lw_p111, fun _ h => absurd h List.not_mem_nil⟩⟩⟩⟩⟩⟩⟩⟩⟩⟩⟩⟩⟩⟩⟩⟩
theorem lw_p112 : lw_okq (⟨"FeastRulesModel", "puts", "(I)V"⟩, 47) := ⟨⟨by decide +kernel, by decide +kernel⟩, List.mem_of_getElem? (i := 1200) (by decide +kernel), List.mem_of_getElem? (i := 1710) (by decide +kernel), List.mem_of_getElem? (i := 1711) (by decide +kernel)⟩
theorem lw_p113 : lw_okq (⟨"FeastRulesModel", "putsDay", "(I)V"⟩, 47) := ⟨⟨by decide +kernel, by decide +kernel⟩, List.mem_of_getElem? (i := 1200) (by decide +kernel), List.mem_of_getElem? (i := 1714) (by decide +kernel), List.mem_of_getElem? (i := 1715) (by decide +kernel)⟩
theorem lw_p114 : lw_okq (⟨"FeastRulesModel", "movesTop", "(I)V"⟩, 47) := ⟨⟨by decide +kernel, by decide +kernel⟩, List.mem_of_getElem? (i := 1200) (by decide +kernel), List.mem_of_getElem? (i := 1718) (by decide +kernel), List.mem_of_getElem? (i := 1719) (by decide +kernel)⟩
theorem lw_p115 : lw_okq (⟨"FeastRulesModel", "goesOff", "(I)V"⟩, 47) := ⟨⟨by decide +kernel, by decide +kernel⟩, List.mem_of_getElem? (i := 1200) (by decide +kernel), List.mem_of_getElem? (i := 1722) (by decide +kernel), List.mem_of_getElem? (i := 1723) (by decide +kernel)⟩
theorem lw_p116 : lw_okq (⟨"FeastRulesModel", "joinsTop", "(I)V"⟩, 47) := ⟨⟨by decide +kernel, by decide +kernel⟩, List.mem_of_getElem? (i := 1200) (by decide +kernel), List.mem_of_getElem? (i := 1726) (by decide +kernel), List.mem_of_getElem? (i := 1727) (by decide +kernel)⟩
theorem lw_p117 : lw_okq (⟨"FeastRulesModel", "isOn", "(II)Z"⟩, 47) := ⟨⟨by decide +kernel, by decide +kernel⟩, List.mem_of_getElem? (i := 1200) (by decide +kernel), List.mem_of_getElem? (i := 1730) (by decide +kernel), List.mem_of_getElem? (i := 1731) (by decide +kernel)⟩
theorem lw_p118 : lw_okq (⟨"FeastRulesModel", "count", "(III)I"⟩, 47) := ⟨⟨by decide +kernel, by decide +kernel⟩, List.mem_of_getElem? (i := 1200) (by decide +kernel), List.mem_of_getElem? (i := 1748) (by decide +kernel), List.mem_of_getElem? (i := 1749) (by decide +kernel)⟩
theorem lw_p119 : lw_okq (⟨"FeastRulesModel", "laysFits", "()I"⟩, 47) := ⟨⟨by decide +kernel, by decide +kernel⟩, List.mem_of_getElem? (i := 1200) (by decide +kernel), List.mem_of_getElem? (i := 1792) (by decide +kernel), List.mem_of_getElem? (i := 1793) (by decide +kernel)⟩
theorem lw_p120 : lw_okq (⟨"FeastRulesModel", "canHand", "(IZI)Z"⟩, 47) := ⟨⟨by decide +kernel, by decide +kernel⟩, List.mem_of_getElem? (i := 1200) (by decide +kernel), List.mem_of_getElem? (i := 1808) (by decide +kernel), List.mem_of_getElem? (i := 1809) (by decide +kernel)⟩
theorem lw_p121 : lw_okq (⟨"FeastRulesModel", "handOf", "(IZI)I"⟩, 47) := ⟨⟨by decide +kernel, by decide +kernel⟩, List.mem_of_getElem? (i := 1200) (by decide +kernel), List.mem_of_getElem? (i := 1812) (by decide +kernel), List.mem_of_getElem? (i := 1813) (by decide +kernel)⟩
theorem lw_p122 : lw_okq (⟨"FeastRulesModel", "keeps", "()V"⟩, 47) := ⟨⟨by decide +kernel, by decide +kernel⟩, List.mem_of_getElem? (i := 1200) (by decide +kernel), List.mem_of_getElem? (i := 1816) (by decide +kernel), List.mem_of_getElem? (i := 1817) (by decide +kernel)⟩
theorem lw_p123 : lw_okq (⟨"FeastRulesModel", "hands", "(IZI)V"⟩, 47) := ⟨⟨by decide +kernel, by decide +kernel⟩, List.mem_of_getElem? (i := 1200) (by decide +kernel), List.mem_of_getElem? (i := 1820) (by decide +kernel), List.mem_of_getElem? (i := 1821) (by decide +kernel)⟩
theorem lw_p124 : lw_okq (⟨"FeastRulesModel", "drawOf", "(I)I"⟩, 47) := ⟨⟨by decide +kernel, by decide +kernel⟩, List.mem_of_getElem? (i := 1200) (by decide +kernel), List.mem_of_getElem? (i := 1846) (by decide +kernel), List.mem_of_getElem? (i := 1847) (by decide +kernel)⟩
def lw_privs_8 : List (MethodName × Nat) := [(⟨"FeastRulesModel", "puts", "(I)V"⟩, 47), (⟨"FeastRulesModel", "putsDay", "(I)V"⟩, 47), (⟨"FeastRulesModel", "movesTop", "(I)V"⟩, 47), (⟨"FeastRulesModel", "goesOff", "(I)V"⟩, 47), (⟨"FeastRulesModel", "joinsTop", "(I)V"⟩, 47), (⟨"FeastRulesModel", "isOn", "(II)Z"⟩, 47), (⟨"FeastRulesModel", "count", "(III)I"⟩, 47), (⟨"FeastRulesModel", "laysFits", "()I"⟩, 47), (⟨"FeastRulesModel", "canHand", "(IZI)Z"⟩, 47), (⟨"FeastRulesModel", "handOf", "(IZI)I"⟩, 47), (⟨"FeastRulesModel", "keeps", "()V"⟩, 47), (⟨"FeastRulesModel", "hands", "(IZI)V"⟩, 47), (⟨"FeastRulesModel", "drawOf", "(I)I"⟩, 47)]
theorem lw_r8 : ∀ q ∈ lw_privs_8, lw_okq q := List.forall_mem_cons.mpr ⟨lw_p112, List.forall_mem_cons.mpr ⟨lw_p113, List.forall_mem_cons.mpr ⟨lw_p114, List.forall_mem_cons.mpr ⟨lw_p115, List.forall_mem_cons.mpr ⟨lw_p116, List.forall_mem_cons.mpr ⟨lw_p117, List.forall_mem_cons.mpr ⟨lw_p118, List.forall_mem_cons.mpr ⟨lw_p119, List.forall_mem_cons.mpr ⟨lw_p120, List.forall_mem_cons.mpr ⟨lw_p121, List.forall_mem_cons.mpr ⟨lw_p122, List.forall_mem_cons.mpr ⟨lw_p123, List.forall_mem_cons.mpr ⟨lw_p124, fun _ h => absurd h List.not_mem_nil⟩⟩⟩⟩⟩⟩⟩⟩⟩⟩⟩⟩⟩
def lw_privs : List (MethodName × Nat) := lw_privs_1 ++ (lw_privs_2 ++ (lw_privs_3 ++ (lw_privs_4 ++ (lw_privs_5 ++ (lw_privs_6 ++ (lw_privs_7 ++ (lw_privs_8)))))))
def lw_tbl : List Cond := k2_sels lw_privs ++ tables_1
theorem lw_privs_ok : ∀ q ∈ lw_privs, lw_okq q := by
  show ∀ q ∈ lw_privs_1 ++ (lw_privs_2 ++ (lw_privs_3 ++ (lw_privs_4 ++ (lw_privs_5 ++ (lw_privs_6 ++ (lw_privs_7 ++ (lw_privs_8))))))), lw_okq q
  exact List.forall_mem_append.mpr ⟨lw_r1, List.forall_mem_append.mpr ⟨lw_r2, List.forall_mem_append.mpr ⟨lw_r3, List.forall_mem_append.mpr ⟨lw_r4, List.forall_mem_append.mpr ⟨lw_r5, List.forall_mem_append.mpr ⟨lw_r6, List.forall_mem_append.mpr ⟨lw_r7, lw_r8⟩⟩⟩⟩⟩⟩⟩
-- ===== end of PART A; then your names; then what follows =====
def RX0 : String := "FeastRules$Almanac"
def TX0 : u_T := fun k => match k with
  | 0 => ("FeastRules$Almanac", "day", "I", false)
  | 1 => ("FeastRules$Almanac", "year", "I", false)
  | 2 => ("FeastRules$Almanac", "month", "I", false)
  | 3 => ("FeastRules$Almanac", "date", "I", false)
  | 4 => ("FeastRules$Almanac", "weekday", "I", false)
  | 5 => ("FeastRules$Almanac", "monthLength", "I", false)
  | 6 => ("FeastRules$Almanac", "yearDay", "I", false)
  | _ => ("FeastRules$Almanac", "yearLength", "I", false)
def tyX0 : Nat → FieldType := fun k => match k with
  | 0 => .int
  | 1 => .int
  | 2 => .int
  | 3 => .int
  | 4 => .int
  | 5 => .int
  | 6 => .int
  | _ => .int
abbrev wsX00 : List Cond := u_ws RX0 TX0 8
theorem nmX0 : ∀ a, a < 8 → ∀ b, b < 8 → a ≠ b → (TX0 a).2.1 ≠ (TX0 b).2.1 := by decide +kernel
theorem tyX0_ok : ∀ k, k < 8 → parseFieldDescriptor (TX0 k).2.2.1 = some (tyX0 k) := by decide +kernel
abbrev cX0_init : ByteArray := prog_2_method_1_code
def yX0_init : MethodName := ⟨RX0, "<init>", "()V"⟩
abbrev cX0_firstOfYear : ByteArray := prog_2_method_2_code
def yX0_firstOfYear : MethodName := ⟨RX0, "firstOfYear", "(I)I"⟩
abbrev cX0_yearOf : ByteArray := prog_2_method_3_code
def yX0_yearOf : MethodName := ⟨RX0, "yearOf", "(I)I"⟩
abbrev cX0_daysAhead : ByteArray := prog_2_method_4_code
def yX0_daysAhead : MethodName := ⟨RX0, "daysAhead", "(II)I"⟩
abbrev cX0_firstOfMonth : ByteArray := prog_2_method_5_code
def yX0_firstOfMonth : MethodName := ⟨RX0, "firstOfMonth", "(II)I"⟩
abbrev cX0_monthLengthOf : ByteArray := prog_2_method_6_code
def yX0_monthLengthOf : MethodName := ⟨RX0, "monthLengthOf", "(II)I"⟩
abbrev cX0_monthOf : ByteArray := prog_2_method_7_code
def yX0_monthOf : MethodName := ⟨RX0, "monthOf", "(I)I"⟩
abbrev cX0_weekdayOf : ByteArray := prog_2_method_8_code
def yX0_weekdayOf : MethodName := ⟨RX0, "weekdayOf", "(I)I"⟩
abbrev cX0_periodOf : ByteArray := prog_2_method_9_code
def yX0_periodOf : MethodName := ⟨RX0, "periodOf", "(II)I"⟩
abbrev cX0_firstOfPeriod : ByteArray := prog_2_method_10_code
def yX0_firstOfPeriod : MethodName := ⟨RX0, "firstOfPeriod", "(II)I"⟩
abbrev cX0_moveTo : ByteArray := prog_2_method_11_code
def yX0_moveTo : MethodName := ⟨RX0, "moveTo", "(I)V"⟩
abbrev cX0_forward : ByteArray := prog_2_method_12_code
def yX0_forward : MethodName := ⟨RX0, "forward", "()V"⟩
def RX1 : String := "FeastRules$Book"
def TX1 : u_T := fun k => match k with
  | 0 => ("FeastRules$Book", "rules", "I", false)
  | 1 => ("FeastRules$Book", "sets", "I", false)
  | 2 => ("FeastRules$Book", "codeSize", "I", false)
  | 3 => ("FeastRules$Book", "ruleRow", "[LFeastRules$Rule;", true)
  | 4 => ("FeastRules$Book", "names", "[I", true)
  | 5 => ("FeastRules$Book", "code", "[I", true)
  | _ => ("FeastRules$Book", "codeEnds", "[I", true)
def tyX1 : Nat → FieldType := fun k => match k with
  | 0 => .int
  | 1 => .int
  | 2 => .int
  | 3 => .array (.object "FeastRules$Rule")
  | 4 => .array .int
  | 5 => .array .int
  | _ => .array .int
abbrev wsX10 : List Cond := u_ws RX1 TX1 7
theorem nmX1 : ∀ a, a < 7 → ∀ b, b < 7 → a ≠ b → (TX1 a).2.1 ≠ (TX1 b).2.1 := by decide +kernel
theorem tyX1_ok : ∀ k, k < 7 → parseFieldDescriptor (TX1 k).2.2.1 = some (tyX1 k) := by decide +kernel
abbrev cX1_init : ByteArray := prog_3_method_1_code
def yX1_init : MethodName := ⟨RX1, "<init>", "()V"⟩
abbrev cX1_clear : ByteArray := prog_3_method_2_code
def yX1_clear : MethodName := ⟨RX1, "clear", "()V"⟩
abbrev cX1_isWhat : ByteArray := prog_3_method_3_code
def yX1_isWhat : MethodName := ⟨RX1, "isWhat", "(I)Z"⟩
abbrev cX1_ruleAt : ByteArray := prog_3_method_4_code
def yX1_ruleAt : MethodName := ⟨RX1, "ruleAt", "(I)LFeastRules$Rule;"⟩
abbrev cX1_openRule : ByteArray := prog_3_method_5_code
def yX1_openRule : MethodName := ⟨RX1, "openRule", "()LFeastRules$Rule;"⟩
abbrev cX1_closeRule : ByteArray := prog_3_method_6_code
def yX1_closeRule : MethodName := ⟨RX1, "closeRule", "(I)V"⟩
abbrev cX1_closeSet : ByteArray := prog_3_method_7_code
def yX1_closeSet : MethodName := ⟨RX1, "closeSet", "(I)V"⟩
abbrev cX1_find : ByteArray := prog_3_method_8_code
def yX1_find : MethodName := ⟨RX1, "find", "(I)I"⟩
abbrev cX1_letterOf : ByteArray := prog_3_method_9_code
def yX1_letterOf : MethodName := ⟨RX1, "letterOf", "(II)I"⟩
abbrev cX1_append : ByteArray := prog_3_method_10_code
def yX1_append : MethodName := ⟨RX1, "append", "(II)V"⟩
abbrev cX1_codeStart : ByteArray := prog_3_method_11_code
def yX1_codeStart : MethodName := ⟨RX1, "codeStart", "(I)I"⟩
abbrev cX1_codeEnd : ByteArray := prog_3_method_12_code
def yX1_codeEnd : MethodName := ⟨RX1, "codeEnd", "(I)I"⟩
abbrev cX1_opAt : ByteArray := prog_3_method_13_code
def yX1_opAt : MethodName := ⟨RX1, "opAt", "(I)I"⟩
abbrev cX1_argumentAt : ByteArray := prog_3_method_14_code
def yX1_argumentAt : MethodName := ⟨RX1, "argumentAt", "(I)I"⟩
def RX2 : String := "FeastRules$DaySet"
def TX2 : u_T := fun k => match k with
  | _ => ("FeastRules$DaySet", "bits", "[J", true)
def tyX2 : Nat → FieldType := fun k => match k with
  | _ => .array .long
abbrev wsX20 : List Cond := u_ws RX2 TX2 1
theorem nmX2 : ∀ a, a < 1 → ∀ b, b < 1 → a ≠ b → (TX2 a).2.1 ≠ (TX2 b).2.1 := by decide +kernel
theorem tyX2_ok : ∀ k, k < 1 → parseFieldDescriptor (TX2 k).2.2.1 = some (tyX2 k) := by decide +kernel
abbrev cX2_init : ByteArray := prog_4_method_1_code
def yX2_init : MethodName := ⟨RX2, "<init>", "()V"⟩
abbrev cX2_clear : ByteArray := prog_4_method_2_code
def yX2_clear : MethodName := ⟨RX2, "clear", "()V"⟩
abbrev cX2_copy : ByteArray := prog_4_method_3_code
def yX2_copy : MethodName := ⟨RX2, "copy", "(LFeastRules$DaySet;)V"⟩
abbrev cX2_holds : ByteArray := prog_4_method_4_code
def yX2_holds : MethodName := ⟨RX2, "holds", "(I)Z"⟩
abbrev cX2_put : ByteArray := prog_4_method_5_code
def yX2_put : MethodName := ⟨RX2, "put", "(I)V"⟩
abbrev cX2_take : ByteArray := prog_4_method_6_code
def yX2_take : MethodName := ⟨RX2, "take", "(I)V"⟩
abbrev cX2_unite : ByteArray := prog_4_method_7_code
def yX2_unite : MethodName := ⟨RX2, "unite", "(LFeastRules$DaySet;)V"⟩
abbrev cX2_limit : ByteArray := prog_4_method_8_code
def yX2_limit : MethodName := ⟨RX2, "limit", "(LFeastRules$DaySet;)V"⟩
abbrev cX2_without : ByteArray := prog_4_method_9_code
def yX2_without : MethodName := ⟨RX2, "without", "(LFeastRules$DaySet;)V"⟩
abbrev cX2_shiftLater : ByteArray := prog_4_method_10_code
def yX2_shiftLater : MethodName := ⟨RX2, "shiftLater", "(I)V"⟩
abbrev cX2_shiftSooner : ByteArray := prog_4_method_11_code
def yX2_shiftSooner : MethodName := ⟨RX2, "shiftSooner", "(I)V"⟩
abbrev cX2_moveOff : ByteArray := prog_4_method_12_code
def yX2_moveOff : MethodName := ⟨RX2, "moveOff", "(LFeastRules$DaySet;)V"⟩
abbrev cX2_firstFrom : ByteArray := prog_4_method_13_code
def yX2_firstFrom : MethodName := ⟨RX2, "firstFrom", "(I)I"⟩
abbrev cX2_firstMissingFrom : ByteArray := prog_4_method_14_code
def yX2_firstMissingFrom : MethodName := ⟨RX2, "firstMissingFrom", "(I)I"⟩
abbrev cX2_search : ByteArray := prog_4_method_15_code
def yX2_search : MethodName := ⟨RX2, "search", "(LFeastRules$DaySet;II)I"⟩
abbrev cX2_lastUpTo : ByteArray := prog_4_method_16_code
def yX2_lastUpTo : MethodName := ⟨RX2, "lastUpTo", "(I)I"⟩
abbrev cX2_between : ByteArray := prog_4_method_17_code
def yX2_between : MethodName := ⟨RX2, "between", "(II)I"⟩
abbrev cX2_atPlace : ByteArray := prog_4_method_18_code
def yX2_atPlace : MethodName := ⟨RX2, "atPlace", "(I)I"⟩
abbrev cX2_word : ByteArray := prog_4_method_19_code
def yX2_word : MethodName := ⟨RX2, "word", "(I)J"⟩
def RX3 : String := "FeastRules$Finder"
def TX3 : u_T := fun k => match k with
  | 0 => ("FeastRules$Finder", "almanac", "LFeastRules$Almanac;", true)
  | 1 => ("FeastRules$Finder", "found", "[I", true)
  | _ => ("FeastRules$Finder", "size", "I", false)
def tyX3 : Nat → FieldType := fun k => match k with
  | 0 => .object "FeastRules$Almanac"
  | 1 => .array .int
  | _ => .int
abbrev wsX30 : List Cond := u_ws RX3 TX3 3
theorem nmX3 : ∀ a, a < 3 → ∀ b, b < 3 → a ≠ b → (TX3 a).2.1 ≠ (TX3 b).2.1 := by decide +kernel
theorem tyX3_ok : ∀ k, k < 3 → parseFieldDescriptor (TX3 k).2.2.1 = some (tyX3 k) := by decide +kernel
abbrev cX3_init : ByteArray := prog_5_method_1_code
def yX3_init : MethodName := ⟨RX3, "<init>", "()V"⟩
abbrev cX3_calendarOf : ByteArray := prog_5_method_2_code
def yX3_calendarOf : MethodName := ⟨RX3, "calendarOf", "(II)I"⟩
abbrev cX3_gather : ByteArray := prog_5_method_3_code
def yX3_gather : MethodName := ⟨RX3, "gather", "(LFeastRules$Rule;I)V"⟩
abbrev cX3_keepPlaces : ByteArray := prog_5_method_4_code
def yX3_keepPlaces : MethodName := ⟨RX3, "keepPlaces", "(LFeastRules$Rule;)V"⟩
abbrev cX3_fill : ByteArray := prog_5_method_5_code
def yX3_fill : MethodName := ⟨RX3, "fill", "(LFeastRules$Rule;ILFeastRules$DaySet;)V"⟩
def RX4 : String := "FeastRules$Journal"
def TX4 : u_T := fun k => match k with
  | 0 => ("FeastRules$Journal", "kinds", "[I", true)
  | 1 => ("FeastRules$Journal", "rules", "[I", true)
  | 2 => ("FeastRules$Journal", "befores", "[I", true)
  | 3 => ("FeastRules$Journal", "changes", "[LFeastRules$Row;", true)
  | 4 => ("FeastRules$Journal", "latest", "I", false)
  | _ => ("FeastRules$Journal", "size", "I", false)
def tyX4 : Nat → FieldType := fun k => match k with
  | 0 => .array .int
  | 1 => .array .int
  | 2 => .array .int
  | 3 => .array (.object "FeastRules$Row")
  | 4 => .int
  | _ => .int
abbrev wsX40 : List Cond := u_ws RX4 TX4 6
theorem nmX4 : ∀ a, a < 6 → ∀ b, b < 6 → a ≠ b → (TX4 a).2.1 ≠ (TX4 b).2.1 := by decide +kernel
theorem tyX4_ok : ∀ k, k < 6 → parseFieldDescriptor (TX4 k).2.2.1 = some (tyX4 k) := by decide +kernel
abbrev cX4_init : ByteArray := prog_6_method_1_code
def yX4_init : MethodName := ⟨RX4, "<init>", "()V"⟩
abbrev cX4_clear : ByteArray := prog_6_method_2_code
def yX4_clear : MethodName := ⟨RX4, "clear", "()V"⟩
abbrev cX4_openMarks : ByteArray := prog_6_method_3_code
def yX4_openMarks : MethodName := ⟨RX4, "openMarks", "()V"⟩
abbrev cX4_openRule : ByteArray := prog_6_method_4_code
def yX4_openRule : MethodName := ⟨RX4, "openRule", "(III)V"⟩
abbrev cX4_latestKind : ByteArray := prog_6_method_5_code
def yX4_latestKind : MethodName := ⟨RX4, "latestKind", "()I"⟩
abbrev cX4_latestRule : ByteArray := prog_6_method_6_code
def yX4_latestRule : MethodName := ⟨RX4, "latestRule", "()I"⟩
abbrev cX4_latestBefore : ByteArray := prog_6_method_7_code
def yX4_latestBefore : MethodName := ⟨RX4, "latestBefore", "()I"⟩
abbrev cX4_latestChanges : ByteArray := prog_6_method_8_code
def yX4_latestChanges : MethodName := ⟨RX4, "latestChanges", "()LFeastRules$Row;"⟩
abbrev cX4_drop : ByteArray := prog_6_method_9_code
def yX4_drop : MethodName := ⟨RX4, "drop", "()V"⟩
def RX5 : String := "FeastRules$Ledger"
def TX5 : u_T := fun k => match k with
  | 0 => ("FeastRules$Ledger", "finder", "LFeastRules$Finder;", true)
  | 1 => ("FeastRules$Ledger", "known", "[LFeastRules$DaySet;", true)
  | 2 => ("FeastRules$Ledger", "stack", "[LFeastRules$DaySet;", true)
  | 3 => ("FeastRules$Ledger", "added", "[LFeastRules$Row;", true)
  | 4 => ("FeastRules$Ledger", "leftOut", "[LFeastRules$Row;", true)
  | 5 => ("FeastRules$Ledger", "book", "LFeastRules$Book;", false)
  | 6 => ("FeastRules$Ledger", "depth", "I", false)
  | _ => ("FeastRules$Ledger", "setsKnown", "I", false)
def tyX5 : Nat → FieldType := fun k => match k with
  | 0 => .object "FeastRules$Finder"
  | 1 => .array (.object "FeastRules$DaySet")
  | 2 => .array (.object "FeastRules$DaySet")
  | 3 => .array (.object "FeastRules$Row")
  | 4 => .array (.object "FeastRules$Row")
  | 5 => .object "FeastRules$Book"
  | 6 => .int
  | _ => .int
abbrev wsX50 : List Cond := u_ws RX5 TX5 8
theorem nmX5 : ∀ a, a < 8 → ∀ b, b < 8 → a ≠ b → (TX5 a).2.1 ≠ (TX5 b).2.1 := by decide +kernel
theorem tyX5_ok : ∀ k, k < 8 → parseFieldDescriptor (TX5 k).2.2.1 = some (tyX5 k) := by decide +kernel
abbrev cX5_init : ByteArray := prog_7_method_1_code
def yX5_init : MethodName := ⟨RX5, "<init>", "(LFeastRules$Finder;)V"⟩
abbrev cX5_open : ByteArray := prog_7_method_2_code
def yX5_open : MethodName := ⟨RX5, "open", "(LFeastRules$Book;)V"⟩
abbrev cX5_ruleChanged : ByteArray := prog_7_method_3_code
def yX5_ruleChanged : MethodName := ⟨RX5, "ruleChanged", "(I)V"⟩
abbrev cX5_daysOf : ByteArray := prog_7_method_4_code
def yX5_daysOf : MethodName := ⟨RX5, "daysOf", "(I)LFeastRules$DaySet;"⟩
abbrev cX5_marked : ByteArray := prog_7_method_5_code
def yX5_marked : MethodName := ⟨RX5, "marked", "(I)I"⟩
abbrev cX5_turn : ByteArray := prog_7_method_6_code
def yX5_turn : MethodName := ⟨RX5, "turn", "(III)I"⟩
abbrev cX5_turnBack : ByteArray := prog_7_method_7_code
def yX5_turnBack : MethodName := ⟨RX5, "turnBack", "(LFeastRules$Row;)V"⟩
abbrev cX5_markOf : ByteArray := prog_7_method_8_code
def yX5_markOf : MethodName := ⟨RX5, "markOf", "(II)I"⟩
abbrev cX5_mark : ByteArray := prog_7_method_9_code
def yX5_mark : MethodName := ⟨RX5, "mark", "(III)V"⟩
abbrev cX5_rowOf : ByteArray := prog_7_method_10_code
def yX5_rowOf : MethodName := ⟨RX5, "rowOf", "(II)LFeastRules$Row;"⟩
abbrev cX5_putTogether : ByteArray := prog_7_method_11_code
def yX5_putTogether : MethodName := ⟨RX5, "putTogether", "(I)V"⟩
abbrev cX5_perform : ByteArray := prog_7_method_12_code
def yX5_perform : MethodName := ⟨RX5, "perform", "(II)V"⟩
abbrev cX5_lay : ByteArray := prog_7_method_13_code
def yX5_lay : MethodName := ⟨RX5, "lay", "(LFeastRules$DaySet;)V"⟩
abbrev cX5_join : ByteArray := prog_7_method_14_code
def yX5_join : MethodName := ⟨RX5, "join", "(ILFeastRules$DaySet;)V"⟩
def RX6 : String := "FeastRules$Reader"
def TX6 : u_T := fun k => match k with
  | 0 => ("FeastRules$Reader", "fault", "I", false)
  | 1 => ("FeastRules$Reader", "place", "I", false)
  | 2 => ("FeastRules$Reader", "text", "[B", false)
  | 3 => ("FeastRules$Reader", "length", "I", false)
  | 4 => ("FeastRules$Reader", "kind", "I", false)
  | 5 => ("FeastRules$Reader", "start", "I", false)
  | 6 => ("FeastRules$Reader", "end", "I", false)
  | 7 => ("FeastRules$Reader", "told", "LFeastRules$Book;", false)
  | _ => ("FeastRules$Reader", "row", "LFeastRules$Row;", true)
def tyX6 : Nat → FieldType := fun k => match k with
  | 0 => .int
  | 1 => .int
  | 2 => .array .byte
  | 3 => .int
  | 4 => .int
  | 5 => .int
  | 6 => .int
  | 7 => .object "FeastRules$Book"
  | _ => .object "FeastRules$Row"
abbrev wsX60 : List Cond := u_ws RX6 TX6 9
theorem nmX6 : ∀ a, a < 9 → ∀ b, b < 9 → a ≠ b → (TX6 a).2.1 ≠ (TX6 b).2.1 := by decide +kernel
theorem tyX6_ok : ∀ k, k < 9 → parseFieldDescriptor (TX6 k).2.2.1 = some (tyX6 k) := by decide +kernel
abbrev cX6_init : ByteArray := prog_8_method_1_code
def yX6_init : MethodName := ⟨RX6, "<init>", "()V"⟩
abbrev cX6_read : ByteArray := prog_8_method_2_code
def yX6_read : MethodName := ⟨RX6, "read", "(LFeastRules$Tape;LFeastRules$Book;)V"⟩
abbrev cX6_ruleText : ByteArray := prog_8_method_3_code
def yX6_ruleText : MethodName := ⟨RX6, "ruleText", "()V"⟩
abbrev cX6_partText : ByteArray := prog_8_method_4_code
def yX6_partText : MethodName := ⟨RX6, "partText", "(ILFeastRules$Rule;)V"⟩
abbrev cX6_rowText : ByteArray := prog_8_method_5_code
def yX6_rowText : MethodName := ⟨RX6, "rowText", "(II)V"⟩
abbrev cX6_nextInRow : ByteArray := prog_8_method_6_code
def yX6_nextInRow : MethodName := ⟨RX6, "nextInRow", "()Z"⟩
abbrev cX6_member : ByteArray := prog_8_method_7_code
def yX6_member : MethodName := ⟨RX6, "member", "(II)I"⟩
abbrev cX6_setText : ByteArray := prog_8_method_8_code
def yX6_setText : MethodName := ⟨RX6, "setText", "()V"⟩
abbrev cX6_sumText : ByteArray := prog_8_method_9_code
def yX6_sumText : MethodName := ⟨RX6, "sumText", "(I)V"⟩
abbrev cX6_bothText : ByteArray := prog_8_method_10_code
def yX6_bothText : MethodName := ⟨RX6, "bothText", "(I)V"⟩
abbrev cX6_oneText : ByteArray := prog_8_method_11_code
def yX6_oneText : MethodName := ⟨RX6, "oneText", "(I)V"⟩
abbrev cX6_firstText : ByteArray := prog_8_method_12_code
def yX6_firstText : MethodName := ⟨RX6, "firstText", "(I)V"⟩
abbrev cX6_daysText : ByteArray := prog_8_method_13_code
def yX6_daysText : MethodName := ⟨RX6, "daysText", "()V"⟩
abbrev cX6_dateText : ByteArray := prog_8_method_14_code
def yX6_dateText : MethodName := ⟨RX6, "dateText", "()I"⟩
abbrev cX6_number : ByteArray := prog_8_method_15_code
def yX6_number : MethodName := ⟨RX6, "number", "(II)I"⟩
abbrev cX6_newName : ByteArray := prog_8_method_16_code
def yX6_newName : MethodName := ⟨RX6, "newName", "()I"⟩
abbrev cX6_knownName : ByteArray := prog_8_method_17_code
def yX6_knownName : MethodName := ⟨RX6, "knownName", "()I"⟩
abbrev cX6_name : ByteArray := prog_8_method_18_code
def yX6_name : MethodName := ⟨RX6, "name", "()I"⟩
abbrev cX6_isOwnWord : ByteArray := prog_8_method_19_code
def yX6_isOwnWord : MethodName := ⟨RX6, "isOwnWord", "()Z"⟩
abbrev cX6_isWord : ByteArray := prog_8_method_20_code
def yX6_isWord : MethodName := ⟨RX6, "isWord", "(Ljava/lang/String;)Z"⟩
abbrev cX6_wordAmong : ByteArray := prog_8_method_21_code
def yX6_wordAmong : MethodName := ⟨RX6, "wordAmong", "(Ljava/lang/String;)I"⟩
abbrev cX6_isSign : ByteArray := prog_8_method_22_code
def yX6_isSign : MethodName := ⟨RX6, "isSign", "(C)Z"⟩
abbrev cX6_pass : ByteArray := prog_8_method_23_code
def yX6_pass : MethodName := ⟨RX6, "pass", "(Z)V"⟩
abbrev cX6_refuse : ByteArray := prog_8_method_24_code
def yX6_refuse : MethodName := ⟨RX6, "refuse", "(II)V"⟩
abbrev cX6_advance : ByteArray := prog_8_method_25_code
def yX6_advance : MethodName := ⟨RX6, "advance", "()V"⟩
def RX7 : String := "FeastRules$Row"
def TX7 : u_T := fun k => match k with
  | 0 => ("FeastRules$Row", "values", "[I", true)
  | _ => ("FeastRules$Row", "size", "I", false)
def tyX7 : Nat → FieldType := fun k => match k with
  | 0 => .array .int
  | _ => .int
abbrev wsX70 : List Cond := u_ws RX7 TX7 2
theorem nmX7 : ∀ a, a < 2 → ∀ b, b < 2 → a ≠ b → (TX7 a).2.1 ≠ (TX7 b).2.1 := by decide +kernel
theorem tyX7_ok : ∀ k, k < 2 → parseFieldDescriptor (TX7 k).2.2.1 = some (tyX7 k) := by decide +kernel
abbrev cX7_init : ByteArray := prog_9_method_1_code
def yX7_init : MethodName := ⟨RX7, "<init>", "(I)V"⟩
abbrev cX7_clear : ByteArray := prog_9_method_2_code
def yX7_clear : MethodName := ⟨RX7, "clear", "()V"⟩
abbrev cX7_valueAt : ByteArray := prog_9_method_3_code
def yX7_valueAt : MethodName := ⟨RX7, "valueAt", "(I)I"⟩
abbrev cX7_indexOf : ByteArray := prog_9_method_4_code
def yX7_indexOf : MethodName := ⟨RX7, "indexOf", "(I)I"⟩
abbrev cX7_append : ByteArray := prog_9_method_5_code
def yX7_append : MethodName := ⟨RX7, "append", "(I)V"⟩
abbrev cX7_remove : ByteArray := prog_9_method_6_code
def yX7_remove : MethodName := ⟨RX7, "remove", "(I)V"⟩
abbrev cX7_copy : ByteArray := prog_9_method_7_code
def yX7_copy : MethodName := ⟨RX7, "copy", "(LFeastRules$Row;)V"⟩
def RX8 : String := "FeastRules$Rule"
def TX8 : u_T := fun k => match k with
  | 0 => ("FeastRules$Rule", "step", "I", false)
  | 1 => ("FeastRules$Rule", "unit", "I", false)
  | 2 => ("FeastRules$Rule", "begin", "I", false)
  | 3 => ("FeastRules$Rule", "beginMonth", "I", false)
  | 4 => ("FeastRules$Rule", "beginDate", "I", false)
  | 5 => ("FeastRules$Rule", "beginWeekday", "I", false)
  | 6 => ("FeastRules$Rule", "until", "I", false)
  | 7 => ("FeastRules$Rule", "count", "I", false)
  | 8 => ("FeastRules$Rule", "months", "I", false)
  | 9 => ("FeastRules$Rule", "dates", "I", false)
  | 10 => ("FeastRules$Rule", "datesBack", "I", false)
  | 11 => ("FeastRules$Rule", "weekdays", "I", false)
  | 12 => ("FeastRules$Rule", "onSize", "I", false)
  | 13 => ("FeastRules$Rule", "by", "LFeastRules$Row;", true)
  | _ => ("FeastRules$Rule", "at", "LFeastRules$Row;", true)
def tyX8 : Nat → FieldType := fun k => match k with
  | 0 => .int
  | 1 => .int
  | 2 => .int
  | 3 => .int
  | 4 => .int
  | 5 => .int
  | 6 => .int
  | 7 => .int
  | 8 => .int
  | 9 => .int
  | 10 => .int
  | 11 => .int
  | 12 => .int
  | 13 => .object "FeastRules$Row"
  | _ => .object "FeastRules$Row"
abbrev wsX80 : List Cond := u_ws RX8 TX8 15
theorem nmX8 : ∀ a, a < 15 → ∀ b, b < 15 → a ≠ b → (TX8 a).2.1 ≠ (TX8 b).2.1 := by decide +kernel
theorem tyX8_ok : ∀ k, k < 15 → parseFieldDescriptor (TX8 k).2.2.1 = some (tyX8 k) := by decide +kernel
abbrev cX8_init : ByteArray := prog_10_method_1_code
def yX8_init : MethodName := ⟨RX8, "<init>", "()V"⟩
abbrev cX8_clearParts : ByteArray := prog_10_method_2_code
def yX8_clearParts : MethodName := ⟨RX8, "clearParts", "()V"⟩
abbrev cX8_beginAt : ByteArray := prog_10_method_3_code
def yX8_beginAt : MethodName := ⟨RX8, "beginAt", "(I)V"⟩
abbrev cX8_tellMonths : ByteArray := prog_10_method_4_code
def yX8_tellMonths : MethodName := ⟨RX8, "tellMonths", "(LFeastRules$Row;)V"⟩
abbrev cX8_tellDates : ByteArray := prog_10_method_5_code
def yX8_tellDates : MethodName := ⟨RX8, "tellDates", "(LFeastRules$Row;)V"⟩
abbrev cX8_tellWeekdays : ByteArray := prog_10_method_6_code
def yX8_tellWeekdays : MethodName := ⟨RX8, "tellWeekdays", "(LFeastRules$Row;)V"⟩
abbrev cX8_tell : ByteArray := prog_10_method_7_code
def yX8_tell : MethodName := ⟨RX8, "tell", "(I)I"⟩
abbrev cX8_goesBy : ByteArray := prog_10_method_8_code
def yX8_goesBy : MethodName := ⟨RX8, "goesBy", "(I)Z"⟩
abbrev cX8_counts : ByteArray := prog_10_method_9_code
def yX8_counts : MethodName := ⟨RX8, "counts", "(LFeastRules$Almanac;)Z"⟩
abbrev cX8_countsInMonth : ByteArray := prog_10_method_10_code
def yX8_countsInMonth : MethodName := ⟨RX8, "countsInMonth", "(LFeastRules$Almanac;)Z"⟩
abbrev cX8_countsInYear : ByteArray := prog_10_method_11_code
def yX8_countsInYear : MethodName := ⟨RX8, "countsInYear", "(LFeastRules$Almanac;)Z"⟩
abbrev cX8_dateTold : ByteArray := prog_10_method_12_code
def yX8_dateTold : MethodName := ⟨RX8, "dateTold", "(LFeastRules$Almanac;)Z"⟩
abbrev cX8_weekdayTold : ByteArray := prog_10_method_13_code
def yX8_weekdayTold : MethodName := ⟨RX8, "weekdayTold", "(LFeastRules$Almanac;)Z"⟩
abbrev cX8_placeTold : ByteArray := prog_10_method_14_code
def yX8_placeTold : MethodName := ⟨RX8, "placeTold", "(III)Z"⟩
def RX9 : String := "FeastRules$Seen"
def TX9 : u_T := fun k => match k with
  | 0 => ("FeastRules$Seen", "finder", "LFeastRules$Finder;", true)
  | 1 => ("FeastRules$Seen", "scratch", "LFeastRules$DaySet;", true)
  | 2 => ("FeastRules$Seen", "days", "[I", true)
  | 3 => ("FeastRules$Seen", "held", "[Z", true)
  | 4 => ("FeastRules$Seen", "counts", "[I", true)
  | 5 => ("FeastRules$Seen", "steps", "LFeastRules$Row;", true)
  | 6 => ("FeastRules$Seen", "rule", "LFeastRules$Rule;", false)
  | 7 => ("FeastRules$Seen", "workedOut", "Z", false)
  | 8 => ("FeastRules$Seen", "size", "I", false)
  | 9 => ("FeastRules$Seen", "fitting", "I", false)
  | 10 => ("FeastRules$Seen", "tellingDay", "I", false)
  | _ => ("FeastRules$Seen", "tellingLeft", "I", false)
def tyX9 : Nat → FieldType := fun k => match k with
  | 0 => .object "FeastRules$Finder"
  | 1 => .object "FeastRules$DaySet"
  | 2 => .array .int
  | 3 => .array .boolean
  | 4 => .array .int
  | 5 => .object "FeastRules$Row"
  | 6 => .object "FeastRules$Rule"
  | 7 => .boolean
  | 8 => .int
  | 9 => .int
  | 10 => .int
  | _ => .int
abbrev wsX90 : List Cond := u_ws RX9 TX9 12
theorem nmX9 : ∀ a, a < 12 → ∀ b, b < 12 → a ≠ b → (TX9 a).2.1 ≠ (TX9 b).2.1 := by decide +kernel
theorem tyX9_ok : ∀ k, k < 12 → parseFieldDescriptor (TX9 k).2.2.1 = some (tyX9 k) := by decide +kernel
abbrev cX9_init : ByteArray := prog_11_method_1_code
def yX9_init : MethodName := ⟨RX9, "<init>", "(LFeastRules$Finder;)V"⟩
abbrev cX9_isTold : ByteArray := prog_11_method_2_code
def yX9_isTold : MethodName := ⟨RX9, "isTold", "(LFeastRules$Tape;)Z"⟩
abbrev cX9_dayAt : ByteArray := prog_11_method_3_code
def yX9_dayAt : MethodName := ⟨RX9, "dayAt", "(LFeastRules$Tape;I)I"⟩
abbrev cX9_take : ByteArray := prog_11_method_4_code
def yX9_take : MethodName := ⟨RX9, "take", "(LFeastRules$Tape;LFeastRules$Rule;)V"⟩
abbrev cX9_clear : ByteArray := prog_11_method_5_code
def yX9_clear : MethodName := ⟨RX9, "clear", "()V"⟩
abbrev cX9_forget : ByteArray := prog_11_method_6_code
def yX9_forget : MethodName := ⟨RX9, "forget", "()V"⟩
abbrev cX9_fitAt : ByteArray := prog_11_method_7_code
def yX9_fitAt : MethodName := ⟨RX9, "fitAt", "(I)I"⟩
abbrev cX9_workOut : ByteArray := prog_11_method_8_code
def yX9_workOut : MethodName := ⟨RX9, "workOut", "()V"⟩
abbrev cX9_isSo : ByteArray := prog_11_method_9_code
def yX9_isSo : MethodName := ⟨RX9, "isSo", "()Z"⟩
abbrev cX9_countYear : ByteArray := prog_11_method_10_code
def yX9_countYear : MethodName := ⟨RX9, "countYear", "(II)V"⟩
abbrev cX9_choose : ByteArray := prog_11_method_11_code
def yX9_choose : MethodName := ⟨RX9, "choose", "(II)V"⟩
def RX10 : String := "FeastRules$Tape"
def TX10 : u_T := fun k => match k with
  | 0 => ("FeastRules$Tape", "bytes", "[B", true)
  | _ => ("FeastRules$Tape", "size", "I", false)
def tyX10 : Nat → FieldType := fun k => match k with
  | 0 => .array .byte
  | _ => .int
abbrev wsX100 : List Cond := u_ws RX10 TX10 2
theorem nmX10 : ∀ a, a < 2 → ∀ b, b < 2 → a ≠ b → (TX10 a).2.1 ≠ (TX10 b).2.1 := by decide +kernel
theorem tyX10_ok : ∀ k, k < 2 → parseFieldDescriptor (TX10 k).2.2.1 = some (tyX10 k) := by decide +kernel
abbrev cX10_init : ByteArray := prog_12_method_1_code
def yX10_init : MethodName := ⟨RX10, "<init>", "()V"⟩
abbrev cX10_append : ByteArray := prog_12_method_2_code
def yX10_append : MethodName := ⟨RX10, "append", "(I)V"⟩
abbrev cX10_byteAt : ByteArray := prog_12_method_3_code
def yX10_byteAt : MethodName := ⟨RX10, "byteAt", "(I)I"⟩
def RX11 : String := "FeastRules"
def TX11 : u_T := fun k => match k with
  | 0 => ("FeastRules", "tape", "LFeastRules$Tape;", true)
  | 1 => ("FeastRules", "reader", "LFeastRules$Reader;", true)
  | 2 => ("FeastRules", "finder", "LFeastRules$Finder;", true)
  | 3 => ("FeastRules", "ledger", "LFeastRules$Ledger;", true)
  | 4 => ("FeastRules", "journal", "LFeastRules$Journal;", true)
  | 5 => ("FeastRules", "seen", "LFeastRules$Seen;", true)
  | 6 => ("FeastRules", "refusals", "[I", true)
  | 7 => ("FeastRules", "current", "LFeastRules$Book;", false)
  | 8 => ("FeastRules", "spare", "LFeastRules$Book;", false)
  | _ => ("FeastRules", "chanceSeed", "I", false)
def tyX11 : Nat → FieldType := fun k => match k with
  | 0 => .object "FeastRules$Tape"
  | 1 => .object "FeastRules$Reader"
  | 2 => .object "FeastRules$Finder"
  | 3 => .object "FeastRules$Ledger"
  | 4 => .object "FeastRules$Journal"
  | 5 => .object "FeastRules$Seen"
  | 6 => .array .int
  | 7 => .object "FeastRules$Book"
  | 8 => .object "FeastRules$Book"
  | _ => .int
abbrev wsX110 : List Cond := u_ws RX11 TX11 10
theorem nmX11 : ∀ a, a < 10 → ∀ b, b < 10 → a ≠ b → (TX11 a).2.1 ≠ (TX11 b).2.1 := by decide +kernel
theorem tyX11_ok : ∀ k, k < 10 → parseFieldDescriptor (TX11 k).2.2.1 = some (tyX11 k) := by decide +kernel
abbrev cX11_init : ByteArray := prog_1_method_1_code
def yX11_init : MethodName := ⟨RX11, "<init>", "()V"⟩
abbrev cX11_feed : ByteArray := prog_1_method_2_code
def yX11_feed : MethodName := ⟨RX11, "feed", "(IIIII)I"⟩
abbrev cX11_end : ByteArray := prog_1_method_3_code
def yX11_end : MethodName := ⟨RX11, "end", "(I)Z"⟩
abbrev cX11_book : ByteArray := prog_1_method_4_code
def yX11_book : MethodName := ⟨RX11, "book", "()I"⟩
abbrev cX11_fault : ByteArray := prog_1_method_5_code
def yX11_fault : MethodName := ⟨RX11, "fault", "(I)I"⟩
abbrev cX11_has : ByteArray := prog_1_method_6_code
def yX11_has : MethodName := ⟨RX11, "has", "(I)I"⟩
abbrev cX11_letter : ByteArray := prog_1_method_7_code
def yX11_letter : MethodName := ⟨RX11, "letter", "(II)I"⟩
abbrev cX11_rule : ByteArray := prog_1_method_8_code
def yX11_rule : MethodName := ⟨RX11, "rule", "(II)I"⟩
abbrev cX11_day : ByteArray := prog_1_method_9_code
def yX11_day : MethodName := ⟨RX11, "day", "(III)I"⟩
abbrev cX11_date : ByteArray := prog_1_method_10_code
def yX11_date : MethodName := ⟨RX11, "date", "(II)I"⟩
abbrev cX11_on : ByteArray := prog_1_method_11_code
def yX11_on : MethodName := ⟨RX11, "on", "(II)I"⟩
abbrev cX11_next : ByteArray := prog_1_method_12_code
def yX11_next : MethodName := ⟨RX11, "next", "(II)I"⟩
abbrev cX11_ahead : ByteArray := prog_1_method_13_code
def yX11_ahead : MethodName := ⟨RX11, "ahead", "(II)I"⟩
abbrev cX11_nth : ByteArray := prog_1_method_14_code
def yX11_nth : MethodName := ⟨RX11, "nth", "(II)I"⟩
abbrev cX11_many : ByteArray := prog_1_method_15_code
def yX11_many : MethodName := ⟨RX11, "many", "(III)I"⟩
abbrev cX11_gap : ByteArray := prog_1_method_16_code
def yX11_gap : MethodName := ⟨RX11, "gap", "(II)I"⟩
abbrev cX11_free : ByteArray := prog_1_method_17_code
def yX11_free : MethodName := ⟨RX11, "free", "(III)I"⟩
abbrev cX11_meet : ByteArray := prog_1_method_18_code
def yX11_meet : MethodName := ⟨RX11, "meet", "(IIII)I"⟩
abbrev cX11_fares : ByteArray := prog_1_method_19_code
def yX11_fares : MethodName := ⟨RX11, "fares", "(II)I"⟩
abbrev cX11_period : ByteArray := prog_1_method_20_code
def yX11_period : MethodName := ⟨RX11, "period", "(III)I"⟩
abbrev cX11_sum : ByteArray := prog_1_method_21_code
def yX11_sum : MethodName := ⟨RX11, "sum", "(I)I"⟩
abbrev cX11_see : ByteArray := prog_1_method_22_code
def yX11_see : MethodName := ⟨RX11, "see", "(I)I"⟩
abbrev cX11_fits : ByteArray := prog_1_method_23_code
def yX11_fits : MethodName := ⟨RX11, "fits", "(I)I"⟩
abbrev cX11_tells : ByteArray := prog_1_method_24_code
def yX11_tells : MethodName := ⟨RX11, "tells", "(I)I"⟩
abbrev cX11_add : ByteArray := prog_1_method_25_code
def yX11_add : MethodName := ⟨RX11, "add", "(II)Z"⟩
abbrev cX11_leave : ByteArray := prog_1_method_26_code
def yX11_leave : MethodName := ⟨RX11, "leave", "(II)Z"⟩
abbrev cX11_every : ByteArray := prog_1_method_27_code
def yX11_every : MethodName := ⟨RX11, "every", "(II)Z"⟩
abbrev cX11_from : ByteArray := prog_1_method_28_code
def yX11_from : MethodName := ⟨RX11, "from", "(II)Z"⟩
abbrev cX11_chance : ByteArray := prog_1_method_29_code
def yX11_chance : MethodName := ⟨RX11, "chance", "(I)I"⟩
abbrev cX11_undo : ByteArray := prog_1_method_30_code
def yX11_undo : MethodName := ⟨RX11, "undo", "()Z"⟩
abbrev cX11_seed : ByteArray := prog_1_method_31_code
def yX11_seed : MethodName := ⟨RX11, "seed", "(I)Z"⟩
abbrev cX11_status : ByteArray := prog_1_method_32_code
def yX11_status : MethodName := ⟨RX11, "status", "(I)I"⟩
abbrev cX11_isDay : ByteArray := prog_1_method_33_code
def yX11_isDay : MethodName := ⟨RX11, "isDay", "(I)Z"⟩
abbrev cX11_refuse : ByteArray := prog_1_method_34_code
def yX11_refuse : MethodName := ⟨RX11, "refuse", "(I)I"⟩
abbrev cX11_deny : ByteArray := prog_1_method_35_code
def yX11_deny : MethodName := ⟨RX11, "deny", "(I)Z"⟩
abbrev cX11_turn : ByteArray := prog_1_method_36_code
def yX11_turn : MethodName := ⟨RX11, "turn", "(III)Z"⟩
abbrev cX11_restoreRule : ByteArray := prog_1_method_37_code
def yX11_restoreRule : MethodName := ⟨RX11, "restoreRule", "()V"⟩
abbrev cX11_draw : ByteArray := prog_1_method_38_code
def yX11_draw : MethodName := ⟨RX11, "draw", "(I)I"⟩
def RX12 : String := "FeastRulesModel"
def TX12 : u_T := fun k => match k with
  | 0 => ("FeastRulesModel", "tape", "[I", true)
  | 1 => ("FeastRulesModel", "taped", "I", false)
  | 2 => ("FeastRulesModel", "at", "I", false)
  | 3 => ("FeastRulesModel", "end", "I", false)
  | 4 => ("FeastRulesModel", "ended", "I", false)
  | 5 => ("FeastRulesModel", "bad", "I", false)
  | 6 => ("FeastRulesModel", "badPlace", "I", false)
  | 7 => ("FeastRulesModel", "fault", "I", false)
  | 8 => ("FeastRulesModel", "faultPlace", "I", false)
  | 9 => ("FeastRulesModel", "refused", "[I", true)
  | 10 => ("FeastRulesModel", "numberPlace", "I", false)
  | 11 => ("FeastRulesModel", "own", "[C", true)
  | 12 => ("FeastRulesModel", "namePlace", "I", false)
  | 13 => ("FeastRulesModel", "yearOf", "[I", true)
  | 14 => ("FeastRulesModel", "monthOf", "[I", true)
  | 15 => ("FeastRulesModel", "dateOf", "[I", true)
  | 16 => ("FeastRulesModel", "inYear", "[I", true)
  | 17 => ("FeastRulesModel", "hasDays", "Z", false)
  | 18 => ("FeastRulesModel", "draft", "[I", true)
  | 19 => ("FeastRulesModel", "told", "[I", true)
  | 20 => ("FeastRulesModel", "draftCodes", "[I", true)
  | 21 => ("FeastRulesModel", "codes", "[I", true)
  | 22 => ("FeastRulesModel", "codeMany", "I", false)
  | 23 => ("FeastRulesModel", "isTold", "Z", false)
  | 24 => ("FeastRulesModel", "statements", "I", false)
  | 25 => ("FeastRulesModel", "open", "[I", true)
  | 26 => ("FeastRulesModel", "openMany", "I", false)
  | 27 => ("FeastRulesModel", "parens", "I", false)
  | 28 => ("FeastRulesModel", "listed", "[I", true)
  | 29 => ("FeastRulesModel", "now", "[I", true)
  | 30 => ("FeastRulesModel", "days", "[Z", true)
  | 31 => ("FeastRulesModel", "isLaid", "[Z", true)
  | 32 => ("FeastRulesModel", "base", "[Z", true)
  | 33 => ("FeastRulesModel", "pile", "[Z", true)
  | 34 => ("FeastRulesModel", "piled", "I", false)
  | 35 => ("FeastRulesModel", "aside", "[Z", true)
  | 36 => ("FeastRulesModel", "rowMany", "I", false)
  | 37 => ("FeastRulesModel", "seenRule", "I", false)
  | 38 => ("FeastRulesModel", "seenDay", "[I", true)
  | 39 => ("FeastRulesModel", "seenOn", "[Z", true)
  | 40 => ("FeastRulesModel", "isFit", "[Z", true)
  | 41 => ("FeastRulesModel", "tried", "[Z", true)
  | 42 => ("FeastRulesModel", "onBy", "[I", true)
  | 43 => ("FeastRulesModel", "acts", "[I", true)
  | 44 => ("FeastRulesModel", "undoable", "I", false)
  | 45 => ("FeastRulesModel", "newest", "I", false)
  | _ => ("FeastRulesModel", "seeded", "J", false)
def tyX12 : Nat → FieldType := fun k => match k with
  | 0 => .array .int
  | 1 => .int
  | 2 => .int
  | 3 => .int
  | 4 => .int
  | 5 => .int
  | 6 => .int
  | 7 => .int
  | 8 => .int
  | 9 => .array .int
  | 10 => .int
  | 11 => .array .char
  | 12 => .int
  | 13 => .array .int
  | 14 => .array .int
  | 15 => .array .int
  | 16 => .array .int
  | 17 => .boolean
  | 18 => .array .int
  | 19 => .array .int
  | 20 => .array .int
  | 21 => .array .int
  | 22 => .int
  | 23 => .boolean
  | 24 => .int
  | 25 => .array .int
  | 26 => .int
  | 27 => .int
  | 28 => .array .int
  | 29 => .array .int
  | 30 => .array .boolean
  | 31 => .array .boolean
  | 32 => .array .boolean
  | 33 => .array .boolean
  | 34 => .int
  | 35 => .array .boolean
  | 36 => .int
  | 37 => .int
  | 38 => .array .int
  | 39 => .array .boolean
  | 40 => .array .boolean
  | 41 => .array .boolean
  | 42 => .array .int
  | 43 => .array .int
  | 44 => .int
  | 45 => .int
  | _ => .long
abbrev wsX120 : List Cond := u_ws RX12 TX12 47
theorem nmX12 : ∀ a, a < 47 → ∀ b, b < 47 → a ≠ b → (TX12 a).2.1 ≠ (TX12 b).2.1 := by decide +kernel
theorem tyX12_ok : ∀ k, k < 47 → parseFieldDescriptor (TX12 k).2.2.1 = some (tyX12 k) := by decide +kernel
abbrev cX12_init : ByteArray := prog_14_method_1_code
def yX12_init : MethodName := ⟨RX12, "<init>", "()V"⟩
abbrev cX12_isIn : ByteArray := prog_14_method_2_code
def yX12_isIn : MethodName := ⟨RX12, "isIn", "(JJJ)Z"⟩
abbrev cX12_flag : ByteArray := prog_14_method_3_code
def yX12_flag : MethodName := ⟨RX12, "flag", "(Z)I"⟩
abbrev cX12_isOf : ByteArray := prog_14_method_4_code
def yX12_isOf : MethodName := ⟨RX12, "isOf", "(II)Z"⟩
abbrev cX12_refuses : ByteArray := prog_14_method_5_code
def yX12_refuses : MethodName := ⟨RX12, "refuses", "(I)I"⟩
abbrev cX12_isRefused : ByteArray := prog_14_method_6_code
def yX12_isRefused : MethodName := ⟨RX12, "isRefused", "(I)Z"⟩
abbrev cX12_feed : ByteArray := prog_14_method_7_code
def yX12_feed : MethodName := ⟨RX12, "feed", "(IIIII)I"⟩
abbrev cX12_end : ByteArray := prog_14_method_8_code
def yX12_end : MethodName := ⟨RX12, "end", "(I)Z"⟩
abbrev cX12_status : ByteArray := prog_14_method_9_code
def yX12_status : MethodName := ⟨RX12, "status", "(I)I"⟩
abbrev cX12_fault : ByteArray := prog_14_method_10_code
def yX12_fault : MethodName := ⟨RX12, "fault", "(I)I"⟩
abbrev cX12_fail : ByteArray := prog_14_method_11_code
def yX12_fail : MethodName := ⟨RX12, "fail", "(II)V"⟩
abbrev cX12_isLetter : ByteArray := prog_14_method_12_code
def yX12_isLetter : MethodName := ⟨RX12, "isLetter", "(I)Z"⟩
abbrev cX12_isDigit : ByteArray := prog_14_method_13_code
def yX12_isDigit : MethodName := ⟨RX12, "isDigit", "(I)Z"⟩
abbrev cX12_look : ByteArray := prog_14_method_14_code
def yX12_look : MethodName := ⟨RX12, "look", "()I"⟩
abbrev cX12_isWordHere : ByteArray := prog_14_method_15_code
def yX12_isWordHere : MethodName := ⟨RX12, "isWordHere", "()Z"⟩
abbrev cX12_takesSign : ByteArray := prog_14_method_16_code
def yX12_takesSign : MethodName := ⟨RX12, "takesSign", "(I)Z"⟩
abbrev cX12_asksSign : ByteArray := prog_14_method_17_code
def yX12_asksSign : MethodName := ⟨RX12, "asksSign", "(I)V"⟩
abbrev cX12_number : ByteArray := prog_14_method_18_code
def yX12_number : MethodName := ⟨RX12, "number", "(II)I"⟩
abbrev cX12_ownHere : ByteArray := prog_14_method_19_code
def yX12_ownHere : MethodName := ⟨RX12, "ownHere", "()I"⟩
abbrev cX12_isLike : ByteArray := prog_14_method_20_code
def yX12_isLike : MethodName := ⟨RX12, "isLike", "(II)Z"⟩
abbrev cX12_passes : ByteArray := prog_14_method_21_code
def yX12_passes : MethodName := ⟨RX12, "passes", "()V"⟩
abbrev cX12_takes : ByteArray := prog_14_method_22_code
def yX12_takes : MethodName := ⟨RX12, "takes", "(I)Z"⟩
abbrev cX12_asks : ByteArray := prog_14_method_23_code
def yX12_asks : MethodName := ⟨RX12, "asks", "(I)V"⟩
abbrev cX12_name : ByteArray := prog_14_method_24_code
def yX12_name : MethodName := ⟨RX12, "name", "()I"⟩
abbrev cX12_isLeap : ByteArray := prog_14_method_25_code
def yX12_isLeap : MethodName := ⟨RX12, "isLeap", "(I)Z"⟩
abbrev cX12_longMonth : ByteArray := prog_14_method_26_code
def yX12_longMonth : MethodName := ⟨RX12, "longMonth", "(II)I"⟩
abbrev cX12_laysDays : ByteArray := prog_14_method_27_code
def yX12_laysDays : MethodName := ⟨RX12, "laysDays", "()V"⟩
abbrev cX12_weekdayOf : ByteArray := prog_14_method_28_code
def yX12_weekdayOf : MethodName := ⟨RX12, "weekdayOf", "(I)I"⟩
abbrev cX12_dayOf : ByteArray := prog_14_method_29_code
def yX12_dayOf : MethodName := ⟨RX12, "dayOf", "(III)I"⟩
abbrev cX12_ruleAt : ByteArray := prog_14_method_30_code
def yX12_ruleAt : MethodName := ⟨RX12, "ruleAt", "(II)I"⟩
abbrev cX12_setAt : ByteArray := prog_14_method_31_code
def yX12_setAt : MethodName := ⟨RX12, "setAt", "(II)I"⟩
abbrev cX12_named : ByteArray := prog_14_method_32_code
def yX12_named : MethodName := ⟨RX12, "named", "(I)I"⟩
abbrev cX12_newName : ByteArray := prog_14_method_33_code
def yX12_newName : MethodName := ⟨RX12, "newName", "()I"⟩
abbrev cX12_what : ByteArray := prog_14_method_34_code
def yX12_what : MethodName := ⟨RX12, "what", "()I"⟩
abbrev cX12_date : ByteArray := prog_14_method_35_code
def yX12_date : MethodName := ⟨RX12, "date", "()I"⟩
abbrev cX12_place : ByteArray := prog_14_method_36_code
def yX12_place : MethodName := ⟨RX12, "place", "(I)I"⟩
abbrev cX12_room : ByteArray := prog_14_method_37_code
def yX12_room : MethodName := ⟨RX12, "room", "(I)V"⟩
abbrev cX12_inTold : ByteArray := prog_14_method_38_code
def yX12_inTold : MethodName := ⟨RX12, "inTold", "(I)V"⟩
abbrev cX12_placesTold : ByteArray := prog_14_method_39_code
def yX12_placesTold : MethodName := ⟨RX12, "placesTold", "(IIII)V"⟩
abbrev cX12_weekday : ByteArray := prog_14_method_40_code
def yX12_weekday : MethodName := ⟨RX12, "weekday", "()I"⟩
abbrev cX12_byTold : ByteArray := prog_14_method_41_code
def yX12_byTold : MethodName := ⟨RX12, "byTold", "(I)V"⟩
abbrev cX12_partTold : ByteArray := prog_14_method_42_code
def yX12_partTold : MethodName := ⟨RX12, "partTold", "(II)V"⟩
abbrev cX12_ruleTold : ByteArray := prog_14_method_43_code
def yX12_ruleTold : MethodName := ⟨RX12, "ruleTold", "(I)V"⟩
abbrev cX12_codes : ByteArray := prog_14_method_44_code
def yX12_codes : MethodName := ⟨RX12, "codes", "(II)V"⟩
abbrev cX12_opens : ByteArray := prog_14_method_45_code
def yX12_opens : MethodName := ⟨RX12, "opens", "(I)V"⟩
abbrev cX12_joins : ByteArray := prog_14_method_46_code
def yX12_joins : MethodName := ⟨RX12, "joins", "(Z)V"⟩
abbrev cX12_daysTold : ByteArray := prog_14_method_47_code
def yX12_daysTold : MethodName := ⟨RX12, "daysTold", "()V"⟩
abbrev cX12_movesTold : ByteArray := prog_14_method_48_code
def yX12_movesTold : MethodName := ⟨RX12, "movesTold", "()V"⟩
abbrev cX12_goesOn : ByteArray := prog_14_method_49_code
def yX12_goesOn : MethodName := ⟨RX12, "goesOn", "()Z"⟩
abbrev cX12_sumTold : ByteArray := prog_14_method_50_code
def yX12_sumTold : MethodName := ⟨RX12, "sumTold", "()V"⟩
abbrev cX12_setTold : ByteArray := prog_14_method_51_code
def yX12_setTold : MethodName := ⟨RX12, "setTold", "(I)V"⟩
abbrev cX12_statementTold : ByteArray := prog_14_method_52_code
def yX12_statementTold : MethodName := ⟨RX12, "statementTold", "()V"⟩
abbrev cX12_book : ByteArray := prog_14_method_53_code
def yX12_book : MethodName := ⟨RX12, "book", "()I"⟩
abbrev cX12_handAt : ByteArray := prog_14_method_54_code
def yX12_handAt : MethodName := ⟨RX12, "handAt", "(IZ)I"⟩
abbrev cX12_begins : ByteArray := prog_14_method_55_code
def yX12_begins : MethodName := ⟨RX12, "begins", "()V"⟩
abbrev cX12_allAnew : ByteArray := prog_14_method_56_code
def yX12_allAnew : MethodName := ⟨RX12, "allAnew", "()V"⟩
abbrev cX12_isRule : ByteArray := prog_14_method_57_code
def yX12_isRule : MethodName := ⟨RX12, "isRule", "(I)Z"⟩
abbrev cX12_isSet : ByteArray := prog_14_method_58_code
def yX12_isSet : MethodName := ⟨RX12, "isSet", "(I)Z"⟩
abbrev cX12_isWhat : ByteArray := prog_14_method_59_code
def yX12_isWhat : MethodName := ⟨RX12, "isWhat", "(I)Z"⟩
abbrev cX12_isDay : ByteArray := prog_14_method_60_code
def yX12_isDay : MethodName := ⟨RX12, "isDay", "(I)Z"⟩
abbrev cX12_ruleHas : ByteArray := prog_14_method_61_code
def yX12_ruleHas : MethodName := ⟨RX12, "ruleHas", "(II)I"⟩
abbrev cX12_fromOf : ByteArray := prog_14_method_62_code
def yX12_fromOf : MethodName := ⟨RX12, "fromOf", "(I)I"⟩
abbrev cX12_periodOf : ByteArray := prog_14_method_63_code
def yX12_periodOf : MethodName := ⟨RX12, "periodOf", "(II)I"⟩
abbrev cX12_longMonthOf : ByteArray := prog_14_method_64_code
def yX12_longMonthOf : MethodName := ⟨RX12, "longMonthOf", "(I)I"⟩
abbrev cX12_isDated : ByteArray := prog_14_method_65_code
def yX12_isDated : MethodName := ⟨RX12, "isDated", "(II)Z"⟩
abbrev cX12_isWeekday : ByteArray := prog_14_method_66_code
def yX12_isWeekday : MethodName := ⟨RX12, "isWeekday", "(II)Z"⟩
abbrev cX12_isPlaced : ByteArray := prog_14_method_67_code
def yX12_isPlaced : MethodName := ⟨RX12, "isPlaced", "(IIII)Z"⟩
abbrev cX12_hasIn : ByteArray := prog_14_method_68_code
def yX12_hasIn : MethodName := ⟨RX12, "hasIn", "(I)Z"⟩
abbrev cX12_hasOn : ByteArray := prog_14_method_69_code
def yX12_hasOn : MethodName := ⟨RX12, "hasOn", "(I)Z"⟩
abbrev cX12_hasBy : ByteArray := prog_14_method_70_code
def yX12_hasBy : MethodName := ⟨RX12, "hasBy", "(I)Z"⟩
abbrev cX12_isInMonths : ByteArray := prog_14_method_71_code
def yX12_isInMonths : MethodName := ⟨RX12, "isInMonths", "(II)Z"⟩
abbrev cX12_isDateOfBegin : ByteArray := prog_14_method_72_code
def yX12_isDateOfBegin : MethodName := ⟨RX12, "isDateOfBegin", "(II)Z"⟩
abbrev cX12_isOfMonth : ByteArray := prog_14_method_73_code
def yX12_isOfMonth : MethodName := ⟨RX12, "isOfMonth", "(II)Z"⟩
abbrev cX12_isOfYear : ByteArray := prog_14_method_74_code
def yX12_isOfYear : MethodName := ⟨RX12, "isOfYear", "(II)Z"⟩
abbrev cX12_isOfPeriod : ByteArray := prog_14_method_75_code
def yX12_isOfPeriod : MethodName := ⟨RX12, "isOfPeriod", "(II)Z"⟩
abbrev cX12_isAt : ByteArray := prog_14_method_76_code
def yX12_isAt : MethodName := ⟨RX12, "isAt", "(III)Z"⟩
abbrev cX12_laysPeriod : ByteArray := prog_14_method_77_code
def yX12_laysPeriod : MethodName := ⟨RX12, "laysPeriod", "(II)I"⟩
abbrev cX12_laysBase : ByteArray := prog_14_method_78_code
def yX12_laysBase : MethodName := ⟨RX12, "laysBase", "(I)V"⟩
abbrev cX12_isGone : ByteArray := prog_14_method_79_code
def yX12_isGone : MethodName := ⟨RX12, "isGone", "(III)Z"⟩
abbrev cX12_laysDaysBy : ByteArray := prog_14_method_80_code
def yX12_laysDaysBy : MethodName := ⟨RX12, "laysDaysBy", "(II[ZI)V"⟩
abbrev cX12_puts : ByteArray := prog_14_method_81_code
def yX12_puts : MethodName := ⟨RX12, "puts", "(I)V"⟩
abbrev cX12_putsDay : ByteArray := prog_14_method_82_code
def yX12_putsDay : MethodName := ⟨RX12, "putsDay", "(I)V"⟩
abbrev cX12_joinsTop : ByteArray := prog_14_method_83_code
def yX12_joinsTop : MethodName := ⟨RX12, "joinsTop", "(I)V"⟩
abbrev cX12_movesTop : ByteArray := prog_14_method_84_code
def yX12_movesTop : MethodName := ⟨RX12, "movesTop", "(I)V"⟩
abbrev cX12_goesOff : ByteArray := prog_14_method_85_code
def yX12_goesOff : MethodName := ⟨RX12, "goesOff", "(I)V"⟩
abbrev cX12_does : ByteArray := prog_14_method_86_code
def yX12_does : MethodName := ⟨RX12, "does", "(II)V"⟩
abbrev cX12_laysSet : ByteArray := prog_14_method_87_code
def yX12_laysSet : MethodName := ⟨RX12, "laysSet", "(I)V"⟩
abbrev cX12_lays : ByteArray := prog_14_method_88_code
def yX12_lays : MethodName := ⟨RX12, "lays", "(I)V"⟩
abbrev cX12_lays0 : ByteArray := prog_14_method_89_code
def yX12_lays0 : MethodName := ⟨RX12, "lays0", "(I)V"⟩
abbrev cX12_isOn : ByteArray := prog_14_method_90_code
def yX12_isOn : MethodName := ⟨RX12, "isOn", "(II)Z"⟩
abbrev cX12_handMany : ByteArray := prog_14_method_91_code
def yX12_handMany : MethodName := ⟨RX12, "handMany", "(Z)I"⟩
abbrev cX12_has : ByteArray := prog_14_method_92_code
def yX12_has : MethodName := ⟨RX12, "has", "(I)I"⟩
abbrev cX12_letter : ByteArray := prog_14_method_93_code
def yX12_letter : MethodName := ⟨RX12, "letter", "(II)I"⟩
abbrev cX12_rule : ByteArray := prog_14_method_94_code
def yX12_rule : MethodName := ⟨RX12, "rule", "(II)I"⟩
abbrev cX12_day : ByteArray := prog_14_method_95_code
def yX12_day : MethodName := ⟨RX12, "day", "(III)I"⟩
abbrev cX12_date_ : ByteArray := prog_14_method_96_code
def yX12_date_ : MethodName := ⟨RX12, "date", "(II)I"⟩
abbrev cX12_isAsked : ByteArray := prog_14_method_97_code
def yX12_isAsked : MethodName := ⟨RX12, "isAsked", "(I)Z"⟩
abbrev cX12_on : ByteArray := prog_14_method_98_code
def yX12_on : MethodName := ⟨RX12, "on", "(II)I"⟩
abbrev cX12_next : ByteArray := prog_14_method_99_code
def yX12_next : MethodName := ⟨RX12, "next", "(II)I"⟩
abbrev cX12_ahead : ByteArray := prog_14_method_100_code
def yX12_ahead : MethodName := ⟨RX12, "ahead", "(II)I"⟩
abbrev cX12_count : ByteArray := prog_14_method_101_code
def yX12_count : MethodName := ⟨RX12, "count", "(III)I"⟩
abbrev cX12_nth : ByteArray := prog_14_method_102_code
def yX12_nth : MethodName := ⟨RX12, "nth", "(II)I"⟩
abbrev cX12_many : ByteArray := prog_14_method_103_code
def yX12_many : MethodName := ⟨RX12, "many", "(III)I"⟩
abbrev cX12_gap : ByteArray := prog_14_method_104_code
def yX12_gap : MethodName := ⟨RX12, "gap", "(II)I"⟩
abbrev cX12_free : ByteArray := prog_14_method_105_code
def yX12_free : MethodName := ⟨RX12, "free", "(III)I"⟩
abbrev cX12_meet : ByteArray := prog_14_method_106_code
def yX12_meet : MethodName := ⟨RX12, "meet", "(IIII)I"⟩
abbrev cX12_fares : ByteArray := prog_14_method_107_code
def yX12_fares : MethodName := ⟨RX12, "fares", "(II)I"⟩
abbrev cX12_period : ByteArray := prog_14_method_108_code
def yX12_period : MethodName := ⟨RX12, "period", "(III)I"⟩
abbrev cX12_sum : ByteArray := prog_14_method_109_code
def yX12_sum : MethodName := ⟨RX12, "sum", "(I)I"⟩
abbrev cX12_see : ByteArray := prog_14_method_110_code
def yX12_see : MethodName := ⟨RX12, "see", "(I)I"⟩
abbrev cX12_laysFits : ByteArray := prog_14_method_111_code
def yX12_laysFits : MethodName := ⟨RX12, "laysFits", "()I"⟩
abbrev cX12_fits : ByteArray := prog_14_method_112_code
def yX12_fits : MethodName := ⟨RX12, "fits", "(I)I"⟩
abbrev cX12_tells : ByteArray := prog_14_method_113_code
def yX12_tells : MethodName := ⟨RX12, "tells", "(I)I"⟩
abbrev cX12_keeps : ByteArray := prog_14_method_114_code
def yX12_keeps : MethodName := ⟨RX12, "keeps", "()V"⟩
abbrev cX12_undo : ByteArray := prog_14_method_115_code
def yX12_undo : MethodName := ⟨RX12, "undo", "()Z"⟩
abbrev cX12_handOf : ByteArray := prog_14_method_116_code
def yX12_handOf : MethodName := ⟨RX12, "handOf", "(IZI)I"⟩
abbrev cX12_canHand : ByteArray := prog_14_method_117_code
def yX12_canHand : MethodName := ⟨RX12, "canHand", "(IZI)Z"⟩
abbrev cX12_hands : ByteArray := prog_14_method_118_code
def yX12_hands : MethodName := ⟨RX12, "hands", "(IZI)V"⟩
abbrev cX12_add : ByteArray := prog_14_method_119_code
def yX12_add : MethodName := ⟨RX12, "add", "(II)Z"⟩
abbrev cX12_leave : ByteArray := prog_14_method_120_code
def yX12_leave : MethodName := ⟨RX12, "leave", "(II)Z"⟩
abbrev cX12_every : ByteArray := prog_14_method_121_code
def yX12_every : MethodName := ⟨RX12, "every", "(II)Z"⟩
abbrev cX12_from : ByteArray := prog_14_method_122_code
def yX12_from : MethodName := ⟨RX12, "from", "(II)Z"⟩
abbrev cX12_seed : ByteArray := prog_14_method_123_code
def yX12_seed : MethodName := ⟨RX12, "seed", "(I)Z"⟩
abbrev cX12_drawOf : ByteArray := prog_14_method_124_code
def yX12_drawOf : MethodName := ⟨RX12, "drawOf", "(I)I"⟩
abbrev cX12_chance : ByteArray := prog_14_method_125_code
def yX12_chance : MethodName := ⟨RX12, "chance", "(I)I"⟩
def RJx145de : String := "java/io/Serializable"
def TJx145de : u_T := fun k => match k with
  | _ => ("", "", "", false)
def tyJx145de : Nat → FieldType := fun k => match k with
  | _ => .int
theorem nmJx145de : ∀ a, a < 0 → ∀ b, b < 0 → a ≠ b → (TJx145de a).2.1 ≠ (TJx145de b).2.1 := by decide +kernel
theorem tyJx145de_ok : ∀ k, k < 0 → parseFieldDescriptor (TJx145de k).2.2.1 = some (tyJx145de k) := by decide +kernel
def RJx9f9b0 : String := "java/lang/CharSequence"
def TJx9f9b0 : u_T := fun k => match k with
  | _ => ("", "", "", false)
def tyJx9f9b0 : Nat → FieldType := fun k => match k with
  | _ => .int
theorem nmJx9f9b0 : ∀ a, a < 0 → ∀ b, b < 0 → a ≠ b → (TJx9f9b0 a).2.1 ≠ (TJx9f9b0 b).2.1 := by decide +kernel
theorem tyJx9f9b0_ok : ∀ k, k < 0 → parseFieldDescriptor (TJx9f9b0 k).2.2.1 = some (tyJx9f9b0 k) := by decide +kernel
def RJxb160c : String := "java/lang/Comparable"
def TJxb160c : u_T := fun k => match k with
  | _ => ("", "", "", false)
def tyJxb160c : Nat → FieldType := fun k => match k with
  | _ => .int
theorem nmJxb160c : ∀ a, a < 0 → ∀ b, b < 0 → a ≠ b → (TJxb160c a).2.1 ≠ (TJxb160c b).2.1 := by decide +kernel
theorem tyJxb160c_ok : ∀ k, k < 0 → parseFieldDescriptor (TJxb160c k).2.2.1 = some (tyJxb160c k) := by decide +kernel
def RJ13 : String := "java/lang/Long"
def TJ13 : u_T := fun k => match k with
  | _ => ("", "", "", false)
def tyJ13 : Nat → FieldType := fun k => match k with
  | _ => .int
theorem nmJ13 : ∀ a, a < 0 → ∀ b, b < 0 → a ≠ b → (TJ13 a).2.1 ≠ (TJ13 b).2.1 := by decide +kernel
theorem tyJ13_ok : ∀ k, k < 0 → parseFieldDescriptor (TJ13 k).2.2.1 = some (tyJ13 k) := by decide +kernel
abbrev cJ13_bitCount_95d88 : ByteArray := prog_15_method_50_code
def yJ13_bitCount_95d88 : MethodName := ⟨RJ13, "bitCount", "(J)I"⟩
def RJ9 : String := "java/lang/Math"
def TJ9 : u_T := fun k => match k with
  | _ => ("", "", "", false)
def tyJ9 : Nat → FieldType := fun k => match k with
  | _ => .int
theorem nmJ9 : ∀ a, a < 0 → ∀ b, b < 0 → a ≠ b → (TJ9 a).2.1 ≠ (TJ9 b).2.1 := by decide +kernel
theorem tyJ9_ok : ∀ k, k < 0 → parseFieldDescriptor (TJ9 k).2.2.1 = some (tyJ9 k) := by decide +kernel
abbrev cJ9_max_7cf53 : ByteArray := prog_16_method_65_code
def yJ9_max_7cf53 : MethodName := ⟨RJ9, "max", "(II)I"⟩
abbrev cJ9_min_7cf53 : ByteArray := prog_16_method_69_code
def yJ9_min_7cf53 : MethodName := ⟨RJ9, "min", "(II)I"⟩
def RJ0 : String := "java/lang/String"
def TJ0 : u_T := fun k => match k with
  | _ => ("", "", "", false)
def tyJ0 : Nat → FieldType := fun k => match k with
  | _ => .int
theorem nmJ0 : ∀ a, a < 0 → ∀ b, b < 0 → a ≠ b → (TJ0 a).2.1 ≠ (TJ0 b).2.1 := by decide +kernel
theorem tyJ0_ok : ∀ k, k < 0 → parseFieldDescriptor (TJ0 k).2.2.1 = some (tyJ0 k) := by decide +kernel
abbrev cJ0_length_8abf5 : ByteArray := prog_17_method_54_code
def yJ0_length_8abf5 : MethodName := ⟨RJ0, "length", "()I"⟩
abbrev cJ0_charAt_5068e : ByteArray := prog_17_method_56_code
def yJ0_charAt_5068e : MethodName := ⟨RJ0, "charAt", "(I)C"⟩
abbrev cJ0_coder_7d493 : ByteArray := prog_17_method_152_code
def yJ0_coder_7d493 : MethodName := ⟨RJ0, "coder", "()B"⟩
abbrev cJ0_isLatin1_aae02 : ByteArray := prog_17_method_154_code
def yJ0_isLatin1_aae02 : MethodName := ⟨RJ0, "isLatin1", "()Z"⟩
abbrev cJ0_checkIndex_df160 : ByteArray := prog_17_method_155_code
def yJ0_checkIndex_df160 : MethodName := ⟨RJ0, "checkIndex", "(II)V"⟩
def RJ1 : String := "java/lang/StringLatin1"
def TJ1 : u_T := fun k => match k with
  | _ => ("", "", "", false)
def tyJ1 : Nat → FieldType := fun k => match k with
  | _ => .int
theorem nmJ1 : ∀ a, a < 0 → ∀ b, b < 0 → a ≠ b → (TJ1 a).2.1 ≠ (TJ1 b).2.1 := by decide +kernel
theorem tyJ1_ok : ∀ k, k < 0 → parseFieldDescriptor (TJ1 k).2.2.1 = some (tyJ1 k) := by decide +kernel
abbrev cJ1_charAt_3b067 : ByteArray := prog_18_method_2_code
def yJ1_charAt_3b067 : MethodName := ⟨RJ1, "charAt", "([BI)C"⟩
def RJ2 : String := "java/lang/StringUTF16"
def TJ2 : u_T := fun k => match k with
  | _ => ("", "", "", false)
def tyJ2 : Nat → FieldType := fun k => match k with
  | _ => .int
theorem nmJ2 : ∀ a, a < 0 → ∀ b, b < 0 → a ≠ b → (TJ2 a).2.1 ≠ (TJ2 b).2.1 := by decide +kernel
theorem tyJ2_ok : ∀ k, k < 0 → parseFieldDescriptor (TJ2 k).2.2.1 = some (tyJ2 k) := by decide +kernel
abbrev cJ2_getChar_3b067 : ByteArray := prog_19_method_5_code
def yJ2_getChar_3b067 : MethodName := ⟨RJ2, "getChar", "([BI)C"⟩
abbrev cJ2_length_9d52b : ByteArray := prog_19_method_6_code
def yJ2_length_9d52b : MethodName := ⟨RJ2, "length", "([B)I"⟩
abbrev cJ2_charAt_3b067 : ByteArray := prog_19_method_83_code
def yJ2_charAt_3b067 : MethodName := ⟨RJ2, "charAt", "([BI)C"⟩
abbrev cJ2_checkIndex_2214a : ByteArray := prog_19_method_91_code
def yJ2_checkIndex_2214a : MethodName := ⟨RJ2, "checkIndex", "(I[B)V"⟩
def RJ10 : String := "java/lang/System"
def TJ10 : u_T := fun k => match k with
  | _ => ("", "", "", false)
def tyJ10 : Nat → FieldType := fun k => match k with
  | _ => .int
theorem nmJ10 : ∀ a, a < 0 → ∀ b, b < 0 → a ≠ b → (TJ10 a).2.1 ≠ (TJ10 b).2.1 := by decide +kernel
theorem tyJ10_ok : ∀ k, k < 0 → parseFieldDescriptor (TJ10 k).2.2.1 = some (tyJ10 k) := by decide +kernel
def RJxfd54e : String := "java/lang/constant/Constable"
def TJxfd54e : u_T := fun k => match k with
  | _ => ("", "", "", false)
def tyJxfd54e : Nat → FieldType := fun k => match k with
  | _ => .int
theorem nmJxfd54e : ∀ a, a < 0 → ∀ b, b < 0 → a ≠ b → (TJxfd54e a).2.1 ≠ (TJxfd54e b).2.1 := by decide +kernel
theorem tyJxfd54e_ok : ∀ k, k < 0 → parseFieldDescriptor (TJxfd54e k).2.2.1 = some (tyJxfd54e k) := by decide +kernel
def RJx3cf43 : String := "java/lang/constant/ConstantDesc"
def TJx3cf43 : u_T := fun k => match k with
  | _ => ("", "", "", false)
def tyJx3cf43 : Nat → FieldType := fun k => match k with
  | _ => .int
theorem nmJx3cf43 : ∀ a, a < 0 → ∀ b, b < 0 → a ≠ b → (TJx3cf43 a).2.1 ≠ (TJx3cf43 b).2.1 := by decide +kernel
theorem tyJx3cf43_ok : ∀ k, k < 0 → parseFieldDescriptor (TJx3cf43 k).2.2.1 = some (tyJx3cf43 k) := by decide +kernel
def RJ7 : String := "java/util/Arrays"
def TJ7 : u_T := fun k => match k with
  | _ => ("", "", "", false)
def tyJ7 : Nat → FieldType := fun k => match k with
  | _ => .int
theorem nmJ7 : ∀ a, a < 0 → ∀ b, b < 0 → a ≠ b → (TJ7 a).2.1 ≠ (TJ7 b).2.1 := by decide +kernel
theorem tyJ7_ok : ∀ k, k < 0 → parseFieldDescriptor (TJ7 k).2.2.1 = some (tyJ7 k) := by decide +kernel
abbrev cJ7_fill_d0a16 : ByteArray := prog_21_method_101_code
def yJ7_fill_d0a16 : MethodName := ⟨RJ7, "fill", "([JJ)V"⟩
abbrev cJ7_fill_53178 : ByteArray := prog_21_method_103_code
def yJ7_fill_53178 : MethodName := ⟨RJ7, "fill", "([II)V"⟩
def RJ3 : String := "jdk/internal/util/Preconditions"
def TJ3 : u_T := fun k => match k with
  | _ => ("", "", "", false)
def tyJ3 : Nat → FieldType := fun k => match k with
  | _ => .int
theorem nmJ3 : ∀ a, a < 0 → ∀ b, b < 0 → a ≠ b → (TJ3 a).2.1 ≠ (TJ3 b).2.1 := by decide +kernel
theorem tyJ3_ok : ∀ k, k < 0 → parseFieldDescriptor (TJ3 k).2.2.1 = some (tyJ3 k) := by decide +kernel
abbrev cJ3_checkIndex_8e157 : ByteArray := prog_22_method_11_code
def yJ3_checkIndex_8e157 : MethodName := ⟨RJ3, "checkIndex", "(IILjava/util/function/BiFunction;)I"⟩
def RL : String := "FeastRulesLaw"
abbrev cL_law : ByteArray := code
def yL_law : MethodName := ⟨RL, "law", "([I)Z"⟩
abbrev vwCl : List vw_C := [(RX0, TX0, 8), (RX1, TX1, 7), (RX2, TX2, 1), (RX3, TX3, 3), (RX4, TX4, 6), (RX5, TX5, 8), (RX6, TX6, 9), (RX7, TX7, 2), (RX8, TX8, 15), (RX9, TX9, 12), (RX10, TX10, 2), (RX11, TX11, 10), (RX12, TX12, 47)]
