-- part 01: the tables' words (pasted), the names (printed by program), the words GG
-- ===== PART A: goes FIRST, ahead of the names: the tables' words, and 'selects' of the private methods out of them =====
/-- a private method of a class that the tables say can be made, by its rows of tables_1 -/
def lw_okq (q : MethodName × Nat) : Prop := (q.1.cls ≠ "java/lang/invoke/MethodHandle" ∧ q.1.cls ≠ "java/lang/invoke/VarHandle") ∧ Cond.instantiable q.1.cls q.2 ∈ tables_1 ∧ Cond.privateMethod q.1 ∈ tables_1 ∧ Cond.instanceMethod q.1 ∈ tables_1
theorem lw_p0 : lw_okq (⟨"HealLink", "put", "(II)I"⟩, 15) := ⟨⟨by decide +kernel, by decide +kernel⟩, List.mem_of_getElem? (i := 28) (by decide +kernel), List.mem_of_getElem? (i := 457) (by decide +kernel), List.mem_of_getElem? (i := 458) (by decide +kernel)⟩
theorem lw_p1 : lw_okq (⟨"HealLink", "perform", "(I)I"⟩, 15) := ⟨⟨by decide +kernel, by decide +kernel⟩, List.mem_of_getElem? (i := 28) (by decide +kernel), List.mem_of_getElem? (i := 518) (by decide +kernel), List.mem_of_getElem? (i := 519) (by decide +kernel)⟩
theorem lw_p2 : lw_okq (⟨"HealLink$Rules", "afterSend", "(J)J"⟩, 4) := ⟨⟨by decide +kernel, by decide +kernel⟩, List.mem_of_getElem? (i := 319) (by decide +kernel), List.mem_of_getElem? (i := 538) (by decide +kernel), List.mem_of_getElem? (i := 539) (by decide +kernel)⟩
theorem lw_p3 : lw_okq (⟨"HealLink$Rules", "afterArrive", "(JI)J"⟩, 4) := ⟨⟨by decide +kernel, by decide +kernel⟩, List.mem_of_getElem? (i := 319) (by decide +kernel), List.mem_of_getElem? (i := 544) (by decide +kernel), List.mem_of_getElem? (i := 545) (by decide +kernel)⟩
theorem lw_p4 : lw_okq (⟨"HealLink$Rules", "afterCome", "(JII)J"⟩, 4) := ⟨⟨by decide +kernel, by decide +kernel⟩, List.mem_of_getElem? (i := 319) (by decide +kernel), List.mem_of_getElem? (i := 566) (by decide +kernel), List.mem_of_getElem? (i := 567) (by decide +kernel)⟩
theorem lw_p5 : lw_okq (⟨"HealLink", "takeFromQueue", "()V"⟩, 15) := ⟨⟨by decide +kernel, by decide +kernel⟩, List.mem_of_getElem? (i := 28) (by decide +kernel), List.mem_of_getElem? (i := 596) (by decide +kernel), List.mem_of_getElem? (i := 597) (by decide +kernel)⟩
theorem lw_p6 : lw_okq (⟨"HealLink", "badOnes", "()I"⟩, 15) := ⟨⟨by decide +kernel, by decide +kernel⟩, List.mem_of_getElem? (i := 28) (by decide +kernel), List.mem_of_getElem? (i := 606) (by decide +kernel), List.mem_of_getElem? (i := 607) (by decide +kernel)⟩
theorem lw_p7 : lw_okq (⟨"HealLink$Acts", "add", "(I)V"⟩, 3) := ⟨⟨by decide +kernel, by decide +kernel⟩, List.mem_of_getElem? (i := 67) (by decide +kernel), List.mem_of_getElem? (i := 615) (by decide +kernel), List.mem_of_getElem? (i := 616) (by decide +kernel)⟩
theorem lw_p8 : lw_okq (⟨"HealLink$Acts", "addPackets", "(ILHealLink$Rules;J)V"⟩, 3) := ⟨⟨by decide +kernel, by decide +kernel⟩, List.mem_of_getElem? (i := 67) (by decide +kernel), List.mem_of_getElem? (i := 623) (by decide +kernel), List.mem_of_getElem? (i := 624) (by decide +kernel)⟩
theorem lw_p9 : lw_okq (⟨"HealLink$Atlas", "clear", "()V"⟩, 7) := ⟨⟨by decide +kernel, by decide +kernel⟩, List.mem_of_getElem? (i := 161) (by decide +kernel), List.mem_of_getElem? (i := 669) (by decide +kernel), List.mem_of_getElem? (i := 670) (by decide +kernel)⟩
theorem lw_p10 : lw_okq (⟨"HealLink$Atlas", "numberOf", "(J)I"⟩, 7) := ⟨⟨by decide +kernel, by decide +kernel⟩, List.mem_of_getElem? (i := 161) (by decide +kernel), List.mem_of_getElem? (i := 679) (by decide +kernel), List.mem_of_getElem? (i := 680) (by decide +kernel)⟩
theorem lw_p11 : lw_okq (⟨"HealLink$Atlas", "append", "(JI)I"⟩, 7) := ⟨⟨by decide +kernel, by decide +kernel⟩, List.mem_of_getElem? (i := 161) (by decide +kernel), List.mem_of_getElem? (i := 685) (by decide +kernel), List.mem_of_getElem? (i := 686) (by decide +kernel)⟩
theorem lw_p12 : lw_okq (⟨"HealLink$Atlas", "expandAll", "(LHealLink$Rules;)Z"⟩, 7) := ⟨⟨by decide +kernel, by decide +kernel⟩, List.mem_of_getElem? (i := 161) (by decide +kernel), List.mem_of_getElem? (i := 693) (by decide +kernel), List.mem_of_getElem? (i := 694) (by decide +kernel)⟩
theorem lw_p13 : lw_okq (⟨"HealLink$Depths", "visit", "(LHealLink$Atlas;I)V"⟩, 8) := ⟨⟨by decide +kernel, by decide +kernel⟩, List.mem_of_getElem? (i := 220) (by decide +kernel), List.mem_of_getElem? (i := 718) (by decide +kernel), List.mem_of_getElem? (i := 719) (by decide +kernel)⟩
theorem lw_p14 : lw_okq (⟨"HealLink$Depths", "enter", "(LHealLink$Atlas;II)V"⟩, 8) := ⟨⟨by decide +kernel, by decide +kernel⟩, List.mem_of_getElem? (i := 220) (by decide +kernel), List.mem_of_getElem? (i := 722) (by decide +kernel), List.mem_of_getElem? (i := 723) (by decide +kernel)⟩
theorem lw_p15 : lw_okq (⟨"HealLink$Depths", "lower", "(II)V"⟩, 8) := ⟨⟨by decide +kernel, by decide +kernel⟩, List.mem_of_getElem? (i := 220) (by decide +kernel), List.mem_of_getElem? (i := 731) (by decide +kernel), List.mem_of_getElem? (i := 732) (by decide +kernel)⟩
def lw_privs_1 : List (MethodName × Nat) := [(⟨"HealLink", "put", "(II)I"⟩, 15), (⟨"HealLink", "perform", "(I)I"⟩, 15), (⟨"HealLink$Rules", "afterSend", "(J)J"⟩, 4), (⟨"HealLink$Rules", "afterArrive", "(JI)J"⟩, 4), (⟨"HealLink$Rules", "afterCome", "(JII)J"⟩, 4), (⟨"HealLink", "takeFromQueue", "()V"⟩, 15), (⟨"HealLink", "badOnes", "()I"⟩, 15), (⟨"HealLink$Acts", "add", "(I)V"⟩, 3), (⟨"HealLink$Acts", "addPackets", "(ILHealLink$Rules;J)V"⟩, 3), (⟨"HealLink$Atlas", "clear", "()V"⟩, 7), (⟨"HealLink$Atlas", "numberOf", "(J)I"⟩, 7), (⟨"HealLink$Atlas", "append", "(JI)I"⟩, 7), (⟨"HealLink$Atlas", "expandAll", "(LHealLink$Rules;)Z"⟩, 7), (⟨"HealLink$Depths", "visit", "(LHealLink$Atlas;I)V"⟩, 8), (⟨"HealLink$Depths", "enter", "(LHealLink$Atlas;II)V"⟩, 8), (⟨"HealLink$Depths", "lower", "(II)V"⟩, 8)]
theorem lw_r1 : ∀ q ∈ lw_privs_1, lw_okq q := List.forall_mem_cons.mpr ⟨lw_p0, List.forall_mem_cons.mpr ⟨lw_p1, List.forall_mem_cons.mpr ⟨lw_p2, List.forall_mem_cons.mpr ⟨lw_p3, List.forall_mem_cons.mpr ⟨lw_p4, List.forall_mem_cons.mpr ⟨lw_p5, List.forall_mem_cons.mpr ⟨lw_p6, List.forall_mem_cons.mpr ⟨lw_p7, List.forall_mem_cons.mpr ⟨lw_p8, List.forall_mem_cons.mpr ⟨lw_p9, List.forall_mem_cons.mpr ⟨lw_p10, List.forall_mem_cons.mpr ⟨lw_p11, List.forall_mem_cons.mpr ⟨lw_p12, List.forall_mem_cons.mpr ⟨lw_p13, List.forall_mem_cons.mpr ⟨lw_p14, List.forall_mem_cons.mpr ⟨lw_p15, fun _ h => absurd h List.not_mem_nil⟩⟩⟩⟩⟩⟩⟩⟩⟩⟩⟩⟩⟩⟩⟩⟩
theorem lw_p16 : lw_okq (⟨"HealLink$Depths", "closeAt", "(LHealLink$Atlas;I)V"⟩, 8) := ⟨⟨by decide +kernel, by decide +kernel⟩, List.mem_of_getElem? (i := 220) (by decide +kernel), List.mem_of_getElem? (i := 736) (by decide +kernel), List.mem_of_getElem? (i := 737) (by decide +kernel)⟩
theorem lw_p17 : lw_okq (⟨"HealLink$Depths", "greatestOf", "(LHealLink$Atlas;I)I"⟩, 8) := ⟨⟨by decide +kernel, by decide +kernel⟩, List.mem_of_getElem? (i := 220) (by decide +kernel), List.mem_of_getElem? (i := 740) (by decide +kernel), List.mem_of_getElem? (i := 741) (by decide +kernel)⟩
theorem lw_p18 : lw_okq (⟨"HealLink$Survey", "range", "()V"⟩, 11) := ⟨⟨by decide +kernel, by decide +kernel⟩, List.mem_of_getElem? (i := 155) (by decide +kernel), List.mem_of_getElem? (i := 760) (by decide +kernel), List.mem_of_getElem? (i := 761) (by decide +kernel)⟩
theorem lw_p19 : lw_okq (⟨"HealLink$Ranges", "turnRound", "(LHealLink$Atlas;)V"⟩, 5) := ⟨⟨by decide +kernel, by decide +kernel⟩, List.mem_of_getElem? (i := 254) (by decide +kernel), List.mem_of_getElem? (i := 768) (by decide +kernel), List.mem_of_getElem? (i := 769) (by decide +kernel)⟩
theorem lw_p20 : lw_okq (⟨"HealLink$Ranges", "spread", "(LHealLink$Atlas;ILHealLink$Cells;)V"⟩, 5) := ⟨⟨by decide +kernel, by decide +kernel⟩, List.mem_of_getElem? (i := 254) (by decide +kernel), List.mem_of_getElem? (i := 776) (by decide +kernel), List.mem_of_getElem? (i := 777) (by decide +kernel)⟩
theorem lw_p21 : lw_okq (⟨"HealLink$Survey", "soonestEdge", "(I)I"⟩, 11) := ⟨⟨by decide +kernel, by decide +kernel⟩, List.mem_of_getElem? (i := 155) (by decide +kernel), List.mem_of_getElem? (i := 792) (by decide +kernel), List.mem_of_getElem? (i := 793) (by decide +kernel)⟩
theorem lw_p22 : lw_okq (⟨"HealLink$Chances", "move", "(LHealLink$Atlas;)V"⟩, 2) := ⟨⟨by decide +kernel, by decide +kernel⟩, List.mem_of_getElem? (i := 206) (by decide +kernel), List.mem_of_getElem? (i := 832) (by decide +kernel), List.mem_of_getElem? (i := 833) (by decide +kernel)⟩
theorem lw_p23 : lw_okq (⟨"HealLink$Chances", "pass", "(LHealLink$Atlas;ID)V"⟩, 2) := ⟨⟨by decide +kernel, by decide +kernel⟩, List.mem_of_getElem? (i := 206) (by decide +kernel), List.mem_of_getElem? (i := 837) (by decide +kernel), List.mem_of_getElem? (i := 838) (by decide +kernel)⟩
theorem lw_p24 : lw_okq (⟨"HealLink$Rules", "fillings", "(I)J"⟩, 4) := ⟨⟨by decide +kernel, by decide +kernel⟩, List.mem_of_getElem? (i := 319) (by decide +kernel), List.mem_of_getElem? (i := 871) (by decide +kernel), List.mem_of_getElem? (i := 872) (by decide +kernel)⟩
theorem lw_p25 : lw_okq (⟨"HealLink$Rules", "followingSender", "(J)J"⟩, 4) := ⟨⟨by decide +kernel, by decide +kernel⟩, List.mem_of_getElem? (i := 319) (by decide +kernel), List.mem_of_getElem? (i := 891) (by decide +kernel), List.mem_of_getElem? (i := 892) (by decide +kernel)⟩
theorem lw_p26 : lw_okq (⟨"HealLink$Tape", "skipBlanks", "()V"⟩, 5) := ⟨⟨by decide +kernel, by decide +kernel⟩, List.mem_of_getElem? (i := 130) (by decide +kernel), List.mem_of_getElem? (i := 964) (by decide +kernel), List.mem_of_getElem? (i := 965) (by decide +kernel)⟩
theorem lw_p27 : lw_okq (⟨"HealLink$Tape", "peek", "()I"⟩, 5) := ⟨⟨by decide +kernel, by decide +kernel⟩, List.mem_of_getElem? (i := 130) (by decide +kernel), List.mem_of_getElem? (i := 968) (by decide +kernel), List.mem_of_getElem? (i := 969) (by decide +kernel)⟩
theorem lw_p28 : lw_okq (⟨"HealLink$Tape", "readClose", "(LHealLink$Steps;)V"⟩, 5) := ⟨⟨by decide +kernel, by decide +kernel⟩, List.mem_of_getElem? (i := 130) (by decide +kernel), List.mem_of_getElem? (i := 973) (by decide +kernel), List.mem_of_getElem? (i := 974) (by decide +kernel)⟩
theorem lw_p29 : lw_okq (⟨"HealLink$Tape", "blame", "(II)V"⟩, 5) := ⟨⟨by decide +kernel, by decide +kernel⟩, List.mem_of_getElem? (i := 130) (by decide +kernel), List.mem_of_getElem? (i := 981) (by decide +kernel), List.mem_of_getElem? (i := 982) (by decide +kernel)⟩
theorem lw_p30 : lw_okq (⟨"HealLink$Tape", "expect", "(C)V"⟩, 5) := ⟨⟨by decide +kernel, by decide +kernel⟩, List.mem_of_getElem? (i := 130) (by decide +kernel), List.mem_of_getElem? (i := 996) (by decide +kernel), List.mem_of_getElem? (i := 997) (by decide +kernel)⟩
theorem lw_p31 : lw_okq (⟨"HealLink$Tape", "readStep", "(ILHealLink$Steps;)V"⟩, 5) := ⟨⟨by decide +kernel, by decide +kernel⟩, List.mem_of_getElem? (i := 130) (by decide +kernel), List.mem_of_getElem? (i := 1000) (by decide +kernel), List.mem_of_getElem? (i := 1001) (by decide +kernel)⟩
def lw_privs_2 : List (MethodName × Nat) := [(⟨"HealLink$Depths", "closeAt", "(LHealLink$Atlas;I)V"⟩, 8), (⟨"HealLink$Depths", "greatestOf", "(LHealLink$Atlas;I)I"⟩, 8), (⟨"HealLink$Survey", "range", "()V"⟩, 11), (⟨"HealLink$Ranges", "turnRound", "(LHealLink$Atlas;)V"⟩, 5), (⟨"HealLink$Ranges", "spread", "(LHealLink$Atlas;ILHealLink$Cells;)V"⟩, 5), (⟨"HealLink$Survey", "soonestEdge", "(I)I"⟩, 11), (⟨"HealLink$Chances", "move", "(LHealLink$Atlas;)V"⟩, 2), (⟨"HealLink$Chances", "pass", "(LHealLink$Atlas;ID)V"⟩, 2), (⟨"HealLink$Rules", "fillings", "(I)J"⟩, 4), (⟨"HealLink$Rules", "followingSender", "(J)J"⟩, 4), (⟨"HealLink$Tape", "skipBlanks", "()V"⟩, 5), (⟨"HealLink$Tape", "peek", "()I"⟩, 5), (⟨"HealLink$Tape", "readClose", "(LHealLink$Steps;)V"⟩, 5), (⟨"HealLink$Tape", "blame", "(II)V"⟩, 5), (⟨"HealLink$Tape", "expect", "(C)V"⟩, 5), (⟨"HealLink$Tape", "readStep", "(ILHealLink$Steps;)V"⟩, 5)]
theorem lw_r2 : ∀ q ∈ lw_privs_2, lw_okq q := List.forall_mem_cons.mpr ⟨lw_p16, List.forall_mem_cons.mpr ⟨lw_p17, List.forall_mem_cons.mpr ⟨lw_p18, List.forall_mem_cons.mpr ⟨lw_p19, List.forall_mem_cons.mpr ⟨lw_p20, List.forall_mem_cons.mpr ⟨lw_p21, List.forall_mem_cons.mpr ⟨lw_p22, List.forall_mem_cons.mpr ⟨lw_p23, List.forall_mem_cons.mpr ⟨lw_p24, List.forall_mem_cons.mpr ⟨lw_p25, List.forall_mem_cons.mpr ⟨lw_p26, List.forall_mem_cons.mpr ⟨lw_p27, List.forall_mem_cons.mpr ⟨lw_p28, List.forall_mem_cons.mpr ⟨lw_p29, List.forall_mem_cons.mpr ⟨lw_p30, List.forall_mem_cons.mpr ⟨lw_p31, fun _ h => absurd h List.not_mem_nil⟩⟩⟩⟩⟩⟩⟩⟩⟩⟩⟩⟩⟩⟩⟩⟩
theorem lw_p32 : lw_okq (⟨"HealLink$Tape", "readWord", "()I"⟩, 5) := ⟨⟨by decide +kernel, by decide +kernel⟩, List.mem_of_getElem? (i := 130) (by decide +kernel), List.mem_of_getElem? (i := 1004) (by decide +kernel), List.mem_of_getElem? (i := 1005) (by decide +kernel)⟩
theorem lw_p33 : lw_okq (⟨"HealLink$Tape", "isWord", "(ILjava/lang/String;)Z"⟩, 5) := ⟨⟨by decide +kernel, by decide +kernel⟩, List.mem_of_getElem? (i := 130) (by decide +kernel), List.mem_of_getElem? (i := 1009) (by decide +kernel), List.mem_of_getElem? (i := 1010) (by decide +kernel)⟩
theorem lw_p34 : lw_okq (⟨"HealLink$Tape", "readNumber", "(II)I"⟩, 5) := ⟨⟨by decide +kernel, by decide +kernel⟩, List.mem_of_getElem? (i := 130) (by decide +kernel), List.mem_of_getElem? (i := 1068) (by decide +kernel), List.mem_of_getElem? (i := 1069) (by decide +kernel)⟩
theorem lw_p35 : lw_okq (⟨"HealLink$Tape", "readAgain", "(ILHealLink$Steps;)V"⟩, 5) := ⟨⟨by decide +kernel, by decide +kernel⟩, List.mem_of_getElem? (i := 130) (by decide +kernel), List.mem_of_getElem? (i := 1072) (by decide +kernel), List.mem_of_getElem? (i := 1073) (by decide +kernel)⟩
theorem lw_p36 : lw_okq (⟨"HealLink", "carryOut", "()I"⟩, 15) := ⟨⟨by decide +kernel, by decide +kernel⟩, List.mem_of_getElem? (i := 28) (by decide +kernel), List.mem_of_getElem? (i := 1085) (by decide +kernel), List.mem_of_getElem? (i := 1086) (by decide +kernel)⟩
theorem lw_p37 : lw_okq (⟨"HealLink$Steps", "enter", "(I)V"⟩, 9) := ⟨⟨by decide +kernel, by decide +kernel⟩, List.mem_of_getElem? (i := 91) (by decide +kernel), List.mem_of_getElem? (i := 1099) (by decide +kernel), List.mem_of_getElem? (i := 1100) (by decide +kernel)⟩
theorem lw_p38 : lw_okq (⟨"HealLink$Steps", "leave", "(I)V"⟩, 9) := ⟨⟨by decide +kernel, by decide +kernel⟩, List.mem_of_getElem? (i := 91) (by decide +kernel), List.mem_of_getElem? (i := 1103) (by decide +kernel), List.mem_of_getElem? (i := 1104) (by decide +kernel)⟩
theorem lw_p39 : lw_okq (⟨"HealLink", "doStep", "(II)Z"⟩, 15) := ⟨⟨by decide +kernel, by decide +kernel⟩, List.mem_of_getElem? (i := 28) (by decide +kernel), List.mem_of_getElem? (i := 1108) (by decide +kernel), List.mem_of_getElem? (i := 1109) (by decide +kernel)⟩
theorem lw_p40 : lw_okq (⟨"java/lang/Throwable", "fillInStackTrace", "(I)Ljava/lang/Throwable;"⟩, 6) := ⟨⟨by decide +kernel, by decide +kernel⟩, List.mem_of_getElem? (i := 1169) (by decide +kernel), List.mem_of_getElem? (i := 1167) (by decide +kernel), List.mem_of_getElem? (i := 1168) (by decide +kernel)⟩
theorem lw_p41 : lw_okq (⟨"HealLinkModel", "empties", "()V"⟩, 67) := ⟨⟨by decide +kernel, by decide +kernel⟩, List.mem_of_getElem? (i := 1206) (by decide +kernel), List.mem_of_getElem? (i := 1431) (by decide +kernel), List.mem_of_getElem? (i := 1432) (by decide +kernel)⟩
theorem lw_p42 : lw_okq (⟨"HealLinkModel", "isSort", "(II)Z"⟩, 67) := ⟨⟨by decide +kernel, by decide +kernel⟩, List.mem_of_getElem? (i := 1206) (by decide +kernel), List.mem_of_getElem? (i := 1439) (by decide +kernel), List.mem_of_getElem? (i := 1440) (by decide +kernel)⟩
theorem lw_p43 : lw_okq (⟨"HealLinkModel", "isLabel", "(I)Z"⟩, 67) := ⟨⟨by decide +kernel, by decide +kernel⟩, List.mem_of_getElem? (i := 1206) (by decide +kernel), List.mem_of_getElem? (i := 1443) (by decide +kernel), List.mem_of_getElem? (i := 1444) (by decide +kernel)⟩
theorem lw_p44 : lw_okq (⟨"HealLinkModel", "isThere", "(JIII)Z"⟩, 67) := ⟨⟨by decide +kernel, by decide +kernel⟩, List.mem_of_getElem? (i := 1206) (by decide +kernel), List.mem_of_getElem? (i := 1489) (by decide +kernel), List.mem_of_getElem? (i := 1490) (by decide +kernel)⟩
theorem lw_p45 : lw_okq (⟨"HealLinkModel", "acts", "(III)I"⟩, 67) := ⟨⟨by decide +kernel, by decide +kernel⟩, List.mem_of_getElem? (i := 1206) (by decide +kernel), List.mem_of_getElem? (i := 1493) (by decide +kernel), List.mem_of_getElem? (i := 1494) (by decide +kernel)⟩
theorem lw_p46 : lw_okq (⟨"HealLinkModel", "does", "(JIIII)V"⟩, 67) := ⟨⟨by decide +kernel, by decide +kernel⟩, List.mem_of_getElem? (i := 1206) (by decide +kernel), List.mem_of_getElem? (i := 1497) (by decide +kernel), List.mem_of_getElem? (i := 1498) (by decide +kernel)⟩
theorem lw_p47 : lw_okq (⟨"HealLinkModel", "sees", "(II)V"⟩, 67) := ⟨⟨by decide +kernel, by decide +kernel⟩, List.mem_of_getElem? (i := 1206) (by decide +kernel), List.mem_of_getElem? (i := 1504) (by decide +kernel), List.mem_of_getElem? (i := 1505) (by decide +kernel)⟩
def lw_privs_3 : List (MethodName × Nat) := [(⟨"HealLink$Tape", "readWord", "()I"⟩, 5), (⟨"HealLink$Tape", "isWord", "(ILjava/lang/String;)Z"⟩, 5), (⟨"HealLink$Tape", "readNumber", "(II)I"⟩, 5), (⟨"HealLink$Tape", "readAgain", "(ILHealLink$Steps;)V"⟩, 5), (⟨"HealLink", "carryOut", "()I"⟩, 15), (⟨"HealLink$Steps", "enter", "(I)V"⟩, 9), (⟨"HealLink$Steps", "leave", "(I)V"⟩, 9), (⟨"HealLink", "doStep", "(II)Z"⟩, 15), (⟨"java/lang/Throwable", "fillInStackTrace", "(I)Ljava/lang/Throwable;"⟩, 6), (⟨"HealLinkModel", "empties", "()V"⟩, 67), (⟨"HealLinkModel", "isSort", "(II)Z"⟩, 67), (⟨"HealLinkModel", "isLabel", "(I)Z"⟩, 67), (⟨"HealLinkModel", "isThere", "(JIII)Z"⟩, 67), (⟨"HealLinkModel", "acts", "(III)I"⟩, 67), (⟨"HealLinkModel", "does", "(JIIII)V"⟩, 67), (⟨"HealLinkModel", "sees", "(II)V"⟩, 67)]
theorem lw_r3 : ∀ q ∈ lw_privs_3, lw_okq q := List.forall_mem_cons.mpr ⟨lw_p32, List.forall_mem_cons.mpr ⟨lw_p33, List.forall_mem_cons.mpr ⟨lw_p34, List.forall_mem_cons.mpr ⟨lw_p35, List.forall_mem_cons.mpr ⟨lw_p36, List.forall_mem_cons.mpr ⟨lw_p37, List.forall_mem_cons.mpr ⟨lw_p38, List.forall_mem_cons.mpr ⟨lw_p39, List.forall_mem_cons.mpr ⟨lw_p40, List.forall_mem_cons.mpr ⟨lw_p41, List.forall_mem_cons.mpr ⟨lw_p42, List.forall_mem_cons.mpr ⟨lw_p43, List.forall_mem_cons.mpr ⟨lw_p44, List.forall_mem_cons.mpr ⟨lw_p45, List.forall_mem_cons.mpr ⟨lw_p46, List.forall_mem_cons.mpr ⟨lw_p47, fun _ h => absurd h List.not_mem_nil⟩⟩⟩⟩⟩⟩⟩⟩⟩⟩⟩⟩⟩⟩⟩⟩
theorem lw_p48 : lw_okq (⟨"HealLinkModel", "counts1", "(I)V"⟩, 67) := ⟨⟨by decide +kernel, by decide +kernel⟩, List.mem_of_getElem? (i := 1206) (by decide +kernel), List.mem_of_getElem? (i := 1508) (by decide +kernel), List.mem_of_getElem? (i := 1509) (by decide +kernel)⟩
theorem lw_p49 : lw_okq (⟨"HealLinkModel", "laysActs", "(JZ)I"⟩, 67) := ⟨⟨by decide +kernel, by decide +kernel⟩, List.mem_of_getElem? (i := 1206) (by decide +kernel), List.mem_of_getElem? (i := 1520) (by decide +kernel), List.mem_of_getElem? (i := 1521) (by decide +kernel)⟩
theorem lw_p50 : lw_okq (⟨"HealLinkModel", "lays", "(IIII)I"⟩, 67) := ⟨⟨by decide +kernel, by decide +kernel⟩, List.mem_of_getElem? (i := 1206) (by decide +kernel), List.mem_of_getElem? (i := 1524) (by decide +kernel), List.mem_of_getElem? (i := 1525) (by decide +kernel)⟩
theorem lw_p51 : lw_okq (⟨"HealLinkModel", "laysSort", "(JII)I"⟩, 67) := ⟨⟨by decide +kernel, by decide +kernel⟩, List.mem_of_getElem? (i := 1206) (by decide +kernel), List.mem_of_getElem? (i := 1528) (by decide +kernel), List.mem_of_getElem? (i := 1529) (by decide +kernel)⟩
theorem lw_p52 : lw_okq (⟨"HealLinkModel", "reaches", "(JI)Z"⟩, 67) := ⟨⟨by decide +kernel, by decide +kernel⟩, List.mem_of_getElem? (i := 1206) (by decide +kernel), List.mem_of_getElem? (i := 1559) (by decide +kernel), List.mem_of_getElem? (i := 1560) (by decide +kernel)⟩
theorem lw_p53 : lw_okq (⟨"HealLinkModel", "begins", "()V"⟩, 67) := ⟨⟨by decide +kernel, by decide +kernel⟩, List.mem_of_getElem? (i := 1206) (by decide +kernel), List.mem_of_getElem? (i := 1563) (by decide +kernel), List.mem_of_getElem? (i := 1564) (by decide +kernel)⟩
theorem lw_p54 : lw_okq (⟨"HealLinkModel", "comes", "(J)V"⟩, 67) := ⟨⟨by decide +kernel, by decide +kernel⟩, List.mem_of_getElem? (i := 1206) (by decide +kernel), List.mem_of_getElem? (i := 1567) (by decide +kernel), List.mem_of_getElem? (i := 1568) (by decide +kernel)⟩
theorem lw_p55 : lw_okq (⟨"HealLinkModel", "edgesOf", "(I)Z"⟩, 67) := ⟨⟨by decide +kernel, by decide +kernel⟩, List.mem_of_getElem? (i := 1206) (by decide +kernel), List.mem_of_getElem? (i := 1575) (by decide +kernel), List.mem_of_getElem? (i := 1576) (by decide +kernel)⟩
theorem lw_p56 : lw_okq (⟨"HealLinkModel", "edge", "(JII)Z"⟩, 67) := ⟨⟨by decide +kernel, by decide +kernel⟩, List.mem_of_getElem? (i := 1206) (by decide +kernel), List.mem_of_getElem? (i := 1579) (by decide +kernel), List.mem_of_getElem? (i := 1580) (by decide +kernel)⟩
theorem lw_p57 : lw_okq (⟨"HealLinkModel", "numberOf", "(J)I"⟩, 67) := ⟨⟨by decide +kernel, by decide +kernel⟩, List.mem_of_getElem? (i := 1206) (by decide +kernel), List.mem_of_getElem? (i := 1583) (by decide +kernel), List.mem_of_getElem? (i := 1584) (by decide +kernel)⟩
theorem lw_p58 : lw_okq (⟨"HealLinkModel", "laysWorst", "()V"⟩, 67) := ⟨⟨by decide +kernel, by decide +kernel⟩, List.mem_of_getElem? (i := 1206) (by decide +kernel), List.mem_of_getElem? (i := 1591) (by decide +kernel), List.mem_of_getElem? (i := 1592) (by decide +kernel)⟩
theorem lw_p59 : lw_okq (⟨"HealLinkModel", "walks", "(I)V"⟩, 67) := ⟨⟨by decide +kernel, by decide +kernel⟩, List.mem_of_getElem? (i := 1206) (by decide +kernel), List.mem_of_getElem? (i := 1595) (by decide +kernel), List.mem_of_getElem? (i := 1596) (by decide +kernel)⟩
theorem lw_p60 : lw_okq (⟨"HealLinkModel", "enters", "(I)V"⟩, 67) := ⟨⟨by decide +kernel, by decide +kernel⟩, List.mem_of_getElem? (i := 1206) (by decide +kernel), List.mem_of_getElem? (i := 1599) (by decide +kernel), List.mem_of_getElem? (i := 1600) (by decide +kernel)⟩
theorem lw_p61 : lw_okq (⟨"HealLinkModel", "leaves", "(I)V"⟩, 67) := ⟨⟨by decide +kernel, by decide +kernel⟩, List.mem_of_getElem? (i := 1206) (by decide +kernel), List.mem_of_getElem? (i := 1603) (by decide +kernel), List.mem_of_getElem? (i := 1604) (by decide +kernel)⟩
theorem lw_p62 : lw_okq (⟨"HealLinkModel", "looksAt", "(II)V"⟩, 67) := ⟨⟨by decide +kernel, by decide +kernel⟩, List.mem_of_getElem? (i := 1206) (by decide +kernel), List.mem_of_getElem? (i := 1607) (by decide +kernel), List.mem_of_getElem? (i := 1608) (by decide +kernel)⟩
theorem lw_p63 : lw_okq (⟨"HealLinkModel", "laysFar", "(Z)V"⟩, 67) := ⟨⟨by decide +kernel, by decide +kernel⟩, List.mem_of_getElem? (i := 1206) (by decide +kernel), List.mem_of_getElem? (i := 1619) (by decide +kernel), List.mem_of_getElem? (i := 1620) (by decide +kernel)⟩
def lw_privs_4 : List (MethodName × Nat) := [(⟨"HealLinkModel", "counts1", "(I)V"⟩, 67), (⟨"HealLinkModel", "laysActs", "(JZ)I"⟩, 67), (⟨"HealLinkModel", "lays", "(IIII)I"⟩, 67), (⟨"HealLinkModel", "laysSort", "(JII)I"⟩, 67), (⟨"HealLinkModel", "reaches", "(JI)Z"⟩, 67), (⟨"HealLinkModel", "begins", "()V"⟩, 67), (⟨"HealLinkModel", "comes", "(J)V"⟩, 67), (⟨"HealLinkModel", "edgesOf", "(I)Z"⟩, 67), (⟨"HealLinkModel", "edge", "(JII)Z"⟩, 67), (⟨"HealLinkModel", "numberOf", "(J)I"⟩, 67), (⟨"HealLinkModel", "laysWorst", "()V"⟩, 67), (⟨"HealLinkModel", "walks", "(I)V"⟩, 67), (⟨"HealLinkModel", "enters", "(I)V"⟩, 67), (⟨"HealLinkModel", "leaves", "(I)V"⟩, 67), (⟨"HealLinkModel", "looksAt", "(II)V"⟩, 67), (⟨"HealLinkModel", "laysFar", "(Z)V"⟩, 67)]
theorem lw_r4 : ∀ q ∈ lw_privs_4, lw_okq q := List.forall_mem_cons.mpr ⟨lw_p48, List.forall_mem_cons.mpr ⟨lw_p49, List.forall_mem_cons.mpr ⟨lw_p50, List.forall_mem_cons.mpr ⟨lw_p51, List.forall_mem_cons.mpr ⟨lw_p52, List.forall_mem_cons.mpr ⟨lw_p53, List.forall_mem_cons.mpr ⟨lw_p54, List.forall_mem_cons.mpr ⟨lw_p55, List.forall_mem_cons.mpr ⟨lw_p56, List.forall_mem_cons.mpr ⟨lw_p57, List.forall_mem_cons.mpr ⟨lw_p58, List.forall_mem_cons.mpr ⟨lw_p59, List.forall_mem_cons.mpr ⟨lw_p60, List.forall_mem_cons.mpr ⟨lw_p61, List.forall_mem_cons.mpr ⟨lw_p62, List.forall_mem_cons.mpr ⟨lw_p63, fun _ h => absurd h List.not_mem_nil⟩⟩⟩⟩⟩⟩⟩⟩⟩⟩⟩⟩⟩⟩⟩⟩
theorem lw_p64 : lw_okq (⟨"HealLinkModel", "canBy", "(IIZ)Z"⟩, 67) := ⟨⟨by decide +kernel, by decide +kernel⟩, List.mem_of_getElem? (i := 1206) (by decide +kernel), List.mem_of_getElem? (i := 1623) (by decide +kernel), List.mem_of_getElem? (i := 1624) (by decide +kernel)⟩
theorem lw_p65 : lw_okq (⟨"HealLinkModel", "goesOn", "(I)V"⟩, 67) := ⟨⟨by decide +kernel, by decide +kernel⟩, List.mem_of_getElem? (i := 1206) (by decide +kernel), List.mem_of_getElem? (i := 1647) (by decide +kernel), List.mem_of_getElem? (i := 1648) (by decide +kernel)⟩
theorem lw_p66 : lw_okq (⟨"HealLinkModel", "laysEvery", "()Z"⟩, 67) := ⟨⟨by decide +kernel, by decide +kernel⟩, List.mem_of_getElem? (i := 1206) (by decide +kernel), List.mem_of_getElem? (i := 1669) (by decide +kernel), List.mem_of_getElem? (i := 1670) (by decide +kernel)⟩
theorem lw_p67 : lw_okq (⟨"HealLinkModel", "laysDigits", "()V"⟩, 67) := ⟨⟨by decide +kernel, by decide +kernel⟩, List.mem_of_getElem? (i := 1206) (by decide +kernel), List.mem_of_getElem? (i := 1673) (by decide +kernel), List.mem_of_getElem? (i := 1674) (by decide +kernel)⟩
theorem lw_p68 : lw_okq (⟨"HealLinkModel", "digit", "(III)V"⟩, 67) := ⟨⟨by decide +kernel, by decide +kernel⟩, List.mem_of_getElem? (i := 1206) (by decide +kernel), List.mem_of_getElem? (i := 1677) (by decide +kernel), List.mem_of_getElem? (i := 1678) (by decide +kernel)⟩
theorem lw_p69 : lw_okq (⟨"HealLinkModel", "laysAll", "(JI)Z"⟩, 67) := ⟨⟨by decide +kernel, by decide +kernel⟩, List.mem_of_getElem? (i := 1206) (by decide +kernel), List.mem_of_getElem? (i := 1681) (by decide +kernel), List.mem_of_getElem? (i := 1682) (by decide +kernel)⟩
theorem lw_p70 : lw_okq (⟨"HealLinkModel", "eight", "(J)V"⟩, 67) := ⟨⟨by decide +kernel, by decide +kernel⟩, List.mem_of_getElem? (i := 1206) (by decide +kernel), List.mem_of_getElem? (i := 1697) (by decide +kernel), List.mem_of_getElem? (i := 1698) (by decide +kernel)⟩
theorem lw_p71 : lw_okq (⟨"HealLinkModel", "goesThrough", "(Z)V"⟩, 67) := ⟨⟨by decide +kernel, by decide +kernel⟩, List.mem_of_getElem? (i := 1206) (by decide +kernel), List.mem_of_getElem? (i := 1709) (by decide +kernel), List.mem_of_getElem? (i := 1710) (by decide +kernel)⟩
theorem lw_p72 : lw_okq (⟨"HealLinkModel", "next", "()V"⟩, 67) := ⟨⟨by decide +kernel, by decide +kernel⟩, List.mem_of_getElem? (i := 1206) (by decide +kernel), List.mem_of_getElem? (i := 1713) (by decide +kernel), List.mem_of_getElem? (i := 1714) (by decide +kernel)⟩
theorem lw_p73 : lw_okq (⟨"HealLinkModel", "byteAt", "(I)I"⟩, 67) := ⟨⟨by decide +kernel, by decide +kernel⟩, List.mem_of_getElem? (i := 1206) (by decide +kernel), List.mem_of_getElem? (i := 1717) (by decide +kernel), List.mem_of_getElem? (i := 1718) (by decide +kernel)⟩
theorem lw_p74 : lw_okq (⟨"HealLinkModel", "stepsTold", "(I)V"⟩, 67) := ⟨⟨by decide +kernel, by decide +kernel⟩, List.mem_of_getElem? (i := 1206) (by decide +kernel), List.mem_of_getElem? (i := 1728) (by decide +kernel), List.mem_of_getElem? (i := 1729) (by decide +kernel)⟩
theorem lw_p75 : lw_okq (⟨"HealLinkModel", "stepTold", "(I)V"⟩, 67) := ⟨⟨by decide +kernel, by decide +kernel⟩, List.mem_of_getElem? (i := 1206) (by decide +kernel), List.mem_of_getElem? (i := 1732) (by decide +kernel), List.mem_of_getElem? (i := 1733) (by decide +kernel)⟩
theorem lw_p76 : lw_okq (⟨"HealLinkModel", "isWord", "(Ljava/lang/String;)Z"⟩, 67) := ⟨⟨by decide +kernel, by decide +kernel⟩, List.mem_of_getElem? (i := 1206) (by decide +kernel), List.mem_of_getElem? (i := 1737) (by decide +kernel), List.mem_of_getElem? (i := 1738) (by decide +kernel)⟩
theorem lw_p77 : lw_okq (⟨"HealLinkModel", "acting", "(III)V"⟩, 67) := ⟨⟨by decide +kernel, by decide +kernel⟩, List.mem_of_getElem? (i := 1206) (by decide +kernel), List.mem_of_getElem? (i := 1746) (by decide +kernel), List.mem_of_getElem? (i := 1747) (by decide +kernel)⟩
theorem lw_p78 : lw_okq (⟨"HealLinkModel", "numberTold", "(II)I"⟩, 67) := ⟨⟨by decide +kernel, by decide +kernel⟩, List.mem_of_getElem? (i := 1206) (by decide +kernel), List.mem_of_getElem? (i := 1752) (by decide +kernel), List.mem_of_getElem? (i := 1753) (by decide +kernel)⟩
theorem lw_p79 : lw_okq (⟨"HealLinkModel", "wrong", "(I)V"⟩, 67) := ⟨⟨by decide +kernel, by decide +kernel⟩, List.mem_of_getElem? (i := 1206) (by decide +kernel), List.mem_of_getElem? (i := 1756) (by decide +kernel), List.mem_of_getElem? (i := 1757) (by decide +kernel)⟩
def lw_privs_5 : List (MethodName × Nat) := [(⟨"HealLinkModel", "canBy", "(IIZ)Z"⟩, 67), (⟨"HealLinkModel", "goesOn", "(I)V"⟩, 67), (⟨"HealLinkModel", "laysEvery", "()Z"⟩, 67), (⟨"HealLinkModel", "laysDigits", "()V"⟩, 67), (⟨"HealLinkModel", "digit", "(III)V"⟩, 67), (⟨"HealLinkModel", "laysAll", "(JI)Z"⟩, 67), (⟨"HealLinkModel", "eight", "(J)V"⟩, 67), (⟨"HealLinkModel", "goesThrough", "(Z)V"⟩, 67), (⟨"HealLinkModel", "next", "()V"⟩, 67), (⟨"HealLinkModel", "byteAt", "(I)I"⟩, 67), (⟨"HealLinkModel", "stepsTold", "(I)V"⟩, 67), (⟨"HealLinkModel", "stepTold", "(I)V"⟩, 67), (⟨"HealLinkModel", "isWord", "(Ljava/lang/String;)Z"⟩, 67), (⟨"HealLinkModel", "acting", "(III)V"⟩, 67), (⟨"HealLinkModel", "numberTold", "(II)I"⟩, 67), (⟨"HealLinkModel", "wrong", "(I)V"⟩, 67)]
theorem lw_r5 : ∀ q ∈ lw_privs_5, lw_okq q := List.forall_mem_cons.mpr ⟨lw_p64, List.forall_mem_cons.mpr ⟨lw_p65, List.forall_mem_cons.mpr ⟨lw_p66, List.forall_mem_cons.mpr ⟨lw_p67, List.forall_mem_cons.mpr ⟨lw_p68, List.forall_mem_cons.mpr ⟨lw_p69, List.forall_mem_cons.mpr ⟨lw_p70, List.forall_mem_cons.mpr ⟨lw_p71, List.forall_mem_cons.mpr ⟨lw_p72, List.forall_mem_cons.mpr ⟨lw_p73, List.forall_mem_cons.mpr ⟨lw_p74, List.forall_mem_cons.mpr ⟨lw_p75, List.forall_mem_cons.mpr ⟨lw_p76, List.forall_mem_cons.mpr ⟨lw_p77, List.forall_mem_cons.mpr ⟨lw_p78, List.forall_mem_cons.mpr ⟨lw_p79, fun _ h => absurd h List.not_mem_nil⟩⟩⟩⟩⟩⟩⟩⟩⟩⟩⟩⟩⟩⟩⟩⟩
theorem lw_p80 : lw_okq (⟨"HealLinkModel", "againTold", "(I)V"⟩, 67) := ⟨⟨by decide +kernel, by decide +kernel⟩, List.mem_of_getElem? (i := 1206) (by decide +kernel), List.mem_of_getElem? (i := 1763) (by decide +kernel), List.mem_of_getElem? (i := 1764) (by decide +kernel)⟩
theorem lw_p81 : lw_okq (⟨"HealLinkModel", "must", "(I)V"⟩, 67) := ⟨⟨by decide +kernel, by decide +kernel⟩, List.mem_of_getElem? (i := 1206) (by decide +kernel), List.mem_of_getElem? (i := 1767) (by decide +kernel), List.mem_of_getElem? (i := 1768) (by decide +kernel)⟩
theorem lw_p82 : lw_okq (⟨"HealLinkModel", "clears", "(I)V"⟩, 67) := ⟨⟨by decide +kernel, by decide +kernel⟩, List.mem_of_getElem? (i := 1206) (by decide +kernel), List.mem_of_getElem? (i := 1772) (by decide +kernel), List.mem_of_getElem? (i := 1773) (by decide +kernel)⟩
def lw_privs_6 : List (MethodName × Nat) := [(⟨"HealLinkModel", "againTold", "(I)V"⟩, 67), (⟨"HealLinkModel", "must", "(I)V"⟩, 67), (⟨"HealLinkModel", "clears", "(I)V"⟩, 67)]
theorem lw_r6 : ∀ q ∈ lw_privs_6, lw_okq q := List.forall_mem_cons.mpr ⟨lw_p80, List.forall_mem_cons.mpr ⟨lw_p81, List.forall_mem_cons.mpr ⟨lw_p82, fun _ h => absurd h List.not_mem_nil⟩⟩⟩
def lw_privs : List (MethodName × Nat) := lw_privs_1 ++ (lw_privs_2 ++ (lw_privs_3 ++ (lw_privs_4 ++ (lw_privs_5 ++ (lw_privs_6)))))
def lw_tbl : List Cond := k2_sels lw_privs ++ tables_1
theorem lw_privs_ok : ∀ q ∈ lw_privs, lw_okq q := by
  show ∀ q ∈ lw_privs_1 ++ (lw_privs_2 ++ (lw_privs_3 ++ (lw_privs_4 ++ (lw_privs_5 ++ (lw_privs_6))))), lw_okq q
  exact List.forall_mem_append.mpr ⟨lw_r1, List.forall_mem_append.mpr ⟨lw_r2, List.forall_mem_append.mpr ⟨lw_r3, List.forall_mem_append.mpr ⟨lw_r4, List.forall_mem_append.mpr ⟨lw_r5, lw_r6⟩⟩⟩⟩⟩
/-- the streams that the claim lets the run draw from -/
abbrev lw_cs : List Choice := [Jvm.Choice.named "NaN.bits"]
theorem lw_bits : nanBits ∈ lw_cs := by first | decide | exact List.mem_cons_self | simp [lw_cs, nanBits]
-- ===== end of PART A; then your names; then what follows =====
/-! ===== BEGIN words of one list among another's, by their places ===== -/
theorem goodIn_r {big : List Cond} (ws : List Cond) (ps : List Nat) (hp : ws = ps.filterMap (fun i => big[i]?)) (h : ws.all goodWord = true) : GoodIn big ws := by
  intro w hw
  have h1 := List.all_eq_true.mp h w hw
  rw [hp] at hw
  obtain ⟨i, -, hi⟩ := List.mem_filterMap.mp hw
  have hm : w ∈ big := by first | exact List.mem_of_getElem? hi | exact List.getElem?_mem hi
  exact ⟨hm, good_of_word h1⟩
theorem goodIn_app {big a b : List Cond} (ha : GoodIn big a) (hb : GoodIn big b) : GoodIn big (a ++ b) := fun w h => (List.mem_append.mp h).elim (ha w) (hb w)
theorem goodIn_ca {big a b : List Cond} {c : Cond} (ha : GoodIn big (c :: a)) (hb : GoodIn big b) : GoodIn big (c :: (a ++ b)) := fun w h => (List.mem_cons.mp h).elim (fun e => ha w (List.mem_cons.mpr (Or.inl e))) (fun h => (List.mem_append.mp h).elim (fun h => ha w (List.mem_cons.mpr (Or.inr h))) (hb w))
theorem goodIn_sub {big ws : List Cond} (hm : ∀ w ∈ ws, w ∈ big) (h : ws.all goodWord = true) : GoodIn big ws := fun w hw => ⟨hm w hw, good_of_word (List.all_eq_true.mp h w hw)⟩
/-! ===== END ===== -/
def RX0 : String := "HealLink$Acts"
def TX0 : u_T := fun k => match k with
  | 0 => ("HealLink$Acts", "codes", "LHealLink$Cells;", true)
  | 1 => ("HealLink$Acts", "size", "I", false)
  | _ => ("HealLink$Acts", "withoutLose", "I", false)
def tyX0 : Nat → FieldType := fun k => match k with
  | 0 => .object "HealLink$Cells"
  | 1 => .int
  | _ => .int
abbrev wsX00 : List Cond := u_ws RX0 TX0 3
theorem nmX0 : ∀ a, a < 3 → ∀ b, b < 3 → a ≠ b → (TX0 a).2.1 ≠ (TX0 b).2.1 := by decide +kernel
theorem tyX0_ok : ∀ k, k < 3 → parseFieldDescriptor (TX0 k).2.2.1 = some (tyX0 k) := by decide +kernel
abbrev cX0_init : ByteArray := prog_2_method_1_code
def yX0_init : MethodName := ⟨RX0, "<init>", "()V"⟩
abbrev cX0_codeOf : ByteArray := prog_2_method_2_code
def yX0_codeOf : MethodName := ⟨RX0, "codeOf", "(III)I"⟩
abbrev cX0_withTold : ByteArray := prog_2_method_3_code
def yX0_withTold : MethodName := ⟨RX0, "withTold", "(II)I"⟩
abbrev cX0_whichOf : ByteArray := prog_2_method_4_code
def yX0_whichOf : MethodName := ⟨RX0, "whichOf", "(I)I"⟩
abbrev cX0_kindOf : ByteArray := prog_2_method_5_code
def yX0_kindOf : MethodName := ⟨RX0, "kindOf", "(I)I"⟩
abbrev cX0_toldOf : ByteArray := prog_2_method_6_code
def yX0_toldOf : MethodName := ⟨RX0, "toldOf", "(I)I"⟩
abbrev cX0_part : ByteArray := prog_2_method_7_code
def yX0_part : MethodName := ⟨RX0, "part", "(II)I"⟩
abbrev cX0_list : ByteArray := prog_2_method_8_code
def yX0_list : MethodName := ⟨RX0, "list", "(LHealLink$Rules;JZ)V"⟩
abbrev cX0_addPackets : ByteArray := prog_2_method_9_code
def yX0_addPackets : MethodName := ⟨RX0, "addPackets", "(ILHealLink$Rules;J)V"⟩
abbrev cX0_add : ByteArray := prog_2_method_10_code
def yX0_add : MethodName := ⟨RX0, "add", "(I)V"⟩
def RX1 : String := "HealLink$Atlas"
def TX1 : u_T := fun k => match k with
  | 0 => ("HealLink$Atlas", "first", "LHealLink$Cells;", true)
  | 1 => ("HealLink$Atlas", "acts", "LHealLink$Acts;", true)
  | 2 => ("HealLink$Atlas", "size", "I", false)
  | 3 => ("HealLink$Atlas", "known", "Z", false)
  | 4 => ("HealLink$Atlas", "edges", "LHealLink$Cells;", true)
  | 5 => ("HealLink$Atlas", "slots", "LHealLink$Cells;", true)
  | _ => ("HealLink$Atlas", "states", "[J", true)
def tyX1 : Nat → FieldType := fun k => match k with
  | 0 => .object "HealLink$Cells"
  | 1 => .object "HealLink$Acts"
  | 2 => .int
  | 3 => .boolean
  | 4 => .object "HealLink$Cells"
  | 5 => .object "HealLink$Cells"
  | _ => .array .long
abbrev wsX10 : List Cond := u_ws RX1 TX1 7
theorem nmX1 : ∀ a, a < 7 → ∀ b, b < 7 → a ≠ b → (TX1 a).2.1 ≠ (TX1 b).2.1 := by decide +kernel
theorem tyX1_ok : ∀ k, k < 7 → parseFieldDescriptor (TX1 k).2.2.1 = some (tyX1 k) := by decide +kernel
abbrev cX1_init : ByteArray := prog_3_method_1_code
def yX1_init : MethodName := ⟨RX1, "<init>", "()V"⟩
abbrev cX1_chart : ByteArray := prog_3_method_2_code
def yX1_chart : MethodName := ⟨RX1, "chart", "(LHealLink$Rules;J)V"⟩
abbrev cX1_chartAll : ByteArray := prog_3_method_3_code
def yX1_chartAll : MethodName := ⟨RX1, "chartAll", "(LHealLink$Rules;)V"⟩
abbrev cX1_stateAt : ByteArray := prog_3_method_4_code
def yX1_stateAt : MethodName := ⟨RX1, "stateAt", "(I)J"⟩
abbrev cX1_targetOf : ByteArray := prog_3_method_5_code
def yX1_targetOf : MethodName := ⟨RX1, "targetOf", "(I)I"⟩
abbrev cX1_hasMark : ByteArray := prog_3_method_6_code
def yX1_hasMark : MethodName := ⟨RX1, "hasMark", "(II)Z"⟩
abbrev cX1_clear : ByteArray := prog_3_method_7_code
def yX1_clear : MethodName := ⟨RX1, "clear", "()V"⟩
abbrev cX1_expandAll : ByteArray := prog_3_method_8_code
def yX1_expandAll : MethodName := ⟨RX1, "expandAll", "(LHealLink$Rules;)Z"⟩
abbrev cX1_markOf : ByteArray := prog_3_method_9_code
def yX1_markOf : MethodName := ⟨RX1, "markOf", "(I)I"⟩
abbrev cX1_numberOf : ByteArray := prog_3_method_10_code
def yX1_numberOf : MethodName := ⟨RX1, "numberOf", "(J)I"⟩
abbrev cX1_append : ByteArray := prog_3_method_11_code
def yX1_append : MethodName := ⟨RX1, "append", "(JI)I"⟩
def RX2 : String := "HealLink$Cells"
def TX2 : u_T := fun k => match k with
  | _ => ("HealLink$Cells", "cells", "[I", true)
def tyX2 : Nat → FieldType := fun k => match k with
  | _ => .array .int
abbrev wsX20 : List Cond := u_ws RX2 TX2 1
theorem nmX2 : ∀ a, a < 1 → ∀ b, b < 1 → a ≠ b → (TX2 a).2.1 ≠ (TX2 b).2.1 := by decide +kernel
theorem tyX2_ok : ∀ k, k < 1 → parseFieldDescriptor (TX2 k).2.2.1 = some (tyX2 k) := by decide +kernel
abbrev cX2_init : ByteArray := prog_4_method_1_code
def yX2_init : MethodName := ⟨RX2, "<init>", "(I)V"⟩
abbrev cX2_at : ByteArray := prog_4_method_2_code
def yX2_at : MethodName := ⟨RX2, "at", "(I)I"⟩
abbrev cX2_put : ByteArray := prog_4_method_3_code
def yX2_put : MethodName := ⟨RX2, "put", "(II)V"⟩
abbrev cX2_fill : ByteArray := prog_4_method_4_code
def yX2_fill : MethodName := ⟨RX2, "fill", "(I)V"⟩
def RX3 : String := "HealLink$Chances"
def TX3 : u_T := fun k => match k with
  | 0 => ("HealLink$Chances", "now", "[D", false)
  | _ => ("HealLink$Chances", "then", "[D", false)
def tyX3 : Nat → FieldType := fun k => match k with
  | 0 => .array .double
  | _ => .array .double
abbrev wsX30 : List Cond := u_ws RX3 TX3 2
theorem nmX3 : ∀ a, a < 2 → ∀ b, b < 2 → a ≠ b → (TX3 a).2.1 ≠ (TX3 b).2.1 := by decide +kernel
theorem tyX3_ok : ∀ k, k < 2 → parseFieldDescriptor (TX3 k).2.2.1 = some (tyX3 k) := by decide +kernel
abbrev cX3_init : ByteArray := prog_5_method_1_code
def yX3_init : MethodName := ⟨RX3, "<init>", "()V"⟩
abbrev cX3_bitsAfter : ByteArray := prog_5_method_2_code
def yX3_bitsAfter : MethodName := ⟨RX3, "bitsAfter", "(LHealLink$Atlas;I)J"⟩
abbrev cX3_move : ByteArray := prog_5_method_3_code
def yX3_move : MethodName := ⟨RX3, "move", "(LHealLink$Atlas;)V"⟩
abbrev cX3_pass : ByteArray := prog_5_method_4_code
def yX3_pass : MethodName := ⟨RX3, "pass", "(LHealLink$Atlas;ID)V"⟩
abbrev cX3_bitsOf : ByteArray := prog_5_method_5_code
def yX3_bitsOf : MethodName := ⟨RX3, "bitsOf", "(D)J"⟩
def RX4 : String := "HealLink$Depths"
def TX4 : u_T := fun k => match k with
  | 0 => ("HealLink$Depths", "worst", "LHealLink$Cells;", true)
  | 1 => ("HealLink$Depths", "met", "LHealLink$Cells;", true)
  | 2 => ("HealLink$Depths", "low", "LHealLink$Cells;", true)
  | 3 => ("HealLink$Depths", "stack", "LHealLink$Cells;", true)
  | 4 => ("HealLink$Depths", "path", "LHealLink$Cells;", true)
  | 5 => ("HealLink$Depths", "nextEdge", "LHealLink$Cells;", true)
  | 6 => ("HealLink$Depths", "clock", "I", false)
  | _ => ("HealLink$Depths", "height", "I", false)
def tyX4 : Nat → FieldType := fun k => match k with
  | 0 => .object "HealLink$Cells"
  | 1 => .object "HealLink$Cells"
  | 2 => .object "HealLink$Cells"
  | 3 => .object "HealLink$Cells"
  | 4 => .object "HealLink$Cells"
  | 5 => .object "HealLink$Cells"
  | 6 => .int
  | _ => .int
abbrev wsX40 : List Cond := u_ws RX4 TX4 8
theorem nmX4 : ∀ a, a < 8 → ∀ b, b < 8 → a ≠ b → (TX4 a).2.1 ≠ (TX4 b).2.1 := by decide +kernel
theorem tyX4_ok : ∀ k, k < 8 → parseFieldDescriptor (TX4 k).2.2.1 = some (tyX4 k) := by decide +kernel
abbrev cX4_init : ByteArray := prog_6_method_1_code
def yX4_init : MethodName := ⟨RX4, "<init>", "()V"⟩
abbrev cX4_measure : ByteArray := prog_6_method_2_code
def yX4_measure : MethodName := ⟨RX4, "measure", "(LHealLink$Atlas;)V"⟩
abbrev cX4_visit : ByteArray := prog_6_method_3_code
def yX4_visit : MethodName := ⟨RX4, "visit", "(LHealLink$Atlas;I)V"⟩
abbrev cX4_lower : ByteArray := prog_6_method_4_code
def yX4_lower : MethodName := ⟨RX4, "lower", "(II)V"⟩
abbrev cX4_enter : ByteArray := prog_6_method_5_code
def yX4_enter : MethodName := ⟨RX4, "enter", "(LHealLink$Atlas;II)V"⟩
abbrev cX4_closeAt : ByteArray := prog_6_method_6_code
def yX4_closeAt : MethodName := ⟨RX4, "closeAt", "(LHealLink$Atlas;I)V"⟩
abbrev cX4_greatestOf : ByteArray := prog_6_method_7_code
def yX4_greatestOf : MethodName := ⟨RX4, "greatestOf", "(LHealLink$Atlas;I)I"⟩
abbrev cX4_greater : ByteArray := prog_6_method_8_code
def yX4_greater : MethodName := ⟨RX4, "greater", "(II)I"⟩
abbrev cX4_hardest : ByteArray := prog_6_method_9_code
def yX4_hardest : MethodName := ⟨RX4, "hardest", "(I)I"⟩
def RX5 : String := "HealLink$Ranges"
def TX5 : u_T := fun k => match k with
  | 0 => ("HealLink$Ranges", "toBad", "LHealLink$Cells;", true)
  | 1 => ("HealLink$Ranges", "toGood", "LHealLink$Cells;", true)
  | 2 => ("HealLink$Ranges", "line", "LHealLink$Cells;", true)
  | 3 => ("HealLink$Ranges", "firstBack", "LHealLink$Cells;", true)
  | _ => ("HealLink$Ranges", "sources", "LHealLink$Cells;", true)
def tyX5 : Nat → FieldType := fun k => match k with
  | 0 => .object "HealLink$Cells"
  | 1 => .object "HealLink$Cells"
  | 2 => .object "HealLink$Cells"
  | 3 => .object "HealLink$Cells"
  | _ => .object "HealLink$Cells"
abbrev wsX50 : List Cond := u_ws RX5 TX5 5
theorem nmX5 : ∀ a, a < 5 → ∀ b, b < 5 → a ≠ b → (TX5 a).2.1 ≠ (TX5 b).2.1 := by decide +kernel
theorem tyX5_ok : ∀ k, k < 5 → parseFieldDescriptor (TX5 k).2.2.1 = some (tyX5 k) := by decide +kernel
abbrev cX5_init : ByteArray := prog_7_method_1_code
def yX5_init : MethodName := ⟨RX5, "<init>", "()V"⟩
abbrev cX5_measure : ByteArray := prog_7_method_2_code
def yX5_measure : MethodName := ⟨RX5, "measure", "(LHealLink$Atlas;)V"⟩
abbrev cX5_turnRound : ByteArray := prog_7_method_3_code
def yX5_turnRound : MethodName := ⟨RX5, "turnRound", "(LHealLink$Atlas;)V"⟩
abbrev cX5_spread : ByteArray := prog_7_method_4_code
def yX5_spread : MethodName := ⟨RX5, "spread", "(LHealLink$Atlas;ILHealLink$Cells;)V"⟩
abbrev cX5_canDo : ByteArray := prog_7_method_5_code
def yX5_canDo : MethodName := ⟨RX5, "canDo", "(LHealLink$Atlas;II)Z"⟩
def RX6 : String := "HealLink$Row"
def TX6 : u_T := fun k => match k with
  | 0 => ("HealLink$Row", "size", "I", false)
  | 1 => ("HealLink$Row", "bits", "J", false)
  | _ => ("HealLink$Row", "line", "LHealLink$Cells;", true)
def tyX6 : Nat → FieldType := fun k => match k with
  | 0 => .int
  | 1 => .long
  | _ => .object "HealLink$Cells"
abbrev wsX60 : List Cond := u_ws RX6 TX6 3
theorem nmX6 : ∀ a, a < 3 → ∀ b, b < 3 → a ≠ b → (TX6 a).2.1 ≠ (TX6 b).2.1 := by decide +kernel
theorem tyX6_ok : ∀ k, k < 3 → parseFieldDescriptor (TX6 k).2.2.1 = some (tyX6 k) := by decide +kernel
abbrev cX6_init : ByteArray := prog_8_method_1_code
def yX6_init : MethodName := ⟨RX6, "<init>", "()V"⟩
abbrev cX6_empty : ByteArray := prog_8_method_2_code
def yX6_empty : MethodName := ⟨RX6, "empty", "()V"⟩
abbrev cX6_add : ByteArray := prog_8_method_3_code
def yX6_add : MethodName := ⟨RX6, "add", "(I)V"⟩
abbrev cX6_valueAt : ByteArray := prog_8_method_4_code
def yX6_valueAt : MethodName := ⟨RX6, "valueAt", "(I)I"⟩
abbrev cX6_commonWith : ByteArray := prog_8_method_5_code
def yX6_commonWith : MethodName := ⟨RX6, "commonWith", "(LHealLink$Row;)I"⟩
def RX7 : String := "HealLink$Rules"
def TX7 : u_T := fun k => match k with
  | 0 => ("HealLink$Rules", "capacity", "I", true)
  | 1 => ("HealLink$Rules", "labels", "I", true)
  | 2 => ("HealLink$Rules", "acks", "I", true)
  | _ => ("HealLink$Rules", "copies", "I", true)
def tyX7 : Nat → FieldType := fun k => match k with
  | 0 => .int
  | 1 => .int
  | 2 => .int
  | _ => .int
abbrev wsX70 : List Cond := u_ws RX7 TX7 4
theorem nmX7 : ∀ a, a < 4 → ∀ b, b < 4 → a ≠ b → (TX7 a).2.1 ≠ (TX7 b).2.1 := by decide +kernel
theorem tyX7_ok : ∀ k, k < 4 → parseFieldDescriptor (TX7 k).2.2.1 = some (tyX7 k) := by decide +kernel
abbrev cX7_init : ByteArray := prog_9_method_1_code
def yX7_init : MethodName := ⟨RX7, "<init>", "(IIII)V"⟩
abbrev cX7_allows : ByteArray := prog_9_method_2_code
def yX7_allows : MethodName := ⟨RX7, "allows", "(II)Z"⟩
abbrev cX7_limit : ByteArray := prog_9_method_3_code
def yX7_limit : MethodName := ⟨RX7, "limit", "(I)I"⟩
abbrev cX7_with : ByteArray := prog_9_method_4_code
def yX7_with : MethodName := ⟨RX7, "with", "(II)LHealLink$Rules;"⟩
abbrev cX7_atFirst : ByteArray := prog_9_method_5_code
def yX7_atFirst : MethodName := ⟨RX7, "atFirst", "()J"⟩
abbrev cX7_hasLabel : ByteArray := prog_9_method_6_code
def yX7_hasLabel : MethodName := ⟨RX7, "hasLabel", "(I)Z"⟩
abbrev cX7_hasKind : ByteArray := prog_9_method_7_code
def yX7_hasKind : MethodName := ⟨RX7, "hasKind", "(II)Z"⟩
abbrev cX7_seenAt : ByteArray := prog_9_method_8_code
def yX7_seenAt : MethodName := ⟨RX7, "seenAt", "(I)I"⟩
abbrev cX7_packetsAt : ByteArray := prog_9_method_9_code
def yX7_packetsAt : MethodName := ⟨RX7, "packetsAt", "(I)I"⟩
abbrev cX7_lettersAt : ByteArray := prog_9_method_10_code
def yX7_lettersAt : MethodName := ⟨RX7, "lettersAt", "(I)I"⟩
abbrev cX7_digit : ByteArray := prog_9_method_11_code
def yX7_digit : MethodName := ⟨RX7, "digit", "(JI)I"⟩
abbrev cX7_withDigit : ByteArray := prog_9_method_12_code
def yX7_withDigit : MethodName := ⟨RX7, "withDigit", "(JII)J"⟩
abbrev cX7_labelOf : ByteArray := prog_9_method_13_code
def yX7_labelOf : MethodName := ⟨RX7, "labelOf", "(J)I"⟩
abbrev cX7_valueOf : ByteArray := prog_9_method_14_code
def yX7_valueOf : MethodName := ⟨RX7, "valueOf", "(J)I"⟩
abbrev cX7_acksOf : ByteArray := prog_9_method_15_code
def yX7_acksOf : MethodName := ⟨RX7, "acksOf", "(J)I"⟩
abbrev cX7_takenOf : ByteArray := prog_9_method_16_code
def yX7_takenOf : MethodName := ⟨RX7, "takenOf", "(J)Z"⟩
abbrev cX7_lastOf : ByteArray := prog_9_method_17_code
def yX7_lastOf : MethodName := ⟨RX7, "lastOf", "(J)I"⟩
abbrev cX7_seenIn : ByteArray := prog_9_method_18_code
def yX7_seenIn : MethodName := ⟨RX7, "seenIn", "(J)I"⟩
abbrev cX7_packetsIn : ByteArray := prog_9_method_19_code
def yX7_packetsIn : MethodName := ⟨RX7, "packetsIn", "(J)I"⟩
abbrev cX7_lettersIn : ByteArray := prog_9_method_20_code
def yX7_lettersIn : MethodName := ⟨RX7, "lettersIn", "(J)I"⟩
abbrev cX7_withSender : ByteArray := prog_9_method_21_code
def yX7_withSender : MethodName := ⟨RX7, "withSender", "(JIIIZ)J"⟩
abbrev cX7_withoutAcks : ByteArray := prog_9_method_22_code
def yX7_withoutAcks : MethodName := ⟨RX7, "withoutAcks", "(J)J"⟩
abbrev cX7_withLast : ByteArray := prog_9_method_23_code
def yX7_withLast : MethodName := ⟨RX7, "withLast", "(JI)J"⟩
abbrev cX7_outcomeOf : ByteArray := prog_9_method_24_code
def yX7_outcomeOf : MethodName := ⟨RX7, "outcomeOf", "(J)I"⟩
abbrev cX7_goesOnBy : ByteArray := prog_9_method_25_code
def yX7_goesOnBy : MethodName := ⟨RX7, "goesOnBy", "(JI)Z"⟩
abbrev cX7_offers : ByteArray := prog_9_method_26_code
def yX7_offers : MethodName := ⟨RX7, "offers", "(JIII)Z"⟩
abbrev cX7_firstPacket : ByteArray := prog_9_method_27_code
def yX7_firstPacket : MethodName := ⟨RX7, "firstPacket", "(J)I"⟩
abbrev cX7_after : ByteArray := prog_9_method_28_code
def yX7_after : MethodName := ⟨RX7, "after", "(JI)J"⟩
abbrev cX7_afterSend : ByteArray := prog_9_method_29_code
def yX7_afterSend : MethodName := ⟨RX7, "afterSend", "(J)J"⟩
abbrev cX7_afterArrive : ByteArray := prog_9_method_30_code
def yX7_afterArrive : MethodName := ⟨RX7, "afterArrive", "(JI)J"⟩
abbrev cX7_afterDelivery : ByteArray := prog_9_method_31_code
def yX7_afterDelivery : MethodName := ⟨RX7, "afterDelivery", "(JI)J"⟩
abbrev cX7_afterCome : ByteArray := prog_9_method_32_code
def yX7_afterCome : MethodName := ⟨RX7, "afterCome", "(JII)J"⟩
abbrev cX7_allStates : ByteArray := prog_9_method_33_code
def yX7_allStates : MethodName := ⟨RX7, "allStates", "()J"⟩
abbrev cX7_fillings : ByteArray := prog_9_method_34_code
def yX7_fillings : MethodName := ⟨RX7, "fillings", "(I)J"⟩
abbrev cX7_following : ByteArray := prog_9_method_35_code
def yX7_following : MethodName := ⟨RX7, "following", "(J)J"⟩
abbrev cX7_followingSender : ByteArray := prog_9_method_36_code
def yX7_followingSender : MethodName := ⟨RX7, "followingSender", "(J)J"⟩
def RX8 : String := "HealLink$Steps"
def TX8 : u_T := fun k => match k with
  | 0 => ("HealLink$Steps", "what", "LHealLink$Cells;", true)
  | 1 => ("HealLink$Steps", "first", "LHealLink$Cells;", true)
  | 2 => ("HealLink$Steps", "second", "LHealLink$Cells;", true)
  | 3 => ("HealLink$Steps", "opened", "LHealLink$Cells;", true)
  | 4 => ("HealLink$Steps", "left", "LHealLink$Cells;", true)
  | 5 => ("HealLink$Steps", "doneBefore", "LHealLink$Cells;", true)
  | 6 => ("HealLink$Steps", "size", "I", false)
  | 7 => ("HealLink$Steps", "depth", "I", false)
  | _ => ("HealLink$Steps", "at", "I", false)
def tyX8 : Nat → FieldType := fun k => match k with
  | 0 => .object "HealLink$Cells"
  | 1 => .object "HealLink$Cells"
  | 2 => .object "HealLink$Cells"
  | 3 => .object "HealLink$Cells"
  | 4 => .object "HealLink$Cells"
  | 5 => .object "HealLink$Cells"
  | 6 => .int
  | 7 => .int
  | _ => .int
abbrev wsX80 : List Cond := u_ws RX8 TX8 9
theorem nmX8 : ∀ a, a < 9 → ∀ b, b < 9 → a ≠ b → (TX8 a).2.1 ≠ (TX8 b).2.1 := by decide +kernel
theorem tyX8_ok : ∀ k, k < 9 → parseFieldDescriptor (TX8 k).2.2.1 = some (tyX8 k) := by decide +kernel
abbrev cX8_init : ByteArray := prog_10_method_1_code
def yX8_init : MethodName := ⟨RX8, "<init>", "()V"⟩
abbrev cX8_empty : ByteArray := prog_10_method_2_code
def yX8_empty : MethodName := ⟨RX8, "empty", "()V"⟩
abbrev cX8_mayOpen : ByteArray := prog_10_method_3_code
def yX8_mayOpen : MethodName := ⟨RX8, "mayOpen", "()Z"⟩
abbrev cX8_mayClose : ByteArray := prog_10_method_4_code
def yX8_mayClose : MethodName := ⟨RX8, "mayClose", "()Z"⟩
abbrev cX8_add : ByteArray := prog_10_method_5_code
def yX8_add : MethodName := ⟨RX8, "add", "(III)V"⟩
abbrev cX8_open : ByteArray := prog_10_method_6_code
def yX8_open : MethodName := ⟨RX8, "open", "(I)V"⟩
abbrev cX8_close : ByteArray := prog_10_method_7_code
def yX8_close : MethodName := ⟨RX8, "close", "()V"⟩
abbrev cX8_rewind : ByteArray := prog_10_method_8_code
def yX8_rewind : MethodName := ⟨RX8, "rewind", "()V"⟩
abbrev cX8_next : ByteArray := prog_10_method_9_code
def yX8_next : MethodName := ⟨RX8, "next", "(I)I"⟩
abbrev cX8_enter : ByteArray := prog_10_method_10_code
def yX8_enter : MethodName := ⟨RX8, "enter", "(I)V"⟩
abbrev cX8_leave : ByteArray := prog_10_method_11_code
def yX8_leave : MethodName := ⟨RX8, "leave", "(I)V"⟩
def RX9 : String := "HealLink$Survey"
def TX9 : u_T := fun k => match k with
  | 0 => ("HealLink$Survey", "atlas", "LHealLink$Atlas;", true)
  | 1 => ("HealLink$Survey", "chances", "LHealLink$Chances;", true)
  | 2 => ("HealLink$Survey", "depths", "LHealLink$Depths;", true)
  | 3 => ("HealLink$Survey", "ranges", "LHealLink$Ranges;", true)
  | 4 => ("HealLink$Survey", "census", "LHealLink$Cells;", true)
  | 5 => ("HealLink$Survey", "counted", "Z", false)
  | 6 => ("HealLink$Survey", "charted", "J", false)
  | 7 => ("HealLink$Survey", "measured", "Z", false)
  | 8 => ("HealLink$Survey", "ranged", "Z", false)
  | 9 => ("HealLink$Survey", "tried", "J", false)
  | _ => ("HealLink$Survey", "enoughAcks", "I", false)
def tyX9 : Nat → FieldType := fun k => match k with
  | 0 => .object "HealLink$Atlas"
  | 1 => .object "HealLink$Chances"
  | 2 => .object "HealLink$Depths"
  | 3 => .object "HealLink$Ranges"
  | 4 => .object "HealLink$Cells"
  | 5 => .boolean
  | 6 => .long
  | 7 => .boolean
  | 8 => .boolean
  | 9 => .long
  | _ => .int
abbrev wsX90 : List Cond := u_ws RX9 TX9 11
theorem nmX9 : ∀ a, a < 11 → ∀ b, b < 11 → a ≠ b → (TX9 a).2.1 ≠ (TX9 b).2.1 := by decide +kernel
theorem tyX9_ok : ∀ k, k < 11 → parseFieldDescriptor (TX9 k).2.2.1 = some (tyX9 k) := by decide +kernel
abbrev cX9_init : ByteArray := prog_11_method_1_code
def yX9_init : MethodName := ⟨RX9, "<init>", "()V"⟩
abbrev cX9_forget : ByteArray := prog_11_method_2_code
def yX9_forget : MethodName := ⟨RX9, "forget", "()V"⟩
abbrev cX9_covers : ByteArray := prog_11_method_3_code
def yX9_covers : MethodName := ⟨RX9, "covers", "(LHealLink$Rules;J)Z"⟩
abbrev cX9_greatest : ByteArray := prog_11_method_4_code
def yX9_greatest : MethodName := ⟨RX9, "greatest", "()I"⟩
abbrev cX9_range : ByteArray := prog_11_method_5_code
def yX9_range : MethodName := ⟨RX9, "range", "()V"⟩
abbrev cX9_actsToBad : ByteArray := prog_11_method_6_code
def yX9_actsToBad : MethodName := ⟨RX9, "actsToBad", "()I"⟩
abbrev cX9_actsToGood : ByteArray := prog_11_method_7_code
def yX9_actsToGood : MethodName := ⟨RX9, "actsToGood", "()I"⟩
abbrev cX9_withoutGood : ByteArray := prog_11_method_8_code
def yX9_withoutGood : MethodName := ⟨RX9, "withoutGood", "()I"⟩
abbrev cX9_oddsBits : ByteArray := prog_11_method_9_code
def yX9_oddsBits : MethodName := ⟨RX9, "oddsBits", "(I)J"⟩
abbrev cX9_codeOnWay : ByteArray := prog_11_method_10_code
def yX9_codeOnWay : MethodName := ⟨RX9, "codeOnWay", "(LHealLink$Rules;I)I"⟩
abbrev cX9_soonestEdge : ByteArray := prog_11_method_11_code
def yX9_soonestEdge : MethodName := ⟨RX9, "soonestEdge", "(I)I"⟩
abbrev cX9_leastAcks : ByteArray := prog_11_method_12_code
def yX9_leastAcks : MethodName := ⟨RX9, "leastAcks", "(LHealLink$Rules;J)I"⟩
abbrev cX9_censusOf : ByteArray := prog_11_method_13_code
def yX9_censusOf : MethodName := ⟨RX9, "censusOf", "(LHealLink$Rules;)LHealLink$Cells;"⟩
def RX10 : String := "HealLink$Tape"
def TX10 : u_T := fun k => match k with
  | 0 => ("HealLink$Tape", "length", "I", false)
  | 1 => ("HealLink$Tape", "bytes", "LHealLink$Cells;", true)
  | 2 => ("HealLink$Tape", "stop", "I", false)
  | 3 => ("HealLink$Tape", "at", "I", false)
  | _ => ("HealLink$Tape", "fault", "I", false)
def tyX10 : Nat → FieldType := fun k => match k with
  | 0 => .int
  | 1 => .object "HealLink$Cells"
  | 2 => .int
  | 3 => .int
  | _ => .int
abbrev wsX100 : List Cond := u_ws RX10 TX10 5
theorem nmX10 : ∀ a, a < 5 → ∀ b, b < 5 → a ≠ b → (TX10 a).2.1 ≠ (TX10 b).2.1 := by decide +kernel
theorem tyX10_ok : ∀ k, k < 5 → parseFieldDescriptor (TX10 k).2.2.1 = some (tyX10 k) := by decide +kernel
abbrev cX10_init : ByteArray := prog_12_method_1_code
def yX10_init : MethodName := ⟨RX10, "<init>", "()V"⟩
abbrev cX10_hasRoom : ByteArray := prog_12_method_2_code
def yX10_hasRoom : MethodName := ⟨RX10, "hasRoom", "(I)Z"⟩
abbrev cX10_append : ByteArray := prog_12_method_3_code
def yX10_append : MethodName := ⟨RX10, "append", "(J)V"⟩
abbrev cX10_read : ByteArray := prog_12_method_4_code
def yX10_read : MethodName := ⟨RX10, "read", "(IILHealLink$Steps;)I"⟩
abbrev cX10_readClose : ByteArray := prog_12_method_5_code
def yX10_readClose : MethodName := ⟨RX10, "readClose", "(LHealLink$Steps;)V"⟩
abbrev cX10_readStep : ByteArray := prog_12_method_6_code
def yX10_readStep : MethodName := ⟨RX10, "readStep", "(ILHealLink$Steps;)V"⟩
abbrev cX10_readAgain : ByteArray := prog_12_method_7_code
def yX10_readAgain : MethodName := ⟨RX10, "readAgain", "(ILHealLink$Steps;)V"⟩
abbrev cX10_readWord : ByteArray := prog_12_method_8_code
def yX10_readWord : MethodName := ⟨RX10, "readWord", "()I"⟩
abbrev cX10_isWord : ByteArray := prog_12_method_9_code
def yX10_isWord : MethodName := ⟨RX10, "isWord", "(ILjava/lang/String;)Z"⟩
abbrev cX10_readNumber : ByteArray := prog_12_method_10_code
def yX10_readNumber : MethodName := ⟨RX10, "readNumber", "(II)I"⟩
abbrev cX10_expect : ByteArray := prog_12_method_11_code
def yX10_expect : MethodName := ⟨RX10, "expect", "(C)V"⟩
abbrev cX10_skipBlanks : ByteArray := prog_12_method_12_code
def yX10_skipBlanks : MethodName := ⟨RX10, "skipBlanks", "()V"⟩
abbrev cX10_peek : ByteArray := prog_12_method_13_code
def yX10_peek : MethodName := ⟨RX10, "peek", "()I"⟩
abbrev cX10_blame : ByteArray := prog_12_method_14_code
def yX10_blame : MethodName := ⟨RX10, "blame", "(II)V"⟩
def RX11 : String := "HealLink"
def TX11 : u_T := fun k => match k with
  | 0 => ("HealLink", "counts", "[I", true)
  | 1 => ("HealLink", "finished", "LHealLink$Row;", true)
  | 2 => ("HealLink", "delivered", "LHealLink$Row;", true)
  | 3 => ("HealLink", "acts", "LHealLink$Acts;", true)
  | 4 => ("HealLink", "plan", "LHealLink$Steps;", true)
  | 5 => ("HealLink", "tape", "LHealLink$Tape;", true)
  | 6 => ("HealLink", "survey", "LHealLink$Survey;", true)
  | 7 => ("HealLink", "rules", "LHealLink$Rules;", false)
  | 8 => ("HealLink", "state", "J", false)
  | 9 => ("HealLink", "queueBits", "I", false)
  | 10 => ("HealLink", "queueSize", "I", false)
  | 11 => ("HealLink", "kept", "Z", false)
  | 12 => ("HealLink", "keptState", "J", false)
  | 13 => ("HealLink", "keptBits", "I", false)
  | _ => ("HealLink", "keptSize", "I", false)
def tyX11 : Nat → FieldType := fun k => match k with
  | 0 => .array .int
  | 1 => .object "HealLink$Row"
  | 2 => .object "HealLink$Row"
  | 3 => .object "HealLink$Acts"
  | 4 => .object "HealLink$Steps"
  | 5 => .object "HealLink$Tape"
  | 6 => .object "HealLink$Survey"
  | 7 => .object "HealLink$Rules"
  | 8 => .long
  | 9 => .int
  | 10 => .int
  | 11 => .boolean
  | 12 => .long
  | 13 => .int
  | _ => .int
abbrev wsX110 : List Cond := u_ws RX11 TX11 15
theorem nmX11 : ∀ a, a < 15 → ∀ b, b < 15 → a ≠ b → (TX11 a).2.1 ≠ (TX11 b).2.1 := by decide +kernel
theorem tyX11_ok : ∀ k, k < 15 → parseFieldDescriptor (TX11 k).2.2.1 = some (tyX11 k) := by decide +kernel
abbrev cX11_init : ByteArray := prog_1_method_1_code
def yX11_init : MethodName := ⟨RX11, "<init>", "()V"⟩
abbrev cX11_set : ByteArray := prog_1_method_2_code
def yX11_set : MethodName := ⟨RX11, "set", "(II)I"⟩
abbrev cX11_sender : ByteArray := prog_1_method_3_code
def yX11_sender : MethodName := ⟨RX11, "sender", "(IIIZ)Z"⟩
abbrev cX11_last : ByteArray := prog_1_method_4_code
def yX11_last : MethodName := ⟨RX11, "last", "(I)I"⟩
abbrev cX11_seen : ByteArray := prog_1_method_5_code
def yX11_seen : MethodName := ⟨RX11, "seen", "(III)I"⟩
abbrev cX11_packets : ByteArray := prog_1_method_6_code
def yX11_packets : MethodName := ⟨RX11, "packets", "(III)I"⟩
abbrev cX11_letters : ByteArray := prog_1_method_7_code
def yX11_letters : MethodName := ⟨RX11, "letters", "(II)I"⟩
abbrev cX11_queue : ByteArray := prog_1_method_8_code
def yX11_queue : MethodName := ⟨RX11, "queue", "(II)I"⟩
abbrev cX11_act : ByteArray := prog_1_method_9_code
def yX11_act : MethodName := ⟨RX11, "act", "(III)I"⟩
abbrev cX11_run : ByteArray := prog_1_method_10_code
def yX11_run : MethodName := ⟨RX11, "run", "(IIZ)I"⟩
abbrev cX11_of : ByteArray := prog_1_method_11_code
def yX11_of : MethodName := ⟨RX11, "of", "(I)I"⟩
abbrev cX11_kind : ByteArray := prog_1_method_12_code
def yX11_kind : MethodName := ⟨RX11, "kind", "(III)I"⟩
abbrev cX11_queued : ByteArray := prog_1_method_13_code
def yX11_queued : MethodName := ⟨RX11, "queued", "(I)I"⟩
abbrev cX11_count : ByteArray := prog_1_method_14_code
def yX11_count : MethodName := ⟨RX11, "count", "(I)I"⟩
abbrev cX11_possible : ByteArray := prog_1_method_15_code
def yX11_possible : MethodName := ⟨RX11, "possible", "(II)I"⟩
abbrev cX11_reached : ByteArray := prog_1_method_16_code
def yX11_reached : MethodName := ⟨RX11, "reached", "()I"⟩
abbrev cX11_worst : ByteArray := prog_1_method_17_code
def yX11_worst : MethodName := ⟨RX11, "worst", "()I"⟩
abbrev cX11_soonest : ByteArray := prog_1_method_18_code
def yX11_soonest : MethodName := ⟨RX11, "soonest", "()I"⟩
abbrev cX11_way : ByteArray := prog_1_method_19_code
def yX11_way : MethodName := ⟨RX11, "way", "(II)I"⟩
abbrev cX11_barren : ByteArray := prog_1_method_20_code
def yX11_barren : MethodName := ⟨RX11, "barren", "()I"⟩
abbrev cX11_steps : ByteArray := prog_1_method_21_code
def yX11_steps : MethodName := ⟨RX11, "steps", "()I"⟩
abbrev cX11_odds : ByteArray := prog_1_method_22_code
def yX11_odds : MethodName := ⟨RX11, "odds", "(I)J"⟩
abbrev cX11_enough : ByteArray := prog_1_method_23_code
def yX11_enough : MethodName := ⟨RX11, "enough", "()I"⟩
abbrev cX11_every : ByteArray := prog_1_method_24_code
def yX11_every : MethodName := ⟨RX11, "every", "(I)I"⟩
abbrev cX11_struck : ByteArray := prog_1_method_25_code
def yX11_struck : MethodName := ⟨RX11, "struck", "()I"⟩
abbrev cX11_row : ByteArray := prog_1_method_26_code
def yX11_row : MethodName := ⟨RX11, "row", "(II)I"⟩
abbrev cX11_feed : ByteArray := prog_1_method_27_code
def yX11_feed : MethodName := ⟨RX11, "feed", "(JJJ)I"⟩
abbrev cX11_end : ByteArray := prog_1_method_28_code
def yX11_end : MethodName := ⟨RX11, "end", "(I)I"⟩
abbrev cX11_script : ByteArray := prog_1_method_29_code
def yX11_script : MethodName := ⟨RX11, "script", "()I"⟩
abbrev cX11_image : ByteArray := prog_1_method_30_code
def yX11_image : MethodName := ⟨RX11, "image", "()Z"⟩
abbrev cX11_back : ByteArray := prog_1_method_31_code
def yX11_back : MethodName := ⟨RX11, "back", "()Z"⟩
abbrev cX11_put : ByteArray := prog_1_method_32_code
def yX11_put : MethodName := ⟨RX11, "put", "(II)I"⟩
abbrev cX11_badOnes : ByteArray := prog_1_method_33_code
def yX11_badOnes : MethodName := ⟨RX11, "badOnes", "()I"⟩
abbrev cX11_perform : ByteArray := prog_1_method_34_code
def yX11_perform : MethodName := ⟨RX11, "perform", "(I)I"⟩
abbrev cX11_takeFromQueue : ByteArray := prog_1_method_35_code
def yX11_takeFromQueue : MethodName := ⟨RX11, "takeFromQueue", "()V"⟩
abbrev cX11_carryOut : ByteArray := prog_1_method_36_code
def yX11_carryOut : MethodName := ⟨RX11, "carryOut", "()I"⟩
abbrev cX11_doStep : ByteArray := prog_1_method_37_code
def yX11_doStep : MethodName := ⟨RX11, "doStep", "(II)Z"⟩
def RX12 : String := "HealLinkModel"
def TX12 : u_T := fun k => match k with
  | 0 => ("HealLinkModel", "capacity", "I", false)
  | 1 => ("HealLinkModel", "labels", "I", false)
  | 2 => ("HealLinkModel", "acks", "I", false)
  | 3 => ("HealLinkModel", "copies", "I", false)
  | 4 => ("HealLinkModel", "state", "J", false)
  | 5 => ("HealLinkModel", "queue", "[I", true)
  | 6 => ("HealLinkModel", "queued", "I", false)
  | 7 => ("HealLinkModel", "counts", "[I", true)
  | 8 => ("HealLinkModel", "finished", "[I", true)
  | 9 => ("HealLinkModel", "finishedMany", "I", false)
  | 10 => ("HealLinkModel", "delivered", "[I", true)
  | 11 => ("HealLinkModel", "deliveredMany", "I", false)
  | 12 => ("HealLinkModel", "hasImage", "Z", false)
  | 13 => ("HealLinkModel", "imageState", "J", false)
  | 14 => ("HealLinkModel", "imageQueue", "[I", true)
  | 15 => ("HealLinkModel", "imageQueued", "I", false)
  | 16 => ("HealLinkModel", "tape", "[I", true)
  | 17 => ("HealLinkModel", "taped", "I", false)
  | 18 => ("HealLinkModel", "thrown", "I", false)
  | 19 => ("HealLinkModel", "then", "J", false)
  | 20 => ("HealLinkModel", "outcome", "I", false)
  | 21 => ("HealLinkModel", "isLost", "Z", false)
  | 22 => ("HealLinkModel", "wanted", "I", false)
  | 23 => ("HealLinkModel", "actWhat", "[I", true)
  | 24 => ("HealLinkModel", "actLabel", "[I", true)
  | 25 => ("HealLinkModel", "actValue", "[I", true)
  | 26 => ("HealLinkModel", "states", "[J", true)
  | 27 => ("HealLinkModel", "many", "I", false)
  | 28 => ("HealLinkModel", "table", "[I", true)
  | 29 => ("HealLinkModel", "edgeFrom", "[I", true)
  | 30 => ("HealLinkModel", "edgeTo", "[I", true)
  | 31 => ("HealLinkModel", "edgeHow", "[I", true)
  | 32 => ("HealLinkModel", "edgeAct", "[I", true)
  | 33 => ("HealLinkModel", "edgeLabel", "[I", true)
  | 34 => ("HealLinkModel", "edgeValue", "[I", true)
  | 35 => ("HealLinkModel", "edges", "I", false)
  | 36 => ("HealLinkModel", "part", "[I", true)
  | 37 => ("HealLinkModel", "low", "[I", true)
  | 38 => ("HealLinkModel", "index", "[I", true)
  | 39 => ("HealLinkModel", "stack", "[I", true)
  | 40 => ("HealLinkModel", "isOn", "[Z", true)
  | 41 => ("HealLinkModel", "path", "[I", true)
  | 42 => ("HealLinkModel", "nextEdge", "[I", true)
  | 43 => ("HealLinkModel", "stacked", "I", false)
  | 44 => ("HealLinkModel", "parts", "I", false)
  | 45 => ("HealLinkModel", "indexed", "I", false)
  | 46 => ("HealLinkModel", "worst", "[I", true)
  | 47 => ("HealLinkModel", "byPart", "[I", true)
  | 48 => ("HealLinkModel", "partAt", "[I", true)
  | 49 => ("HealLinkModel", "far", "[I", true)
  | 50 => ("HealLinkModel", "odds", "[D", true)
  | 51 => ("HealLinkModel", "thenOdds", "[D", true)
  | 52 => ("HealLinkModel", "digitAt", "[I", true)
  | 53 => ("HealLinkModel", "digitWide", "[I", true)
  | 54 => ("HealLinkModel", "digitMany", "[I", true)
  | 55 => ("HealLinkModel", "digits", "I", false)
  | 56 => ("HealLinkModel", "common", "[I", true)
  | 57 => ("HealLinkModel", "size", "I", false)
  | 58 => ("HealLinkModel", "place", "I", false)
  | 59 => ("HealLinkModel", "endOf", "I", false)
  | 60 => ("HealLinkModel", "token", "I", false)
  | 61 => ("HealLinkModel", "word", "J", false)
  | 62 => ("HealLinkModel", "number", "I", false)
  | 63 => ("HealLinkModel", "fault", "I", false)
  | 64 => ("HealLinkModel", "isDoing", "Z", false)
  | 65 => ("HealLinkModel", "did", "I", false)
  | _ => ("HealLinkModel", "isStopped", "Z", false)
def tyX12 : Nat → FieldType := fun k => match k with
  | 0 => .int
  | 1 => .int
  | 2 => .int
  | 3 => .int
  | 4 => .long
  | 5 => .array .int
  | 6 => .int
  | 7 => .array .int
  | 8 => .array .int
  | 9 => .int
  | 10 => .array .int
  | 11 => .int
  | 12 => .boolean
  | 13 => .long
  | 14 => .array .int
  | 15 => .int
  | 16 => .array .int
  | 17 => .int
  | 18 => .int
  | 19 => .long
  | 20 => .int
  | 21 => .boolean
  | 22 => .int
  | 23 => .array .int
  | 24 => .array .int
  | 25 => .array .int
  | 26 => .array .long
  | 27 => .int
  | 28 => .array .int
  | 29 => .array .int
  | 30 => .array .int
  | 31 => .array .int
  | 32 => .array .int
  | 33 => .array .int
  | 34 => .array .int
  | 35 => .int
  | 36 => .array .int
  | 37 => .array .int
  | 38 => .array .int
  | 39 => .array .int
  | 40 => .array .boolean
  | 41 => .array .int
  | 42 => .array .int
  | 43 => .int
  | 44 => .int
  | 45 => .int
  | 46 => .array .int
  | 47 => .array .int
  | 48 => .array .int
  | 49 => .array .int
  | 50 => .array .double
  | 51 => .array .double
  | 52 => .array .int
  | 53 => .array .int
  | 54 => .array .int
  | 55 => .int
  | 56 => .array .int
  | 57 => .int
  | 58 => .int
  | 59 => .int
  | 60 => .int
  | 61 => .long
  | 62 => .int
  | 63 => .int
  | 64 => .boolean
  | 65 => .int
  | _ => .boolean
abbrev wsX120 : List Cond := u_ws RX12 TX12 67
theorem nmX12 : ∀ a, a < 67 → ∀ b, b < 67 → a ≠ b → (TX12 a).2.1 ≠ (TX12 b).2.1 := by decide +kernel
theorem tyX12_ok : ∀ k, k < 67 → parseFieldDescriptor (TX12 k).2.2.1 = some (tyX12 k) := by decide +kernel
abbrev cX12_init : ByteArray := prog_14_method_1_code
def yX12_init : MethodName := ⟨RX12, "<init>", "()V"⟩
abbrev cX12_thrown : ByteArray := prog_14_method_2_code
def yX12_thrown : MethodName := ⟨RX12, "thrown", "()I"⟩
abbrev cX12_within : ByteArray := prog_14_method_3_code
def yX12_within : MethodName := ⟨RX12, "within", "(III)Z"⟩
abbrev cX12_get : ByteArray := prog_14_method_4_code
def yX12_get : MethodName := ⟨RX12, "get", "(JII)I"⟩
abbrev cX12_put : ByteArray := prog_14_method_5_code
def yX12_put : MethodName := ⟨RX12, "put", "(JIII)J"⟩
abbrev cX12_seenAt : ByteArray := prog_14_method_6_code
def yX12_seenAt : MethodName := ⟨RX12, "seenAt", "(II)I"⟩
abbrev cX12_packetAt : ByteArray := prog_14_method_7_code
def yX12_packetAt : MethodName := ⟨RX12, "packetAt", "(II)I"⟩
abbrev cX12_letterAt : ByteArray := prog_14_method_8_code
def yX12_letterAt : MethodName := ⟨RX12, "letterAt", "(I)I"⟩
abbrev cX12_packetsOf : ByteArray := prog_14_method_9_code
def yX12_packetsOf : MethodName := ⟨RX12, "packetsOf", "(J)I"⟩
abbrev cX12_lettersOf : ByteArray := prog_14_method_10_code
def yX12_lettersOf : MethodName := ⟨RX12, "lettersOf", "(J)I"⟩
abbrev cX12_empties : ByteArray := prog_14_method_11_code
def yX12_empties : MethodName := ⟨RX12, "empties", "()V"⟩
abbrev cX12_set : ByteArray := prog_14_method_12_code
def yX12_set : MethodName := ⟨RX12, "set", "(II)I"⟩
abbrev cX12_isLabel : ByteArray := prog_14_method_13_code
def yX12_isLabel : MethodName := ⟨RX12, "isLabel", "(I)Z"⟩
abbrev cX12_isSort : ByteArray := prog_14_method_14_code
def yX12_isSort : MethodName := ⟨RX12, "isSort", "(II)Z"⟩
abbrev cX12_sender : ByteArray := prog_14_method_15_code
def yX12_sender : MethodName := ⟨RX12, "sender", "(IIIZ)Z"⟩
abbrev cX12_last : ByteArray := prog_14_method_16_code
def yX12_last : MethodName := ⟨RX12, "last", "(I)I"⟩
abbrev cX12_seen : ByteArray := prog_14_method_17_code
def yX12_seen : MethodName := ⟨RX12, "seen", "(III)I"⟩
abbrev cX12_packets : ByteArray := prog_14_method_18_code
def yX12_packets : MethodName := ⟨RX12, "packets", "(III)I"⟩
abbrev cX12_letters : ByteArray := prog_14_method_19_code
def yX12_letters : MethodName := ⟨RX12, "letters", "(II)I"⟩
abbrev cX12_queue : ByteArray := prog_14_method_20_code
def yX12_queue : MethodName := ⟨RX12, "queue", "(II)I"⟩
abbrev cX12_isThere : ByteArray := prog_14_method_21_code
def yX12_isThere : MethodName := ⟨RX12, "isThere", "(JIII)Z"⟩
abbrev cX12_more : ByteArray := prog_14_method_22_code
def yX12_more : MethodName := ⟨RX12, "more", "(JII)J"⟩
abbrev cX12_does : ByteArray := prog_14_method_23_code
def yX12_does : MethodName := ⟨RX12, "does", "(JIIII)V"⟩
abbrev cX12_sees : ByteArray := prog_14_method_24_code
def yX12_sees : MethodName := ⟨RX12, "sees", "(II)V"⟩
abbrev cX12_counts1 : ByteArray := prog_14_method_25_code
def yX12_counts1 : MethodName := ⟨RX12, "counts1", "(I)V"⟩
abbrev cX12_isBad : ByteArray := prog_14_method_26_code
def yX12_isBad : MethodName := ⟨RX12, "isBad", "(I)Z"⟩
abbrev cX12_comesTo : ByteArray := prog_14_method_27_code
def yX12_comesTo : MethodName := ⟨RX12, "comesTo", "([III)I"⟩
abbrev cX12_acts : ByteArray := prog_14_method_28_code
def yX12_acts : MethodName := ⟨RX12, "acts", "(III)I"⟩
abbrev cX12_act : ByteArray := prog_14_method_29_code
def yX12_act : MethodName := ⟨RX12, "act", "(III)I"⟩
abbrev cX12_lays : ByteArray := prog_14_method_30_code
def yX12_lays : MethodName := ⟨RX12, "lays", "(IIII)I"⟩
abbrev cX12_laysSort : ByteArray := prog_14_method_31_code
def yX12_laysSort : MethodName := ⟨RX12, "laysSort", "(JII)I"⟩
abbrev cX12_laysActs : ByteArray := prog_14_method_32_code
def yX12_laysActs : MethodName := ⟨RX12, "laysActs", "(JZ)I"⟩
abbrev cX12_run : ByteArray := prog_14_method_33_code
def yX12_run : MethodName := ⟨RX12, "run", "(IIZ)I"⟩
abbrev cX12_possible : ByteArray := prog_14_method_34_code
def yX12_possible : MethodName := ⟨RX12, "possible", "(II)I"⟩
abbrev cX12_of : ByteArray := prog_14_method_35_code
def yX12_of : MethodName := ⟨RX12, "of", "(I)I"⟩
abbrev cX12_kind : ByteArray := prog_14_method_36_code
def yX12_kind : MethodName := ⟨RX12, "kind", "(III)I"⟩
abbrev cX12_queued : ByteArray := prog_14_method_37_code
def yX12_queued : MethodName := ⟨RX12, "queued", "(I)I"⟩
abbrev cX12_count : ByteArray := prog_14_method_38_code
def yX12_count : MethodName := ⟨RX12, "count", "(I)I"⟩
abbrev cX12_slotOf : ByteArray := prog_14_method_39_code
def yX12_slotOf : MethodName := ⟨RX12, "slotOf", "(J)I"⟩
abbrev cX12_numberOf : ByteArray := prog_14_method_40_code
def yX12_numberOf : MethodName := ⟨RX12, "numberOf", "(J)I"⟩
abbrev cX12_comes : ByteArray := prog_14_method_41_code
def yX12_comes : MethodName := ⟨RX12, "comes", "(J)V"⟩
abbrev cX12_begins : ByteArray := prog_14_method_42_code
def yX12_begins : MethodName := ⟨RX12, "begins", "()V"⟩
abbrev cX12_edge : ByteArray := prog_14_method_43_code
def yX12_edge : MethodName := ⟨RX12, "edge", "(JII)Z"⟩
abbrev cX12_edgesOf : ByteArray := prog_14_method_44_code
def yX12_edgesOf : MethodName := ⟨RX12, "edgesOf", "(I)Z"⟩
abbrev cX12_reaches : ByteArray := prog_14_method_45_code
def yX12_reaches : MethodName := ⟨RX12, "reaches", "(JI)Z"⟩
abbrev cX12_reached : ByteArray := prog_14_method_46_code
def yX12_reached : MethodName := ⟨RX12, "reached", "()I"⟩
abbrev cX12_enters : ByteArray := prog_14_method_47_code
def yX12_enters : MethodName := ⟨RX12, "enters", "(I)V"⟩
abbrev cX12_leaves : ByteArray := prog_14_method_48_code
def yX12_leaves : MethodName := ⟨RX12, "leaves", "(I)V"⟩
abbrev cX12_walks : ByteArray := prog_14_method_49_code
def yX12_walks : MethodName := ⟨RX12, "walks", "(I)V"⟩
abbrev cX12_laysWorst : ByteArray := prog_14_method_50_code
def yX12_laysWorst : MethodName := ⟨RX12, "laysWorst", "()V"⟩
abbrev cX12_looksAt : ByteArray := prog_14_method_51_code
def yX12_looksAt : MethodName := ⟨RX12, "looksAt", "(II)V"⟩
abbrev cX12_told : ByteArray := prog_14_method_52_code
def yX12_told : MethodName := ⟨RX12, "told", "(I)I"⟩
abbrev cX12_worst : ByteArray := prog_14_method_53_code
def yX12_worst : MethodName := ⟨RX12, "worst", "()I"⟩
abbrev cX12_isWanted : ByteArray := prog_14_method_54_code
def yX12_isWanted : MethodName := ⟨RX12, "isWanted", "(IZ)Z"⟩
abbrev cX12_canBy : ByteArray := prog_14_method_55_code
def yX12_canBy : MethodName := ⟨RX12, "canBy", "(IIZ)Z"⟩
abbrev cX12_laysFar : ByteArray := prog_14_method_56_code
def yX12_laysFar : MethodName := ⟨RX12, "laysFar", "(Z)V"⟩
abbrev cX12_soonest : ByteArray := prog_14_method_57_code
def yX12_soonest : MethodName := ⟨RX12, "soonest", "()I"⟩
abbrev cX12_way : ByteArray := prog_14_method_58_code
def yX12_way : MethodName := ⟨RX12, "way", "(II)I"⟩
abbrev cX12_barren : ByteArray := prog_14_method_59_code
def yX12_barren : MethodName := ⟨RX12, "barren", "()I"⟩
abbrev cX12_steps : ByteArray := prog_14_method_60_code
def yX12_steps : MethodName := ⟨RX12, "steps", "()I"⟩
abbrev cX12_odds : ByteArray := prog_14_method_61_code
def yX12_odds : MethodName := ⟨RX12, "odds", "(I)J"⟩
abbrev cX12_goesOn : ByteArray := prog_14_method_62_code
def yX12_goesOn : MethodName := ⟨RX12, "goesOn", "(I)V"⟩
abbrev cX12_enough : ByteArray := prog_14_method_63_code
def yX12_enough : MethodName := ⟨RX12, "enough", "()I"⟩
abbrev cX12_digit : ByteArray := prog_14_method_64_code
def yX12_digit : MethodName := ⟨RX12, "digit", "(III)V"⟩
abbrev cX12_laysDigits : ByteArray := prog_14_method_65_code
def yX12_laysDigits : MethodName := ⟨RX12, "laysDigits", "()V"⟩
abbrev cX12_laysAll : ByteArray := prog_14_method_66_code
def yX12_laysAll : MethodName := ⟨RX12, "laysAll", "(JI)Z"⟩
abbrev cX12_laysEvery : ByteArray := prog_14_method_67_code
def yX12_laysEvery : MethodName := ⟨RX12, "laysEvery", "()Z"⟩
abbrev cX12_every : ByteArray := prog_14_method_68_code
def yX12_every : MethodName := ⟨RX12, "every", "(I)I"⟩
abbrev cX12_struck : ByteArray := prog_14_method_69_code
def yX12_struck : MethodName := ⟨RX12, "struck", "()I"⟩
abbrev cX12_row : ByteArray := prog_14_method_70_code
def yX12_row : MethodName := ⟨RX12, "row", "(II)I"⟩
abbrev cX12_eight : ByteArray := prog_14_method_71_code
def yX12_eight : MethodName := ⟨RX12, "eight", "(J)V"⟩
abbrev cX12_feed : ByteArray := prog_14_method_72_code
def yX12_feed : MethodName := ⟨RX12, "feed", "(JJJ)I"⟩
abbrev cX12_end : ByteArray := prog_14_method_73_code
def yX12_end : MethodName := ⟨RX12, "end", "(I)I"⟩
abbrev cX12_byteAt : ByteArray := prog_14_method_74_code
def yX12_byteAt : MethodName := ⟨RX12, "byteAt", "(I)I"⟩
abbrev cX12_isSmall : ByteArray := prog_14_method_75_code
def yX12_isSmall : MethodName := ⟨RX12, "isSmall", "(I)Z"⟩
abbrev cX12_isDigit : ByteArray := prog_14_method_76_code
def yX12_isDigit : MethodName := ⟨RX12, "isDigit", "(I)Z"⟩
abbrev cX12_next : ByteArray := prog_14_method_77_code
def yX12_next : MethodName := ⟨RX12, "next", "()V"⟩
abbrev cX12_wrong : ByteArray := prog_14_method_78_code
def yX12_wrong : MethodName := ⟨RX12, "wrong", "(I)V"⟩
abbrev cX12_packed : ByteArray := prog_14_method_79_code
def yX12_packed : MethodName := ⟨RX12, "packed", "(Ljava/lang/String;)J"⟩
abbrev cX12_isWord : ByteArray := prog_14_method_80_code
def yX12_isWord : MethodName := ⟨RX12, "isWord", "(Ljava/lang/String;)Z"⟩
abbrev cX12_must : ByteArray := prog_14_method_81_code
def yX12_must : MethodName := ⟨RX12, "must", "(I)V"⟩
abbrev cX12_numberTold : ByteArray := prog_14_method_82_code
def yX12_numberTold : MethodName := ⟨RX12, "numberTold", "(II)I"⟩
abbrev cX12_acting : ByteArray := prog_14_method_83_code
def yX12_acting : MethodName := ⟨RX12, "acting", "(III)V"⟩
abbrev cX12_clears : ByteArray := prog_14_method_84_code
def yX12_clears : MethodName := ⟨RX12, "clears", "(I)V"⟩
abbrev cX12_stepTold : ByteArray := prog_14_method_85_code
def yX12_stepTold : MethodName := ⟨RX12, "stepTold", "(I)V"⟩
abbrev cX12_againTold : ByteArray := prog_14_method_86_code
def yX12_againTold : MethodName := ⟨RX12, "againTold", "(I)V"⟩
abbrev cX12_stepsTold : ByteArray := prog_14_method_87_code
def yX12_stepsTold : MethodName := ⟨RX12, "stepsTold", "(I)V"⟩
abbrev cX12_goesThrough : ByteArray := prog_14_method_88_code
def yX12_goesThrough : MethodName := ⟨RX12, "goesThrough", "(Z)V"⟩
abbrev cX12_script : ByteArray := prog_14_method_89_code
def yX12_script : MethodName := ⟨RX12, "script", "()I"⟩
abbrev cX12_image : ByteArray := prog_14_method_90_code
def yX12_image : MethodName := ⟨RX12, "image", "()Z"⟩
abbrev cX12_back : ByteArray := prog_14_method_91_code
def yX12_back : MethodName := ⟨RX12, "back", "()Z"⟩
def RJx145de : String := "java/io/Serializable"
def TJx145de : u_T := fun k => match k with
  | _ => ("", "", "", false)
def tyJx145de : Nat → FieldType := fun k => match k with
  | _ => .int
abbrev wsJx145de0 : List Cond := u_ws RJx145de TJx145de 0
theorem nmJx145de : ∀ a, a < 0 → ∀ b, b < 0 → a ≠ b → (TJx145de a).2.1 ≠ (TJx145de b).2.1 := by decide +kernel
theorem tyJx145de_ok : ∀ k, k < 0 → parseFieldDescriptor (TJx145de k).2.2.1 = some (tyJx145de k) := by decide +kernel
def RJx9f9b0 : String := "java/lang/CharSequence"
def TJx9f9b0 : u_T := fun k => match k with
  | _ => ("", "", "", false)
def tyJx9f9b0 : Nat → FieldType := fun k => match k with
  | _ => .int
abbrev wsJx9f9b00 : List Cond := u_ws RJx9f9b0 TJx9f9b0 0
theorem nmJx9f9b0 : ∀ a, a < 0 → ∀ b, b < 0 → a ≠ b → (TJx9f9b0 a).2.1 ≠ (TJx9f9b0 b).2.1 := by decide +kernel
theorem tyJx9f9b0_ok : ∀ k, k < 0 → parseFieldDescriptor (TJx9f9b0 k).2.2.1 = some (tyJx9f9b0 k) := by decide +kernel
def RJxb160c : String := "java/lang/Comparable"
def TJxb160c : u_T := fun k => match k with
  | _ => ("", "", "", false)
def tyJxb160c : Nat → FieldType := fun k => match k with
  | _ => .int
abbrev wsJxb160c0 : List Cond := u_ws RJxb160c TJxb160c 0
theorem nmJxb160c : ∀ a, a < 0 → ∀ b, b < 0 → a ≠ b → (TJxb160c a).2.1 ≠ (TJxb160c b).2.1 := by decide +kernel
theorem tyJxb160c_ok : ∀ k, k < 0 → parseFieldDescriptor (TJxb160c k).2.2.1 = some (tyJxb160c k) := by decide +kernel
def RJxe99ae : String := "java/lang/Double"
def TJxe99ae : u_T := fun k => match k with
  | _ => ("", "", "", false)
def tyJxe99ae : Nat → FieldType := fun k => match k with
  | _ => .int
abbrev wsJxe99ae0 : List Cond := u_ws RJxe99ae TJxe99ae 0
theorem nmJxe99ae : ∀ a, a < 0 → ∀ b, b < 0 → a ≠ b → (TJxe99ae a).2.1 ≠ (TJxe99ae b).2.1 := by decide +kernel
theorem tyJxe99ae_ok : ∀ k, k < 0 → parseFieldDescriptor (TJxe99ae k).2.2.1 = some (tyJxe99ae k) := by decide +kernel
abbrev cJxe99ae_isNaN_b9ae7 : ByteArray := prog_18_method_6_code
def yJxe99ae_isNaN_b9ae7 : MethodName := ⟨RJxe99ae, "isNaN", "(D)Z"⟩
abbrev cJxe99ae_doubleToLongBits_ccdee : ByteArray := prog_18_method_23_code
def yJxe99ae_doubleToLongBits_ccdee : MethodName := ⟨RJxe99ae, "doubleToLongBits", "(D)J"⟩
def RJ13 : String := "java/lang/Long"
def TJ13 : u_T := fun k => match k with
  | _ => ("", "", "", false)
def tyJ13 : Nat → FieldType := fun k => match k with
  | _ => .int
abbrev wsJ130 : List Cond := u_ws RJ13 TJ13 0
theorem nmJ13 : ∀ a, a < 0 → ∀ b, b < 0 → a ≠ b → (TJ13 a).2.1 ≠ (TJ13 b).2.1 := by decide +kernel
theorem tyJ13_ok : ∀ k, k < 0 → parseFieldDescriptor (TJ13 k).2.2.1 = some (tyJ13 k) := by decide +kernel
abbrev cJ13_bitCount_95d88 : ByteArray := prog_20_method_50_code
def yJ13_bitCount_95d88 : MethodName := ⟨RJ13, "bitCount", "(J)I"⟩
def RJ9 : String := "java/lang/Math"
def TJ9 : u_T := fun k => match k with
  | _ => ("", "", "", false)
def tyJ9 : Nat → FieldType := fun k => match k with
  | _ => .int
abbrev wsJ90 : List Cond := u_ws RJ9 TJ9 0
theorem nmJ9 : ∀ a, a < 0 → ∀ b, b < 0 → a ≠ b → (TJ9 a).2.1 ≠ (TJ9 b).2.1 := by decide +kernel
theorem tyJ9_ok : ∀ k, k < 0 → parseFieldDescriptor (TJ9 k).2.2.1 = some (tyJ9 k) := by decide +kernel
abbrev cJ9_max_7cf53 : ByteArray := prog_21_method_65_code
def yJ9_max_7cf53 : MethodName := ⟨RJ9, "max", "(II)I"⟩
abbrev cJ9_min_7cf53 : ByteArray := prog_21_method_69_code
def yJ9_min_7cf53 : MethodName := ⟨RJ9, "min", "(II)I"⟩
def RJxd2413 : String := "java/lang/Number"
def TJxd2413 : u_T := fun k => match k with
  | _ => ("", "", "", false)
def tyJxd2413 : Nat → FieldType := fun k => match k with
  | _ => .int
abbrev wsJxd24130 : List Cond := u_ws RJxd2413 TJxd2413 0
theorem nmJxd2413 : ∀ a, a < 0 → ∀ b, b < 0 → a ≠ b → (TJxd2413 a).2.1 ≠ (TJxd2413 b).2.1 := by decide +kernel
theorem tyJxd2413_ok : ∀ k, k < 0 → parseFieldDescriptor (TJxd2413 k).2.2.1 = some (tyJxd2413 k) := by decide +kernel
def RJ0 : String := "java/lang/String"
def TJ0 : u_T := fun k => match k with
  | _ => ("", "", "", false)
def tyJ0 : Nat → FieldType := fun k => match k with
  | _ => .int
abbrev wsJ00 : List Cond := u_ws RJ0 TJ0 0
theorem nmJ0 : ∀ a, a < 0 → ∀ b, b < 0 → a ≠ b → (TJ0 a).2.1 ≠ (TJ0 b).2.1 := by decide +kernel
theorem tyJ0_ok : ∀ k, k < 0 → parseFieldDescriptor (TJ0 k).2.2.1 = some (tyJ0 k) := by decide +kernel
abbrev cJ0_length_8abf5 : ByteArray := prog_24_method_54_code
def yJ0_length_8abf5 : MethodName := ⟨RJ0, "length", "()I"⟩
abbrev cJ0_charAt_5068e : ByteArray := prog_24_method_56_code
def yJ0_charAt_5068e : MethodName := ⟨RJ0, "charAt", "(I)C"⟩
abbrev cJ0_coder_7d493 : ByteArray := prog_24_method_152_code
def yJ0_coder_7d493 : MethodName := ⟨RJ0, "coder", "()B"⟩
abbrev cJ0_isLatin1_aae02 : ByteArray := prog_24_method_154_code
def yJ0_isLatin1_aae02 : MethodName := ⟨RJ0, "isLatin1", "()Z"⟩
abbrev cJ0_checkIndex_df160 : ByteArray := prog_24_method_155_code
def yJ0_checkIndex_df160 : MethodName := ⟨RJ0, "checkIndex", "(II)V"⟩
def RJ1 : String := "java/lang/StringLatin1"
def TJ1 : u_T := fun k => match k with
  | _ => ("", "", "", false)
def tyJ1 : Nat → FieldType := fun k => match k with
  | _ => .int
abbrev wsJ10 : List Cond := u_ws RJ1 TJ1 0
theorem nmJ1 : ∀ a, a < 0 → ∀ b, b < 0 → a ≠ b → (TJ1 a).2.1 ≠ (TJ1 b).2.1 := by decide +kernel
theorem tyJ1_ok : ∀ k, k < 0 → parseFieldDescriptor (TJ1 k).2.2.1 = some (tyJ1 k) := by decide +kernel
abbrev cJ1_charAt_3b067 : ByteArray := prog_25_method_2_code
def yJ1_charAt_3b067 : MethodName := ⟨RJ1, "charAt", "([BI)C"⟩
def RJ2 : String := "java/lang/StringUTF16"
def TJ2 : u_T := fun k => match k with
  | _ => ("", "", "", false)
def tyJ2 : Nat → FieldType := fun k => match k with
  | _ => .int
abbrev wsJ20 : List Cond := u_ws RJ2 TJ2 0
theorem nmJ2 : ∀ a, a < 0 → ∀ b, b < 0 → a ≠ b → (TJ2 a).2.1 ≠ (TJ2 b).2.1 := by decide +kernel
theorem tyJ2_ok : ∀ k, k < 0 → parseFieldDescriptor (TJ2 k).2.2.1 = some (tyJ2 k) := by decide +kernel
abbrev cJ2_getChar_3b067 : ByteArray := prog_26_method_5_code
def yJ2_getChar_3b067 : MethodName := ⟨RJ2, "getChar", "([BI)C"⟩
abbrev cJ2_length_9d52b : ByteArray := prog_26_method_6_code
def yJ2_length_9d52b : MethodName := ⟨RJ2, "length", "([B)I"⟩
abbrev cJ2_charAt_3b067 : ByteArray := prog_26_method_83_code
def yJ2_charAt_3b067 : MethodName := ⟨RJ2, "charAt", "([BI)C"⟩
abbrev cJ2_checkIndex_2214a : ByteArray := prog_26_method_91_code
def yJ2_checkIndex_2214a : MethodName := ⟨RJ2, "checkIndex", "(I[B)V"⟩
def RJxfd54e : String := "java/lang/constant/Constable"
def TJxfd54e : u_T := fun k => match k with
  | _ => ("", "", "", false)
def tyJxfd54e : Nat → FieldType := fun k => match k with
  | _ => .int
abbrev wsJxfd54e0 : List Cond := u_ws RJxfd54e TJxfd54e 0
theorem nmJxfd54e : ∀ a, a < 0 → ∀ b, b < 0 → a ≠ b → (TJxfd54e a).2.1 ≠ (TJxfd54e b).2.1 := by decide +kernel
theorem tyJxfd54e_ok : ∀ k, k < 0 → parseFieldDescriptor (TJxfd54e k).2.2.1 = some (tyJxfd54e k) := by decide +kernel
def RJx3cf43 : String := "java/lang/constant/ConstantDesc"
def TJx3cf43 : u_T := fun k => match k with
  | _ => ("", "", "", false)
def tyJx3cf43 : Nat → FieldType := fun k => match k with
  | _ => .int
abbrev wsJx3cf430 : List Cond := u_ws RJx3cf43 TJx3cf43 0
theorem nmJx3cf43 : ∀ a, a < 0 → ∀ b, b < 0 → a ≠ b → (TJx3cf43 a).2.1 ≠ (TJx3cf43 b).2.1 := by decide +kernel
theorem tyJx3cf43_ok : ∀ k, k < 0 → parseFieldDescriptor (TJx3cf43 k).2.2.1 = some (tyJx3cf43 k) := by decide +kernel
def RJ7 : String := "java/util/Arrays"
def TJ7 : u_T := fun k => match k with
  | _ => ("", "", "", false)
def tyJ7 : Nat → FieldType := fun k => match k with
  | _ => .int
abbrev wsJ70 : List Cond := u_ws RJ7 TJ7 0
theorem nmJ7 : ∀ a, a < 0 → ∀ b, b < 0 → a ≠ b → (TJ7 a).2.1 ≠ (TJ7 b).2.1 := by decide +kernel
theorem tyJ7_ok : ∀ k, k < 0 → parseFieldDescriptor (TJ7 k).2.2.1 = some (tyJ7 k) := by decide +kernel
abbrev cJ7_fill_53178 : ByteArray := prog_30_method_103_code
def yJ7_fill_53178 : MethodName := ⟨RJ7, "fill", "([II)V"⟩
abbrev cJ7_fill_7f8df : ByteArray := prog_30_method_113_code
def yJ7_fill_7f8df : MethodName := ⟨RJ7, "fill", "([DD)V"⟩
def RJ3 : String := "jdk/internal/util/Preconditions"
def TJ3 : u_T := fun k => match k with
  | _ => ("", "", "", false)
def tyJ3 : Nat → FieldType := fun k => match k with
  | _ => .int
abbrev wsJ30 : List Cond := u_ws RJ3 TJ3 0
theorem nmJ3 : ∀ a, a < 0 → ∀ b, b < 0 → a ≠ b → (TJ3 a).2.1 ≠ (TJ3 b).2.1 := by decide +kernel
theorem tyJ3_ok : ∀ k, k < 0 → parseFieldDescriptor (TJ3 k).2.2.1 = some (tyJ3 k) := by decide +kernel
abbrev cJ3_checkIndex_8e157 : ByteArray := prog_32_method_11_code
def yJ3_checkIndex_8e157 : MethodName := ⟨RJ3, "checkIndex", "(IILjava/util/function/BiFunction;)I"⟩
def RL : String := "HealLinkLaw"
abbrev cL_kind : ByteArray := method_3_code
def yL_kind : MethodName := ⟨RL, "kind", "(LHealLink;III[J)I"⟩
abbrev cL_queued : ByteArray := method_4_code
def yL_queued : MethodName := ⟨RL, "queued", "(LHealLink;I[J)I"⟩
abbrev cL_law : ByteArray := code
def yL_law : MethodName := ⟨RL, "law", "([I)Z"⟩
abbrev vwCl : List vw_C := [(RX0, TX0, 3), (RX1, TX1, 7), (RX2, TX2, 1), (RX3, TX3, 2), (RX4, TX4, 8), (RX5, TX5, 5), (RX6, TX6, 3), (RX7, TX7, 4), (RX8, TX8, 9), (RX9, TX9, 11), (RX10, TX10, 5), (RX11, TX11, 15), (RX12, TX12, 67)]
def kw0 : List Cond := [Cond.classLink RL 8 RX11, Cond.instantiable RX11 15, Cond.initialized RX11, Cond.classLink RL 20 RX12, Cond.instantiable RX12 67, Cond.initialized RX12, Cond.arrayClass .long, Cond.constantLong RL 133 (4294967295), Cond.methodLink RL 19 yX11_init, Cond.instanceMethod yX11_init, Cond.code yX11_init cX11_init 1 none, Cond.methodLink RX11 1 objectInit, Cond.instanceMethod objectInit, Cond.code objectInit ⟨#[0xb1]⟩ 1 none, Cond.arrayClass .int, Cond.fieldLink RX11 7 "HealLink" "counts" "[I", Cond.classLink RX11 13 RX6, Cond.instantiable RX6 3, Cond.initialized RX6, Cond.fieldLink RX11 16 "HealLink" "finished" "LHealLink$Row;", Cond.fieldLink RX11 20 "HealLink" "delivered" "LHealLink$Row;", Cond.classLink RX11 23 RX0, Cond.instantiable RX0 3, Cond.initialized RX0, Cond.fieldLink RX11 26 "HealLink" "acts" "LHealLink$Acts;", Cond.classLink RX11 30 RX8, Cond.instantiable RX8 9, Cond.initialized RX8, Cond.fieldLink RX11 33 "HealLink" "plan" "LHealLink$Steps;", Cond.classLink RX11 37 RX10, Cond.instantiable RX10 5, Cond.initialized RX10, Cond.fieldLink RX11 40 "HealLink" "tape" "LHealLink$Tape;", Cond.classLink RX11 44 RX9, Cond.instantiable RX9 11, Cond.initialized RX9, Cond.fieldLink RX11 47 "HealLink" "survey" "LHealLink$Survey;", Cond.classLink RX11 51 RX7, Cond.instantiable RX7 4, Cond.initialized RX7]
def kw1 : List Cond := [Cond.fieldLink RX11 56 "HealLink" "rules" "LHealLink$Rules;", Cond.fieldLink RX11 64 "HealLink" "state" "J", Cond.instanceMethod yX6_init, Cond.code yX6_init cX6_init 1 none, Cond.methodLink RX6 3 objectInit, Cond.classLink RX6 9 RX2, Cond.instantiable RX2 1, Cond.initialized RX2, Cond.fieldLink RX6 16 "HealLink$Row" "line" "LHealLink$Cells;", Cond.methodLink RX6 13 yX2_init, Cond.instanceMethod yX2_init, Cond.code yX2_init cX2_init 2 none, Cond.methodLink RX2 1 objectInit, Cond.methodLink RX2 7 Lib.Math.max.name, Cond.static Lib.Math.max.name, Cond.initialized "java/lang/Math", Cond.code Lib.Math.max.name Lib.Math.max.code 2 (some .int), Cond.fieldLink RX2 13 "HealLink$Cells" "cells" "[I", Cond.instanceMethod yX0_init, Cond.code yX0_init cX0_init 1 none, Cond.methodLink RX0 3 objectInit, Cond.classLink RX0 9 RX2, Cond.fieldLink RX0 14 "HealLink$Acts" "codes" "LHealLink$Cells;", Cond.methodLink RX0 11 yX2_init, Cond.instanceMethod yX8_init, Cond.code yX8_init cX8_init 1 none, Cond.methodLink RX8 3 objectInit, Cond.classLink RX8 9 RX2, Cond.fieldLink RX8 16 "HealLink$Steps" "what" "LHealLink$Cells;", Cond.fieldLink RX8 20 "HealLink$Steps" "first" "LHealLink$Cells;", Cond.fieldLink RX8 23 "HealLink$Steps" "second" "LHealLink$Cells;", Cond.fieldLink RX8 26 "HealLink$Steps" "opened" "LHealLink$Cells;", Cond.fieldLink RX8 29 "HealLink$Steps" "left" "LHealLink$Cells;", Cond.fieldLink RX8 32 "HealLink$Steps" "doneBefore" "LHealLink$Cells;", Cond.methodLink RX8 13 yX2_init, Cond.instanceMethod yX10_init, Cond.code yX10_init cX10_init 1 none, Cond.methodLink RX10 3 objectInit, Cond.classLink RX10 9 RX2, Cond.fieldLink RX10 16 "HealLink$Tape" "bytes" "LHealLink$Cells;"]
def kw2 : List Cond := [Cond.methodLink RX10 13 yX2_init, Cond.instanceMethod yX9_init, Cond.code yX9_init cX9_init 1 none, Cond.methodLink RX9 3 objectInit, Cond.classLink RX9 9 RX1, Cond.instantiable RX1 7, Cond.initialized RX1, Cond.fieldLink RX9 12 "HealLink$Survey" "atlas" "LHealLink$Atlas;", Cond.classLink RX9 18 RX3, Cond.instantiable RX3 2, Cond.initialized RX3, Cond.fieldLink RX9 21 "HealLink$Survey" "chances" "LHealLink$Chances;", Cond.classLink RX9 25 RX4, Cond.instantiable RX4 8, Cond.initialized RX4, Cond.fieldLink RX9 28 "HealLink$Survey" "depths" "LHealLink$Depths;", Cond.classLink RX9 32 RX5, Cond.instantiable RX5 5, Cond.initialized RX5, Cond.fieldLink RX9 35 "HealLink$Survey" "ranges" "LHealLink$Ranges;", Cond.classLink RX9 39 RX2, Cond.fieldLink RX9 44 "HealLink$Survey" "census" "LHealLink$Cells;", Cond.constantLong RX9 48 (-1), Cond.fieldLink RX9 50 "HealLink$Survey" "charted" "J", Cond.fieldLink RX9 54 "HealLink$Survey" "tried" "J", Cond.instanceMethod yX1_init, Cond.code yX1_init cX1_init 1 none, Cond.methodLink RX1 3 objectInit, Cond.classLink RX1 9 RX2, Cond.fieldLink RX1 14 "HealLink$Atlas" "first" "LHealLink$Cells;", Cond.classLink RX1 20 RX0, Cond.fieldLink RX1 23 "HealLink$Atlas" "acts" "LHealLink$Acts;", Cond.constant RX1 27 (60000), Cond.fieldLink RX1 28 "HealLink$Atlas" "edges" "LHealLink$Cells;", Cond.fieldLink RX1 31 "HealLink$Atlas" "slots" "LHealLink$Cells;", Cond.fieldLink RX1 34 "HealLink$Atlas" "states" "[J", Cond.methodLink RX1 11 yX2_init, Cond.instanceMethod yX3_init, Cond.code yX3_init cX3_init 1 none, Cond.methodLink RX3 3 objectInit]
def kw3 : List Cond := [Cond.arrayClass .double, Cond.fieldLink RX3 9 "HealLink$Chances" "now" "[D", Cond.fieldLink RX3 15 "HealLink$Chances" "then" "[D", Cond.instanceMethod yX4_init, Cond.code yX4_init cX4_init 1 none, Cond.methodLink RX4 3 objectInit, Cond.classLink RX4 9 RX2, Cond.fieldLink RX4 14 "HealLink$Depths" "worst" "LHealLink$Cells;", Cond.fieldLink RX4 20 "HealLink$Depths" "met" "LHealLink$Cells;", Cond.fieldLink RX4 23 "HealLink$Depths" "low" "LHealLink$Cells;", Cond.fieldLink RX4 26 "HealLink$Depths" "stack" "LHealLink$Cells;", Cond.fieldLink RX4 29 "HealLink$Depths" "path" "LHealLink$Cells;", Cond.fieldLink RX4 32 "HealLink$Depths" "nextEdge" "LHealLink$Cells;", Cond.methodLink RX4 11 yX2_init, Cond.instanceMethod yX5_init, Cond.code yX5_init cX5_init 1 none, Cond.methodLink RX5 3 objectInit, Cond.classLink RX5 9 RX2, Cond.fieldLink RX5 14 "HealLink$Ranges" "toBad" "LHealLink$Cells;", Cond.fieldLink RX5 20 "HealLink$Ranges" "toGood" "LHealLink$Cells;", Cond.fieldLink RX5 23 "HealLink$Ranges" "line" "LHealLink$Cells;", Cond.fieldLink RX5 26 "HealLink$Ranges" "firstBack" "LHealLink$Cells;", Cond.constant RX5 29 (60000), Cond.fieldLink RX5 30 "HealLink$Ranges" "sources" "LHealLink$Cells;", Cond.methodLink RX5 11 yX2_init, Cond.methodLink RX9 41 yX2_init, Cond.methodLink RX11 53 yX7_init, Cond.instanceMethod yX7_init, Cond.code yX7_init cX7_init 5 none, Cond.methodLink RX7 5 objectInit, Cond.fieldLink RX7 11 "HealLink$Rules" "capacity" "I", Cond.fieldLink RX7 15 "HealLink$Rules" "labels" "I", Cond.fieldLink RX7 18 "HealLink$Rules" "acks" "I", Cond.fieldLink RX7 21 "HealLink$Rules" "copies" "I", Cond.methodLink RX11 60 yX7_atFirst, Cond.instanceMethod yX7_atFirst, Cond.selects RX7 yX7_atFirst yX7_atFirst, Cond.code yX7_atFirst cX7_atFirst 1 (some .long), Cond.methodLink RL 22 yX12_init, Cond.instanceMethod yX12_init]
def kw4 : List Cond := [Cond.code yX12_init cX12_init 1 none, Cond.methodLink RX12 1 objectInit, Cond.fieldLink RX12 7 "HealLinkModel" "capacity" "I", Cond.fieldLink RX12 13 "HealLinkModel" "labels" "I", Cond.fieldLink RX12 16 "HealLinkModel" "acks" "I", Cond.fieldLink RX12 19 "HealLinkModel" "copies" "I", Cond.fieldLink RX12 22 "HealLinkModel" "queue" "[I", Cond.fieldLink RX12 26 "HealLinkModel" "counts" "[I", Cond.fieldLink RX12 29 "HealLinkModel" "finished" "[I", Cond.fieldLink RX12 32 "HealLinkModel" "delivered" "[I", Cond.fieldLink RX12 35 "HealLinkModel" "imageQueue" "[I", Cond.fieldLink RX12 38 "HealLinkModel" "tape" "[I", Cond.fieldLink RX12 41 "HealLinkModel" "actWhat" "[I", Cond.fieldLink RX12 44 "HealLinkModel" "actLabel" "[I", Cond.fieldLink RX12 47 "HealLinkModel" "actValue" "[I", Cond.fieldLink RX12 50 "HealLinkModel" "states" "[J", Cond.fieldLink RX12 54 "HealLinkModel" "table" "[I", Cond.fieldLink RX12 57 "HealLinkModel" "edgeFrom" "[I", Cond.constant RX12 60 (84000), Cond.fieldLink RX12 61 "HealLinkModel" "edgeTo" "[I", Cond.fieldLink RX12 64 "HealLinkModel" "edgeHow" "[I", Cond.fieldLink RX12 67 "HealLinkModel" "edgeAct" "[I", Cond.fieldLink RX12 70 "HealLinkModel" "edgeLabel" "[I", Cond.fieldLink RX12 73 "HealLinkModel" "edgeValue" "[I", Cond.fieldLink RX12 76 "HealLinkModel" "part" "[I", Cond.fieldLink RX12 79 "HealLinkModel" "low" "[I", Cond.fieldLink RX12 82 "HealLinkModel" "index" "[I", Cond.fieldLink RX12 85 "HealLinkModel" "stack" "[I", Cond.arrayClass .boolean, Cond.fieldLink RX12 88 "HealLinkModel" "isOn" "[Z", Cond.fieldLink RX12 92 "HealLinkModel" "path" "[I", Cond.fieldLink RX12 95 "HealLinkModel" "nextEdge" "[I", Cond.fieldLink RX12 98 "HealLinkModel" "worst" "[I", Cond.fieldLink RX12 101 "HealLinkModel" "byPart" "[I", Cond.fieldLink RX12 104 "HealLinkModel" "partAt" "[I", Cond.fieldLink RX12 107 "HealLinkModel" "far" "[I", Cond.fieldLink RX12 110 "HealLinkModel" "odds" "[D", Cond.fieldLink RX12 114 "HealLinkModel" "thenOdds" "[D", Cond.fieldLink RX12 117 "HealLinkModel" "digitAt" "[I", Cond.fieldLink RX12 120 "HealLinkModel" "digitWide" "[I"]
def kw5 : List Cond := [Cond.fieldLink RX12 123 "HealLinkModel" "digitMany" "[I", Cond.fieldLink RX12 126 "HealLinkModel" "common" "[I", Cond.fieldLink RX12 133 "HealLinkModel" "state" "J", Cond.methodLink RX12 129 yX12_put, Cond.static yX12_put, Cond.code yX12_put cX12_put 5 (some .long), Cond.constantLong RX12 140 (-1), Cond.methodLink RL 23 yX11_set, Cond.instanceMethod yX11_set, Cond.selects RX11 yX11_set yX11_set, Cond.code yX11_set cX11_set 4 (some .int), Cond.fieldLink RX11 80 "HealLink" "queueBits" "I", Cond.fieldLink RX11 84 "HealLink" "queueSize" "I", Cond.fieldLink RX11 87 "HealLink" "kept" "Z", Cond.methodLink RX11 68 yX7_allows, Cond.static yX7_allows, Cond.code yX7_allows cX7_allows 2 (some .boolean), Cond.methodLink RX11 72 yX7_limit, Cond.instanceMethod yX7_limit, Cond.selects RX7 yX7_limit yX7_limit, Cond.code yX7_limit cX7_limit 2 (some .int), Cond.methodLink RX11 76 yX7_with, Cond.instanceMethod yX7_with, Cond.selects RX7 yX7_with yX7_with, Cond.code yX7_with cX7_with 3 (some (.object "HealLink$Rules")), Cond.classLink RX7 1 RX7, Cond.methodLink RX7 24 yX7_init, Cond.methodLink RX11 91 yJ7_fill_53178, Cond.static yJ7_fill_53178, Cond.initialized RJ7, Cond.code yJ7_fill_53178 cJ7_fill_53178 4 none, Cond.methodLink RX11 97 yX6_empty, Cond.instanceMethod yX6_empty, Cond.selects RX6 yX6_empty yX6_empty, Cond.code yX6_empty cX6_empty 1 none, Cond.fieldLink RX6 20 "HealLink$Row" "size" "I", Cond.fieldLink RX6 24 "HealLink$Row" "bits" "J", Cond.methodLink RX11 100 yX9_forget, Cond.instanceMethod yX9_forget, Cond.selects RX9 yX9_forget yX9_forget]
def kw6 : List Cond := [Cond.code yX9_forget cX9_forget 1 none, Cond.fieldLink RX9 57 "HealLink$Survey" "counted" "Z", Cond.methodLink RL 27 yX12_set, Cond.instanceMethod yX12_set, Cond.selects RX12 yX12_set yX12_set, Cond.code yX12_set cX12_set 4 (some .int), Cond.fieldLink RX12 137 "HealLinkModel" "thrown" "I", Cond.methodLink RX12 159 yX12_within, Cond.static yX12_within, Cond.code yX12_within cX12_within 3 (some .boolean), Cond.methodLink RX12 163 yX12_empties, Cond.instanceMethod yX12_empties, Cond.selects RX12 yX12_empties yX12_empties, Cond.code yX12_empties cX12_empties 2 none, Cond.fieldLink RX12 146 "HealLinkModel" "queued" "I", Cond.fieldLink RX12 149 "HealLinkModel" "finishedMany" "I", Cond.fieldLink RX12 152 "HealLinkModel" "deliveredMany" "I", Cond.fieldLink RX12 155 "HealLinkModel" "hasImage" "Z", Cond.methodLink RL 28 yX11_sender, Cond.instanceMethod yX11_sender, Cond.selects RX11 yX11_sender yX11_sender, Cond.code yX11_sender cX11_sender 5 (some .boolean), Cond.fieldLink RX11 106 "HealLink$Rules" "acks" "I", Cond.methodLink RX11 103 yX7_hasKind, Cond.instanceMethod yX7_hasKind, Cond.selects RX7 yX7_hasKind yX7_hasKind, Cond.code yX7_hasKind cX7_hasKind 3 (some .boolean), Cond.methodLink RX7 27 yX7_hasLabel, Cond.instanceMethod yX7_hasLabel, Cond.selects RX7 yX7_hasLabel yX7_hasLabel, Cond.code yX7_hasLabel cX7_hasLabel 2 (some .boolean), Cond.methodLink RX11 109 yX7_withSender, Cond.static yX7_withSender, Cond.code yX7_withSender cX7_withSender 6 (some .long), Cond.constantLong RX7 49 (-558551906910209), Cond.constantLong RX7 51 (4398046511104), Cond.methodLink RL 32 yX12_sender, Cond.instanceMethod yX12_sender, Cond.selects RX12 yX12_sender yX12_sender, Cond.code yX12_sender cX12_sender 5 (some .boolean)]
def kw7 : List Cond := [Cond.methodLink RX12 170 yX12_isSort, Cond.instanceMethod yX12_isSort, Cond.selects RX12 yX12_isSort yX12_isSort, Cond.code yX12_isSort cX12_isSort 3 (some .boolean), Cond.methodLink RX12 166 yX12_isLabel, Cond.instanceMethod yX12_isLabel, Cond.selects RX12 yX12_isLabel yX12_isLabel, Cond.code yX12_isLabel cX12_isLabel 2 (some .boolean), Cond.methodLink RL 33 yX11_last, Cond.instanceMethod yX11_last, Cond.selects RX11 yX11_last yX11_last, Cond.code yX11_last cX11_last 3 (some .int), Cond.methodLink RX11 113 yX7_hasLabel, Cond.methodLink RX11 117 yX7_lastOf, Cond.static yX7_lastOf, Cond.code yX7_lastOf cX7_lastOf 2 (some .int), Cond.methodLink RX11 121 yX7_withLast, Cond.static yX7_withLast, Cond.code yX7_withLast cX7_withLast 3 (some .long), Cond.constantLong RX7 55 (-3298534883329), Cond.methodLink RL 36 yX12_last, Cond.instanceMethod yX12_last, Cond.selects RX12 yX12_last yX12_last, Cond.code yX12_last cX12_last 3 (some .int), Cond.methodLink RX12 142 yX12_get, Cond.static yX12_get, Cond.code yX12_get cX12_get 4 (some .int), Cond.methodLink RL 37 yX11_seen, Cond.instanceMethod yX11_seen, Cond.selects RX11 yX11_seen yX11_seen, Cond.code yX11_seen cX11_seen 4 (some .int), Cond.fieldLink RX11 125 "HealLink$Rules" "copies" "I", Cond.methodLink RX11 128 yX7_seenAt, Cond.static yX7_seenAt, Cond.code yX7_seenAt cX7_seenAt 1 (some .int), Cond.methodLink RX11 131 yX11_put, Cond.instanceMethod yX11_put, Cond.selects RX11 yX11_put yX11_put, Cond.code yX11_put cX11_put 4 (some .int), Cond.methodLink RX11 141 yX7_digit]
def kw8 : List Cond := [Cond.static yX7_digit, Cond.code yX7_digit cX7_digit 3 (some .int), Cond.methodLink RX11 299 yX7_withDigit, Cond.static yX7_withDigit, Cond.code yX7_withDigit cX7_withDigit 4 (some .long), Cond.constantLong RX7 31 (3), Cond.constantLong RX7 33 (-1), Cond.methodLink RL 40 yX12_seen, Cond.instanceMethod yX12_seen, Cond.selects RX12 yX12_seen yX12_seen, Cond.code yX12_seen cX12_seen 5 (some .int), Cond.methodLink RX12 174 yX12_seenAt, Cond.static yX12_seenAt, Cond.code yX12_seenAt cX12_seenAt 2 (some .int), Cond.methodLink RL 41 yX11_packets, Cond.instanceMethod yX11_packets, Cond.selects RX11 yX11_packets yX11_packets, Cond.code yX11_packets cX11_packets 6 (some .int), Cond.fieldLink RX11 145 "HealLink$Rules" "capacity" "I", Cond.methodLink RX11 135 yX7_packetsAt, Cond.static yX7_packetsAt, Cond.code yX7_packetsAt cX7_packetsAt 1 (some .int), Cond.methodLink RX11 138 yX7_packetsIn, Cond.static yX7_packetsIn, Cond.code yX7_packetsIn cX7_packetsIn 4 (some .int), Cond.constantLong RX7 35 (21845), Cond.constantLong RX7 43 (43690), Cond.methodLink RX7 37 yJ13_bitCount_95d88, Cond.static yJ13_bitCount_95d88, Cond.initialized RJ13, Cond.code yJ13_bitCount_95d88 cJ13_bitCount_95d88 2 (some .int), Cond.constantLong RJ13 314 (6148914691236517205), Cond.constantLong RJ13 316 (3689348814741910323), Cond.constantLong RJ13 318 (1085102592571150095), Cond.methodLink RL 44 yX12_packets, Cond.instanceMethod yX12_packets, Cond.selects RX12 yX12_packets yX12_packets, Cond.code yX12_packets cX12_packets 5 (some .int), Cond.methodLink RX12 178 yX12_packetAt, Cond.static yX12_packetAt]
def kw9 : List Cond := [Cond.code yX12_packetAt cX12_packetAt 2 (some .int), Cond.methodLink RX12 181 yX12_packetsOf, Cond.static yX12_packetsOf, Cond.code yX12_packetsOf cX12_packetsOf 4 (some .int), Cond.methodLink RL 45 yX11_letters, Cond.instanceMethod yX11_letters, Cond.selects RX11 yX11_letters yX11_letters, Cond.code yX11_letters cX11_letters 5 (some .int), Cond.methodLink RX11 148 yX7_lettersAt, Cond.static yX7_lettersAt, Cond.code yX7_lettersAt cX7_lettersAt 1 (some .int), Cond.methodLink RX11 151 yX7_lettersIn, Cond.static yX7_lettersIn, Cond.code yX7_lettersIn cX7_lettersIn 2 (some .int), Cond.constantLong RX7 45 (85), Cond.constantLong RX7 47 (170), Cond.methodLink RL 48 yX12_letters, Cond.instanceMethod yX12_letters, Cond.selects RX12 yX12_letters yX12_letters, Cond.code yX12_letters cX12_letters 4 (some .int), Cond.methodLink RX12 185 yX12_letterAt, Cond.static yX12_letterAt, Cond.code yX12_letterAt cX12_letterAt 1 (some .int), Cond.methodLink RX12 189 yX12_lettersOf, Cond.static yX12_lettersOf, Cond.code yX12_lettersOf cX12_lettersOf 4 (some .int), Cond.methodLink RL 49 yX11_queue, Cond.instanceMethod yX11_queue, Cond.selects RX11 yX11_queue yX11_queue, Cond.code yX11_queue cX11_queue 3 (some .int), Cond.methodLink RL 52 yX12_queue, Cond.instanceMethod yX12_queue, Cond.selects RX12 yX12_queue yX12_queue, Cond.code yX12_queue cX12_queue 4 (some .int), Cond.methodLink RL 53 yX11_act, Cond.instanceMethod yX11_act, Cond.selects RX11 yX11_act yX11_act, Cond.code yX11_act cX11_act 4 (some .int), Cond.methodLink RX11 154 yX7_offers, Cond.instanceMethod yX7_offers]
def kw10 : List Cond := [Cond.selects RX7 yX7_offers yX7_offers, Cond.code yX7_offers cX7_offers 6 (some .boolean), Cond.methodLink RX7 63 yX7_hasKind, Cond.methodLink RX7 67 yX7_packetsAt, Cond.methodLink RX7 71 yX7_digit, Cond.methodLink RX7 75 yX7_lettersAt, Cond.methodLink RX11 158 yX0_codeOf, Cond.static yX0_codeOf, Cond.code yX0_codeOf cX0_codeOf 3 (some .int), Cond.methodLink RX11 162 yX11_perform, Cond.instanceMethod yX11_perform, Cond.selects RX11 yX11_perform yX11_perform, Cond.code yX11_perform cX11_perform 7 (some .int), Cond.constantLong RX11 312 (562949953421311), Cond.constantLong RX11 324 (72057594037927936), Cond.constantLong RX11 326 (144115188075855872), Cond.methodLink RX11 192 yX7_valueOf, Cond.static yX7_valueOf, Cond.code yX7_valueOf cX7_valueOf 2 (some .int), Cond.methodLink RX11 303 yX0_withTold, Cond.static yX0_withTold, Cond.code yX0_withTold cX0_withTold 2 (some .int), Cond.methodLink RX11 306 yX7_after, Cond.instanceMethod yX7_after, Cond.selects RX7 yX7_after yX7_after, Cond.code yX7_after cX7_after 5 (some .long), Cond.constantLong RX7 101 (72057594037927936), Cond.constantLong RX7 103 (144115188075855872), Cond.methodLink RX7 78 yX0_kindOf, Cond.static yX0_kindOf, Cond.code yX0_kindOf cX0_kindOf 1 (some .int), Cond.methodLink RX7 83 yX0_whichOf, Cond.static yX0_whichOf, Cond.code yX0_whichOf cX0_whichOf 1 (some .int), Cond.methodLink RX7 86 yX7_afterSend, Cond.instanceMethod yX7_afterSend, Cond.selects RX7 yX7_afterSend yX7_afterSend, Cond.code yX7_afterSend cX7_afterSend 3 (some .long), Cond.methodLink RX7 105 yX7_packetsIn, Cond.methodLink RX7 90 yX7_afterArrive]
def kw11 : List Cond := [Cond.instanceMethod yX7_afterArrive, Cond.selects RX7 yX7_afterArrive yX7_afterArrive, Cond.code yX7_afterArrive cX7_afterArrive 7 (some .long), Cond.methodLink RX7 108 yX7_lastOf, Cond.methodLink RX7 111 yX7_seenAt, Cond.methodLink RX7 114 yX7_afterDelivery, Cond.static yX7_afterDelivery, Cond.code yX7_afterDelivery cX7_afterDelivery 5 (some .long), Cond.constantLong RX7 120 (-1099494850561), Cond.constantLong RX7 125 (9007199254740992), Cond.constantLong RX7 131 (13510798882111488), Cond.constantLong RX7 133 (4503599627370496), Cond.methodLink RX7 122 yX7_withLast, Cond.methodLink RX7 127 yX7_takenOf, Cond.static yX7_takenOf, Cond.code yX7_takenOf cX7_takenOf 2 (some .boolean), Cond.methodLink RX7 117 yX7_lettersIn, Cond.methodLink RX7 94 yX0_toldOf, Cond.static yX0_toldOf, Cond.code yX0_toldOf cX0_toldOf 1 (some .int), Cond.methodLink RX7 97 yX7_afterCome, Cond.instanceMethod yX7_afterCome, Cond.selects RX7 yX7_afterCome yX7_afterCome, Cond.code yX7_afterCome cX7_afterCome 10 (some .long), Cond.constantLong RX7 139 (8796093022208), Cond.constantLong RX7 141 (4), Cond.constantLong RX7 143 (5), Cond.methodLink RX7 57 yX7_labelOf, Cond.static yX7_labelOf, Cond.code yX7_labelOf cX7_labelOf 2 (some .int), Cond.methodLink RX7 135 yX7_goesOnBy, Cond.instanceMethod yX7_goesOnBy, Cond.selects RX7 yX7_goesOnBy yX7_goesOnBy, Cond.code yX7_goesOnBy cX7_goesOnBy 4 (some .boolean), Cond.methodLink RX7 60 yX7_acksOf, Cond.static yX7_acksOf, Cond.code yX7_acksOf cX7_acksOf 2 (some .int), Cond.methodLink RX7 145 yX7_withSender, Cond.methodLink RX11 309 yX7_outcomeOf, Cond.static yX7_outcomeOf]
def kw12 : List Cond := [Cond.code yX7_outcomeOf cX7_outcomeOf 2 (some .int), Cond.methodLink RX11 314 yX0_kindOf, Cond.methodLink RX11 317 yX6_add, Cond.instanceMethod yX6_add, Cond.selects RX6 yX6_add yX6_add, Cond.code yX6_add cX6_add 2 none, Cond.methodLink RX6 28 Lib.Math.min.name, Cond.static Lib.Math.min.name, Cond.code Lib.Math.min.name Lib.Math.min.code 2 (some .int), Cond.methodLink RX11 321 yX11_takeFromQueue, Cond.instanceMethod yX11_takeFromQueue, Cond.selects RX11 yX11_takeFromQueue yX11_takeFromQueue, Cond.code yX11_takeFromQueue cX11_takeFromQueue 1 none, Cond.methodLink RL 56 yX12_act, Cond.instanceMethod yX12_act, Cond.selects RX12 yX12_act yX12_act, Cond.code yX12_act cX12_act 4 (some .int), Cond.methodLink RX12 224 yX12_isThere, Cond.instanceMethod yX12_isThere, Cond.selects RX12 yX12_isThere yX12_isThere, Cond.code yX12_isThere cX12_isThere 6 (some .boolean), Cond.methodLink RX12 228 yX12_acts, Cond.instanceMethod yX12_acts, Cond.selects RX12 yX12_acts yX12_acts, Cond.code yX12_acts cX12_acts 7 (some .int), Cond.fieldLink RX12 213 "HealLinkModel" "wanted" "I", Cond.fieldLink RX12 192 "HealLinkModel" "then" "J", Cond.fieldLink RX12 198 "HealLinkModel" "isLost" "Z", Cond.fieldLink RX12 195 "HealLinkModel" "outcome" "I", Cond.methodLink RX12 216 yX12_does, Cond.instanceMethod yX12_does, Cond.selects RX12 yX12_does yX12_does, Cond.code yX12_does cX12_does 7 none, Cond.methodLink RX12 201 yX12_more, Cond.static yX12_more, Cond.code yX12_more cX12_more 4 (some .long), Cond.methodLink RX12 205 yX12_sees, Cond.instanceMethod yX12_sees, Cond.selects RX12 yX12_sees yX12_sees, Cond.code yX12_sees cX12_sees 5 none]
def kw13 : List Cond := [Cond.methodLink RX12 209 yX12_counts1, Cond.instanceMethod yX12_counts1, Cond.selects RX12 yX12_counts1 yX12_counts1, Cond.code yX12_counts1 cX12_counts1 3 none, Cond.methodLink RX12 220 yX12_comesTo, Cond.static yX12_comesTo, Cond.code yX12_comesTo cX12_comesTo 4 (some .int), Cond.methodLink RL 57 yX11_run, Cond.instanceMethod yX11_run, Cond.selects RX11 yX11_run yX11_run, Cond.code yX11_run cX11_run 8 (some .int), Cond.constant RX11 169 (1103515245), Cond.fieldLink RX11 174 "HealLink$Acts" "size" "I", Cond.fieldLink RX11 177 "HealLink$Acts" "withoutLose" "I", Cond.fieldLink RX11 180 "HealLink$Acts" "codes" "LHealLink$Cells;", Cond.methodLink RX11 165 yX11_badOnes, Cond.instanceMethod yX11_badOnes, Cond.selects RX11 yX11_badOnes yX11_badOnes, Cond.code yX11_badOnes cX11_badOnes 1 (some .int), Cond.methodLink RX11 170 yX0_list, Cond.instanceMethod yX0_list, Cond.selects RX0 yX0_list yX0_list, Cond.code yX0_list cX0_list 6 none, Cond.fieldLink RX0 30 "HealLink$Acts" "size" "I", Cond.fieldLink RX0 41 "HealLink$Rules" "labels" "I", Cond.fieldLink RX0 61 "HealLink$Acts" "withoutLose" "I", Cond.methodLink RX0 34 yX0_add, Cond.instanceMethod yX0_add, Cond.selects RX0 yX0_add yX0_add, Cond.code yX0_add cX0_add 2 none, Cond.methodLink RX0 67 yX2_put, Cond.instanceMethod yX2_put, Cond.selects RX2 yX2_put yX2_put, Cond.code yX2_put cX2_put 3 none, Cond.methodLink RX0 37 yX0_addPackets, Cond.instanceMethod yX0_addPackets, Cond.selects RX0 yX0_addPackets yX0_addPackets, Cond.code yX0_addPackets cX0_addPackets 6 none, Cond.methodLink RX0 64 yX7_packetsAt, Cond.methodLink RX0 49 yX7_digit]
def kw14 : List Cond := [Cond.methodLink RX0 46 yX7_lettersAt, Cond.methodLink RX0 53 yX7_goesOnBy, Cond.methodLink RX0 57 yX0_withTold, Cond.methodLink RX11 184 yX2_at, Cond.instanceMethod yX2_at, Cond.selects RX2 yX2_at yX2_at, Cond.code yX2_at cX2_at 2 (some .int), Cond.methodLink RL 61 yX12_run, Cond.instanceMethod yX12_run, Cond.selects RX12 yX12_run yX12_run, Cond.code yX12_run cX12_run 8 (some .int), Cond.constant RX12 239 (1103515245), Cond.methodLink RX12 240 yX12_laysActs, Cond.instanceMethod yX12_laysActs, Cond.selects RX12 yX12_laysActs yX12_laysActs, Cond.code yX12_laysActs cX12_laysActs 5 (some .int), Cond.methodLink RX12 232 yX12_lays, Cond.instanceMethod yX12_lays, Cond.selects RX12 yX12_lays yX12_lays, Cond.code yX12_lays cX12_lays 5 (some .int), Cond.methodLink RX12 236 yX12_laysSort, Cond.instanceMethod yX12_laysSort, Cond.selects RX12 yX12_laysSort yX12_laysSort, Cond.code yX12_laysSort cX12_laysSort 8 (some .int), Cond.methodLink RX12 244 yX12_isBad, Cond.static yX12_isBad, Cond.code yX12_isBad cX12_isBad 1 (some .boolean), Cond.methodLink RL 62 yX11_of, Cond.instanceMethod yX11_of, Cond.selects RX11 yX11_of yX11_of, Cond.code yX11_of cX11_of 2 (some .int), Cond.fieldLink RX11 202 "HealLink$Rules" "labels" "I", Cond.fieldLink RX11 205 "HealLink$Tape" "length" "I", Cond.methodLink RX11 189 yX7_labelOf, Cond.methodLink RX11 195 yX7_acksOf, Cond.methodLink RX11 198 yX7_takenOf, Cond.methodLink RL 65 yX12_of, Cond.instanceMethod yX12_of, Cond.selects RX12 yX12_of yX12_of, Cond.code yX12_of cX12_of 2 (some .int)]
def kw15 : List Cond := [Cond.fieldLink RX12 247 "HealLinkModel" "taped" "I", Cond.methodLink RL 66 yL_kind, Cond.static yL_kind, Cond.initialized RL, Cond.codeWith yL_kind cL_kind 6 (some .int) [(0, 12, 15, 13)], Cond.classLink RL 13 "java/util/NoSuchElementException", Cond.methodLink RL 7 yX11_kind, Cond.instanceMethod yX11_kind, Cond.selects RX11 yX11_kind yX11_kind, Cond.code yX11_kind cX11_kind 5 (some .int), Cond.classLink RX11 208 "java/util/NoSuchElementException", Cond.initialized "java/util/NoSuchElementException", Cond.methodLink RL 71 yX12_kind, Cond.instanceMethod yX12_kind, Cond.selects RX12 yX12_kind yX12_kind, Cond.code yX12_kind cX12_kind 4 (some .int), Cond.methodLink RL 72 yX12_thrown, Cond.instanceMethod yX12_thrown, Cond.selects RX12 yX12_thrown yX12_thrown, Cond.code yX12_thrown cX12_thrown 1 (some .int), Cond.methodLink RL 76 yL_queued, Cond.static yL_queued, Cond.codeWith yL_queued cL_queued 4 (some .int) [(0, 9, 12, 13)], Cond.methodLink RL 15 yX11_queued, Cond.instanceMethod yX11_queued, Cond.selects RX11 yX11_queued yX11_queued, Cond.code yX11_queued cX11_queued 2 (some .int), Cond.methodLink RL 79 yX12_queued, Cond.instanceMethod yX12_queued, Cond.selects RX12 yX12_queued yX12_queued, Cond.code yX12_queued cX12_queued 2 (some .int), Cond.methodLink RL 80 yX11_count, Cond.instanceMethod yX11_count, Cond.selects RX11 yX11_count yX11_count, Cond.code yX11_count cX11_count 2 (some .int), Cond.methodLink RL 83 yX12_count, Cond.instanceMethod yX12_count, Cond.selects RX12 yX12_count yX12_count, Cond.code yX12_count cX12_count 2 (some .int), Cond.methodLink RL 84 yX11_possible]
def kw16 : List Cond := [Cond.instanceMethod yX11_possible, Cond.selects RX11 yX11_possible yX11_possible, Cond.code yX11_possible cX11_possible 3 (some .int), Cond.methodLink RX11 217 yX0_part, Cond.static yX0_part, Cond.code yX0_part cX0_part 3 (some .int), Cond.methodLink RX0 20 yX0_whichOf, Cond.methodLink RX0 24 yX0_toldOf, Cond.methodLink RX0 27 yX0_kindOf, Cond.methodLink RL 87 yX12_possible, Cond.instanceMethod yX12_possible, Cond.selects RX12 yX12_possible yX12_possible, Cond.code yX12_possible cX12_possible 4 (some .int), Cond.methodLink RL 88 yX11_reached, Cond.instanceMethod yX11_reached, Cond.selects RX11 yX11_reached yX11_reached, Cond.code yX11_reached cX11_reached 1 (some .int), Cond.fieldLink RX11 224 "HealLink$Survey" "atlas" "LHealLink$Atlas;", Cond.fieldLink RX11 228 "HealLink$Atlas" "size" "I", Cond.methodLink RX11 220 yX9_covers, Cond.instanceMethod yX9_covers, Cond.selects RX9 yX9_covers yX9_covers, Cond.code yX9_covers cX9_covers 4 (some .boolean), Cond.fieldLink RX9 65 "HealLink$Survey" "measured" "Z", Cond.fieldLink RX9 68 "HealLink$Survey" "ranged" "Z", Cond.fieldLink RX9 71 "HealLink$Atlas" "known" "Z", Cond.methodLink RX9 61 yX1_chart, Cond.instanceMethod yX1_chart, Cond.selects RX1 yX1_chart yX1_chart, Cond.code yX1_chart cX1_chart 4 none, Cond.fieldLink RX1 49 "HealLink$Atlas" "known" "Z", Cond.methodLink RX1 38 yX1_clear, Cond.instanceMethod yX1_clear, Cond.selects RX1 yX1_clear yX1_clear, Cond.code yX1_clear cX1_clear 1 none, Cond.fieldLink RX1 65 "HealLink$Atlas" "size" "I", Cond.methodLink RX1 69 yX2_put, Cond.methodLink RX1 73 yX2_fill, Cond.instanceMethod yX2_fill, Cond.selects RX2 yX2_fill yX2_fill]
def kw17 : List Cond := [Cond.code yX2_fill cX2_fill 2 none, Cond.methodLink RX2 19 yJ7_fill_53178, Cond.methodLink RX1 41 yX1_numberOf, Cond.instanceMethod yX1_numberOf, Cond.selects RX1 yX1_numberOf yX1_numberOf, Cond.code yX1_numberOf cX1_numberOf 6 (some .int), Cond.constantLong RX1 100 (-7046029254386353131), Cond.methodLink RX1 61 yX2_at, Cond.methodLink RX1 102 yX1_append, Cond.instanceMethod yX1_append, Cond.selects RX1 yX1_append yX1_append, Cond.code yX1_append cX1_append 4 (some .int), Cond.methodLink RX1 76 yX1_stateAt, Cond.instanceMethod yX1_stateAt, Cond.selects RX1 yX1_stateAt yX1_stateAt, Cond.code yX1_stateAt cX1_stateAt 2 (some .long), Cond.methodLink RX1 45 yX1_expandAll, Cond.instanceMethod yX1_expandAll, Cond.selects RX1 yX1_expandAll yX1_expandAll, Cond.code yX1_expandAll cX1_expandAll 8 (some .boolean), Cond.fieldLink RX1 84 "HealLink$Acts" "size" "I", Cond.fieldLink RX1 85 "HealLink$Acts" "codes" "LHealLink$Cells;", Cond.constantLong RX1 92 (562949953421311), Cond.methodLink RX1 80 yX0_list, Cond.methodLink RX1 88 yX7_after, Cond.methodLink RX1 94 yX7_outcomeOf, Cond.methodLink RX1 97 yX1_markOf, Cond.static yX1_markOf, Cond.code yX1_markOf cX1_markOf 1 (some .int), Cond.methodLink RL 91 yX12_reached, Cond.instanceMethod yX12_reached, Cond.selects RX12 yX12_reached yX12_reached, Cond.code yX12_reached cX12_reached 1 (some .int), Cond.fieldLink RX12 255 "HealLinkModel" "many" "I", Cond.methodLink RX12 278 yX12_reaches, Cond.instanceMethod yX12_reaches, Cond.selects RX12 yX12_reaches yX12_reaches, Cond.code yX12_reaches cX12_reaches 5 (some .boolean), Cond.methodLink RX12 272 yX12_begins, Cond.instanceMethod yX12_begins]
def kw18 : List Cond := [Cond.selects RX12 yX12_begins yX12_begins, Cond.code yX12_begins cX12_begins 2 none, Cond.fieldLink RX12 258 "HealLinkModel" "edges" "I", Cond.methodLink RX12 264 yX12_comes, Cond.instanceMethod yX12_comes, Cond.selects RX12 yX12_comes yX12_comes, Cond.code yX12_comes cX12_comes 4 none, Cond.methodLink RX12 252 yX12_slotOf, Cond.static yX12_slotOf, Cond.code yX12_slotOf cX12_slotOf 4 (some .int), Cond.constantLong RX12 250 (7046029254386353131), Cond.methodLink RX12 275 yX12_edgesOf, Cond.instanceMethod yX12_edgesOf, Cond.selects RX12 yX12_edgesOf yX12_edgesOf, Cond.code yX12_edgesOf cX12_edgesOf 4 (some .boolean), Cond.methodLink RX12 268 yX12_edge, Cond.instanceMethod yX12_edge, Cond.selects RX12 yX12_edge yX12_edge, Cond.code yX12_edge cX12_edge 8 (some .boolean), Cond.methodLink RX12 261 yX12_numberOf, Cond.instanceMethod yX12_numberOf, Cond.selects RX12 yX12_numberOf yX12_numberOf, Cond.code yX12_numberOf cX12_numberOf 4 (some .int), Cond.methodLink RL 92 yX11_worst, Cond.instanceMethod yX11_worst, Cond.selects RX11 yX11_worst yX11_worst, Cond.code yX11_worst cX11_worst 1 (some .int), Cond.methodLink RX11 231 yX9_greatest, Cond.instanceMethod yX9_greatest, Cond.selects RX9 yX9_greatest yX9_greatest, Cond.code yX9_greatest cX9_greatest 1 (some .int), Cond.fieldLink RX9 78 "HealLink$Depths" "worst" "LHealLink$Cells;", Cond.methodLink RX9 74 yX4_measure, Cond.instanceMethod yX4_measure, Cond.selects RX4 yX4_measure yX4_measure, Cond.code yX4_measure cX4_measure 3 none, Cond.fieldLink RX4 38 "HealLink$Depths" "clock" "I", Cond.fieldLink RX4 42 "HealLink$Depths" "height" "I", Cond.fieldLink RX4 45 "HealLink$Atlas" "size" "I", Cond.methodLink RX4 35 yX2_fill]
def kw19 : List Cond := [Cond.methodLink RX4 50 yX2_at, Cond.methodLink RX4 54 yX4_visit, Cond.instanceMethod yX4_visit, Cond.selects RX4 yX4_visit yX4_visit, Cond.code yX4_visit cX4_visit 9 none, Cond.fieldLink RX4 62 "HealLink$Atlas" "first" "LHealLink$Cells;", Cond.methodLink RX4 58 yX4_enter, Cond.instanceMethod yX4_enter, Cond.selects RX4 yX4_enter yX4_enter, Cond.code yX4_enter cX4_enter 4 none, Cond.methodLink RX4 65 yX2_put, Cond.methodLink RX4 69 yX1_targetOf, Cond.instanceMethod yX1_targetOf, Cond.selects RX1 yX1_targetOf yX1_targetOf, Cond.code yX1_targetOf cX1_targetOf 2 (some .int), Cond.methodLink RX4 72 yX4_lower, Cond.instanceMethod yX4_lower, Cond.selects RX4 yX4_lower yX4_lower, Cond.code yX4_lower cX4_lower 3 none, Cond.methodLink RX4 78 Lib.Math.min.name, Cond.methodLink RX4 75 yX4_closeAt, Cond.instanceMethod yX4_closeAt, Cond.selects RX4 yX4_closeAt yX4_closeAt, Cond.code yX4_closeAt cX4_closeAt 7 none, Cond.methodLink RX4 84 yX4_greatestOf, Cond.instanceMethod yX4_greatestOf, Cond.selects RX4 yX4_greatestOf yX4_greatestOf, Cond.code yX4_greatestOf cX4_greatestOf 7 (some .int), Cond.methodLink RX4 91 yX1_hasMark, Cond.instanceMethod yX1_hasMark, Cond.selects RX1 yX1_hasMark yX1_hasMark, Cond.code yX1_hasMark cX1_hasMark 3 (some .boolean), Cond.methodLink RX4 88 yX4_greater, Cond.static yX4_greater, Cond.code yX4_greater cX4_greater 2 (some .int), Cond.methodLink RX9 81 yX2_at, Cond.methodLink RL 95 yX12_worst, Cond.instanceMethod yX12_worst, Cond.selects RX12 yX12_worst yX12_worst, Cond.code yX12_worst cX12_worst 1 (some .int)]
def kw20 : List Cond := [Cond.methodLink RX12 304 yX12_laysWorst, Cond.instanceMethod yX12_laysWorst, Cond.selects RX12 yX12_laysWorst yX12_laysWorst, Cond.code yX12_laysWorst cX12_laysWorst 3 none, Cond.fieldLink RX12 288 "HealLinkModel" "parts" "I", Cond.fieldLink RX12 282 "HealLinkModel" "indexed" "I", Cond.fieldLink RX12 285 "HealLinkModel" "stacked" "I", Cond.methodLink RX12 297 yX12_walks, Cond.instanceMethod yX12_walks, Cond.selects RX12 yX12_walks yX12_walks, Cond.code yX12_walks cX12_walks 5 none, Cond.methodLink RX12 291 yX12_enters, Cond.instanceMethod yX12_enters, Cond.selects RX12 yX12_enters yX12_enters, Cond.code yX12_enters cX12_enters 2 none, Cond.methodLink RX12 294 yX12_leaves, Cond.instanceMethod yX12_leaves, Cond.selects RX12 yX12_leaves yX12_leaves, Cond.code yX12_leaves cX12_leaves 3 none, Cond.methodLink RX12 300 yX12_looksAt, Cond.instanceMethod yX12_looksAt, Cond.selects RX12 yX12_looksAt yX12_looksAt, Cond.code yX12_looksAt cX12_looksAt 7 none, Cond.constant RX12 303 (1000000), Cond.methodLink RX12 307 yX12_told, Cond.static yX12_told, Cond.code yX12_told cX12_told 1 (some .int), Cond.methodLink RL 96 yX11_soonest, Cond.instanceMethod yX11_soonest, Cond.selects RX11 yX11_soonest yX11_soonest, Cond.code yX11_soonest cX11_soonest 1 (some .int), Cond.methodLink RX11 234 yX9_actsToBad, Cond.instanceMethod yX9_actsToBad, Cond.selects RX9 yX9_actsToBad yX9_actsToBad, Cond.code yX9_actsToBad cX9_actsToBad 1 (some .int), Cond.fieldLink RX9 89 "HealLink$Ranges" "toBad" "LHealLink$Cells;", Cond.methodLink RX9 86 yX9_range, Cond.instanceMethod yX9_range, Cond.selects RX9 yX9_range yX9_range, Cond.code yX9_range cX9_range 1 none]
def kw21 : List Cond := [Cond.methodLink RX9 85 yX5_measure, Cond.instanceMethod yX5_measure, Cond.selects RX5 yX5_measure yX5_measure, Cond.code yX5_measure cX5_measure 2 none, Cond.methodLink RX5 33 yX5_turnRound, Cond.instanceMethod yX5_turnRound, Cond.selects RX5 yX5_turnRound yX5_turnRound, Cond.code yX5_turnRound cX5_turnRound 7 none, Cond.fieldLink RX5 43 "HealLink$Atlas" "first" "LHealLink$Cells;", Cond.fieldLink RX5 46 "HealLink$Atlas" "size" "I", Cond.methodLink RX5 50 yX2_at, Cond.methodLink RX5 54 yX2_fill, Cond.methodLink RX5 57 yX1_targetOf, Cond.methodLink RX5 60 yX2_put, Cond.methodLink RX5 39 yX5_spread, Cond.instanceMethod yX5_spread, Cond.selects RX5 yX5_spread yX5_spread, Cond.code yX5_spread cX5_spread 9 none, Cond.methodLink RX5 64 yX5_canDo, Cond.static yX5_canDo, Cond.code yX5_canDo cX5_canDo 4 (some .boolean), Cond.methodLink RX5 68 yX1_hasMark, Cond.methodLink RL 99 yX12_soonest, Cond.instanceMethod yX12_soonest, Cond.selects RX12 yX12_soonest yX12_soonest, Cond.code yX12_soonest cX12_soonest 1 (some .int), Cond.methodLink RX12 318 yX12_laysFar, Cond.instanceMethod yX12_laysFar, Cond.selects RX12 yX12_laysFar yX12_laysFar, Cond.code yX12_laysFar cX12_laysFar 5 none, Cond.methodLink RX12 314 yX12_canBy, Cond.instanceMethod yX12_canBy, Cond.selects RX12 yX12_canBy yX12_canBy, Cond.code yX12_canBy cX12_canBy 5 (some .boolean), Cond.methodLink RX12 310 yX12_isWanted, Cond.static yX12_isWanted, Cond.code yX12_isWanted cX12_isWanted 2 (some .boolean), Cond.methodLink RL 100 yX11_way, Cond.instanceMethod yX11_way, Cond.selects RX11 yX11_way yX11_way]
def kw22 : List Cond := [Cond.code yX11_way cX11_way 4 (some .int), Cond.methodLink RX11 237 yX9_codeOnWay, Cond.instanceMethod yX9_codeOnWay, Cond.selects RX9 yX9_codeOnWay yX9_codeOnWay, Cond.code yX9_codeOnWay cX9_codeOnWay 5 (some .int), Cond.fieldLink RX9 109 "HealLink$Atlas" "acts" "LHealLink$Acts;", Cond.fieldLink RX9 123 "HealLink$Acts" "codes" "LHealLink$Cells;", Cond.fieldLink RX9 126 "HealLink$Atlas" "first" "LHealLink$Cells;", Cond.methodLink RX9 103 yX9_soonestEdge, Cond.instanceMethod yX9_soonestEdge, Cond.selects RX9 yX9_soonestEdge yX9_soonestEdge, Cond.code yX9_soonestEdge cX9_soonestEdge 5 (some .int), Cond.methodLink RX9 129 yX1_hasMark, Cond.methodLink RX9 106 yX1_targetOf, Cond.methodLink RX9 113 yX1_stateAt, Cond.methodLink RX9 117 yX0_list, Cond.methodLink RL 103 yX12_way, Cond.instanceMethod yX12_way, Cond.selects RX12 yX12_way yX12_way, Cond.code yX12_way cX12_way 7 (some .int), Cond.methodLink RL 104 yX11_barren, Cond.instanceMethod yX11_barren, Cond.selects RX11 yX11_barren yX11_barren, Cond.code yX11_barren cX11_barren 1 (some .int), Cond.methodLink RX11 241 yX9_withoutGood, Cond.instanceMethod yX9_withoutGood, Cond.selects RX9 yX9_withoutGood yX9_withoutGood, Cond.code yX9_withoutGood cX9_withoutGood 3 (some .int), Cond.fieldLink RX9 95 "HealLink$Atlas" "size" "I", Cond.fieldLink RX9 92 "HealLink$Ranges" "toGood" "LHealLink$Cells;", Cond.methodLink RL 107 yX12_barren, Cond.instanceMethod yX12_barren, Cond.selects RX12 yX12_barren yX12_barren, Cond.code yX12_barren cX12_barren 3 (some .int), Cond.methodLink RL 108 yX11_steps, Cond.instanceMethod yX11_steps, Cond.selects RX11 yX11_steps yX11_steps, Cond.code yX11_steps cX11_steps 1 (some .int), Cond.methodLink RX11 244 yX9_actsToGood, Cond.instanceMethod yX9_actsToGood]
def kw23 : List Cond := [Cond.selects RX9 yX9_actsToGood yX9_actsToGood, Cond.code yX9_actsToGood cX9_actsToGood 1 (some .int), Cond.methodLink RL 111 yX12_steps, Cond.instanceMethod yX12_steps, Cond.selects RX12 yX12_steps yX12_steps, Cond.code yX12_steps cX12_steps 1 (some .int), Cond.methodLink RL 112 yX11_odds, Cond.instanceMethod yX11_odds, Cond.selects RX11 yX11_odds yX11_odds, Cond.code yX11_odds cX11_odds 2 (some .long), Cond.constantLong RX11 247 (-1), Cond.constantLong RX11 253 (-3), Cond.methodLink RX11 249 yX9_oddsBits, Cond.instanceMethod yX9_oddsBits, Cond.selects RX9 yX9_oddsBits yX9_oddsBits, Cond.code yX9_oddsBits cX9_oddsBits 2 (some .long), Cond.methodLink RX9 99 yX3_bitsAfter, Cond.instanceMethod yX3_bitsAfter, Cond.selects RX3 yX3_bitsAfter yX3_bitsAfter, Cond.code yX3_bitsAfter cX3_bitsAfter 6 (some .long), Cond.fieldLink RX3 28 "HealLink$Atlas" "size" "I", Cond.methodLink RX3 18 yJ7_fill_7f8df, Cond.static yJ7_fill_7f8df, Cond.code yJ7_fill_7f8df cJ7_fill_7f8df 5 none, Cond.methodLink RX3 24 yX3_move, Cond.instanceMethod yX3_move, Cond.selects RX3 yX3_move yX3_move, Cond.code yX3_move cX3_move 4 none, Cond.fieldLink RX3 38 "HealLink$Atlas" "first" "LHealLink$Cells;", Cond.methodLink RX3 42 yX2_at, Cond.methodLink RX3 48 yX3_pass, Cond.instanceMethod yX3_pass, Cond.selects RX3 yX3_pass yX3_pass, Cond.code yX3_pass cX3_pass 7 none, Cond.methodLink RX3 52 yX1_targetOf, Cond.methodLink RX3 55 yX1_hasMark, Cond.methodLink RX3 34 yX3_bitsOf, Cond.static yX3_bitsOf, Cond.code yX3_bitsOf cX3_bitsOf 6 (some .long), Cond.constantDouble RX3 59 (4611686018427387904)]
def kw24 : List Cond := [Cond.constantDouble RX3 61 (4841369599423283200), Cond.methodLink RL 116 yX12_odds, Cond.instanceMethod yX12_odds, Cond.selects RX12 yX12_odds yX12_odds, Cond.code yX12_odds cX12_odds 5 (some .long), Cond.constantLong RX12 322 (-3), Cond.methodLink RX12 324 yX12_goesOn, Cond.instanceMethod yX12_goesOn, Cond.selects RX12 yX12_goesOn yX12_goesOn, Cond.code yX12_goesOn cX12_goesOn 5 none, Cond.methodLink RX12 327 yJxe99ae_doubleToLongBits_ccdee, Cond.static yJxe99ae_doubleToLongBits_ccdee, Cond.initialized RJxe99ae, Cond.code yJxe99ae_doubleToLongBits_ccdee cJxe99ae_doubleToLongBits_ccdee 2 (some .long), Cond.methodLink RJxe99ae 134 ⟨"java/lang/Double", "doubleToRawLongBits", "(D)J"⟩, Cond.native ⟨"java/lang/Double", "doubleToRawLongBits", "(D)J"⟩, Cond.static ⟨"java/lang/Double", "doubleToRawLongBits", "(D)J"⟩, Cond.initialized "java/lang/Double", Cond.constantLong RJxe99ae 137 (9221120237041090560), Cond.methodLink RJxe99ae 122 yJxe99ae_isNaN_b9ae7, Cond.static yJxe99ae_isNaN_b9ae7, Cond.code yJxe99ae_isNaN_b9ae7 cJxe99ae_isNaN_b9ae7 2 (some .boolean), Cond.methodLink RL 117 yX11_enough, Cond.instanceMethod yX11_enough, Cond.selects RX11 yX11_enough yX11_enough, Cond.code yX11_enough cX11_enough 1 (some .int), Cond.methodLink RX11 255 yX9_leastAcks, Cond.instanceMethod yX9_leastAcks, Cond.selects RX9 yX9_leastAcks yX9_leastAcks, Cond.code yX9_leastAcks cX9_leastAcks 7 (some .int), Cond.fieldLink RX9 133 "HealLink$Survey" "enoughAcks" "I", Cond.methodLink RX9 136 yX7_acksOf, Cond.methodLink RX9 142 yX7_withoutAcks, Cond.static yX7_withoutAcks, Cond.code yX7_withoutAcks cX7_withoutAcks 2 (some .long), Cond.constantLong RX7 53 (-61572651155457), Cond.methodLink RX9 146 yX7_with, Cond.methodLink RL 120 yX12_enough, Cond.instanceMethod yX12_enough, Cond.selects RX12 yX12_enough yX12_enough]
def kw25 : List Cond := [Cond.code yX12_enough cX12_enough 3 (some .int), Cond.methodLink RL 121 yX11_every, Cond.instanceMethod yX11_every, Cond.selects RX11 yX11_every yX11_every, Cond.code yX11_every cX11_every 2 (some .int), Cond.constantLong RX11 262 (6000), Cond.methodLink RX11 259 yX7_allStates, Cond.instanceMethod yX7_allStates, Cond.selects RX7 yX7_allStates yX7_allStates, Cond.code yX7_allStates cX7_allStates 4 (some .long), Cond.methodLink RX7 149 yX7_fillings, Cond.instanceMethod yX7_fillings, Cond.selects RX7 yX7_fillings yX7_fillings, Cond.code yX7_fillings cX7_fillings 2 (some .long), Cond.methodLink RX11 264 yX9_censusOf, Cond.instanceMethod yX9_censusOf, Cond.selects RX9 yX9_censusOf yX9_censusOf, Cond.code yX9_censusOf cX9_censusOf 5 (some (.object "HealLink$Cells")), Cond.methodLink RX9 150 yX1_chartAll, Cond.instanceMethod yX1_chartAll, Cond.selects RX1 yX1_chartAll yX1_chartAll, Cond.code yX1_chartAll cX1_chartAll 5 none, Cond.constantLong RX1 53 (-1), Cond.methodLink RX1 55 yX7_following, Cond.instanceMethod yX7_following, Cond.selects RX7 yX7_following yX7_following, Cond.code yX7_following cX7_following 6 (some .long), Cond.constantLong RX7 156 (1099511627776), Cond.methodLink RX7 153 yX7_withDigit, Cond.methodLink RX7 158 yX7_followingSender, Cond.instanceMethod yX7_followingSender, Cond.selects RX7 yX7_followingSender yX7_followingSender, Cond.code yX7_followingSender cX7_followingSender 5 (some .long), Cond.constantLong RX7 161 (-4398046511105), Cond.constantLong RX7 169 (70368744177664), Cond.methodLink RX7 163 yX7_withoutAcks, Cond.methodLink RX7 166 yX7_valueOf, Cond.methodLink RX9 154 yX4_hardest, Cond.instanceMethod yX4_hardest, Cond.selects RX4 yX4_hardest yX4_hardest]
def kw26 : List Cond := [Cond.code yX4_hardest cX4_hardest 4 (some .int), Cond.methodLink RX9 157 yX2_put, Cond.methodLink RX9 161 yX7_labelOf, Cond.methodLink RX9 164 yX7_valueOf, Cond.methodLink RX9 167 yX7_takenOf, Cond.methodLink RX9 171 yX7_lastOf, Cond.methodLink RX9 174 yX7_packetsIn, Cond.methodLink RX9 177 yX7_lettersIn, Cond.methodLink RX9 180 yX7_seenIn, Cond.static yX7_seenIn, Cond.code yX7_seenIn cX7_seenIn 4 (some .int), Cond.methodLink RL 124 yX12_every, Cond.instanceMethod yX12_every, Cond.selects RX12 yX12_every yX12_every, Cond.code yX12_every cX12_every 7 (some .int), Cond.methodLink RX12 346 yX12_laysEvery, Cond.instanceMethod yX12_laysEvery, Cond.selects RX12 yX12_laysEvery yX12_laysEvery, Cond.code yX12_laysEvery cX12_laysEvery 2 (some .boolean), Cond.methodLink RX12 343 yX12_laysDigits, Cond.instanceMethod yX12_laysDigits, Cond.selects RX12 yX12_laysDigits yX12_laysDigits, Cond.code yX12_laysDigits cX12_laysDigits 2 none, Cond.fieldLink RX12 333 "HealLinkModel" "digits" "I", Cond.methodLink RX12 336 yX12_digit, Cond.instanceMethod yX12_digit, Cond.selects RX12 yX12_digit yX12_digit, Cond.code yX12_digit cX12_digit 4 none, Cond.methodLink RX12 340 yX12_laysAll, Cond.instanceMethod yX12_laysAll, Cond.selects RX12 yX12_laysAll yX12_laysAll, Cond.code yX12_laysAll cX12_laysAll 7 (some .boolean), Cond.methodLink RL 125 yX11_struck, Cond.instanceMethod yX11_struck, Cond.selects RX11 yX11_struck yX11_struck, Cond.code yX11_struck cX11_struck 1 (some .int), Cond.fieldLink RX11 268 "HealLink$Row" "size" "I", Cond.methodLink RX11 269 yX6_commonWith, Cond.instanceMethod yX6_commonWith, Cond.selects RX6 yX6_commonWith yX6_commonWith]
def kw27 : List Cond := [Cond.code yX6_commonWith cX6_commonWith 6 (some .int), Cond.methodLink RX6 44 Lib.Math.max.name, Cond.methodLink RX6 34 yX2_fill, Cond.methodLink RX6 37 yX2_at, Cond.methodLink RX6 41 yX6_valueAt, Cond.instanceMethod yX6_valueAt, Cond.selects RX6 yX6_valueAt yX6_valueAt, Cond.code yX6_valueAt cX6_valueAt 2 (some .int), Cond.methodLink RX6 47 yX2_put, Cond.methodLink RL 128 yX12_struck, Cond.instanceMethod yX12_struck, Cond.selects RX12 yX12_struck yX12_struck, Cond.code yX12_struck cX12_struck 4 (some .int), Cond.methodLink RL 129 yX11_row, Cond.instanceMethod yX11_row, Cond.selects RX11 yX11_row yX11_row, Cond.code yX11_row cX11_row 4 (some .int), Cond.methodLink RX11 273 yX6_valueAt, Cond.methodLink RL 132 yX12_row, Cond.instanceMethod yX12_row, Cond.selects RX12 yX12_row yX12_row, Cond.code yX12_row cX12_row 4 (some .int), Cond.methodLink RL 135 yX11_feed, Cond.instanceMethod yX11_feed, Cond.selects RX11 yX11_feed yX11_feed, Cond.code yX11_feed cX11_feed 7 (some .int), Cond.methodLink RX11 276 yX10_hasRoom, Cond.instanceMethod yX10_hasRoom, Cond.selects RX10 yX10_hasRoom yX10_hasRoom, Cond.code yX10_hasRoom cX10_hasRoom 2 (some .boolean), Cond.fieldLink RX10 20 "HealLink$Tape" "length" "I", Cond.methodLink RX11 279 yX10_append, Cond.instanceMethod yX10_append, Cond.selects RX10 yX10_append yX10_append, Cond.code yX10_append cX10_append 4 none, Cond.methodLink RX10 24 yX2_put, Cond.methodLink RL 139 yX12_feed, Cond.instanceMethod yX12_feed, Cond.selects RX12 yX12_feed yX12_feed, Cond.code yX12_feed cX12_feed 7 (some .int)]
def kw28 : List Cond := [Cond.methodLink RX12 350 yX12_eight, Cond.instanceMethod yX12_eight, Cond.selects RX12 yX12_eight yX12_eight, Cond.code yX12_eight cX12_eight 4 none, Cond.methodLink RL 140 yX11_end, Cond.instanceMethod yX11_end, Cond.selects RX11 yX11_end yX11_end, Cond.code yX11_end cX11_end 2 (some .int), Cond.methodLink RL 143 yX12_end, Cond.instanceMethod yX12_end, Cond.selects RX12 yX12_end yX12_end, Cond.code yX12_end cX12_end 2 (some .int), Cond.methodLink RL 144 yX11_script, Cond.instanceMethod yX11_script, Cond.selects RX11 yX11_script yX11_script, Cond.code yX11_script cX11_script 3 (some .int), Cond.methodLink RX11 283 yX10_read, Cond.instanceMethod yX10_read, Cond.selects RX10 yX10_read yX10_read, Cond.code yX10_read cX10_read 5 (some .int), Cond.methodLink RX10 28 Lib.Math.min.name, Cond.fieldLink RX10 34 "HealLink$Tape" "stop" "I", Cond.fieldLink RX10 37 "HealLink$Tape" "at" "I", Cond.fieldLink RX10 40 "HealLink$Tape" "fault" "I", Cond.methodLink RX10 43 yX8_empty, Cond.instanceMethod yX8_empty, Cond.selects RX8 yX8_empty yX8_empty, Cond.code yX8_empty cX8_empty 1 none, Cond.fieldLink RX8 35 "HealLink$Steps" "size" "I", Cond.fieldLink RX8 39 "HealLink$Steps" "depth" "I", Cond.methodLink RX10 48 yX10_skipBlanks, Cond.instanceMethod yX10_skipBlanks, Cond.selects RX10 yX10_skipBlanks yX10_skipBlanks, Cond.code yX10_skipBlanks cX10_skipBlanks 1 none, Cond.methodLink RX10 51 yX10_peek, Cond.instanceMethod yX10_peek, Cond.selects RX10 yX10_peek yX10_peek, Cond.code yX10_peek cX10_peek 1 (some .int), Cond.methodLink RX10 118 yX2_at, Cond.methodLink RX10 55 yX10_readClose]
def kw29 : List Cond := [Cond.instanceMethod yX10_readClose, Cond.selects RX10 yX10_readClose yX10_readClose, Cond.code yX10_readClose cX10_readClose 2 none, Cond.methodLink RX10 63 yX8_mayClose, Cond.instanceMethod yX8_mayClose, Cond.selects RX8 yX8_mayClose yX8_mayClose, Cond.code yX8_mayClose cX8_mayClose 1 (some .boolean), Cond.methodLink RX10 67 yX10_blame, Cond.instanceMethod yX10_blame, Cond.selects RX10 yX10_blame yX10_blame, Cond.code yX10_blame cX10_blame 3 none, Cond.methodLink RX10 70 yX8_close, Cond.instanceMethod yX8_close, Cond.selects RX8 yX8_close yX8_close, Cond.code yX8_close cX8_close 1 none, Cond.methodLink RX8 54 yX8_mayClose, Cond.methodLink RX8 57 yX2_at, Cond.methodLink RX8 42 yX2_put, Cond.methodLink RX8 50 yX8_add, Cond.instanceMethod yX8_add, Cond.selects RX8 yX8_add yX8_add, Cond.code yX8_add cX8_add 4 none, Cond.methodLink RX10 73 yX10_expect, Cond.instanceMethod yX10_expect, Cond.selects RX10 yX10_expect yX10_expect, Cond.code yX10_expect cX10_expect 2 none, Cond.methodLink RX10 59 yX10_readStep, Cond.instanceMethod yX10_readStep, Cond.selects RX10 yX10_readStep yX10_readStep, Cond.code yX10_readStep cX10_readStep 5 none, Cond.methodLink RX10 77 yX10_readWord, Cond.instanceMethod yX10_readWord, Cond.selects RX10 yX10_readWord yX10_readWord, Cond.code yX10_readWord cX10_readWord 2 (some .int), Cond.methodLink RX10 98 yX10_isWord, Cond.instanceMethod yX10_isWord, Cond.selects RX10 yX10_isWord yX10_isWord, Cond.code yX10_isWord cX10_isWord 4 (some .boolean), Cond.methodLink RX10 114 yJ0_length_8abf5, Cond.instanceMethod yJ0_length_8abf5]
def kw30 : List Cond := [Cond.selects RJ0 yJ0_length_8abf5 yJ0_length_8abf5, Cond.initialized RJ0, Cond.code yJ0_length_8abf5 cJ0_length_8abf5 1 (some .int), Cond.fieldLink RJ0 9 "java/lang/String" "value" "[B", Cond.methodLink RJ0 335 yJ0_coder_7d493, Cond.instanceMethod yJ0_coder_7d493, Cond.selects RJ0 yJ0_coder_7d493 yJ0_coder_7d493, Cond.code yJ0_coder_7d493 cJ0_coder_7d493 1 (some .byte), Cond.fieldLink RJ0 38 "java/lang/String" "COMPACT_STRINGS" "Z", Cond.fieldLink RJ0 15 "java/lang/String" "coder" "B", Cond.methodLink RX10 121 yJ0_charAt_5068e, Cond.instanceMethod yJ0_charAt_5068e, Cond.selects RJ0 yJ0_charAt_5068e yJ0_charAt_5068e, Cond.code yJ0_charAt_5068e cJ0_charAt_5068e 2 (some .char), Cond.methodLink RJ0 492 yJ0_isLatin1_aae02, Cond.instanceMethod yJ0_isLatin1_aae02, Cond.selects RJ0 yJ0_isLatin1_aae02 yJ0_isLatin1_aae02, Cond.code yJ0_isLatin1_aae02 cJ0_isLatin1_aae02 1 (some .boolean), Cond.methodLink RJ0 495 yJ1_charAt_3b067, Cond.static yJ1_charAt_3b067, Cond.initialized RJ1, Cond.code yJ1_charAt_3b067 cJ1_charAt_3b067 2 (some .char), Cond.methodLink RJ1 9 yJ0_checkIndex_df160, Cond.static yJ0_checkIndex_df160, Cond.code yJ0_checkIndex_df160 cJ0_checkIndex_df160 2 none, Cond.fieldLink RJ0 1053 "jdk/internal/util/Preconditions" "SIOOBE_FORMATTER" "Ljava/util/function/BiFunction;", Cond.methodLink RJ0 1059 yJ3_checkIndex_8e157, Cond.static yJ3_checkIndex_8e157, Cond.initialized RJ3, Cond.code yJ3_checkIndex_8e157 cJ3_checkIndex_8e157 3 (some .int), Cond.methodLink RJ0 498 yJ2_charAt_3b067, Cond.static yJ2_charAt_3b067, Cond.initialized RJ2, Cond.code yJ2_charAt_3b067 cJ2_charAt_3b067 2 (some .char), Cond.methodLink RJ2 67 yJ2_checkIndex_2214a, Cond.static yJ2_checkIndex_2214a, Cond.code yJ2_checkIndex_2214a cJ2_checkIndex_2214a 2 none, Cond.methodLink RJ2 48 yJ2_length_9d52b, Cond.static yJ2_length_9d52b, Cond.code yJ2_length_9d52b cJ2_length_9d52b 1 (some .int)]
def kw31 : List Cond := [Cond.methodLink RJ2 414 yJ0_checkIndex_df160, Cond.methodLink RJ2 71 yJ2_getChar_3b067, Cond.static yJ2_getChar_3b067, Cond.code yJ2_getChar_3b067 cJ2_getChar_3b067 2 (some .char), Cond.fieldLink RJ2 44 "java/lang/StringUTF16" "$assertionsDisabled" "Z", Cond.fieldLink RJ2 59 "java/lang/StringUTF16" "HI_BYTE_SHIFT" "I", Cond.fieldLink RJ2 63 "java/lang/StringUTF16" "LO_BYTE_SHIFT" "I", Cond.methodLink RX10 80 yX8_add, Cond.methodLink RX10 84 yX10_readNumber, Cond.instanceMethod yX10_readNumber, Cond.selects RX10 yX10_readNumber yX10_readNumber, Cond.code yX10_readNumber cX10_readNumber 5 (some .int), Cond.methodLink RX10 87 yX10_readAgain, Cond.instanceMethod yX10_readAgain, Cond.selects RX10 yX10_readAgain yX10_readAgain, Cond.code yX10_readAgain cX10_readAgain 4 none, Cond.methodLink RX10 90 yX8_mayOpen, Cond.instanceMethod yX8_mayOpen, Cond.selects RX8 yX8_mayOpen yX8_mayOpen, Cond.code yX8_mayOpen cX8_mayOpen 1 (some .boolean), Cond.methodLink RX10 93 yX8_open, Cond.instanceMethod yX8_open, Cond.selects RX8 yX8_open yX8_open, Cond.code yX8_open cX8_open 2 none, Cond.methodLink RX8 46 yX8_mayOpen, Cond.methodLink RX11 287 yX11_carryOut, Cond.instanceMethod yX11_carryOut, Cond.selects RX11 yX11_carryOut yX11_carryOut, Cond.code yX11_carryOut cX11_carryOut 6 (some .int), Cond.constant RX11 331 (1000000), Cond.methodLink RX11 328 yX8_rewind, Cond.instanceMethod yX8_rewind, Cond.selects RX8 yX8_rewind yX8_rewind, Cond.code yX8_rewind cX8_rewind 1 none, Cond.fieldLink RX8 61 "HealLink$Steps" "at" "I", Cond.methodLink RX11 332 yX8_next, Cond.instanceMethod yX8_next, Cond.selects RX8 yX8_next yX8_next, Cond.code yX8_next cX8_next 3 (some .int), Cond.constant RX8 63 (1000000)]
def kw32 : List Cond := [Cond.methodLink RX8 64 yX8_enter, Cond.instanceMethod yX8_enter, Cond.selects RX8 yX8_enter yX8_enter, Cond.code yX8_enter cX8_enter 2 none, Cond.methodLink RX8 67 yX8_leave, Cond.instanceMethod yX8_leave, Cond.selects RX8 yX8_leave yX8_leave, Cond.code yX8_leave cX8_leave 3 none, Cond.methodLink RX8 70 Lib.Math.max.name, Cond.methodLink RX11 335 yX11_doStep, Cond.instanceMethod yX11_doStep, Cond.selects RX11 yX11_doStep yX11_doStep, Cond.code yX11_doStep cX11_doStep 8 (some .boolean), Cond.fieldLink RX11 338 "HealLink$Steps" "what" "LHealLink$Cells;", Cond.fieldLink RX11 341 "HealLink$Steps" "first" "LHealLink$Cells;", Cond.fieldLink RX11 344 "HealLink$Steps" "second" "LHealLink$Cells;", Cond.methodLink RX11 347 yX7_firstPacket, Cond.instanceMethod yX7_firstPacket, Cond.selects RX7 yX7_firstPacket yX7_firstPacket, Cond.code yX7_firstPacket cX7_firstPacket 4 (some .int), Cond.methodLink RL 147 yX12_script, Cond.instanceMethod yX12_script, Cond.selects RX12 yX12_script yX12_script, Cond.code yX12_script cX12_script 1 (some .int), Cond.fieldLink RX12 353 "HealLinkModel" "size" "I", Cond.fieldLink RX12 356 "HealLinkModel" "fault" "I", Cond.fieldLink RX12 411 "HealLinkModel" "did" "I", Cond.methodLink RX12 453 yX12_goesThrough, Cond.instanceMethod yX12_goesThrough, Cond.selects RX12 yX12_goesThrough yX12_goesThrough, Cond.code yX12_goesThrough cX12_goesThrough 2 none, Cond.fieldLink RX12 405 "HealLinkModel" "isDoing" "Z", Cond.fieldLink RX12 408 "HealLinkModel" "isStopped" "Z", Cond.fieldLink RX12 359 "HealLinkModel" "endOf" "I", Cond.fieldLink RX12 368 "HealLinkModel" "token" "I", Cond.methodLink RX12 402 yX12_next, Cond.instanceMethod yX12_next, Cond.selects RX12 yX12_next yX12_next, Cond.code yX12_next cX12_next 3 none, Cond.fieldLink RX12 365 "HealLinkModel" "place" "I"]
def kw33 : List Cond := [Cond.fieldLink RX12 371 "HealLinkModel" "word" "J", Cond.fieldLink RX12 374 "HealLinkModel" "number" "I", Cond.constantLong RX12 380 (256), Cond.methodLink RX12 362 yX12_byteAt, Cond.instanceMethod yX12_byteAt, Cond.selects RX12 yX12_byteAt yX12_byteAt, Cond.code yX12_byteAt cX12_byteAt 2 (some .int), Cond.methodLink RX12 377 yX12_isSmall, Cond.static yX12_isSmall, Cond.code yX12_isSmall cX12_isSmall 1 (some .boolean), Cond.methodLink RX12 382 yX12_isDigit, Cond.static yX12_isDigit, Cond.code yX12_isDigit cX12_isDigit 1 (some .boolean), Cond.methodLink RX12 447 yX12_stepsTold, Cond.instanceMethod yX12_stepsTold, Cond.selects RX12 yX12_stepsTold yX12_stepsTold, Cond.code yX12_stepsTold cX12_stepsTold 2 none, Cond.methodLink RX12 450 yX12_stepTold, Cond.instanceMethod yX12_stepTold, Cond.selects RX12 yX12_stepTold yX12_stepTold, Cond.methodLink RX12 444 yX12_must, Cond.instanceMethod yX12_must, Cond.selects RX12 yX12_must yX12_must, Cond.code yX12_must cX12_must 2 none, Cond.methodLink RX12 399 yX12_wrong, Cond.instanceMethod yX12_wrong, Cond.selects RX12 yX12_wrong yX12_wrong, Cond.code yX12_wrong cX12_wrong 2 none, Cond.code yX12_againTold cX12_againTold 8 none, Cond.methodLink RX12 427 yX12_numberTold, Cond.instanceMethod yX12_numberTold, Cond.selects RX12 yX12_numberTold yX12_numberTold, Cond.code yX12_numberTold cX12_numberTold 4 (some .int), Cond.code yX12_stepTold cX12_stepTold 5 none, Cond.methodLink RX12 419 yX12_isWord, Cond.instanceMethod yX12_isWord, Cond.selects RX12 yX12_isWord yX12_isWord, Cond.code yX12_isWord cX12_isWord 2 (some .boolean), Cond.methodLink RX12 395 yX12_packed, Cond.static yX12_packed]
def kw34 : List Cond := [Cond.code yX12_packed cX12_packed 4 (some .long), Cond.methodLink RX12 385 yJ0_length_8abf5, Cond.methodLink RX12 391 yJ0_charAt_5068e, Cond.methodLink RX12 414 yX12_acting, Cond.instanceMethod yX12_acting, Cond.selects RX12 yX12_acting yX12_acting, Cond.code yX12_acting cX12_acting 4 none, Cond.methodLink RX12 436 yX12_againTold, Cond.instanceMethod yX12_againTold, Cond.selects RX12 yX12_againTold yX12_againTold, Cond.methodLink RX12 441 yX12_clears, Cond.instanceMethod yX12_clears, Cond.selects RX12 yX12_clears yX12_clears, Cond.code yX12_clears cX12_clears 6 none, Cond.methodLink RL 148 yX11_image, Cond.instanceMethod yX11_image, Cond.selects RX11 yX11_image yX11_image, Cond.code yX11_image cX11_image 1 (some .boolean), Cond.fieldLink RX11 290 "HealLink" "keptState" "J", Cond.fieldLink RX11 293 "HealLink" "keptBits" "I", Cond.fieldLink RX11 296 "HealLink" "keptSize" "I", Cond.methodLink RL 152 yX12_image, Cond.instanceMethod yX12_image, Cond.selects RX12 yX12_image yX12_image, Cond.code yX12_image cX12_image 2 (some .boolean), Cond.fieldLink RX12 456 "HealLinkModel" "imageState" "J", Cond.fieldLink RX12 459 "HealLinkModel" "imageQueued" "I", Cond.methodLink RL 153 yX11_back, Cond.instanceMethod yX11_back, Cond.selects RX11 yX11_back yX11_back, Cond.code yX11_back cX11_back 1 (some .boolean), Cond.methodLink RL 156 yX12_back, Cond.instanceMethod yX12_back, Cond.selects RX12 yX12_back yX12_back, Cond.code yX12_back cX12_back 2 (some .boolean)]
/-- all words that the methods link: one list for all contracts -/
def GG : List Cond := kw0 ++ (kw1 ++ (kw2 ++ (kw3 ++ (kw4 ++ (kw5 ++ (kw6 ++ (kw7 ++ (kw8 ++ (kw9 ++ (kw10 ++ (kw11 ++ (kw12 ++ (kw13 ++ (kw14 ++ (kw15 ++ (kw16 ++ (kw17 ++ (kw18 ++ (kw19 ++ (kw20 ++ (kw21 ++ (kw22 ++ (kw23 ++ (kw24 ++ (kw25 ++ (kw26 ++ (kw27 ++ (kw28 ++ (kw29 ++ (kw30 ++ (kw31 ++ (kw32 ++ (kw33 ++ (kw34 ++ (wsX00 ++ (wsX10 ++ (wsX20 ++ (wsX30 ++ (wsX40 ++ (wsX50 ++ (wsX60 ++ (wsX70 ++ (wsX80 ++ (wsX90 ++ (wsX100 ++ (wsX110 ++ (wsX120)))))))))))))))))))))))))))))))))))))))))))))))
theorem gm_kw0 : ∀ w ∈ kw0, w ∈ GG := fun _ h => List.mem_append_left _ h
theorem gm_kw1 : ∀ w ∈ kw1, w ∈ GG := fun _ h => List.mem_append_right _ (List.mem_append_left _ h)
theorem gm_kw2 : ∀ w ∈ kw2, w ∈ GG := fun _ h => List.mem_append_right _ (List.mem_append_right _ (List.mem_append_left _ h))
theorem gm_kw3 : ∀ w ∈ kw3, w ∈ GG := fun _ h => List.mem_append_right _ (List.mem_append_right _ (List.mem_append_right _ (List.mem_append_left _ h)))
theorem gm_kw4 : ∀ w ∈ kw4, w ∈ GG := fun _ h => List.mem_append_right _ (List.mem_append_right _ (List.mem_append_right _ (List.mem_append_right _ (List.mem_append_left _ h))))
theorem gm_kw5 : ∀ w ∈ kw5, w ∈ GG := fun _ h => List.mem_append_right _ (List.mem_append_right _ (List.mem_append_right _ (List.mem_append_right _ (List.mem_append_right _ (List.mem_append_left _ h)))))
theorem gm_kw6 : ∀ w ∈ kw6, w ∈ GG := fun _ h => List.mem_append_right _ (List.mem_append_right _ (List.mem_append_right _ (List.mem_append_right _ (List.mem_append_right _ (List.mem_append_right _ (List.mem_append_left _ h))))))
theorem gm_kw7 : ∀ w ∈ kw7, w ∈ GG := fun _ h => List.mem_append_right _ (List.mem_append_right _ (List.mem_append_right _ (List.mem_append_right _ (List.mem_append_right _ (List.mem_append_right _ (List.mem_append_right _ (List.mem_append_left _ h)))))))
theorem gm_kw8 : ∀ w ∈ kw8, w ∈ GG := fun _ h => List.mem_append_right _ (List.mem_append_right _ (List.mem_append_right _ (List.mem_append_right _ (List.mem_append_right _ (List.mem_append_right _ (List.mem_append_right _ (List.mem_append_right _ (List.mem_append_left _ h))))))))
theorem gm_kw9 : ∀ w ∈ kw9, w ∈ GG := fun _ h => List.mem_append_right _ (List.mem_append_right _ (List.mem_append_right _ (List.mem_append_right _ (List.mem_append_right _ (List.mem_append_right _ (List.mem_append_right _ (List.mem_append_right _ (List.mem_append_right _ (List.mem_append_left _ h)))))))))
theorem gm_kw10 : ∀ w ∈ kw10, w ∈ GG := fun _ h => List.mem_append_right _ (List.mem_append_right _ (List.mem_append_right _ (List.mem_append_right _ (List.mem_append_right _ (List.mem_append_right _ (List.mem_append_right _ (List.mem_append_right _ (List.mem_append_right _ (List.mem_append_right _ (List.mem_append_left _ h))))))))))
theorem gm_kw11 : ∀ w ∈ kw11, w ∈ GG := fun _ h => List.mem_append_right _ (List.mem_append_right _ (List.mem_append_right _ (List.mem_append_right _ (List.mem_append_right _ (List.mem_append_right _ (List.mem_append_right _ (List.mem_append_right _ (List.mem_append_right _ (List.mem_append_right _ (List.mem_append_right _ (List.mem_append_left _ h)))))))))))
theorem gm_kw12 : ∀ w ∈ kw12, w ∈ GG := fun _ h => List.mem_append_right _ (List.mem_append_right _ (List.mem_append_right _ (List.mem_append_right _ (List.mem_append_right _ (List.mem_append_right _ (List.mem_append_right _ (List.mem_append_right _ (List.mem_append_right _ (List.mem_append_right _ (List.mem_append_right _ (List.mem_append_right _ (List.mem_append_left _ h))))))))))))
theorem gm_kw13 : ∀ w ∈ kw13, w ∈ GG := fun _ h => List.mem_append_right _ (List.mem_append_right _ (List.mem_append_right _ (List.mem_append_right _ (List.mem_append_right _ (List.mem_append_right _ (List.mem_append_right _ (List.mem_append_right _ (List.mem_append_right _ (List.mem_append_right _ (List.mem_append_right _ (List.mem_append_right _ (List.mem_append_right _ (List.mem_append_left _ h)))))))))))))
theorem gm_kw14 : ∀ w ∈ kw14, w ∈ GG := fun _ h => List.mem_append_right _ (List.mem_append_right _ (List.mem_append_right _ (List.mem_append_right _ (List.mem_append_right _ (List.mem_append_right _ (List.mem_append_right _ (List.mem_append_right _ (List.mem_append_right _ (List.mem_append_right _ (List.mem_append_right _ (List.mem_append_right _ (List.mem_append_right _ (List.mem_append_right _ (List.mem_append_left _ h))))))))))))))
theorem gm_kw15 : ∀ w ∈ kw15, w ∈ GG := fun _ h => List.mem_append_right _ (List.mem_append_right _ (List.mem_append_right _ (List.mem_append_right _ (List.mem_append_right _ (List.mem_append_right _ (List.mem_append_right _ (List.mem_append_right _ (List.mem_append_right _ (List.mem_append_right _ (List.mem_append_right _ (List.mem_append_right _ (List.mem_append_right _ (List.mem_append_right _ (List.mem_append_right _ (List.mem_append_left _ h)))))))))))))))
theorem gm_kw16 : ∀ w ∈ kw16, w ∈ GG := fun _ h => List.mem_append_right _ (List.mem_append_right _ (List.mem_append_right _ (List.mem_append_right _ (List.mem_append_right _ (List.mem_append_right _ (List.mem_append_right _ (List.mem_append_right _ (List.mem_append_right _ (List.mem_append_right _ (List.mem_append_right _ (List.mem_append_right _ (List.mem_append_right _ (List.mem_append_right _ (List.mem_append_right _ (List.mem_append_right _ (List.mem_append_left _ h))))))))))))))))
theorem gm_kw17 : ∀ w ∈ kw17, w ∈ GG := fun _ h => List.mem_append_right _ (List.mem_append_right _ (List.mem_append_right _ (List.mem_append_right _ (List.mem_append_right _ (List.mem_append_right _ (List.mem_append_right _ (List.mem_append_right _ (List.mem_append_right _ (List.mem_append_right _ (List.mem_append_right _ (List.mem_append_right _ (List.mem_append_right _ (List.mem_append_right _ (List.mem_append_right _ (List.mem_append_right _ (List.mem_append_right _ (List.mem_append_left _ h)))))))))))))))))
theorem gm_kw18 : ∀ w ∈ kw18, w ∈ GG := fun _ h => List.mem_append_right _ (List.mem_append_right _ (List.mem_append_right _ (List.mem_append_right _ (List.mem_append_right _ (List.mem_append_right _ (List.mem_append_right _ (List.mem_append_right _ (List.mem_append_right _ (List.mem_append_right _ (List.mem_append_right _ (List.mem_append_right _ (List.mem_append_right _ (List.mem_append_right _ (List.mem_append_right _ (List.mem_append_right _ (List.mem_append_right _ (List.mem_append_right _ (List.mem_append_left _ h))))))))))))))))))
theorem gm_kw19 : ∀ w ∈ kw19, w ∈ GG := fun _ h => List.mem_append_right _ (List.mem_append_right _ (List.mem_append_right _ (List.mem_append_right _ (List.mem_append_right _ (List.mem_append_right _ (List.mem_append_right _ (List.mem_append_right _ (List.mem_append_right _ (List.mem_append_right _ (List.mem_append_right _ (List.mem_append_right _ (List.mem_append_right _ (List.mem_append_right _ (List.mem_append_right _ (List.mem_append_right _ (List.mem_append_right _ (List.mem_append_right _ (List.mem_append_right _ (List.mem_append_left _ h)))))))))))))))))))
theorem gm_kw20 : ∀ w ∈ kw20, w ∈ GG := fun _ h => List.mem_append_right _ (List.mem_append_right _ (List.mem_append_right _ (List.mem_append_right _ (List.mem_append_right _ (List.mem_append_right _ (List.mem_append_right _ (List.mem_append_right _ (List.mem_append_right _ (List.mem_append_right _ (List.mem_append_right _ (List.mem_append_right _ (List.mem_append_right _ (List.mem_append_right _ (List.mem_append_right _ (List.mem_append_right _ (List.mem_append_right _ (List.mem_append_right _ (List.mem_append_right _ (List.mem_append_right _ (List.mem_append_left _ h))))))))))))))))))))
theorem gm_kw21 : ∀ w ∈ kw21, w ∈ GG := fun _ h => List.mem_append_right _ (List.mem_append_right _ (List.mem_append_right _ (List.mem_append_right _ (List.mem_append_right _ (List.mem_append_right _ (List.mem_append_right _ (List.mem_append_right _ (List.mem_append_right _ (List.mem_append_right _ (List.mem_append_right _ (List.mem_append_right _ (List.mem_append_right _ (List.mem_append_right _ (List.mem_append_right _ (List.mem_append_right _ (List.mem_append_right _ (List.mem_append_right _ (List.mem_append_right _ (List.mem_append_right _ (List.mem_append_right _ (List.mem_append_left _ h)))))))))))))))))))))
theorem gm_kw22 : ∀ w ∈ kw22, w ∈ GG := fun _ h => List.mem_append_right _ (List.mem_append_right _ (List.mem_append_right _ (List.mem_append_right _ (List.mem_append_right _ (List.mem_append_right _ (List.mem_append_right _ (List.mem_append_right _ (List.mem_append_right _ (List.mem_append_right _ (List.mem_append_right _ (List.mem_append_right _ (List.mem_append_right _ (List.mem_append_right _ (List.mem_append_right _ (List.mem_append_right _ (List.mem_append_right _ (List.mem_append_right _ (List.mem_append_right _ (List.mem_append_right _ (List.mem_append_right _ (List.mem_append_right _ (List.mem_append_left _ h))))))))))))))))))))))
theorem gm_kw23 : ∀ w ∈ kw23, w ∈ GG := fun _ h => List.mem_append_right _ (List.mem_append_right _ (List.mem_append_right _ (List.mem_append_right _ (List.mem_append_right _ (List.mem_append_right _ (List.mem_append_right _ (List.mem_append_right _ (List.mem_append_right _ (List.mem_append_right _ (List.mem_append_right _ (List.mem_append_right _ (List.mem_append_right _ (List.mem_append_right _ (List.mem_append_right _ (List.mem_append_right _ (List.mem_append_right _ (List.mem_append_right _ (List.mem_append_right _ (List.mem_append_right _ (List.mem_append_right _ (List.mem_append_right _ (List.mem_append_right _ (List.mem_append_left _ h)))))))))))))))))))))))
theorem gm_kw24 : ∀ w ∈ kw24, w ∈ GG := fun _ h => List.mem_append_right _ (List.mem_append_right _ (List.mem_append_right _ (List.mem_append_right _ (List.mem_append_right _ (List.mem_append_right _ (List.mem_append_right _ (List.mem_append_right _ (List.mem_append_right _ (List.mem_append_right _ (List.mem_append_right _ (List.mem_append_right _ (List.mem_append_right _ (List.mem_append_right _ (List.mem_append_right _ (List.mem_append_right _ (List.mem_append_right _ (List.mem_append_right _ (List.mem_append_right _ (List.mem_append_right _ (List.mem_append_right _ (List.mem_append_right _ (List.mem_append_right _ (List.mem_append_right _ (List.mem_append_left _ h))))))))))))))))))))))))
theorem gm_kw25 : ∀ w ∈ kw25, w ∈ GG := fun _ h => List.mem_append_right _ (List.mem_append_right _ (List.mem_append_right _ (List.mem_append_right _ (List.mem_append_right _ (List.mem_append_right _ (List.mem_append_right _ (List.mem_append_right _ (List.mem_append_right _ (List.mem_append_right _ (List.mem_append_right _ (List.mem_append_right _ (List.mem_append_right _ (List.mem_append_right _ (List.mem_append_right _ (List.mem_append_right _ (List.mem_append_right _ (List.mem_append_right _ (List.mem_append_right _ (List.mem_append_right _ (List.mem_append_right _ (List.mem_append_right _ (List.mem_append_right _ (List.mem_append_right _ (List.mem_append_right _ (List.mem_append_left _ h)))))))))))))))))))))))))
theorem gm_kw26 : ∀ w ∈ kw26, w ∈ GG := fun _ h => List.mem_append_right _ (List.mem_append_right _ (List.mem_append_right _ (List.mem_append_right _ (List.mem_append_right _ (List.mem_append_right _ (List.mem_append_right _ (List.mem_append_right _ (List.mem_append_right _ (List.mem_append_right _ (List.mem_append_right _ (List.mem_append_right _ (List.mem_append_right _ (List.mem_append_right _ (List.mem_append_right _ (List.mem_append_right _ (List.mem_append_right _ (List.mem_append_right _ (List.mem_append_right _ (List.mem_append_right _ (List.mem_append_right _ (List.mem_append_right _ (List.mem_append_right _ (List.mem_append_right _ (List.mem_append_right _ (List.mem_append_right _ (List.mem_append_left _ h))))))))))))))))))))))))))
theorem gm_kw27 : ∀ w ∈ kw27, w ∈ GG := fun _ h => List.mem_append_right _ (List.mem_append_right _ (List.mem_append_right _ (List.mem_append_right _ (List.mem_append_right _ (List.mem_append_right _ (List.mem_append_right _ (List.mem_append_right _ (List.mem_append_right _ (List.mem_append_right _ (List.mem_append_right _ (List.mem_append_right _ (List.mem_append_right _ (List.mem_append_right _ (List.mem_append_right _ (List.mem_append_right _ (List.mem_append_right _ (List.mem_append_right _ (List.mem_append_right _ (List.mem_append_right _ (List.mem_append_right _ (List.mem_append_right _ (List.mem_append_right _ (List.mem_append_right _ (List.mem_append_right _ (List.mem_append_right _ (List.mem_append_right _ (List.mem_append_left _ h)))))))))))))))))))))))))))
theorem gm_kw28 : ∀ w ∈ kw28, w ∈ GG := fun _ h => List.mem_append_right _ (List.mem_append_right _ (List.mem_append_right _ (List.mem_append_right _ (List.mem_append_right _ (List.mem_append_right _ (List.mem_append_right _ (List.mem_append_right _ (List.mem_append_right _ (List.mem_append_right _ (List.mem_append_right _ (List.mem_append_right _ (List.mem_append_right _ (List.mem_append_right _ (List.mem_append_right _ (List.mem_append_right _ (List.mem_append_right _ (List.mem_append_right _ (List.mem_append_right _ (List.mem_append_right _ (List.mem_append_right _ (List.mem_append_right _ (List.mem_append_right _ (List.mem_append_right _ (List.mem_append_right _ (List.mem_append_right _ (List.mem_append_right _ (List.mem_append_right _ (List.mem_append_left _ h))))))))))))))))))))))))))))
theorem gm_kw29 : ∀ w ∈ kw29, w ∈ GG := fun _ h => List.mem_append_right _ (List.mem_append_right _ (List.mem_append_right _ (List.mem_append_right _ (List.mem_append_right _ (List.mem_append_right _ (List.mem_append_right _ (List.mem_append_right _ (List.mem_append_right _ (List.mem_append_right _ (List.mem_append_right _ (List.mem_append_right _ (List.mem_append_right _ (List.mem_append_right _ (List.mem_append_right _ (List.mem_append_right _ (List.mem_append_right _ (List.mem_append_right _ (List.mem_append_right _ (List.mem_append_right _ (List.mem_append_right _ (List.mem_append_right _ (List.mem_append_right _ (List.mem_append_right _ (List.mem_append_right _ (List.mem_append_right _ (List.mem_append_right _ (List.mem_append_right _ (List.mem_append_right _ (List.mem_append_left _ h)))))))))))))))))))))))))))))
theorem gm_kw30 : ∀ w ∈ kw30, w ∈ GG := fun _ h => List.mem_append_right _ (List.mem_append_right _ (List.mem_append_right _ (List.mem_append_right _ (List.mem_append_right _ (List.mem_append_right _ (List.mem_append_right _ (List.mem_append_right _ (List.mem_append_right _ (List.mem_append_right _ (List.mem_append_right _ (List.mem_append_right _ (List.mem_append_right _ (List.mem_append_right _ (List.mem_append_right _ (List.mem_append_right _ (List.mem_append_right _ (List.mem_append_right _ (List.mem_append_right _ (List.mem_append_right _ (List.mem_append_right _ (List.mem_append_right _ (List.mem_append_right _ (List.mem_append_right _ (List.mem_append_right _ (List.mem_append_right _ (List.mem_append_right _ (List.mem_append_right _ (List.mem_append_right _ (List.mem_append_right _ (List.mem_append_left _ h))))))))))))))))))))))))))))))
theorem gm_kw31 : ∀ w ∈ kw31, w ∈ GG := fun _ h => List.mem_append_right _ (List.mem_append_right _ (List.mem_append_right _ (List.mem_append_right _ (List.mem_append_right _ (List.mem_append_right _ (List.mem_append_right _ (List.mem_append_right _ (List.mem_append_right _ (List.mem_append_right _ (List.mem_append_right _ (List.mem_append_right _ (List.mem_append_right _ (List.mem_append_right _ (List.mem_append_right _ (List.mem_append_right _ (List.mem_append_right _ (List.mem_append_right _ (List.mem_append_right _ (List.mem_append_right _ (List.mem_append_right _ (List.mem_append_right _ (List.mem_append_right _ (List.mem_append_right _ (List.mem_append_right _ (List.mem_append_right _ (List.mem_append_right _ (List.mem_append_right _ (List.mem_append_right _ (List.mem_append_right _ (List.mem_append_right _ (List.mem_append_left _ h)))))))))))))))))))))))))))))))
theorem gm_kw32 : ∀ w ∈ kw32, w ∈ GG := fun _ h => List.mem_append_right _ (List.mem_append_right _ (List.mem_append_right _ (List.mem_append_right _ (List.mem_append_right _ (List.mem_append_right _ (List.mem_append_right _ (List.mem_append_right _ (List.mem_append_right _ (List.mem_append_right _ (List.mem_append_right _ (List.mem_append_right _ (List.mem_append_right _ (List.mem_append_right _ (List.mem_append_right _ (List.mem_append_right _ (List.mem_append_right _ (List.mem_append_right _ (List.mem_append_right _ (List.mem_append_right _ (List.mem_append_right _ (List.mem_append_right _ (List.mem_append_right _ (List.mem_append_right _ (List.mem_append_right _ (List.mem_append_right _ (List.mem_append_right _ (List.mem_append_right _ (List.mem_append_right _ (List.mem_append_right _ (List.mem_append_right _ (List.mem_append_right _ (List.mem_append_left _ h))))))))))))))))))))))))))))))))
theorem gm_kw33 : ∀ w ∈ kw33, w ∈ GG := fun _ h => List.mem_append_right _ (List.mem_append_right _ (List.mem_append_right _ (List.mem_append_right _ (List.mem_append_right _ (List.mem_append_right _ (List.mem_append_right _ (List.mem_append_right _ (List.mem_append_right _ (List.mem_append_right _ (List.mem_append_right _ (List.mem_append_right _ (List.mem_append_right _ (List.mem_append_right _ (List.mem_append_right _ (List.mem_append_right _ (List.mem_append_right _ (List.mem_append_right _ (List.mem_append_right _ (List.mem_append_right _ (List.mem_append_right _ (List.mem_append_right _ (List.mem_append_right _ (List.mem_append_right _ (List.mem_append_right _ (List.mem_append_right _ (List.mem_append_right _ (List.mem_append_right _ (List.mem_append_right _ (List.mem_append_right _ (List.mem_append_right _ (List.mem_append_right _ (List.mem_append_right _ (List.mem_append_left _ h)))))))))))))))))))))))))))))))))
theorem gm_kw34 : ∀ w ∈ kw34, w ∈ GG := fun _ h => List.mem_append_right _ (List.mem_append_right _ (List.mem_append_right _ (List.mem_append_right _ (List.mem_append_right _ (List.mem_append_right _ (List.mem_append_right _ (List.mem_append_right _ (List.mem_append_right _ (List.mem_append_right _ (List.mem_append_right _ (List.mem_append_right _ (List.mem_append_right _ (List.mem_append_right _ (List.mem_append_right _ (List.mem_append_right _ (List.mem_append_right _ (List.mem_append_right _ (List.mem_append_right _ (List.mem_append_right _ (List.mem_append_right _ (List.mem_append_right _ (List.mem_append_right _ (List.mem_append_right _ (List.mem_append_right _ (List.mem_append_right _ (List.mem_append_right _ (List.mem_append_right _ (List.mem_append_right _ (List.mem_append_right _ (List.mem_append_right _ (List.mem_append_right _ (List.mem_append_right _ (List.mem_append_right _ (List.mem_append_left _ h))))))))))))))))))))))))))))))))))
theorem gm_wsX00 : ∀ w ∈ wsX00, w ∈ GG := fun _ h => List.mem_append_right _ (List.mem_append_right _ (List.mem_append_right _ (List.mem_append_right _ (List.mem_append_right _ (List.mem_append_right _ (List.mem_append_right _ (List.mem_append_right _ (List.mem_append_right _ (List.mem_append_right _ (List.mem_append_right _ (List.mem_append_right _ (List.mem_append_right _ (List.mem_append_right _ (List.mem_append_right _ (List.mem_append_right _ (List.mem_append_right _ (List.mem_append_right _ (List.mem_append_right _ (List.mem_append_right _ (List.mem_append_right _ (List.mem_append_right _ (List.mem_append_right _ (List.mem_append_right _ (List.mem_append_right _ (List.mem_append_right _ (List.mem_append_right _ (List.mem_append_right _ (List.mem_append_right _ (List.mem_append_right _ (List.mem_append_right _ (List.mem_append_right _ (List.mem_append_right _ (List.mem_append_right _ (List.mem_append_right _ (List.mem_append_left _ h)))))))))))))))))))))))))))))))))))
theorem gm_wsX10 : ∀ w ∈ wsX10, w ∈ GG := fun _ h => List.mem_append_right _ (List.mem_append_right _ (List.mem_append_right _ (List.mem_append_right _ (List.mem_append_right _ (List.mem_append_right _ (List.mem_append_right _ (List.mem_append_right _ (List.mem_append_right _ (List.mem_append_right _ (List.mem_append_right _ (List.mem_append_right _ (List.mem_append_right _ (List.mem_append_right _ (List.mem_append_right _ (List.mem_append_right _ (List.mem_append_right _ (List.mem_append_right _ (List.mem_append_right _ (List.mem_append_right _ (List.mem_append_right _ (List.mem_append_right _ (List.mem_append_right _ (List.mem_append_right _ (List.mem_append_right _ (List.mem_append_right _ (List.mem_append_right _ (List.mem_append_right _ (List.mem_append_right _ (List.mem_append_right _ (List.mem_append_right _ (List.mem_append_right _ (List.mem_append_right _ (List.mem_append_right _ (List.mem_append_right _ (List.mem_append_right _ (List.mem_append_left _ h))))))))))))))))))))))))))))))))))))
theorem gm_wsX20 : ∀ w ∈ wsX20, w ∈ GG := fun _ h => List.mem_append_right _ (List.mem_append_right _ (List.mem_append_right _ (List.mem_append_right _ (List.mem_append_right _ (List.mem_append_right _ (List.mem_append_right _ (List.mem_append_right _ (List.mem_append_right _ (List.mem_append_right _ (List.mem_append_right _ (List.mem_append_right _ (List.mem_append_right _ (List.mem_append_right _ (List.mem_append_right _ (List.mem_append_right _ (List.mem_append_right _ (List.mem_append_right _ (List.mem_append_right _ (List.mem_append_right _ (List.mem_append_right _ (List.mem_append_right _ (List.mem_append_right _ (List.mem_append_right _ (List.mem_append_right _ (List.mem_append_right _ (List.mem_append_right _ (List.mem_append_right _ (List.mem_append_right _ (List.mem_append_right _ (List.mem_append_right _ (List.mem_append_right _ (List.mem_append_right _ (List.mem_append_right _ (List.mem_append_right _ (List.mem_append_right _ (List.mem_append_right _ (List.mem_append_left _ h)))))))))))))))))))))))))))))))))))))
theorem gm_wsX30 : ∀ w ∈ wsX30, w ∈ GG := fun _ h => List.mem_append_right _ (List.mem_append_right _ (List.mem_append_right _ (List.mem_append_right _ (List.mem_append_right _ (List.mem_append_right _ (List.mem_append_right _ (List.mem_append_right _ (List.mem_append_right _ (List.mem_append_right _ (List.mem_append_right _ (List.mem_append_right _ (List.mem_append_right _ (List.mem_append_right _ (List.mem_append_right _ (List.mem_append_right _ (List.mem_append_right _ (List.mem_append_right _ (List.mem_append_right _ (List.mem_append_right _ (List.mem_append_right _ (List.mem_append_right _ (List.mem_append_right _ (List.mem_append_right _ (List.mem_append_right _ (List.mem_append_right _ (List.mem_append_right _ (List.mem_append_right _ (List.mem_append_right _ (List.mem_append_right _ (List.mem_append_right _ (List.mem_append_right _ (List.mem_append_right _ (List.mem_append_right _ (List.mem_append_right _ (List.mem_append_right _ (List.mem_append_right _ (List.mem_append_right _ (List.mem_append_left _ h))))))))))))))))))))))))))))))))))))))
theorem gm_wsX40 : ∀ w ∈ wsX40, w ∈ GG := fun _ h => List.mem_append_right _ (List.mem_append_right _ (List.mem_append_right _ (List.mem_append_right _ (List.mem_append_right _ (List.mem_append_right _ (List.mem_append_right _ (List.mem_append_right _ (List.mem_append_right _ (List.mem_append_right _ (List.mem_append_right _ (List.mem_append_right _ (List.mem_append_right _ (List.mem_append_right _ (List.mem_append_right _ (List.mem_append_right _ (List.mem_append_right _ (List.mem_append_right _ (List.mem_append_right _ (List.mem_append_right _ (List.mem_append_right _ (List.mem_append_right _ (List.mem_append_right _ (List.mem_append_right _ (List.mem_append_right _ (List.mem_append_right _ (List.mem_append_right _ (List.mem_append_right _ (List.mem_append_right _ (List.mem_append_right _ (List.mem_append_right _ (List.mem_append_right _ (List.mem_append_right _ (List.mem_append_right _ (List.mem_append_right _ (List.mem_append_right _ (List.mem_append_right _ (List.mem_append_right _ (List.mem_append_right _ (List.mem_append_left _ h)))))))))))))))))))))))))))))))))))))))
theorem gm_wsX50 : ∀ w ∈ wsX50, w ∈ GG := fun _ h => List.mem_append_right _ (List.mem_append_right _ (List.mem_append_right _ (List.mem_append_right _ (List.mem_append_right _ (List.mem_append_right _ (List.mem_append_right _ (List.mem_append_right _ (List.mem_append_right _ (List.mem_append_right _ (List.mem_append_right _ (List.mem_append_right _ (List.mem_append_right _ (List.mem_append_right _ (List.mem_append_right _ (List.mem_append_right _ (List.mem_append_right _ (List.mem_append_right _ (List.mem_append_right _ (List.mem_append_right _ (List.mem_append_right _ (List.mem_append_right _ (List.mem_append_right _ (List.mem_append_right _ (List.mem_append_right _ (List.mem_append_right _ (List.mem_append_right _ (List.mem_append_right _ (List.mem_append_right _ (List.mem_append_right _ (List.mem_append_right _ (List.mem_append_right _ (List.mem_append_right _ (List.mem_append_right _ (List.mem_append_right _ (List.mem_append_right _ (List.mem_append_right _ (List.mem_append_right _ (List.mem_append_right _ (List.mem_append_right _ (List.mem_append_left _ h))))))))))))))))))))))))))))))))))))))))
theorem gm_wsX60 : ∀ w ∈ wsX60, w ∈ GG := fun _ h => List.mem_append_right _ (List.mem_append_right _ (List.mem_append_right _ (List.mem_append_right _ (List.mem_append_right _ (List.mem_append_right _ (List.mem_append_right _ (List.mem_append_right _ (List.mem_append_right _ (List.mem_append_right _ (List.mem_append_right _ (List.mem_append_right _ (List.mem_append_right _ (List.mem_append_right _ (List.mem_append_right _ (List.mem_append_right _ (List.mem_append_right _ (List.mem_append_right _ (List.mem_append_right _ (List.mem_append_right _ (List.mem_append_right _ (List.mem_append_right _ (List.mem_append_right _ (List.mem_append_right _ (List.mem_append_right _ (List.mem_append_right _ (List.mem_append_right _ (List.mem_append_right _ (List.mem_append_right _ (List.mem_append_right _ (List.mem_append_right _ (List.mem_append_right _ (List.mem_append_right _ (List.mem_append_right _ (List.mem_append_right _ (List.mem_append_right _ (List.mem_append_right _ (List.mem_append_right _ (List.mem_append_right _ (List.mem_append_right _ (List.mem_append_right _ (List.mem_append_left _ h)))))))))))))))))))))))))))))))))))))))))
theorem gm_wsX70 : ∀ w ∈ wsX70, w ∈ GG := fun _ h => List.mem_append_right _ (List.mem_append_right _ (List.mem_append_right _ (List.mem_append_right _ (List.mem_append_right _ (List.mem_append_right _ (List.mem_append_right _ (List.mem_append_right _ (List.mem_append_right _ (List.mem_append_right _ (List.mem_append_right _ (List.mem_append_right _ (List.mem_append_right _ (List.mem_append_right _ (List.mem_append_right _ (List.mem_append_right _ (List.mem_append_right _ (List.mem_append_right _ (List.mem_append_right _ (List.mem_append_right _ (List.mem_append_right _ (List.mem_append_right _ (List.mem_append_right _ (List.mem_append_right _ (List.mem_append_right _ (List.mem_append_right _ (List.mem_append_right _ (List.mem_append_right _ (List.mem_append_right _ (List.mem_append_right _ (List.mem_append_right _ (List.mem_append_right _ (List.mem_append_right _ (List.mem_append_right _ (List.mem_append_right _ (List.mem_append_right _ (List.mem_append_right _ (List.mem_append_right _ (List.mem_append_right _ (List.mem_append_right _ (List.mem_append_right _ (List.mem_append_right _ (List.mem_append_left _ h))))))))))))))))))))))))))))))))))))))))))
theorem gm_wsX80 : ∀ w ∈ wsX80, w ∈ GG := fun _ h => List.mem_append_right _ (List.mem_append_right _ (List.mem_append_right _ (List.mem_append_right _ (List.mem_append_right _ (List.mem_append_right _ (List.mem_append_right _ (List.mem_append_right _ (List.mem_append_right _ (List.mem_append_right _ (List.mem_append_right _ (List.mem_append_right _ (List.mem_append_right _ (List.mem_append_right _ (List.mem_append_right _ (List.mem_append_right _ (List.mem_append_right _ (List.mem_append_right _ (List.mem_append_right _ (List.mem_append_right _ (List.mem_append_right _ (List.mem_append_right _ (List.mem_append_right _ (List.mem_append_right _ (List.mem_append_right _ (List.mem_append_right _ (List.mem_append_right _ (List.mem_append_right _ (List.mem_append_right _ (List.mem_append_right _ (List.mem_append_right _ (List.mem_append_right _ (List.mem_append_right _ (List.mem_append_right _ (List.mem_append_right _ (List.mem_append_right _ (List.mem_append_right _ (List.mem_append_right _ (List.mem_append_right _ (List.mem_append_right _ (List.mem_append_right _ (List.mem_append_right _ (List.mem_append_right _ (List.mem_append_left _ h)))))))))))))))))))))))))))))))))))))))))))
theorem gm_wsX90 : ∀ w ∈ wsX90, w ∈ GG := fun _ h => List.mem_append_right _ (List.mem_append_right _ (List.mem_append_right _ (List.mem_append_right _ (List.mem_append_right _ (List.mem_append_right _ (List.mem_append_right _ (List.mem_append_right _ (List.mem_append_right _ (List.mem_append_right _ (List.mem_append_right _ (List.mem_append_right _ (List.mem_append_right _ (List.mem_append_right _ (List.mem_append_right _ (List.mem_append_right _ (List.mem_append_right _ (List.mem_append_right _ (List.mem_append_right _ (List.mem_append_right _ (List.mem_append_right _ (List.mem_append_right _ (List.mem_append_right _ (List.mem_append_right _ (List.mem_append_right _ (List.mem_append_right _ (List.mem_append_right _ (List.mem_append_right _ (List.mem_append_right _ (List.mem_append_right _ (List.mem_append_right _ (List.mem_append_right _ (List.mem_append_right _ (List.mem_append_right _ (List.mem_append_right _ (List.mem_append_right _ (List.mem_append_right _ (List.mem_append_right _ (List.mem_append_right _ (List.mem_append_right _ (List.mem_append_right _ (List.mem_append_right _ (List.mem_append_right _ (List.mem_append_right _ (List.mem_append_left _ h))))))))))))))))))))))))))))))))))))))))))))
theorem gm_wsX100 : ∀ w ∈ wsX100, w ∈ GG := fun _ h => List.mem_append_right _ (List.mem_append_right _ (List.mem_append_right _ (List.mem_append_right _ (List.mem_append_right _ (List.mem_append_right _ (List.mem_append_right _ (List.mem_append_right _ (List.mem_append_right _ (List.mem_append_right _ (List.mem_append_right _ (List.mem_append_right _ (List.mem_append_right _ (List.mem_append_right _ (List.mem_append_right _ (List.mem_append_right _ (List.mem_append_right _ (List.mem_append_right _ (List.mem_append_right _ (List.mem_append_right _ (List.mem_append_right _ (List.mem_append_right _ (List.mem_append_right _ (List.mem_append_right _ (List.mem_append_right _ (List.mem_append_right _ (List.mem_append_right _ (List.mem_append_right _ (List.mem_append_right _ (List.mem_append_right _ (List.mem_append_right _ (List.mem_append_right _ (List.mem_append_right _ (List.mem_append_right _ (List.mem_append_right _ (List.mem_append_right _ (List.mem_append_right _ (List.mem_append_right _ (List.mem_append_right _ (List.mem_append_right _ (List.mem_append_right _ (List.mem_append_right _ (List.mem_append_right _ (List.mem_append_right _ (List.mem_append_right _ (List.mem_append_left _ h)))))))))))))))))))))))))))))))))))))))))))))
theorem gm_wsX110 : ∀ w ∈ wsX110, w ∈ GG := fun _ h => List.mem_append_right _ (List.mem_append_right _ (List.mem_append_right _ (List.mem_append_right _ (List.mem_append_right _ (List.mem_append_right _ (List.mem_append_right _ (List.mem_append_right _ (List.mem_append_right _ (List.mem_append_right _ (List.mem_append_right _ (List.mem_append_right _ (List.mem_append_right _ (List.mem_append_right _ (List.mem_append_right _ (List.mem_append_right _ (List.mem_append_right _ (List.mem_append_right _ (List.mem_append_right _ (List.mem_append_right _ (List.mem_append_right _ (List.mem_append_right _ (List.mem_append_right _ (List.mem_append_right _ (List.mem_append_right _ (List.mem_append_right _ (List.mem_append_right _ (List.mem_append_right _ (List.mem_append_right _ (List.mem_append_right _ (List.mem_append_right _ (List.mem_append_right _ (List.mem_append_right _ (List.mem_append_right _ (List.mem_append_right _ (List.mem_append_right _ (List.mem_append_right _ (List.mem_append_right _ (List.mem_append_right _ (List.mem_append_right _ (List.mem_append_right _ (List.mem_append_right _ (List.mem_append_right _ (List.mem_append_right _ (List.mem_append_right _ (List.mem_append_right _ (List.mem_append_left _ h))))))))))))))))))))))))))))))))))))))))))))))
theorem gm_wsX120 : ∀ w ∈ wsX120, w ∈ GG := fun _ h => List.mem_append_right _ (List.mem_append_right _ (List.mem_append_right _ (List.mem_append_right _ (List.mem_append_right _ (List.mem_append_right _ (List.mem_append_right _ (List.mem_append_right _ (List.mem_append_right _ (List.mem_append_right _ (List.mem_append_right _ (List.mem_append_right _ (List.mem_append_right _ (List.mem_append_right _ (List.mem_append_right _ (List.mem_append_right _ (List.mem_append_right _ (List.mem_append_right _ (List.mem_append_right _ (List.mem_append_right _ (List.mem_append_right _ (List.mem_append_right _ (List.mem_append_right _ (List.mem_append_right _ (List.mem_append_right _ (List.mem_append_right _ (List.mem_append_right _ (List.mem_append_right _ (List.mem_append_right _ (List.mem_append_right _ (List.mem_append_right _ (List.mem_append_right _ (List.mem_append_right _ (List.mem_append_right _ (List.mem_append_right _ (List.mem_append_right _ (List.mem_append_right _ (List.mem_append_right _ (List.mem_append_right _ (List.mem_append_right _ (List.mem_append_right _ (List.mem_append_right _ (List.mem_append_right _ (List.mem_append_right _ (List.mem_append_right _ (List.mem_append_right _ (List.mem_append_right _ (h)))))))))))))))))))))))))))))))))))))))))))))))
set_option maxRecDepth 100000 in
theorem GG_good : GG.all goodWord = true := by decide +kernel
