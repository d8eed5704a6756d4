-- ===== PART A: goes FIRST, ahead of the names: the tables' words, and 'selects' of the private methods out of them =====
/-- a private method of a class that the tables say can be made, by its rows of tables_1 -/
def lw_okq (q : MethodName × Nat) : Prop := (q.1.cls ≠ "java/lang/invoke/MethodHandle" ∧ q.1.cls ≠ "java/lang/invoke/VarHandle") ∧ Cond.instantiable q.1.cls q.2 ∈ tables_1 ∧ Cond.privateMethod q.1 ∈ tables_1 ∧ Cond.instanceMethod q.1 ∈ tables_1
theorem lw_p0 : lw_okq (⟨"DuesOnRungs", "look", "()V"⟩, 18) := ⟨⟨by decide +kernel, by decide +kernel⟩, List.mem_of_getElem? (i := 19) (by decide +kernel), List.mem_of_getElem? (i := 465) (by decide +kernel), List.mem_of_getElem? (i := 466) (by decide +kernel)⟩
theorem lw_p1 : lw_okq (⟨"DuesOnRungs$Scene", "layRungs", "(LDuesOnRungs$Book;)V"⟩, 11) := ⟨⟨by decide +kernel, by decide +kernel⟩, List.mem_of_getElem? (i := 120) (by decide +kernel), List.mem_of_getElem? (i := 473) (by decide +kernel), List.mem_of_getElem? (i := 474) (by decide +kernel)⟩
theorem lw_p2 : lw_okq (⟨"DuesOnRungs$Scene", "layRates", "([I[I)V"⟩, 11) := ⟨⟨by decide +kernel, by decide +kernel⟩, List.mem_of_getElem? (i := 120) (by decide +kernel), List.mem_of_getElem? (i := 477) (by decide +kernel), List.mem_of_getElem? (i := 478) (by decide +kernel)⟩
theorem lw_p3 : lw_okq (⟨"DuesOnRungs$Bond", "payingOn", "(III)I"⟩, 7) := ⟨⟨by decide +kernel, by decide +kernel⟩, List.mem_of_getElem? (i := 55) (by decide +kernel), List.mem_of_getElem? (i := 486) (by decide +kernel), List.mem_of_getElem? (i := 487) (by decide +kernel)⟩
theorem lw_p4 : lw_okq (⟨"DuesOnRungs$Bond", "isCalledOn", "(II)Z"⟩, 7) := ⟨⟨by decide +kernel, by decide +kernel⟩, List.mem_of_getElem? (i := 55) (by decide +kernel), List.mem_of_getElem? (i := 490) (by decide +kernel), List.mem_of_getElem? (i := 491) (by decide +kernel)⟩
theorem lw_p5 : lw_okq (⟨"DuesOnRungs$Scene", "gatherPayings", "(I)V"⟩, 11) := ⟨⟨by decide +kernel, by decide +kernel⟩, List.mem_of_getElem? (i := 120) (by decide +kernel), List.mem_of_getElem? (i := 494) (by decide +kernel), List.mem_of_getElem? (i := 495) (by decide +kernel)⟩
theorem lw_p6 : lw_okq (⟨"DuesOnRungs", "isRow", "(I)Z"⟩, 18) := ⟨⟨by decide +kernel, by decide +kernel⟩, List.mem_of_getElem? (i := 19) (by decide +kernel), List.mem_of_getElem? (i := 576) (by decide +kernel), List.mem_of_getElem? (i := 577) (by decide +kernel)⟩
theorem lw_p7 : lw_okq (⟨"DuesOnRungs", "reckonRow", "(I)V"⟩, 18) := ⟨⟨by decide +kernel, by decide +kernel⟩, List.mem_of_getElem? (i := 19) (by decide +kernel), List.mem_of_getElem? (i := 584) (by decide +kernel), List.mem_of_getElem? (i := 585) (by decide +kernel)⟩
theorem lw_p8 : lw_okq (⟨"DuesOnRungs", "readHeld", "()V"⟩, 18) := ⟨⟨by decide +kernel, by decide +kernel⟩, List.mem_of_getElem? (i := 19) (by decide +kernel), List.mem_of_getElem? (i := 588) (by decide +kernel), List.mem_of_getElem? (i := 589) (by decide +kernel)⟩
theorem lw_p9 : lw_okq (⟨"DuesOnRungs$Fraction", "reduce", "(JJ)V"⟩, 3) := ⟨⟨by decide +kernel, by decide +kernel⟩, List.mem_of_getElem? (i := 195) (by decide +kernel), List.mem_of_getElem? (i := 604) (by decide +kernel), List.mem_of_getElem? (i := 605) (by decide +kernel)⟩
theorem lw_p10 : lw_okq (⟨"DuesOnRungs", "solve", "()V"⟩, 18) := ⟨⟨by decide +kernel, by decide +kernel⟩, List.mem_of_getElem? (i := 19) (by decide +kernel), List.mem_of_getElem? (i := 669) (by decide +kernel), List.mem_of_getElem? (i := 670) (by decide +kernel)⟩
theorem lw_p11 : lw_okq (⟨"DuesOnRungs$Dictionary", "beginCarry", "(ILDuesOnRungs$Scene;)V"⟩, 9) := ⟨⟨by decide +kernel, by decide +kernel⟩, List.mem_of_getElem? (i := 243) (by decide +kernel), List.mem_of_getElem? (i := 683) (by decide +kernel), List.mem_of_getElem? (i := 684) (by decide +kernel)⟩
theorem lw_p12 : lw_okq (⟨"DuesOnRungs$Dictionary", "findLeaving", "()I"⟩, 9) := ⟨⟨by decide +kernel, by decide +kernel⟩, List.mem_of_getElem? (i := 243) (by decide +kernel), List.mem_of_getElem? (i := 713) (by decide +kernel), List.mem_of_getElem? (i := 714) (by decide +kernel)⟩
theorem lw_p13 : lw_okq (⟨"DuesOnRungs$Dictionary", "findEntering", "(LDuesOnRungs$Row;)I"⟩, 9) := ⟨⟨by decide +kernel, by decide +kernel⟩, List.mem_of_getElem? (i := 243) (by decide +kernel), List.mem_of_getElem? (i := 717) (by decide +kernel), List.mem_of_getElem? (i := 718) (by decide +kernel)⟩
theorem lw_p14 : lw_okq (⟨"DuesOnRungs$Dictionary", "exchange", "(II)V"⟩, 9) := ⟨⟨by decide +kernel, by decide +kernel⟩, List.mem_of_getElem? (i := 243) (by decide +kernel), List.mem_of_getElem? (i := 730) (by decide +kernel), List.mem_of_getElem? (i := 731) (by decide +kernel)⟩
theorem lw_p15 : lw_okq (⟨"DuesOnRungs$Dictionary", "solveFor", "(LDuesOnRungs$Row;I)V"⟩, 9) := ⟨⟨by decide +kernel, by decide +kernel⟩, List.mem_of_getElem? (i := 243) (by decide +kernel), List.mem_of_getElem? (i := 734) (by decide +kernel), List.mem_of_getElem? (i := 735) (by decide +kernel)⟩
def lw_privs_1 : List (MethodName × Nat) := [(⟨"DuesOnRungs", "look", "()V"⟩, 18), (⟨"DuesOnRungs$Scene", "layRungs", "(LDuesOnRungs$Book;)V"⟩, 11), (⟨"DuesOnRungs$Scene", "layRates", "([I[I)V"⟩, 11), (⟨"DuesOnRungs$Bond", "payingOn", "(III)I"⟩, 7), (⟨"DuesOnRungs$Bond", "isCalledOn", "(II)Z"⟩, 7), (⟨"DuesOnRungs$Scene", "gatherPayings", "(I)V"⟩, 11), (⟨"DuesOnRungs", "isRow", "(I)Z"⟩, 18), (⟨"DuesOnRungs", "reckonRow", "(I)V"⟩, 18), (⟨"DuesOnRungs", "readHeld", "()V"⟩, 18), (⟨"DuesOnRungs$Fraction", "reduce", "(JJ)V"⟩, 3), (⟨"DuesOnRungs", "solve", "()V"⟩, 18), (⟨"DuesOnRungs$Dictionary", "beginCarry", "(ILDuesOnRungs$Scene;)V"⟩, 9), (⟨"DuesOnRungs$Dictionary", "findLeaving", "()I"⟩, 9), (⟨"DuesOnRungs$Dictionary", "findEntering", "(LDuesOnRungs$Row;)I"⟩, 9), (⟨"DuesOnRungs$Dictionary", "exchange", "(II)V"⟩, 9), (⟨"DuesOnRungs$Dictionary", "solveFor", "(LDuesOnRungs$Row;I)V"⟩, 9)]
theorem lw_r1 : ∀ q ∈ lw_privs_1, lw_okq q := List.forall_mem_cons.mpr ⟨lw_p0, List.forall_mem_cons.mpr ⟨lw_p1, List.forall_mem_cons.mpr ⟨lw_p2, List.forall_mem_cons.mpr ⟨lw_p3, List.forall_mem_cons.mpr ⟨lw_p4, List.forall_mem_cons.mpr ⟨lw_p5, List.forall_mem_cons.mpr ⟨lw_p6, List.forall_mem_cons.mpr ⟨lw_p7, List.forall_mem_cons.mpr ⟨lw_p8, List.forall_mem_cons.mpr ⟨lw_p9, List.forall_mem_cons.mpr ⟨lw_p10, List.forall_mem_cons.mpr ⟨lw_p11, List.forall_mem_cons.mpr ⟨lw_p12, List.forall_mem_cons.mpr ⟨lw_p13, List.forall_mem_cons.mpr ⟨lw_p14, List.forall_mem_cons.mpr ⟨lw_p15, fun _ h => absurd h List.not_mem_nil⟩⟩⟩⟩⟩⟩⟩⟩⟩⟩⟩⟩⟩⟩⟩⟩
theorem lw_p16 : lw_okq (⟨"DuesOnRungs$Dictionary", "replaceIn", "(LDuesOnRungs$Row;LDuesOnRungs$Row;I)V"⟩, 9) := ⟨⟨by decide +kernel, by decide +kernel⟩, List.mem_of_getElem? (i := 243) (by decide +kernel), List.mem_of_getElem? (i := 739) (by decide +kernel), List.mem_of_getElem? (i := 740) (by decide +kernel)⟩
theorem lw_p17 : lw_okq (⟨"DuesOnRungs$Dictionary", "isGreat", "()Z"⟩, 9) := ⟨⟨by decide +kernel, by decide +kernel⟩, List.mem_of_getElem? (i := 243) (by decide +kernel), List.mem_of_getElem? (i := 744) (by decide +kernel), List.mem_of_getElem? (i := 745) (by decide +kernel)⟩
theorem lw_p18 : lw_okq (⟨"DuesOnRungs$Ladder", "buyAt", "(IILDuesOnRungs$Book;LDuesOnRungs$Scene;)V"⟩, 4) := ⟨⟨by decide +kernel, by decide +kernel⟩, List.mem_of_getElem? (i := 303) (by decide +kernel), List.mem_of_getElem? (i := 783) (by decide +kernel), List.mem_of_getElem? (i := 784) (by decide +kernel)⟩
theorem lw_p19 : lw_okq (⟨"DuesOnRungs", "readRates", "(LDuesOnRungs$Sheet;)Z"⟩, 18) := ⟨⟨by decide +kernel, by decide +kernel⟩, List.mem_of_getElem? (i := 19) (by decide +kernel), List.mem_of_getElem? (i := 801) (by decide +kernel), List.mem_of_getElem? (i := 802) (by decide +kernel)⟩
theorem lw_p20 : lw_okq (⟨"DuesOnRungs", "playBy", "([I)V"⟩, 18) := ⟨⟨by decide +kernel, by decide +kernel⟩, List.mem_of_getElem? (i := 19) (by decide +kernel), List.mem_of_getElem? (i := 805) (by decide +kernel), List.mem_of_getElem? (i := 806) (by decide +kernel)⟩
theorem lw_p21 : lw_okq (⟨"DuesOnRungs", "shortBySeed", "(I)J"⟩, 18) := ⟨⟨by decide +kernel, by decide +kernel⟩, List.mem_of_getElem? (i := 19) (by decide +kernel), List.mem_of_getElem? (i := 828) (by decide +kernel), List.mem_of_getElem? (i := 829) (by decide +kernel)⟩
theorem lw_p22 : lw_okq (⟨"DuesOnRungsModel", "finds", "()V"⟩, 34) := ⟨⟨by decide +kernel, by decide +kernel⟩, List.mem_of_getElem? (i := 921) (by decide +kernel), List.mem_of_getElem? (i := 1046) (by decide +kernel), List.mem_of_getElem? (i := 1047) (by decide +kernel)⟩
theorem lw_p23 : lw_okq (⟨"DuesOnRungsModel", "isRung", "(I)Z"⟩, 34) := ⟨⟨by decide +kernel, by decide +kernel⟩, List.mem_of_getElem? (i := 921) (by decide +kernel), List.mem_of_getElem? (i := 1062) (by decide +kernel), List.mem_of_getElem? (i := 1063) (by decide +kernel)⟩
theorem lw_p24 : lw_okq (⟨"DuesOnRungsModel", "rateOf", "(I)I"⟩, 34) := ⟨⟨by decide +kernel, by decide +kernel⟩, List.mem_of_getElem? (i := 921) (by decide +kernel), List.mem_of_getElem? (i := 1066) (by decide +kernel), List.mem_of_getElem? (i := 1067) (by decide +kernel)⟩
theorem lw_p25 : lw_okq (⟨"DuesOnRungsModel", "rungFor", "(I)I"⟩, 34) := ⟨⟨by decide +kernel, by decide +kernel⟩, List.mem_of_getElem? (i := 921) (by decide +kernel), List.mem_of_getElem? (i := 1074) (by decide +kernel), List.mem_of_getElem? (i := 1075) (by decide +kernel)⟩
theorem lw_p26 : lw_okq (⟨"DuesOnRungsModel", "isBond", "(I)Z"⟩, 34) := ⟨⟨by decide +kernel, by decide +kernel⟩, List.mem_of_getElem? (i := 921) (by decide +kernel), List.mem_of_getElem? (i := 1086) (by decide +kernel), List.mem_of_getElem? (i := 1087) (by decide +kernel)⟩
theorem lw_p27 : lw_okq (⟨"DuesOnRungsModel", "of", "(II)I"⟩, 34) := ⟨⟨by decide +kernel, by decide +kernel⟩, List.mem_of_getElem? (i := 921) (by decide +kernel), List.mem_of_getElem? (i := 1090) (by decide +kernel), List.mem_of_getElem? (i := 1091) (by decide +kernel)⟩
theorem lw_p28 : lw_okq (⟨"DuesOnRungsModel", "lastOf", "(I)I"⟩, 34) := ⟨⟨by decide +kernel, by decide +kernel⟩, List.mem_of_getElem? (i := 921) (by decide +kernel), List.mem_of_getElem? (i := 1098) (by decide +kernel), List.mem_of_getElem? (i := 1099) (by decide +kernel)⟩
theorem lw_p29 : lw_okq (⟨"DuesOnRungsModel", "paysAtRung", "(II)I"⟩, 34) := ⟨⟨by decide +kernel, by decide +kernel⟩, List.mem_of_getElem? (i := 921) (by decide +kernel), List.mem_of_getElem? (i := 1102) (by decide +kernel), List.mem_of_getElem? (i := 1103) (by decide +kernel)⟩
theorem lw_p30 : lw_okq (⟨"DuesOnRungsModel", "paysOn", "(II)I"⟩, 34) := ⟨⟨by decide +kernel, by decide +kernel⟩, List.mem_of_getElem? (i := 921) (by decide +kernel), List.mem_of_getElem? (i := 1106) (by decide +kernel), List.mem_of_getElem? (i := 1107) (by decide +kernel)⟩
theorem lw_p31 : lw_okq (⟨"DuesOnRungsModel", "rateBy", "(I)I"⟩, 34) := ⟨⟨by decide +kernel, by decide +kernel⟩, List.mem_of_getElem? (i := 921) (by decide +kernel), List.mem_of_getElem? (i := 1110) (by decide +kernel), List.mem_of_getElem? (i := 1111) (by decide +kernel)⟩
def lw_privs_2 : List (MethodName × Nat) := [(⟨"DuesOnRungs$Dictionary", "replaceIn", "(LDuesOnRungs$Row;LDuesOnRungs$Row;I)V"⟩, 9), (⟨"DuesOnRungs$Dictionary", "isGreat", "()Z"⟩, 9), (⟨"DuesOnRungs$Ladder", "buyAt", "(IILDuesOnRungs$Book;LDuesOnRungs$Scene;)V"⟩, 4), (⟨"DuesOnRungs", "readRates", "(LDuesOnRungs$Sheet;)Z"⟩, 18), (⟨"DuesOnRungs", "playBy", "([I)V"⟩, 18), (⟨"DuesOnRungs", "shortBySeed", "(I)J"⟩, 18), (⟨"DuesOnRungsModel", "finds", "()V"⟩, 34), (⟨"DuesOnRungsModel", "isRung", "(I)Z"⟩, 34), (⟨"DuesOnRungsModel", "rateOf", "(I)I"⟩, 34), (⟨"DuesOnRungsModel", "rungFor", "(I)I"⟩, 34), (⟨"DuesOnRungsModel", "isBond", "(I)Z"⟩, 34), (⟨"DuesOnRungsModel", "of", "(II)I"⟩, 34), (⟨"DuesOnRungsModel", "lastOf", "(I)I"⟩, 34), (⟨"DuesOnRungsModel", "paysAtRung", "(II)I"⟩, 34), (⟨"DuesOnRungsModel", "paysOn", "(II)I"⟩, 34), (⟨"DuesOnRungsModel", "rateBy", "(I)I"⟩, 34)]
theorem lw_r2 : ∀ q ∈ lw_privs_2, lw_okq q := List.forall_mem_cons.mpr ⟨lw_p16, List.forall_mem_cons.mpr ⟨lw_p17, List.forall_mem_cons.mpr ⟨lw_p18, List.forall_mem_cons.mpr ⟨lw_p19, List.forall_mem_cons.mpr ⟨lw_p20, List.forall_mem_cons.mpr ⟨lw_p21, List.forall_mem_cons.mpr ⟨lw_p22, List.forall_mem_cons.mpr ⟨lw_p23, List.forall_mem_cons.mpr ⟨lw_p24, List.forall_mem_cons.mpr ⟨lw_p25, List.forall_mem_cons.mpr ⟨lw_p26, List.forall_mem_cons.mpr ⟨lw_p27, List.forall_mem_cons.mpr ⟨lw_p28, List.forall_mem_cons.mpr ⟨lw_p29, List.forall_mem_cons.mpr ⟨lw_p30, List.forall_mem_cons.mpr ⟨lw_p31, fun _ h => absurd h List.not_mem_nil⟩⟩⟩⟩⟩⟩⟩⟩⟩⟩⟩⟩⟩⟩⟩⟩
theorem lw_p32 : lw_okq (⟨"DuesOnRungsModel", "calledOn", "(I)I"⟩, 34) := ⟨⟨by decide +kernel, by decide +kernel⟩, List.mem_of_getElem? (i := 921) (by decide +kernel), List.mem_of_getElem? (i := 1114) (by decide +kernel), List.mem_of_getElem? (i := 1115) (by decide +kernel)⟩
theorem lw_p33 : lw_okq (⟨"DuesOnRungsModel", "allOf", "(I)I"⟩, 34) := ⟨⟨by decide +kernel, by decide +kernel⟩, List.mem_of_getElem? (i := 921) (by decide +kernel), List.mem_of_getElem? (i := 1118) (by decide +kernel), List.mem_of_getElem? (i := 1119) (by decide +kernel)⟩
theorem lw_p34 : lw_okq (⟨"DuesOnRungsModel", "ranks", "(I)V"⟩, 34) := ⟨⟨by decide +kernel, by decide +kernel⟩, List.mem_of_getElem? (i := 921) (by decide +kernel), List.mem_of_getElem? (i := 1141) (by decide +kernel), List.mem_of_getElem? (i := 1142) (by decide +kernel)⟩
theorem lw_p35 : lw_okq (⟨"DuesOnRungsModel", "isAhead", "(III)Z"⟩, 34) := ⟨⟨by decide +kernel, by decide +kernel⟩, List.mem_of_getElem? (i := 921) (by decide +kernel), List.mem_of_getElem? (i := 1145) (by decide +kernel), List.mem_of_getElem? (i := 1146) (by decide +kernel)⟩
theorem lw_p36 : lw_okq (⟨"DuesOnRungsModel", "isRow", "(I)Z"⟩, 34) := ⟨⟨by decide +kernel, by decide +kernel⟩, List.mem_of_getElem? (i := 921) (by decide +kernel), List.mem_of_getElem? (i := 1153) (by decide +kernel), List.mem_of_getElem? (i := 1154) (by decide +kernel)⟩
theorem lw_p37 : lw_okq (⟨"DuesOnRungsModel", "worthOf", "(I)V"⟩, 34) := ⟨⟨by decide +kernel, by decide +kernel⟩, List.mem_of_getElem? (i := 921) (by decide +kernel), List.mem_of_getElem? (i := 1158) (by decide +kernel), List.mem_of_getElem? (i := 1159) (by decide +kernel)⟩
theorem lw_p38 : lw_okq (⟨"DuesOnRungsModel", "worthAt", "(II)V"⟩, 34) := ⟨⟨by decide +kernel, by decide +kernel⟩, List.mem_of_getElem? (i := 921) (by decide +kernel), List.mem_of_getElem? (i := 1162) (by decide +kernel), List.mem_of_getElem? (i := 1163) (by decide +kernel)⟩
theorem lw_p39 : lw_okq (⟨"DuesOnRungsModel", "amountAt", "(II)I"⟩, 34) := ⟨⟨by decide +kernel, by decide +kernel⟩, List.mem_of_getElem? (i := 921) (by decide +kernel), List.mem_of_getElem? (i := 1166) (by decide +kernel), List.mem_of_getElem? (i := 1167) (by decide +kernel)⟩
theorem lw_p40 : lw_okq (⟨"DuesOnRungsModel", "byFactor", "(IZ)V"⟩, 34) := ⟨⟨by decide +kernel, by decide +kernel⟩, List.mem_of_getElem? (i := 921) (by decide +kernel), List.mem_of_getElem? (i := 1170) (by decide +kernel), List.mem_of_getElem? (i := 1171) (by decide +kernel)⟩
theorem lw_p41 : lw_okq (⟨"DuesOnRungsModel", "factor", "(I)I"⟩, 34) := ⟨⟨by decide +kernel, by decide +kernel⟩, List.mem_of_getElem? (i := 921) (by decide +kernel), List.mem_of_getElem? (i := 1174) (by decide +kernel), List.mem_of_getElem? (i := 1175) (by decide +kernel)⟩
theorem lw_p42 : lw_okq (⟨"DuesOnRungsModel", "lowest", "(JJ)V"⟩, 34) := ⟨⟨by decide +kernel, by decide +kernel⟩, List.mem_of_getElem? (i := 921) (by decide +kernel), List.mem_of_getElem? (i := 1179) (by decide +kernel), List.mem_of_getElem? (i := 1180) (by decide +kernel)⟩
theorem lw_p43 : lw_okq (⟨"DuesOnRungsModel", "quotient", "(JJJJ)V"⟩, 34) := ⟨⟨by decide +kernel, by decide +kernel⟩, List.mem_of_getElem? (i := 921) (by decide +kernel), List.mem_of_getElem? (i := 1189) (by decide +kernel), List.mem_of_getElem? (i := 1190) (by decide +kernel)⟩
theorem lw_p44 : lw_okq (⟨"DuesOnRungsModel", "product", "(JJJJ)V"⟩, 34) := ⟨⟨by decide +kernel, by decide +kernel⟩, List.mem_of_getElem? (i := 921) (by decide +kernel), List.mem_of_getElem? (i := 1193) (by decide +kernel), List.mem_of_getElem? (i := 1194) (by decide +kernel)⟩
theorem lw_p45 : lw_okq (⟨"DuesOnRungsModel", "times", "(JJ)J"⟩, 34) := ⟨⟨by decide +kernel, by decide +kernel⟩, List.mem_of_getElem? (i := 921) (by decide +kernel), List.mem_of_getElem? (i := 1197) (by decide +kernel), List.mem_of_getElem? (i := 1198) (by decide +kernel)⟩
theorem lw_p46 : lw_okq (⟨"DuesOnRungsModel", "sum", "(JJJJ)V"⟩, 34) := ⟨⟨by decide +kernel, by decide +kernel⟩, List.mem_of_getElem? (i := 921) (by decide +kernel), List.mem_of_getElem? (i := 1201) (by decide +kernel), List.mem_of_getElem? (i := 1202) (by decide +kernel)⟩
theorem lw_p47 : lw_okq (⟨"DuesOnRungsModel", "plus", "(JJ)J"⟩, 34) := ⟨⟨by decide +kernel, by decide +kernel⟩, List.mem_of_getElem? (i := 921) (by decide +kernel), List.mem_of_getElem? (i := 1205) (by decide +kernel), List.mem_of_getElem? (i := 1206) (by decide +kernel)⟩
def lw_privs_3 : List (MethodName × Nat) := [(⟨"DuesOnRungsModel", "calledOn", "(I)I"⟩, 34), (⟨"DuesOnRungsModel", "allOf", "(I)I"⟩, 34), (⟨"DuesOnRungsModel", "ranks", "(I)V"⟩, 34), (⟨"DuesOnRungsModel", "isAhead", "(III)Z"⟩, 34), (⟨"DuesOnRungsModel", "isRow", "(I)Z"⟩, 34), (⟨"DuesOnRungsModel", "worthOf", "(I)V"⟩, 34), (⟨"DuesOnRungsModel", "worthAt", "(II)V"⟩, 34), (⟨"DuesOnRungsModel", "amountAt", "(II)I"⟩, 34), (⟨"DuesOnRungsModel", "byFactor", "(IZ)V"⟩, 34), (⟨"DuesOnRungsModel", "factor", "(I)I"⟩, 34), (⟨"DuesOnRungsModel", "lowest", "(JJ)V"⟩, 34), (⟨"DuesOnRungsModel", "quotient", "(JJJJ)V"⟩, 34), (⟨"DuesOnRungsModel", "product", "(JJJJ)V"⟩, 34), (⟨"DuesOnRungsModel", "times", "(JJ)J"⟩, 34), (⟨"DuesOnRungsModel", "sum", "(JJJJ)V"⟩, 34), (⟨"DuesOnRungsModel", "plus", "(JJ)J"⟩, 34)]
theorem lw_r3 : ∀ q ∈ lw_privs_3, lw_okq q := List.forall_mem_cons.mpr ⟨lw_p32, List.forall_mem_cons.mpr ⟨lw_p33, List.forall_mem_cons.mpr ⟨lw_p34, List.forall_mem_cons.mpr ⟨lw_p35, List.forall_mem_cons.mpr ⟨lw_p36, List.forall_mem_cons.mpr ⟨lw_p37, List.forall_mem_cons.mpr ⟨lw_p38, List.forall_mem_cons.mpr ⟨lw_p39, List.forall_mem_cons.mpr ⟨lw_p40, List.forall_mem_cons.mpr ⟨lw_p41, List.forall_mem_cons.mpr ⟨lw_p42, List.forall_mem_cons.mpr ⟨lw_p43, List.forall_mem_cons.mpr ⟨lw_p44, List.forall_mem_cons.mpr ⟨lw_p45, List.forall_mem_cons.mpr ⟨lw_p46, List.forall_mem_cons.mpr ⟨lw_p47, fun _ h => absurd h List.not_mem_nil⟩⟩⟩⟩⟩⟩⟩⟩⟩⟩⟩⟩⟩⟩⟩⟩
theorem lw_p48 : lw_okq (⟨"DuesOnRungsModel", "part", "(I)J"⟩, 34) := ⟨⟨by decide +kernel, by decide +kernel⟩, List.mem_of_getElem? (i := 921) (by decide +kernel), List.mem_of_getElem? (i := 1209) (by decide +kernel), List.mem_of_getElem? (i := 1210) (by decide +kernel)⟩
theorem lw_p49 : lw_okq (⟨"DuesOnRungsModel", "lengthOf", "(IZJJ)V"⟩, 34) := ⟨⟨by decide +kernel, by decide +kernel⟩, List.mem_of_getElem? (i := 921) (by decide +kernel), List.mem_of_getElem? (i := 1217) (by decide +kernel), List.mem_of_getElem? (i := 1218) (by decide +kernel)⟩
theorem lw_p50 : lw_okq (⟨"DuesOnRungsModel", "solved", "()I"⟩, 34) := ⟨⟨by decide +kernel, by decide +kernel⟩, List.mem_of_getElem? (i := 921) (by decide +kernel), List.mem_of_getElem? (i := 1230) (by decide +kernel), List.mem_of_getElem? (i := 1231) (by decide +kernel)⟩
theorem lw_p51 : lw_okq (⟨"DuesOnRungsModel", "begins", "()V"⟩, 34) := ⟨⟨by decide +kernel, by decide +kernel⟩, List.mem_of_getElem? (i := 921) (by decide +kernel), List.mem_of_getElem? (i := 1234) (by decide +kernel), List.mem_of_getElem? (i := 1235) (by decide +kernel)⟩
theorem lw_p52 : lw_okq (⟨"DuesOnRungsModel", "comes", "(IZJ)V"⟩, 34) := ⟨⟨by decide +kernel, by decide +kernel⟩, List.mem_of_getElem? (i := 921) (by decide +kernel), List.mem_of_getElem? (i := 1238) (by decide +kernel), List.mem_of_getElem? (i := 1239) (by decide +kernel)⟩
theorem lw_p53 : lw_okq (⟨"DuesOnRungsModel", "isRoom", "(I)Z"⟩, 34) := ⟨⟨by decide +kernel, by decide +kernel⟩, List.mem_of_getElem? (i := 921) (by decide +kernel), List.mem_of_getElem? (i := 1242) (by decide +kernel), List.mem_of_getElem? (i := 1243) (by decide +kernel)⟩
theorem lw_p54 : lw_okq (⟨"DuesOnRungsModel", "leaves", "()I"⟩, 34) := ⟨⟨by decide +kernel, by decide +kernel⟩, List.mem_of_getElem? (i := 921) (by decide +kernel), List.mem_of_getElem? (i := 1246) (by decide +kernel), List.mem_of_getElem? (i := 1247) (by decide +kernel)⟩
theorem lw_p55 : lw_okq (⟨"DuesOnRungsModel", "enters", "(I)I"⟩, 34) := ⟨⟨by decide +kernel, by decide +kernel⟩, List.mem_of_getElem? (i := 921) (by decide +kernel), List.mem_of_getElem? (i := 1250) (by decide +kernel), List.mem_of_getElem? (i := 1251) (by decide +kernel)⟩
theorem lw_p56 : lw_okq (⟨"DuesOnRungsModel", "turns", "(II)V"⟩, 34) := ⟨⟨by decide +kernel, by decide +kernel⟩, List.mem_of_getElem? (i := 921) (by decide +kernel), List.mem_of_getElem? (i := 1258) (by decide +kernel), List.mem_of_getElem? (i := 1259) (by decide +kernel)⟩
theorem lw_p57 : lw_okq (⟨"DuesOnRungsModel", "fills", "(III)V"⟩, 34) := ⟨⟨by decide +kernel, by decide +kernel⟩, List.mem_of_getElem? (i := 921) (by decide +kernel), List.mem_of_getElem? (i := 1262) (by decide +kernel), List.mem_of_getElem? (i := 1263) (by decide +kernel)⟩
theorem lw_p58 : lw_okq (⟨"DuesOnRungsModel", "bare", "(I)V"⟩, 34) := ⟨⟨by decide +kernel, by decide +kernel⟩, List.mem_of_getElem? (i := 921) (by decide +kernel), List.mem_of_getElem? (i := 1270) (by decide +kernel), List.mem_of_getElem? (i := 1271) (by decide +kernel)⟩
theorem lw_p59 : lw_okq (⟨"DuesOnRungsModel", "proofOf", "(I)V"⟩, 34) := ⟨⟨by decide +kernel, by decide +kernel⟩, List.mem_of_getElem? (i := 921) (by decide +kernel), List.mem_of_getElem? (i := 1278) (by decide +kernel), List.mem_of_getElem? (i := 1279) (by decide +kernel)⟩
theorem lw_p60 : lw_okq (⟨"DuesOnRungsModel", "price", "(I)V"⟩, 34) := ⟨⟨by decide +kernel, by decide +kernel⟩, List.mem_of_getElem? (i := 921) (by decide +kernel), List.mem_of_getElem? (i := 1282) (by decide +kernel), List.mem_of_getElem? (i := 1283) (by decide +kernel)⟩
theorem lw_p61 : lw_okq (⟨"DuesOnRungsModel", "climbs", "(I)V"⟩, 34) := ⟨⟨by decide +kernel, by decide +kernel⟩, List.mem_of_getElem? (i := 921) (by decide +kernel), List.mem_of_getElem? (i := 1290) (by decide +kernel), List.mem_of_getElem? (i := 1291) (by decide +kernel)⟩
theorem lw_p62 : lw_okq (⟨"DuesOnRungsModel", "plays", "()J"⟩, 34) := ⟨⟨by decide +kernel, by decide +kernel⟩, List.mem_of_getElem? (i := 921) (by decide +kernel), List.mem_of_getElem? (i := 1301) (by decide +kernel), List.mem_of_getElem? (i := 1302) (by decide +kernel)⟩
theorem lw_p63 : lw_okq (⟨"DuesOnRungsModel", "clears", "()V"⟩, 34) := ⟨⟨by decide +kernel, by decide +kernel⟩, List.mem_of_getElem? (i := 921) (by decide +kernel), List.mem_of_getElem? (i := 1308) (by decide +kernel), List.mem_of_getElem? (i := 1309) (by decide +kernel)⟩
def lw_privs_4 : List (MethodName × Nat) := [(⟨"DuesOnRungsModel", "part", "(I)J"⟩, 34), (⟨"DuesOnRungsModel", "lengthOf", "(IZJJ)V"⟩, 34), (⟨"DuesOnRungsModel", "solved", "()I"⟩, 34), (⟨"DuesOnRungsModel", "begins", "()V"⟩, 34), (⟨"DuesOnRungsModel", "comes", "(IZJ)V"⟩, 34), (⟨"DuesOnRungsModel", "isRoom", "(I)Z"⟩, 34), (⟨"DuesOnRungsModel", "leaves", "()I"⟩, 34), (⟨"DuesOnRungsModel", "enters", "(I)I"⟩, 34), (⟨"DuesOnRungsModel", "turns", "(II)V"⟩, 34), (⟨"DuesOnRungsModel", "fills", "(III)V"⟩, 34), (⟨"DuesOnRungsModel", "bare", "(I)V"⟩, 34), (⟨"DuesOnRungsModel", "proofOf", "(I)V"⟩, 34), (⟨"DuesOnRungsModel", "price", "(I)V"⟩, 34), (⟨"DuesOnRungsModel", "climbs", "(I)V"⟩, 34), (⟨"DuesOnRungsModel", "plays", "()J"⟩, 34), (⟨"DuesOnRungsModel", "clears", "()V"⟩, 34)]
theorem lw_r4 : ∀ q ∈ lw_privs_4, lw_okq q := List.forall_mem_cons.mpr ⟨lw_p48, List.forall_mem_cons.mpr ⟨lw_p49, List.forall_mem_cons.mpr ⟨lw_p50, List.forall_mem_cons.mpr ⟨lw_p51, List.forall_mem_cons.mpr ⟨lw_p52, List.forall_mem_cons.mpr ⟨lw_p53, List.forall_mem_cons.mpr ⟨lw_p54, List.forall_mem_cons.mpr ⟨lw_p55, List.forall_mem_cons.mpr ⟨lw_p56, List.forall_mem_cons.mpr ⟨lw_p57, List.forall_mem_cons.mpr ⟨lw_p58, List.forall_mem_cons.mpr ⟨lw_p59, List.forall_mem_cons.mpr ⟨lw_p60, List.forall_mem_cons.mpr ⟨lw_p61, List.forall_mem_cons.mpr ⟨lw_p62, List.forall_mem_cons.mpr ⟨lw_p63, fun _ h => absurd h List.not_mem_nil⟩⟩⟩⟩⟩⟩⟩⟩⟩⟩⟩⟩⟩⟩⟩⟩
theorem lw_p64 : lw_okq (⟨"DuesOnRungsModel", "drawnBy", "(I)I"⟩, 34) := ⟨⟨by decide +kernel, by decide +kernel⟩, List.mem_of_getElem? (i := 921) (by decide +kernel), List.mem_of_getElem? (i := 1320) (by decide +kernel), List.mem_of_getElem? (i := 1321) (by decide +kernel)⟩
theorem lw_p65 : lw_okq (⟨"DuesOnRungsModel", "unlike", "(I)I"⟩, 34) := ⟨⟨by decide +kernel, by decide +kernel⟩, List.mem_of_getElem? (i := 921) (by decide +kernel), List.mem_of_getElem? (i := 1333) (by decide +kernel), List.mem_of_getElem? (i := 1334) (by decide +kernel)⟩
def lw_privs_5 : List (MethodName × Nat) := [(⟨"DuesOnRungsModel", "drawnBy", "(I)I"⟩, 34), (⟨"DuesOnRungsModel", "unlike", "(I)I"⟩, 34)]
theorem lw_r5 : ∀ q ∈ lw_privs_5, lw_okq q := List.forall_mem_cons.mpr ⟨lw_p64, List.forall_mem_cons.mpr ⟨lw_p65, fun _ h => absurd h List.not_mem_nil⟩⟩
def lw_privs : List (MethodName × Nat) := lw_privs_1 ++ (lw_privs_2 ++ (lw_privs_3 ++ (lw_privs_4 ++ (lw_privs_5))))
def lw_tbl : List Cond := k2_sels lw_privs ++ tables_1
theorem lw_privs_ok : ∀ q ∈ lw_privs, lw_okq q := by
  show ∀ q ∈ lw_privs_1 ++ (lw_privs_2 ++ (lw_privs_3 ++ (lw_privs_4 ++ (lw_privs_5)))), lw_okq q
  exact List.forall_mem_append.mpr ⟨lw_r1, List.forall_mem_append.mpr ⟨lw_r2, List.forall_mem_append.mpr ⟨lw_r3, List.forall_mem_append.mpr ⟨lw_r4, lw_r5⟩⟩⟩⟩
-- ===== end of PART A; then your names; then what follows =====
def RX0 : String := "DuesOnRungs$Bond"
def TX0 : u_T := fun k => match k with
  | 0 => ("DuesOnRungs$Bond", "kind", "I", false)
  | 1 => ("DuesOnRungs$Bond", "price", "I", false)
  | 2 => ("DuesOnRungs$Bond", "coupon", "I", false)
  | 3 => ("DuesOnRungs$Bond", "step", "I", false)
  | 4 => ("DuesOnRungs$Bond", "end", "I", false)
  | 5 => ("DuesOnRungs$Bond", "pay", "I", false)
  | _ => ("DuesOnRungs$Bond", "held", "I", false)
def tyX0 : Nat → FieldType := fun k => match k with
  | 0 => .int
  | 1 => .int
  | 2 => .int
  | 3 => .int
  | 4 => .int
  | 5 => .int
  | _ => .int
abbrev wsX00 : List Cond := u_ws RX0 TX0 7
theorem nmX0 : ∀ a, a < 7 → ∀ b, b < 7 → a ≠ b → (TX0 a).2.1 ≠ (TX0 b).2.1 := by decide +kernel
theorem tyX0_ok : ∀ k, k < 7 → parseFieldDescriptor (TX0 k).2.2.1 = some (tyX0 k) := by decide +kernel
abbrev cX0_init : ByteArray := prog_2_method_1_code
def yX0_init : MethodName := ⟨RX0, "<init>", "()V"⟩
abbrev cX0_begin : ByteArray := prog_2_method_2_code
def yX0_begin : MethodName := ⟨RX0, "begin", "(IIIIII)V"⟩
abbrev cX0_become : ByteArray := prog_2_method_3_code
def yX0_become : MethodName := ⟨RX0, "become", "(LDuesOnRungs$Bond;)V"⟩
abbrev cX0_term : ByteArray := prog_2_method_4_code
def yX0_term : MethodName := ⟨RX0, "term", "(I)I"⟩
abbrev cX0_isOfKind : ByteArray := prog_2_method_5_code
def yX0_isOfKind : MethodName := ⟨RX0, "isOfKind", "(I)Z"⟩
abbrev cX0_layPayings : ByteArray := prog_2_method_6_code
def yX0_layPayings : MethodName := ⟨RX0, "layPayings", "([I[I)V"⟩
abbrev cX0_isCalledOn : ByteArray := prog_2_method_7_code
def yX0_isCalledOn : MethodName := ⟨RX0, "isCalledOn", "(II)Z"⟩
abbrev cX0_payingOn : ByteArray := prog_2_method_8_code
def yX0_payingOn : MethodName := ⟨RX0, "payingOn", "(III)I"⟩
def RX1 : String := "DuesOnRungs$Book"
def TX1 : u_T := fun k => match k with
  | 0 => ("DuesOnRungs$Book", "dues", "LDuesOnRungs$DayRow;", true)
  | 1 => ("DuesOnRungs$Book", "rates", "LDuesOnRungs$DayRow;", true)
  | 2 => ("DuesOnRungs$Book", "limits", "LDuesOnRungs$DayRow;", true)
  | 3 => ("DuesOnRungs$Book", "bonds", "[LDuesOnRungs$Bond;", true)
  | _ => ("DuesOnRungs$Book", "bondCount", "I", false)
def tyX1 : Nat → FieldType := fun k => match k with
  | 0 => .object "DuesOnRungs$DayRow"
  | 1 => .object "DuesOnRungs$DayRow"
  | 2 => .object "DuesOnRungs$DayRow"
  | 3 => .array (.object "DuesOnRungs$Bond")
  | _ => .int
abbrev wsX10 : List Cond := u_ws RX1 TX1 5
theorem nmX1 : ∀ a, a < 5 → ∀ b, b < 5 → a ≠ b → (TX1 a).2.1 ≠ (TX1 b).2.1 := by decide +kernel
theorem tyX1_ok : ∀ k, k < 5 → parseFieldDescriptor (TX1 k).2.2.1 = some (tyX1 k) := by decide +kernel
abbrev cX1_init : ByteArray := prog_3_method_1_code
def yX1_init : MethodName := ⟨RX1, "<init>", "()V"⟩
abbrev cX1_hasBond : ByteArray := prog_3_method_2_code
def yX1_hasBond : MethodName := ⟨RX1, "hasBond", "(I)Z"⟩
abbrev cX1_countHeld : ByteArray := prog_3_method_3_code
def yX1_countHeld : MethodName := ⟨RX1, "countHeld", "()I"⟩
abbrev cX1_become : ByteArray := prog_3_method_4_code
def yX1_become : MethodName := ⟨RX1, "become", "(LDuesOnRungs$Book;)V"⟩
def RX2 : String := "DuesOnRungs$DayRow"
def TX2 : u_T := fun k => match k with
  | 0 => ("DuesOnRungs$DayRow", "of", "[I", true)
  | 1 => ("DuesOnRungs$DayRow", "none", "I", true)
  | _ => ("DuesOnRungs$DayRow", "most", "I", true)
def tyX2 : Nat → FieldType := fun k => match k with
  | 0 => .array .int
  | 1 => .int
  | _ => .int
abbrev wsX20 : List Cond := u_ws RX2 TX2 3
theorem nmX2 : ∀ a, a < 3 → ∀ b, b < 3 → a ≠ b → (TX2 a).2.1 ≠ (TX2 b).2.1 := by decide +kernel
theorem tyX2_ok : ∀ k, k < 3 → parseFieldDescriptor (TX2 k).2.2.1 = some (tyX2 k) := by decide +kernel
abbrev cX2_init : ByteArray := prog_4_method_1_code
def yX2_init : MethodName := ⟨RX2, "<init>", "(II)V"⟩
abbrev cX2_tell : ByteArray := prog_4_method_2_code
def yX2_tell : MethodName := ⟨RX2, "tell", "(II)I"⟩
abbrev cX2_countTold : ByteArray := prog_4_method_3_code
def yX2_countTold : MethodName := ⟨RX2, "countTold", "()I"⟩
abbrev cX2_become : ByteArray := prog_4_method_4_code
def yX2_become : MethodName := ⟨RX2, "become", "(LDuesOnRungs$DayRow;)V"⟩
def RX3 : String := "DuesOnRungs$Dictionary"
def TX3 : u_T := fun k => match k with
  | 0 => ("DuesOnRungs$Dictionary", "cost", "LDuesOnRungs$Row;", true)
  | 1 => ("DuesOnRungs$Dictionary", "rows", "[LDuesOnRungs$Row;", true)
  | 2 => ("DuesOnRungs$Dictionary", "height", "I", false)
  | 3 => ("DuesOnRungs$Dictionary", "shareOf", "[I", true)
  | 4 => ("DuesOnRungs$Dictionary", "width", "I", false)
  | 5 => ("DuesOnRungs$Dictionary", "factor", "LDuesOnRungs$Fraction;", true)
  | 6 => ("DuesOnRungs$Dictionary", "term", "LDuesOnRungs$Fraction;", true)
  | 7 => ("DuesOnRungs$Dictionary", "ratio", "LDuesOnRungs$Fraction;", true)
  | _ => ("DuesOnRungs$Dictionary", "leastRatio", "LDuesOnRungs$Fraction;", true)
def tyX3 : Nat → FieldType := fun k => match k with
  | 0 => .object "DuesOnRungs$Row"
  | 1 => .array (.object "DuesOnRungs$Row")
  | 2 => .int
  | 3 => .array .int
  | 4 => .int
  | 5 => .object "DuesOnRungs$Fraction"
  | 6 => .object "DuesOnRungs$Fraction"
  | 7 => .object "DuesOnRungs$Fraction"
  | _ => .object "DuesOnRungs$Fraction"
abbrev wsX30 : List Cond := u_ws RX3 TX3 9
theorem nmX3 : ∀ a, a < 9 → ∀ b, b < 9 → a ≠ b → (TX3 a).2.1 ≠ (TX3 b).2.1 := by decide +kernel
theorem tyX3_ok : ∀ k, k < 9 → parseFieldDescriptor (TX3 k).2.2.1 = some (tyX3 k) := by decide +kernel
abbrev cX3_init : ByteArray := prog_5_method_1_code
def yX3_init : MethodName := ⟨RX3, "<init>", "()V"⟩
abbrev cX3_begin : ByteArray := prog_5_method_2_code
def yX3_begin : MethodName := ⟨RX3, "begin", "(LDuesOnRungs$Book;LDuesOnRungs$Scene;)V"⟩
abbrev cX3_solve : ByteArray := prog_5_method_3_code
def yX3_solve : MethodName := ⟨RX3, "solve", "()I"⟩
abbrev cX3_amountOf : ByteArray := prog_5_method_4_code
def yX3_amountOf : MethodName := ⟨RX3, "amountOf", "(ILDuesOnRungs$Fraction;)V"⟩
abbrev cX3_priceOf : ByteArray := prog_5_method_5_code
def yX3_priceOf : MethodName := ⟨RX3, "priceOf", "(ILDuesOnRungs$Fraction;)V"⟩
abbrev cX3_prove : ByteArray := prog_5_method_6_code
def yX3_prove : MethodName := ⟨RX3, "prove", "(ILDuesOnRungs$Scene;LDuesOnRungs$Fraction;)V"⟩
abbrev cX3_beginCarry : ByteArray := prog_5_method_7_code
def yX3_beginCarry : MethodName := ⟨RX3, "beginCarry", "(ILDuesOnRungs$Scene;)V"⟩
abbrev cX3_findLeaving : ByteArray := prog_5_method_8_code
def yX3_findLeaving : MethodName := ⟨RX3, "findLeaving", "()I"⟩
abbrev cX3_findEntering : ByteArray := prog_5_method_9_code
def yX3_findEntering : MethodName := ⟨RX3, "findEntering", "(LDuesOnRungs$Row;)I"⟩
abbrev cX3_exchange : ByteArray := prog_5_method_10_code
def yX3_exchange : MethodName := ⟨RX3, "exchange", "(II)V"⟩
abbrev cX3_solveFor : ByteArray := prog_5_method_11_code
def yX3_solveFor : MethodName := ⟨RX3, "solveFor", "(LDuesOnRungs$Row;I)V"⟩
abbrev cX3_replaceIn : ByteArray := prog_5_method_12_code
def yX3_replaceIn : MethodName := ⟨RX3, "replaceIn", "(LDuesOnRungs$Row;LDuesOnRungs$Row;I)V"⟩
abbrev cX3_isGreat : ByteArray := prog_5_method_13_code
def yX3_isGreat : MethodName := ⟨RX3, "isGreat", "()Z"⟩
def RX4 : String := "DuesOnRungs$Fraction"
def TX4 : u_T := fun k => match k with
  | 0 => ("DuesOnRungs$Fraction", "above", "J", false)
  | 1 => ("DuesOnRungs$Fraction", "below", "J", false)
  | _ => ("DuesOnRungs$Fraction", "great", "Z", false)
def tyX4 : Nat → FieldType := fun k => match k with
  | 0 => .long
  | 1 => .long
  | _ => .boolean
abbrev wsX40 : List Cond := u_ws RX4 TX4 3
theorem nmX4 : ∀ a, a < 3 → ∀ b, b < 3 → a ≠ b → (TX4 a).2.1 ≠ (TX4 b).2.1 := by decide +kernel
theorem tyX4_ok : ∀ k, k < 3 → parseFieldDescriptor (TX4 k).2.2.1 = some (tyX4 k) := by decide +kernel
abbrev cX4_init : ByteArray := prog_6_method_1_code
def yX4_init : MethodName := ⟨RX4, "<init>", "()V"⟩
abbrev cX4_become : ByteArray := prog_6_method_2_code
def yX4_become : MethodName := ⟨RX4, "become", "(JJ)V"⟩
abbrev cX4_become_ : ByteArray := prog_6_method_3_code
def yX4_become_ : MethodName := ⟨RX4, "become", "(LDuesOnRungs$Fraction;)V"⟩
abbrev cX4_becomeFactor : ByteArray := prog_6_method_4_code
def yX4_becomeFactor : MethodName := ⟨RX4, "becomeFactor", "(I)V"⟩
abbrev cX4_add : ByteArray := prog_6_method_5_code
def yX4_add : MethodName := ⟨RX4, "add", "(LDuesOnRungs$Fraction;)V"⟩
abbrev cX4_multiply : ByteArray := prog_6_method_6_code
def yX4_multiply : MethodName := ⟨RX4, "multiply", "(LDuesOnRungs$Fraction;)V"⟩
abbrev cX4_divide : ByteArray := prog_6_method_7_code
def yX4_divide : MethodName := ⟨RX4, "divide", "(LDuesOnRungs$Fraction;)V"⟩
abbrev cX4_negate : ByteArray := prog_6_method_8_code
def yX4_negate : MethodName := ⟨RX4, "negate", "()V"⟩
abbrev cX4_part : ByteArray := prog_6_method_9_code
def yX4_part : MethodName := ⟨RX4, "part", "(I)J"⟩
abbrev cX4_compare : ByteArray := prog_6_method_10_code
def yX4_compare : MethodName := ⟨RX4, "compare", "(LDuesOnRungs$Fraction;)I"⟩
abbrev cX4_reduce : ByteArray := prog_6_method_11_code
def yX4_reduce : MethodName := ⟨RX4, "reduce", "(JJ)V"⟩
abbrev cX4_product : ByteArray := prog_6_method_12_code
def yX4_product : MethodName := ⟨RX4, "product", "(JJ)J"⟩
abbrev cX4_sum : ByteArray := prog_6_method_13_code
def yX4_sum : MethodName := ⟨RX4, "sum", "(JJ)J"⟩
def RX5 : String := "DuesOnRungs$Ladder"
def TX5 : u_T := fun k => match k with
  | 0 => ("DuesOnRungs$Ladder", "order", "[I", true)
  | 1 => ("DuesOnRungs$Ladder", "bought", "[I", true)
  | 2 => ("DuesOnRungs$Ladder", "cost", "I", false)
  | _ => ("DuesOnRungs$Ladder", "lacking", "I", false)
def tyX5 : Nat → FieldType := fun k => match k with
  | 0 => .array .int
  | 1 => .array .int
  | 2 => .int
  | _ => .int
abbrev wsX50 : List Cond := u_ws RX5 TX5 4
theorem nmX5 : ∀ a, a < 4 → ∀ b, b < 4 → a ≠ b → (TX5 a).2.1 ≠ (TX5 b).2.1 := by decide +kernel
theorem tyX5_ok : ∀ k, k < 4 → parseFieldDescriptor (TX5 k).2.2.1 = some (tyX5 k) := by decide +kernel
abbrev cX5_init : ByteArray := prog_7_method_1_code
def yX5_init : MethodName := ⟨RX5, "<init>", "()V"⟩
abbrev cX5_rank : ByteArray := prog_7_method_2_code
def yX5_rank : MethodName := ⟨RX5, "rank", "(ILDuesOnRungs$Book;LDuesOnRungs$Scene;)V"⟩
abbrev cX5_buy : ByteArray := prog_7_method_3_code
def yX5_buy : MethodName := ⟨RX5, "buy", "(LDuesOnRungs$Book;LDuesOnRungs$Scene;)V"⟩
abbrev cX5_buyAt : ByteArray := prog_7_method_4_code
def yX5_buyAt : MethodName := ⟨RX5, "buyAt", "(IILDuesOnRungs$Book;LDuesOnRungs$Scene;)V"⟩
abbrev cX5_compare : ByteArray := prog_7_method_5_code
def yX5_compare : MethodName := ⟨RX5, "compare", "(IIILDuesOnRungs$Book;LDuesOnRungs$Scene;)I"⟩
abbrev cX5_compareRich : ByteArray := prog_7_method_6_code
def yX5_compareRich : MethodName := ⟨RX5, "compareRich", "(IIII)I"⟩
def RX6 : String := "DuesOnRungs$Replay"
def TX6 : u_T := fun k => match k with
  | 0 => ("DuesOnRungs$Replay", "cash", "[J", true)
  | 1 => ("DuesOnRungs$Replay", "allShort", "J", false)
  | 2 => ("DuesOnRungs$Replay", "shortAt", "[J", true)
  | 3 => ("DuesOnRungs$Replay", "allSpilt", "J", false)
  | 4 => ("DuesOnRungs$Replay", "allGrew", "J", false)
  | 5 => ("DuesOnRungs$Replay", "allPaid", "J", false)
  | _ => ("DuesOnRungs$Replay", "rungs", "I", false)
def tyX6 : Nat → FieldType := fun k => match k with
  | 0 => .array .long
  | 1 => .long
  | 2 => .array .long
  | 3 => .long
  | 4 => .long
  | 5 => .long
  | _ => .int
abbrev wsX60 : List Cond := u_ws RX6 TX6 7
theorem nmX6 : ∀ a, a < 7 → ∀ b, b < 7 → a ≠ b → (TX6 a).2.1 ≠ (TX6 b).2.1 := by decide +kernel
theorem tyX6_ok : ∀ k, k < 7 → parseFieldDescriptor (TX6 k).2.2.1 = some (tyX6 k) := by decide +kernel
abbrev cX6_init : ByteArray := prog_8_method_1_code
def yX6_init : MethodName := ⟨RX6, "<init>", "()V"⟩
abbrev cX6_play : ByteArray := prog_8_method_2_code
def yX6_play : MethodName := ⟨RX6, "play", "(LDuesOnRungs$Scene;[I)V"⟩
abbrev cX6_tell : ByteArray := prog_8_method_3_code
def yX6_tell : MethodName := ⟨RX6, "tell", "(I)J"⟩
abbrev cX6_firstOtherwise : ByteArray := prog_8_method_4_code
def yX6_firstOtherwise : MethodName := ⟨RX6, "firstOtherwise", "(LDuesOnRungs$Sheet;)I"⟩
def RX7 : String := "DuesOnRungs$Row"
def TX7 : u_T := fun k => match k with
  | 0 => ("DuesOnRungs$Row", "number", "I", false)
  | 1 => ("DuesOnRungs$Row", "bare", "LDuesOnRungs$Fraction;", true)
  | _ => ("DuesOnRungs$Row", "shares", "[LDuesOnRungs$Fraction;", true)
def tyX7 : Nat → FieldType := fun k => match k with
  | 0 => .int
  | 1 => .object "DuesOnRungs$Fraction"
  | _ => .array (.object "DuesOnRungs$Fraction")
abbrev wsX70 : List Cond := u_ws RX7 TX7 3
theorem nmX7 : ∀ a, a < 3 → ∀ b, b < 3 → a ≠ b → (TX7 a).2.1 ≠ (TX7 b).2.1 := by decide +kernel
theorem tyX7_ok : ∀ k, k < 3 → parseFieldDescriptor (TX7 k).2.2.1 = some (tyX7 k) := by decide +kernel
abbrev cX7_init : ByteArray := prog_9_method_1_code
def yX7_init : MethodName := ⟨RX7, "<init>", "()V"⟩
abbrev cX7_begin : ByteArray := prog_9_method_2_code
def yX7_begin : MethodName := ⟨RX7, "begin", "(I)V"⟩
abbrev cX7_become : ByteArray := prog_9_method_3_code
def yX7_become : MethodName := ⟨RX7, "become", "(LDuesOnRungs$Row;)V"⟩
abbrev cX7_multiply : ByteArray := prog_9_method_4_code
def yX7_multiply : MethodName := ⟨RX7, "multiply", "(LDuesOnRungs$Fraction;)V"⟩
abbrev cX7_negate : ByteArray := prog_9_method_5_code
def yX7_negate : MethodName := ⟨RX7, "negate", "()V"⟩
abbrev cX7_isGreat : ByteArray := prog_9_method_6_code
def yX7_isGreat : MethodName := ⟨RX7, "isGreat", "()Z"⟩
def RX8 : String := "DuesOnRungs$Scene"
def TX8 : u_T := fun k => match k with
  | 0 => ("DuesOnRungs$Scene", "rungs", "I", false)
  | 1 => ("DuesOnRungs$Scene", "rungDay", "[I", true)
  | 2 => ("DuesOnRungs$Scene", "dueAt", "[I", true)
  | 3 => ("DuesOnRungs$Scene", "rateAt", "[I", true)
  | 4 => ("DuesOnRungs$Scene", "limitAt", "[I", true)
  | 5 => ("DuesOnRungs$Scene", "rungOf", "[I", true)
  | 6 => ("DuesOnRungs$Scene", "rateOn", "[I", true)
  | 7 => ("DuesOnRungs$Scene", "paidOn", "[[I", true)
  | 8 => ("DuesOnRungs$Scene", "paidAt", "[[I", true)
  | 9 => ("DuesOnRungs$Scene", "allPaid", "[I", true)
  | _ => ("DuesOnRungs$Scene", "lastPaid", "[I", true)
def tyX8 : Nat → FieldType := fun k => match k with
  | 0 => .int
  | 1 => .array .int
  | 2 => .array .int
  | 3 => .array .int
  | 4 => .array .int
  | 5 => .array .int
  | 6 => .array .int
  | 7 => .array (.array .int)
  | 8 => .array (.array .int)
  | 9 => .array .int
  | _ => .array .int
abbrev wsX80 : List Cond := u_ws RX8 TX8 11
theorem nmX8 : ∀ a, a < 11 → ∀ b, b < 11 → a ≠ b → (TX8 a).2.1 ≠ (TX8 b).2.1 := by decide +kernel
theorem tyX8_ok : ∀ k, k < 11 → parseFieldDescriptor (TX8 k).2.2.1 = some (tyX8 k) := by decide +kernel
abbrev cX8_init : ByteArray := prog_10_method_1_code
def yX8_init : MethodName := ⟨RX8, "<init>", "()V"⟩
abbrev cX8_lay : ByteArray := prog_10_method_2_code
def yX8_lay : MethodName := ⟨RX8, "lay", "(LDuesOnRungs$Book;[I)V"⟩
abbrev cX8_hasRung : ByteArray := prog_10_method_3_code
def yX8_hasRung : MethodName := ⟨RX8, "hasRung", "(I)Z"⟩
abbrev cX8_isLimited : ByteArray := prog_10_method_4_code
def yX8_isLimited : MethodName := ⟨RX8, "isLimited", "(I)Z"⟩
abbrev cX8_paidByAll : ByteArray := prog_10_method_5_code
def yX8_paidByAll : MethodName := ⟨RX8, "paidByAll", "([II)I"⟩
abbrev cX8_layRungs : ByteArray := prog_10_method_6_code
def yX8_layRungs : MethodName := ⟨RX8, "layRungs", "(LDuesOnRungs$Book;)V"⟩
abbrev cX8_layRates : ByteArray := prog_10_method_7_code
def yX8_layRates : MethodName := ⟨RX8, "layRates", "([I[I)V"⟩
abbrev cX8_gatherPayings : ByteArray := prog_10_method_8_code
def yX8_gatherPayings : MethodName := ⟨RX8, "gatherPayings", "(I)V"⟩
def RX9 : String := "DuesOnRungs$Sheet"
def TX9 : u_T := fun k => match k with
  | 0 => ("DuesOnRungs$Sheet", "items", "[I", true)
  | 1 => ("DuesOnRungs$Sheet", "sort", "I", false)
  | _ => ("DuesOnRungs$Sheet", "size", "I", false)
def tyX9 : Nat → FieldType := fun k => match k with
  | 0 => .array .int
  | 1 => .int
  | _ => .int
abbrev wsX90 : List Cond := u_ws RX9 TX9 3
theorem nmX9 : ∀ a, a < 3 → ∀ b, b < 3 → a ≠ b → (TX9 a).2.1 ≠ (TX9 b).2.1 := by decide +kernel
theorem tyX9_ok : ∀ k, k < 3 → parseFieldDescriptor (TX9 k).2.2.1 = some (tyX9 k) := by decide +kernel
abbrev cX9_init : ByteArray := prog_11_method_1_code
def yX9_init : MethodName := ⟨RX9, "<init>", "()V"⟩
abbrev cX9_begin : ByteArray := prog_11_method_2_code
def yX9_begin : MethodName := ⟨RX9, "begin", "(II)V"⟩
abbrev cX9_isMissing : ByteArray := prog_11_method_3_code
def yX9_isMissing : MethodName := ⟨RX9, "isMissing", "()Z"⟩
abbrev cX9_hasItem : ByteArray := prog_11_method_4_code
def yX9_hasItem : MethodName := ⟨RX9, "hasItem", "(I)Z"⟩
abbrev cX9_hasItems : ByteArray := prog_11_method_5_code
def yX9_hasItems : MethodName := ⟨RX9, "hasItems", "(II)Z"⟩
abbrev cX9_write : ByteArray := prog_11_method_6_code
def yX9_write : MethodName := ⟨RX9, "write", "(II)V"⟩
def RX10 : String := "DuesOnRungs$Worths"
def TX10 : u_T := fun k => match k with
  | 0 => ("DuesOnRungs$Worths", "whole", "LDuesOnRungs$Fraction;", true)
  | 1 => ("DuesOnRungs$Worths", "middle", "LDuesOnRungs$Fraction;", true)
  | 2 => ("DuesOnRungs$Worths", "spread", "LDuesOnRungs$Fraction;", true)
  | 3 => ("DuesOnRungs$Worths", "at", "[LDuesOnRungs$Fraction;", true)
  | 4 => ("DuesOnRungs$Worths", "factor", "LDuesOnRungs$Fraction;", true)
  | 5 => ("DuesOnRungs$Worths", "term", "LDuesOnRungs$Fraction;", true)
  | _ => ("DuesOnRungs$Worths", "distance", "LDuesOnRungs$Fraction;", true)
def tyX10 : Nat → FieldType := fun k => match k with
  | 0 => .object "DuesOnRungs$Fraction"
  | 1 => .object "DuesOnRungs$Fraction"
  | 2 => .object "DuesOnRungs$Fraction"
  | 3 => .array (.object "DuesOnRungs$Fraction")
  | 4 => .object "DuesOnRungs$Fraction"
  | 5 => .object "DuesOnRungs$Fraction"
  | _ => .object "DuesOnRungs$Fraction"
abbrev wsX100 : List Cond := u_ws RX10 TX10 7
theorem nmX10 : ∀ a, a < 7 → ∀ b, b < 7 → a ≠ b → (TX10 a).2.1 ≠ (TX10 b).2.1 := by decide +kernel
theorem tyX10_ok : ∀ k, k < 7 → parseFieldDescriptor (TX10 k).2.2.1 = some (tyX10 k) := by decide +kernel
abbrev cX10_init : ByteArray := prog_12_method_1_code
def yX10_init : MethodName := ⟨RX10, "<init>", "()V"⟩
abbrev cX10_reckonWorth : ByteArray := prog_12_method_2_code
def yX10_reckonWorth : MethodName := ⟨RX10, "reckonWorth", "([ILDuesOnRungs$Scene;)V"⟩
abbrev cX10_reckonLength : ByteArray := prog_12_method_3_code
def yX10_reckonLength : MethodName := ⟨RX10, "reckonLength", "(I)V"⟩
abbrev cX10_reckonSpread : ByteArray := prog_12_method_4_code
def yX10_reckonSpread : MethodName := ⟨RX10, "reckonSpread", "(I)V"⟩
def RX11 : String := "DuesOnRungs"
def TX11 : u_T := fun k => match k with
  | 0 => ("DuesOnRungs", "book", "LDuesOnRungs$Book;", true)
  | 1 => ("DuesOnRungs", "image", "LDuesOnRungs$Book;", true)
  | 2 => ("DuesOnRungs", "imageKept", "Z", false)
  | 3 => ("DuesOnRungs", "now", "LDuesOnRungs$Scene;", true)
  | 4 => ("DuesOnRungs", "then", "LDuesOnRungs$Scene;", true)
  | 5 => ("DuesOnRungs", "stale", "Z", false)
  | 6 => ("DuesOnRungs", "noRates", "[I", true)
  | 7 => ("DuesOnRungs", "toldRates", "[I", true)
  | 8 => ("DuesOnRungs", "held", "[I", true)
  | 9 => ("DuesOnRungs", "amounts", "[I", true)
  | 10 => ("DuesOnRungs", "worths", "LDuesOnRungs$Worths;", true)
  | 11 => ("DuesOnRungs", "answer", "LDuesOnRungs$Fraction;", true)
  | 12 => ("DuesOnRungs", "dictionary", "LDuesOnRungs$Dictionary;", true)
  | 13 => ("DuesOnRungs", "solved", "Z", false)
  | 14 => ("DuesOnRungs", "ending", "I", false)
  | 15 => ("DuesOnRungs", "rungsBought", "LDuesOnRungs$Ladder;", true)
  | 16 => ("DuesOnRungs", "played", "LDuesOnRungs$Replay;", true)
  | _ => ("DuesOnRungs", "sheets", "[LDuesOnRungs$Sheet;", true)
def tyX11 : Nat → FieldType := fun k => match k with
  | 0 => .object "DuesOnRungs$Book"
  | 1 => .object "DuesOnRungs$Book"
  | 2 => .boolean
  | 3 => .object "DuesOnRungs$Scene"
  | 4 => .object "DuesOnRungs$Scene"
  | 5 => .boolean
  | 6 => .array .int
  | 7 => .array .int
  | 8 => .array .int
  | 9 => .array .int
  | 10 => .object "DuesOnRungs$Worths"
  | 11 => .object "DuesOnRungs$Fraction"
  | 12 => .object "DuesOnRungs$Dictionary"
  | 13 => .boolean
  | 14 => .int
  | 15 => .object "DuesOnRungs$Ladder"
  | 16 => .object "DuesOnRungs$Replay"
  | _ => .array (.object "DuesOnRungs$Sheet")
abbrev wsX110 : List Cond := u_ws RX11 TX11 18
theorem nmX11 : ∀ a, a < 18 → ∀ b, b < 18 → a ≠ b → (TX11 a).2.1 ≠ (TX11 b).2.1 := by decide +kernel
theorem tyX11_ok : ∀ k, k < 18 → parseFieldDescriptor (TX11 k).2.2.1 = some (tyX11 k) := by decide +kernel
abbrev cX11_init : ByteArray := prog_1_method_1_code
def yX11_init : MethodName := ⟨RX11, "<init>", "()V"⟩
abbrev cX11_due : ByteArray := prog_1_method_2_code
def yX11_due : MethodName := ⟨RX11, "due", "(II)I"⟩
abbrev cX11_rate : ByteArray := prog_1_method_3_code
def yX11_rate : MethodName := ⟨RX11, "rate", "(II)I"⟩
abbrev cX11_limit : ByteArray := prog_1_method_4_code
def yX11_limit : MethodName := ⟨RX11, "limit", "(II)I"⟩
abbrev cX11_rung : ByteArray := prog_1_method_5_code
def yX11_rung : MethodName := ⟨RX11, "rung", "(II)I"⟩
abbrev cX11_day : ByteArray := prog_1_method_6_code
def yX11_day : MethodName := ⟨RX11, "day", "(II)I"⟩
abbrev cX11_bond : ByteArray := prog_1_method_7_code
def yX11_bond : MethodName := ⟨RX11, "bond", "(IIIIII)I"⟩
abbrev cX11_hold : ByteArray := prog_1_method_8_code
def yX11_hold : MethodName := ⟨RX11, "hold", "(II)I"⟩
abbrev cX11_told : ByteArray := prog_1_method_9_code
def yX11_told : MethodName := ⟨RX11, "told", "(II)I"⟩
abbrev cX11_pays : ByteArray := prog_1_method_10_code
def yX11_pays : MethodName := ⟨RX11, "pays", "(II)I"⟩
abbrev cX11_paysAt : ByteArray := prog_1_method_11_code
def yX11_paysAt : MethodName := ⟨RX11, "paysAt", "(II)I"⟩
abbrev cX11_taken : ByteArray := prog_1_method_12_code
def yX11_taken : MethodName := ⟨RX11, "taken", "(II)I"⟩
abbrev cX11_ranked : ByteArray := prog_1_method_13_code
def yX11_ranked : MethodName := ⟨RX11, "ranked", "(II)I"⟩
abbrev cX11_worth : ByteArray := prog_1_method_14_code
def yX11_worth : MethodName := ⟨RX11, "worth", "(II)J"⟩
abbrev cX11_length : ByteArray := prog_1_method_15_code
def yX11_length : MethodName := ⟨RX11, "length", "(III)J"⟩
abbrev cX11_surplus : ByteArray := prog_1_method_16_code
def yX11_surplus : MethodName := ⟨RX11, "surplus", "(I)J"⟩
abbrev cX11_least : ByteArray := prog_1_method_17_code
def yX11_least : MethodName := ⟨RX11, "least", "()I"⟩
abbrev cX11_amount : ByteArray := prog_1_method_18_code
def yX11_amount : MethodName := ⟨RX11, "amount", "(II)J"⟩
abbrev cX11_proof : ByteArray := prog_1_method_19_code
def yX11_proof : MethodName := ⟨RX11, "proof", "(III)J"⟩
abbrev cX11_ladder : ByteArray := prog_1_method_20_code
def yX11_ladder : MethodName := ⟨RX11, "ladder", "(II)I"⟩
abbrev cX11_replay : ByteArray := prog_1_method_21_code
def yX11_replay : MethodName := ⟨RX11, "replay", "(II)I"⟩
abbrev cX11_worst : ByteArray := prog_1_method_22_code
def yX11_worst : MethodName := ⟨RX11, "worst", "(I)I"⟩
abbrev cX11_drawn : ByteArray := prog_1_method_23_code
def yX11_drawn : MethodName := ⟨RX11, "drawn", "(I)I"⟩
abbrev cX11_chance : ByteArray := prog_1_method_24_code
def yX11_chance : MethodName := ⟨RX11, "chance", "(III)I"⟩
abbrev cX11_tells : ByteArray := prog_1_method_25_code
def yX11_tells : MethodName := ⟨RX11, "tells", "(III)I"⟩
abbrev cX11_film : ByteArray := prog_1_method_26_code
def yX11_film : MethodName := ⟨RX11, "film", "(I)I"⟩
abbrev cX11_image : ByteArray := prog_1_method_27_code
def yX11_image : MethodName := ⟨RX11, "image", "()I"⟩
abbrev cX11_back : ByteArray := prog_1_method_28_code
def yX11_back : MethodName := ⟨RX11, "back", "()I"⟩
abbrev cX11_count : ByteArray := prog_1_method_29_code
def yX11_count : MethodName := ⟨RX11, "count", "(I)I"⟩
abbrev cX11_sheet : ByteArray := prog_1_method_30_code
def yX11_sheet : MethodName := ⟨RX11, "sheet", "(III)I"⟩
abbrev cX11_put : ByteArray := prog_1_method_31_code
def yX11_put : MethodName := ⟨RX11, "put", "(III)I"⟩
abbrev cX11_copy : ByteArray := prog_1_method_32_code
def yX11_copy : MethodName := ⟨RX11, "copy", "(IIIII)I"⟩
abbrev cX11_load : ByteArray := prog_1_method_33_code
def yX11_load : MethodName := ⟨RX11, "load", "(IIII)I"⟩
abbrev cX11_within : ByteArray := prog_1_method_34_code
def yX11_within : MethodName := ⟨RX11, "within", "(III)Z"⟩
abbrev cX11_isDay : ByteArray := prog_1_method_35_code
def yX11_isDay : MethodName := ⟨RX11, "isDay", "(I)Z"⟩
abbrev cX11_isKind : ByteArray := prog_1_method_36_code
def yX11_isKind : MethodName := ⟨RX11, "isKind", "(I)Z"⟩
abbrev cX11_isRanking : ByteArray := prog_1_method_37_code
def yX11_isRanking : MethodName := ⟨RX11, "isRanking", "(I)Z"⟩
abbrev cX11_isPart : ByteArray := prog_1_method_38_code
def yX11_isPart : MethodName := ⟨RX11, "isPart", "(I)Z"⟩
abbrev cX11_isSheet : ByteArray := prog_1_method_39_code
def yX11_isSheet : MethodName := ⟨RX11, "isSheet", "(I)Z"⟩
abbrev cX11_isSort : ByteArray := prog_1_method_40_code
def yX11_isSort : MethodName := ⟨RX11, "isSort", "(I)Z"⟩
abbrev cX11_isAskedOfReplay : ByteArray := prog_1_method_41_code
def yX11_isAskedOfReplay : MethodName := ⟨RX11, "isAskedOfReplay", "(I)Z"⟩
abbrev cX11_isRow : ByteArray := prog_1_method_42_code
def yX11_isRow : MethodName := ⟨RX11, "isRow", "(I)Z"⟩
abbrev cX11_look : ByteArray := prog_1_method_43_code
def yX11_look : MethodName := ⟨RX11, "look", "()V"⟩
abbrev cX11_solve : ByteArray := prog_1_method_44_code
def yX11_solve : MethodName := ⟨RX11, "solve", "()V"⟩
abbrev cX11_readHeld : ByteArray := prog_1_method_45_code
def yX11_readHeld : MethodName := ⟨RX11, "readHeld", "()V"⟩
abbrev cX11_reckonRow : ByteArray := prog_1_method_46_code
def yX11_reckonRow : MethodName := ⟨RX11, "reckonRow", "(I)V"⟩
abbrev cX11_readRates : ByteArray := prog_1_method_47_code
def yX11_readRates : MethodName := ⟨RX11, "readRates", "(LDuesOnRungs$Sheet;)Z"⟩
abbrev cX11_playBy : ByteArray := prog_1_method_48_code
def yX11_playBy : MethodName := ⟨RX11, "playBy", "([I)V"⟩
abbrev cX11_shortBySeed : ByteArray := prog_1_method_49_code
def yX11_shortBySeed : MethodName := ⟨RX11, "shortBySeed", "(I)J"⟩
def RX12 : String := "DuesOnRungsModel"
def TX12 : u_T := fun k => match k with
  | 0 => ("DuesOnRungsModel", "dues", "[I", true)
  | 1 => ("DuesOnRungsModel", "rates", "[I", true)
  | 2 => ("DuesOnRungsModel", "limits", "[I", true)
  | 3 => ("DuesOnRungsModel", "bonds", "I", false)
  | 4 => ("DuesOnRungsModel", "told", "[I", true)
  | 5 => ("DuesOnRungsModel", "rungs", "I", false)
  | 6 => ("DuesOnRungsModel", "rung", "[I", true)
  | 7 => ("DuesOnRungsModel", "by", "[I", true)
  | 8 => ("DuesOnRungsModel", "great", "Z", false)
  | 9 => ("DuesOnRungsModel", "up", "J", false)
  | 10 => ("DuesOnRungsModel", "low", "J", false)
  | 11 => ("DuesOnRungsModel", "rows", "I", false)
  | 12 => ("DuesOnRungsModel", "rowOf", "[I", true)
  | 13 => ("DuesOnRungsModel", "shareOf", "[I", true)
  | 14 => ("DuesOnRungsModel", "bareUp", "[J", true)
  | 15 => ("DuesOnRungsModel", "bareLow", "[J", true)
  | 16 => ("DuesOnRungsModel", "shareUp", "[J", true)
  | 17 => ("DuesOnRungsModel", "shareLow", "[J", true)
  | 18 => ("DuesOnRungsModel", "rowUp", "[J", true)
  | 19 => ("DuesOnRungsModel", "rowLow", "[J", true)
  | 20 => ("DuesOnRungsModel", "bought", "[I", true)
  | 21 => ("DuesOnRungsModel", "lacking", "I", false)
  | 22 => ("DuesOnRungsModel", "ranked", "[I", true)
  | 23 => ("DuesOnRungsModel", "cash", "[J", true)
  | 24 => ("DuesOnRungsModel", "lack", "[J", true)
  | 25 => ("DuesOnRungsModel", "spilt", "J", false)
  | 26 => ("DuesOnRungsModel", "grew", "J", false)
  | 27 => ("DuesOnRungsModel", "paid", "J", false)
  | 28 => ("DuesOnRungsModel", "imaged", "Z", false)
  | 29 => ("DuesOnRungsModel", "oldBonds", "I", false)
  | 30 => ("DuesOnRungsModel", "old", "[I", true)
  | 31 => ("DuesOnRungsModel", "sort", "[I", true)
  | 32 => ("DuesOnRungsModel", "size", "[I", true)
  | _ => ("DuesOnRungsModel", "items", "[I", true)
def tyX12 : Nat → FieldType := fun k => match k with
  | 0 => .array .int
  | 1 => .array .int
  | 2 => .array .int
  | 3 => .int
  | 4 => .array .int
  | 5 => .int
  | 6 => .array .int
  | 7 => .array .int
  | 8 => .boolean
  | 9 => .long
  | 10 => .long
  | 11 => .int
  | 12 => .array .int
  | 13 => .array .int
  | 14 => .array .long
  | 15 => .array .long
  | 16 => .array .long
  | 17 => .array .long
  | 18 => .array .long
  | 19 => .array .long
  | 20 => .array .int
  | 21 => .int
  | 22 => .array .int
  | 23 => .array .long
  | 24 => .array .long
  | 25 => .long
  | 26 => .long
  | 27 => .long
  | 28 => .boolean
  | 29 => .int
  | 30 => .array .int
  | 31 => .array .int
  | 32 => .array .int
  | _ => .array .int
abbrev wsX120 : List Cond := u_ws RX12 TX12 34
theorem nmX12 : ∀ a, a < 34 → ∀ b, b < 34 → a ≠ b → (TX12 a).2.1 ≠ (TX12 b).2.1 := by decide +kernel
theorem tyX12_ok : ∀ k, k < 34 → parseFieldDescriptor (TX12 k).2.2.1 = some (tyX12 k) := by decide +kernel
abbrev cX12_init : ByteArray := prog_14_method_1_code
def yX12_init : MethodName := ⟨RX12, "<init>", "()V"⟩
abbrev cX12_within : ByteArray := prog_14_method_2_code
def yX12_within : MethodName := ⟨RX12, "within", "(III)Z"⟩
abbrev cX12_isDay : ByteArray := prog_14_method_3_code
def yX12_isDay : MethodName := ⟨RX12, "isDay", "(I)Z"⟩
abbrev cX12_isRung : ByteArray := prog_14_method_4_code
def yX12_isRung : MethodName := ⟨RX12, "isRung", "(I)Z"⟩
abbrev cX12_isBond : ByteArray := prog_14_method_5_code
def yX12_isBond : MethodName := ⟨RX12, "isBond", "(I)Z"⟩
abbrev cX12_finds : ByteArray := prog_14_method_6_code
def yX12_finds : MethodName := ⟨RX12, "finds", "()V"⟩
abbrev cX12_many : ByteArray := prog_14_method_7_code
def yX12_many : MethodName := ⟨RX12, "many", "([I)I"⟩
abbrev cX12_becomes : ByteArray := prog_14_method_8_code
def yX12_becomes : MethodName := ⟨RX12, "becomes", "([IIII)I"⟩
abbrev cX12_due : ByteArray := prog_14_method_9_code
def yX12_due : MethodName := ⟨RX12, "due", "(II)I"⟩
abbrev cX12_rate : ByteArray := prog_14_method_10_code
def yX12_rate : MethodName := ⟨RX12, "rate", "(II)I"⟩
abbrev cX12_limit : ByteArray := prog_14_method_11_code
def yX12_limit : MethodName := ⟨RX12, "limit", "(II)I"⟩
abbrev cX12_rateOf : ByteArray := prog_14_method_12_code
def yX12_rateOf : MethodName := ⟨RX12, "rateOf", "(I)I"⟩
abbrev cX12_rungFor : ByteArray := prog_14_method_13_code
def yX12_rungFor : MethodName := ⟨RX12, "rungFor", "(I)I"⟩
abbrev cX12_rateBy : ByteArray := prog_14_method_14_code
def yX12_rateBy : MethodName := ⟨RX12, "rateBy", "(I)I"⟩
abbrev cX12_rung : ByteArray := prog_14_method_15_code
def yX12_rung : MethodName := ⟨RX12, "rung", "(II)I"⟩
abbrev cX12_day : ByteArray := prog_14_method_16_code
def yX12_day : MethodName := ⟨RX12, "day", "(II)I"⟩
abbrev cX12_of : ByteArray := prog_14_method_17_code
def yX12_of : MethodName := ⟨RX12, "of", "(II)I"⟩
abbrev cX12_bond : ByteArray := prog_14_method_18_code
def yX12_bond : MethodName := ⟨RX12, "bond", "(IIIIII)I"⟩
abbrev cX12_hold : ByteArray := prog_14_method_19_code
def yX12_hold : MethodName := ⟨RX12, "hold", "(II)I"⟩
abbrev cX12_calledOn : ByteArray := prog_14_method_20_code
def yX12_calledOn : MethodName := ⟨RX12, "calledOn", "(I)I"⟩
abbrev cX12_paysOn : ByteArray := prog_14_method_21_code
def yX12_paysOn : MethodName := ⟨RX12, "paysOn", "(II)I"⟩
abbrev cX12_paysAtRung : ByteArray := prog_14_method_22_code
def yX12_paysAtRung : MethodName := ⟨RX12, "paysAtRung", "(II)I"⟩
abbrev cX12_lastOf : ByteArray := prog_14_method_23_code
def yX12_lastOf : MethodName := ⟨RX12, "lastOf", "(I)I"⟩
abbrev cX12_allOf : ByteArray := prog_14_method_24_code
def yX12_allOf : MethodName := ⟨RX12, "allOf", "(I)I"⟩
abbrev cX12_told : ByteArray := prog_14_method_25_code
def yX12_told : MethodName := ⟨RX12, "told", "(II)I"⟩
abbrev cX12_pays : ByteArray := prog_14_method_26_code
def yX12_pays : MethodName := ⟨RX12, "pays", "(II)I"⟩
abbrev cX12_paysAt : ByteArray := prog_14_method_27_code
def yX12_paysAt : MethodName := ⟨RX12, "paysAt", "(II)I"⟩
abbrev cX12_above : ByteArray := prog_14_method_28_code
def yX12_above : MethodName := ⟨RX12, "above", "(I)I"⟩
abbrev cX12_taken : ByteArray := prog_14_method_29_code
def yX12_taken : MethodName := ⟨RX12, "taken", "(II)I"⟩
abbrev cX12_isAhead : ByteArray := prog_14_method_30_code
def yX12_isAhead : MethodName := ⟨RX12, "isAhead", "(III)Z"⟩
abbrev cX12_ranks : ByteArray := prog_14_method_31_code
def yX12_ranks : MethodName := ⟨RX12, "ranks", "(I)V"⟩
abbrev cX12_ranked : ByteArray := prog_14_method_32_code
def yX12_ranked : MethodName := ⟨RX12, "ranked", "(II)I"⟩
abbrev cX12_times : ByteArray := prog_14_method_33_code
def yX12_times : MethodName := ⟨RX12, "times", "(JJ)J"⟩
abbrev cX12_plus : ByteArray := prog_14_method_34_code
def yX12_plus : MethodName := ⟨RX12, "plus", "(JJ)J"⟩
abbrev cX12_common : ByteArray := prog_14_method_35_code
def yX12_common : MethodName := ⟨RX12, "common", "(JJ)J"⟩
abbrev cX12_lowest : ByteArray := prog_14_method_36_code
def yX12_lowest : MethodName := ⟨RX12, "lowest", "(JJ)V"⟩
abbrev cX12_sum : ByteArray := prog_14_method_37_code
def yX12_sum : MethodName := ⟨RX12, "sum", "(JJJJ)V"⟩
abbrev cX12_product : ByteArray := prog_14_method_38_code
def yX12_product : MethodName := ⟨RX12, "product", "(JJJJ)V"⟩
abbrev cX12_quotient : ByteArray := prog_14_method_39_code
def yX12_quotient : MethodName := ⟨RX12, "quotient", "(JJJJ)V"⟩
abbrev cX12_isLess : ByteArray := prog_14_method_40_code
def yX12_isLess : MethodName := ⟨RX12, "isLess", "(JJJJ)Z"⟩
abbrev cX12_part : ByteArray := prog_14_method_41_code
def yX12_part : MethodName := ⟨RX12, "part", "(I)J"⟩
abbrev cX12_isRow : ByteArray := prog_14_method_42_code
def yX12_isRow : MethodName := ⟨RX12, "isRow", "(I)Z"⟩
abbrev cX12_amountAt : ByteArray := prog_14_method_43_code
def yX12_amountAt : MethodName := ⟨RX12, "amountAt", "(II)I"⟩
abbrev cX12_factor : ByteArray := prog_14_method_44_code
def yX12_factor : MethodName := ⟨RX12, "factor", "(I)I"⟩
abbrev cX12_byFactor : ByteArray := prog_14_method_45_code
def yX12_byFactor : MethodName := ⟨RX12, "byFactor", "(IZ)V"⟩
abbrev cX12_worthAt : ByteArray := prog_14_method_46_code
def yX12_worthAt : MethodName := ⟨RX12, "worthAt", "(II)V"⟩
abbrev cX12_worthOf : ByteArray := prog_14_method_47_code
def yX12_worthOf : MethodName := ⟨RX12, "worthOf", "(I)V"⟩
abbrev cX12_worth : ByteArray := prog_14_method_48_code
def yX12_worth : MethodName := ⟨RX12, "worth", "(II)J"⟩
abbrev cX12_lengthOf : ByteArray := prog_14_method_49_code
def yX12_lengthOf : MethodName := ⟨RX12, "lengthOf", "(IZJJ)V"⟩
abbrev cX12_length : ByteArray := prog_14_method_50_code
def yX12_length : MethodName := ⟨RX12, "length", "(III)J"⟩
abbrev cX12_surplus : ByteArray := prog_14_method_51_code
def yX12_surplus : MethodName := ⟨RX12, "surplus", "(I)J"⟩
abbrev cX12_isRoom : ByteArray := prog_14_method_52_code
def yX12_isRoom : MethodName := ⟨RX12, "isRoom", "(I)Z"⟩
abbrev cX12_comes : ByteArray := prog_14_method_53_code
def yX12_comes : MethodName := ⟨RX12, "comes", "(IZJ)V"⟩
abbrev cX12_begins : ByteArray := prog_14_method_54_code
def yX12_begins : MethodName := ⟨RX12, "begins", "()V"⟩
abbrev cX12_leaves : ByteArray := prog_14_method_55_code
def yX12_leaves : MethodName := ⟨RX12, "leaves", "()I"⟩
abbrev cX12_enters : ByteArray := prog_14_method_56_code
def yX12_enters : MethodName := ⟨RX12, "enters", "(I)I"⟩
abbrev cX12_turns : ByteArray := prog_14_method_57_code
def yX12_turns : MethodName := ⟨RX12, "turns", "(II)V"⟩
abbrev cX12_fills : ByteArray := prog_14_method_58_code
def yX12_fills : MethodName := ⟨RX12, "fills", "(III)V"⟩
abbrev cX12_solved : ByteArray := prog_14_method_59_code
def yX12_solved : MethodName := ⟨RX12, "solved", "()I"⟩
abbrev cX12_least : ByteArray := prog_14_method_60_code
def yX12_least : MethodName := ⟨RX12, "least", "()I"⟩
abbrev cX12_bare : ByteArray := prog_14_method_61_code
def yX12_bare : MethodName := ⟨RX12, "bare", "(I)V"⟩
abbrev cX12_price : ByteArray := prog_14_method_62_code
def yX12_price : MethodName := ⟨RX12, "price", "(I)V"⟩
abbrev cX12_amount : ByteArray := prog_14_method_63_code
def yX12_amount : MethodName := ⟨RX12, "amount", "(II)J"⟩
abbrev cX12_proofOf : ByteArray := prog_14_method_64_code
def yX12_proofOf : MethodName := ⟨RX12, "proofOf", "(I)V"⟩
abbrev cX12_proof : ByteArray := prog_14_method_65_code
def yX12_proof : MethodName := ⟨RX12, "proof", "(III)J"⟩
abbrev cX12_climbs : ByteArray := prog_14_method_66_code
def yX12_climbs : MethodName := ⟨RX12, "climbs", "(I)V"⟩
abbrev cX12_ladder : ByteArray := prog_14_method_67_code
def yX12_ladder : MethodName := ⟨RX12, "ladder", "(II)I"⟩
abbrev cX12_plays : ByteArray := prog_14_method_68_code
def yX12_plays : MethodName := ⟨RX12, "plays", "()J"⟩
abbrev cX12_isSheet : ByteArray := prog_14_method_69_code
def yX12_isSheet : MethodName := ⟨RX12, "isSheet", "(I)Z"⟩
abbrev cX12_clears : ByteArray := prog_14_method_70_code
def yX12_clears : MethodName := ⟨RX12, "clears", "()V"⟩
abbrev cX12_replay : ByteArray := prog_14_method_71_code
def yX12_replay : MethodName := ⟨RX12, "replay", "(II)I"⟩
abbrev cX12_worst : ByteArray := prog_14_method_72_code
def yX12_worst : MethodName := ⟨RX12, "worst", "(I)I"⟩
abbrev cX12_drawnBy : ByteArray := prog_14_method_73_code
def yX12_drawnBy : MethodName := ⟨RX12, "drawnBy", "(I)I"⟩
abbrev cX12_drawn : ByteArray := prog_14_method_74_code
def yX12_drawn : MethodName := ⟨RX12, "drawn", "(I)I"⟩
abbrev cX12_chance : ByteArray := prog_14_method_75_code
def yX12_chance : MethodName := ⟨RX12, "chance", "(III)I"⟩
abbrev cX12_unlike : ByteArray := prog_14_method_76_code
def yX12_unlike : MethodName := ⟨RX12, "unlike", "(I)I"⟩
abbrev cX12_tells : ByteArray := prog_14_method_77_code
def yX12_tells : MethodName := ⟨RX12, "tells", "(III)I"⟩
abbrev cX12_film : ByteArray := prog_14_method_78_code
def yX12_film : MethodName := ⟨RX12, "film", "(I)I"⟩
abbrev cX12_image : ByteArray := prog_14_method_79_code
def yX12_image : MethodName := ⟨RX12, "image", "()I"⟩
abbrev cX12_back : ByteArray := prog_14_method_80_code
def yX12_back : MethodName := ⟨RX12, "back", "()I"⟩
abbrev cX12_count : ByteArray := prog_14_method_81_code
def yX12_count : MethodName := ⟨RX12, "count", "(I)I"⟩
abbrev cX12_sheet : ByteArray := prog_14_method_82_code
def yX12_sheet : MethodName := ⟨RX12, "sheet", "(III)I"⟩
abbrev cX12_put : ByteArray := prog_14_method_83_code
def yX12_put : MethodName := ⟨RX12, "put", "(III)I"⟩
abbrev cX12_copy : ByteArray := prog_14_method_84_code
def yX12_copy : MethodName := ⟨RX12, "copy", "(IIIII)I"⟩
abbrev cX12_load : ByteArray := prog_14_method_85_code
def yX12_load : MethodName := ⟨RX12, "load", "(IIII)I"⟩
def RJ6 : String := "java/lang/Integer"
def TJ6 : u_T := fun k => match k with
  | _ => ("", "", "", false)
def tyJ6 : Nat → FieldType := fun k => match k with
  | _ => .int
abbrev wsJ60 : List Cond := u_ws RJ6 TJ6 0
theorem nmJ6 : ∀ a, a < 0 → ∀ b, b < 0 → a ≠ b → (TJ6 a).2.1 ≠ (TJ6 b).2.1 := by decide +kernel
theorem tyJ6_ok : ∀ k, k < 0 → parseFieldDescriptor (TJ6 k).2.2.1 = some (tyJ6 k) := by decide +kernel
abbrev cJ6_compare_7cf53 : ByteArray := prog_15_method_40_code
def yJ6_compare_7cf53 : MethodName := ⟨RJ6, "compare", "(II)I"⟩
def RJ9 : String := "java/lang/Math"
def TJ9 : u_T := fun k => match k with
  | _ => ("", "", "", false)
def tyJ9 : Nat → FieldType := fun k => match k with
  | _ => .int
abbrev wsJ90 : List Cond := u_ws RJ9 TJ9 0
theorem nmJ9 : ∀ a, a < 0 → ∀ b, b < 0 → a ≠ b → (TJ9 a).2.1 ≠ (TJ9 b).2.1 := by decide +kernel
theorem tyJ9_ok : ∀ k, k < 0 → parseFieldDescriptor (TJ9 k).2.2.1 = some (tyJ9 k) := by decide +kernel
abbrev cJ9_floorDiv_f86c9 : ByteArray := prog_16_method_49_code
def yJ9_floorDiv_f86c9 : MethodName := ⟨RJ9, "floorDiv", "(JJ)J"⟩
abbrev cJ9_abs_067f4 : ByteArray := prog_16_method_61_code
def yJ9_abs_067f4 : MethodName := ⟨RJ9, "abs", "(J)J"⟩
abbrev cJ9_max_f86c9 : ByteArray := prog_16_method_66_code
def yJ9_max_f86c9 : MethodName := ⟨RJ9, "max", "(JJ)J"⟩
def RJ10 : String := "java/lang/System"
def TJ10 : u_T := fun k => match k with
  | _ => ("", "", "", false)
def tyJ10 : Nat → FieldType := fun k => match k with
  | _ => .int
abbrev wsJ100 : List Cond := u_ws RJ10 TJ10 0
theorem nmJ10 : ∀ a, a < 0 → ∀ b, b < 0 → a ≠ b → (TJ10 a).2.1 ≠ (TJ10 b).2.1 := by decide +kernel
theorem tyJ10_ok : ∀ k, k < 0 → parseFieldDescriptor (TJ10 k).2.2.1 = some (tyJ10 k) := by decide +kernel
def RJ7 : String := "java/util/Arrays"
def TJ7 : u_T := fun k => match k with
  | _ => ("", "", "", false)
def tyJ7 : Nat → FieldType := fun k => match k with
  | _ => .int
abbrev wsJ70 : List Cond := u_ws RJ7 TJ7 0
theorem nmJ7 : ∀ a, a < 0 → ∀ b, b < 0 → a ≠ b → (TJ7 a).2.1 ≠ (TJ7 b).2.1 := by decide +kernel
theorem tyJ7_ok : ∀ k, k < 0 → parseFieldDescriptor (TJ7 k).2.2.1 = some (tyJ7 k) := by decide +kernel
abbrev cJ7_fill_53178 : ByteArray := prog_18_method_103_code
def yJ7_fill_53178 : MethodName := ⟨RJ7, "fill", "([II)V"⟩
def RL : String := "DuesOnRungsLaw"
abbrev cL_law : ByteArray := code
def yL_law : MethodName := ⟨RL, "law", "([I)Z"⟩
abbrev vwCl : List vw_C := [(RX0, TX0, 7), (RX1, TX1, 5), (RX2, TX2, 3), (RX3, TX3, 9), (RX4, TX4, 3), (RX5, TX5, 4), (RX6, TX6, 7), (RX7, TX7, 3), (RX8, TX8, 11), (RX9, TX9, 3), (RX10, TX10, 7), (RX11, TX11, 18), (RX12, TX12, 34)]
