/-- the words that every method carries: those of the tables that a call may take along -/
def LW : List Cond := lw_tbl.filter goodWord
theorem lw_LW {w : Cond} (h : w ∈ lw_tbl) (hg : goodWord w = true) : w ∈ LW := List.mem_filter.mpr ⟨h, hg⟩
theorem LW_lw {w : Cond} (h : w ∈ LW) : w ∈ lw_tbl := (List.mem_filter.mp h).1
theorem LW_good : ∀ w ∈ LW, goodWord w = true := fun w h => (List.mem_filter.mp h).2
theorem in_t1 : ∀ w ∈ tables_1_1, w ∈ lw_tbl := fun w h => List.mem_append_right _ (List.mem_append_left _ h)
theorem in_t2 : ∀ w ∈ tables_1_2, w ∈ lw_tbl := fun w h => List.mem_append_right _ (List.mem_append_right _ (List.mem_append_left _ h))
theorem in_t3 : ∀ w ∈ tables_1_3, w ∈ lw_tbl := fun w h => List.mem_append_right _ (List.mem_append_right _ (List.mem_append_right _ (List.mem_append_left _ h)))
theorem in_t4 : ∀ w ∈ tables_1_4, w ∈ lw_tbl := fun w h => List.mem_append_right _ (List.mem_append_right _ (List.mem_append_right _ (List.mem_append_right _ (List.mem_append_left _ h))))
theorem in_t5 : ∀ w ∈ tables_1_5, w ∈ lw_tbl := fun w h => List.mem_append_right _ (List.mem_append_right _ (List.mem_append_right _ (List.mem_append_right _ (List.mem_append_right _ (List.mem_append_left _ h)))))
theorem in_t6 : ∀ w ∈ tables_1_6, w ∈ lw_tbl := fun w h => List.mem_append_right _ (List.mem_append_right _ (List.mem_append_right _ (List.mem_append_right _ (List.mem_append_right _ (List.mem_append_right _ (h))))))
theorem w_0 : Cond.selects "DuesOnRungs" ⟨"DuesOnRungs", "look", "()V"⟩ ⟨"DuesOnRungs", "look", "()V"⟩ ∈ LW := lw_LW (List.mem_append_left _ (List.mem_of_getElem? (i := 0) rfl)) rfl
theorem w_1 : Cond.selects "DuesOnRungs$Scene" ⟨"DuesOnRungs$Scene", "layRungs", "(LDuesOnRungs$Book;)V"⟩ ⟨"DuesOnRungs$Scene", "layRungs", "(LDuesOnRungs$Book;)V"⟩ ∈ LW := lw_LW (List.mem_append_left _ (List.mem_of_getElem? (i := 1) rfl)) rfl
theorem w_2 : Cond.selects "DuesOnRungs$Scene" ⟨"DuesOnRungs$Scene", "layRates", "([I[I)V"⟩ ⟨"DuesOnRungs$Scene", "layRates", "([I[I)V"⟩ ∈ LW := lw_LW (List.mem_append_left _ (List.mem_of_getElem? (i := 2) rfl)) rfl
theorem w_3 : Cond.selects "DuesOnRungs$Bond" ⟨"DuesOnRungs$Bond", "payingOn", "(III)I"⟩ ⟨"DuesOnRungs$Bond", "payingOn", "(III)I"⟩ ∈ LW := lw_LW (List.mem_append_left _ (List.mem_of_getElem? (i := 3) rfl)) rfl
theorem w_4 : Cond.selects "DuesOnRungs$Bond" ⟨"DuesOnRungs$Bond", "isCalledOn", "(II)Z"⟩ ⟨"DuesOnRungs$Bond", "isCalledOn", "(II)Z"⟩ ∈ LW := lw_LW (List.mem_append_left _ (List.mem_of_getElem? (i := 4) rfl)) rfl
theorem w_5 : Cond.selects "DuesOnRungs$Scene" ⟨"DuesOnRungs$Scene", "gatherPayings", "(I)V"⟩ ⟨"DuesOnRungs$Scene", "gatherPayings", "(I)V"⟩ ∈ LW := lw_LW (List.mem_append_left _ (List.mem_of_getElem? (i := 5) rfl)) rfl
theorem w_6 : Cond.selects "DuesOnRungs" ⟨"DuesOnRungs", "isRow", "(I)Z"⟩ ⟨"DuesOnRungs", "isRow", "(I)Z"⟩ ∈ LW := lw_LW (List.mem_append_left _ (List.mem_of_getElem? (i := 6) rfl)) rfl
theorem w_7 : Cond.selects "DuesOnRungs" ⟨"DuesOnRungs", "reckonRow", "(I)V"⟩ ⟨"DuesOnRungs", "reckonRow", "(I)V"⟩ ∈ LW := lw_LW (List.mem_append_left _ (List.mem_of_getElem? (i := 7) rfl)) rfl
theorem w_8 : Cond.selects "DuesOnRungs" ⟨"DuesOnRungs", "readHeld", "()V"⟩ ⟨"DuesOnRungs", "readHeld", "()V"⟩ ∈ LW := lw_LW (List.mem_append_left _ (List.mem_of_getElem? (i := 8) rfl)) rfl
theorem w_9 : Cond.selects "DuesOnRungs$Fraction" ⟨"DuesOnRungs$Fraction", "reduce", "(JJ)V"⟩ ⟨"DuesOnRungs$Fraction", "reduce", "(JJ)V"⟩ ∈ LW := lw_LW (List.mem_append_left _ (List.mem_of_getElem? (i := 9) rfl)) rfl
theorem w_10 : Cond.selects "DuesOnRungs" ⟨"DuesOnRungs", "solve", "()V"⟩ ⟨"DuesOnRungs", "solve", "()V"⟩ ∈ LW := lw_LW (List.mem_append_left _ (List.mem_of_getElem? (i := 10) rfl)) rfl
theorem w_11 : Cond.selects "DuesOnRungs$Dictionary" ⟨"DuesOnRungs$Dictionary", "beginCarry", "(ILDuesOnRungs$Scene;)V"⟩ ⟨"DuesOnRungs$Dictionary", "beginCarry", "(ILDuesOnRungs$Scene;)V"⟩ ∈ LW := lw_LW (List.mem_append_left _ (List.mem_of_getElem? (i := 11) rfl)) rfl
theorem w_12 : Cond.selects "DuesOnRungs$Dictionary" ⟨"DuesOnRungs$Dictionary", "findLeaving", "()I"⟩ ⟨"DuesOnRungs$Dictionary", "findLeaving", "()I"⟩ ∈ LW := lw_LW (List.mem_append_left _ (List.mem_of_getElem? (i := 12) rfl)) rfl
theorem w_13 : Cond.selects "DuesOnRungs$Dictionary" ⟨"DuesOnRungs$Dictionary", "findEntering", "(LDuesOnRungs$Row;)I"⟩ ⟨"DuesOnRungs$Dictionary", "findEntering", "(LDuesOnRungs$Row;)I"⟩ ∈ LW := lw_LW (List.mem_append_left _ (List.mem_of_getElem? (i := 13) rfl)) rfl
theorem w_14 : Cond.selects "DuesOnRungs$Dictionary" ⟨"DuesOnRungs$Dictionary", "exchange", "(II)V"⟩ ⟨"DuesOnRungs$Dictionary", "exchange", "(II)V"⟩ ∈ LW := lw_LW (List.mem_append_left _ (List.mem_of_getElem? (i := 14) rfl)) rfl
theorem w_15 : Cond.selects "DuesOnRungs$Dictionary" ⟨"DuesOnRungs$Dictionary", "solveFor", "(LDuesOnRungs$Row;I)V"⟩ ⟨"DuesOnRungs$Dictionary", "solveFor", "(LDuesOnRungs$Row;I)V"⟩ ∈ LW := lw_LW (List.mem_append_left _ (List.mem_of_getElem? (i := 15) rfl)) rfl
theorem w_16 : Cond.selects "DuesOnRungs$Dictionary" ⟨"DuesOnRungs$Dictionary", "replaceIn", "(LDuesOnRungs$Row;LDuesOnRungs$Row;I)V"⟩ ⟨"DuesOnRungs$Dictionary", "replaceIn", "(LDuesOnRungs$Row;LDuesOnRungs$Row;I)V"⟩ ∈ LW := lw_LW (List.mem_append_left _ (List.mem_of_getElem? (i := 16) rfl)) rfl
theorem w_17 : Cond.selects "DuesOnRungs$Dictionary" ⟨"DuesOnRungs$Dictionary", "isGreat", "()Z"⟩ ⟨"DuesOnRungs$Dictionary", "isGreat", "()Z"⟩ ∈ LW := lw_LW (List.mem_append_left _ (List.mem_of_getElem? (i := 17) rfl)) rfl
theorem w_18 : Cond.selects "DuesOnRungs$Ladder" ⟨"DuesOnRungs$Ladder", "buyAt", "(IILDuesOnRungs$Book;LDuesOnRungs$Scene;)V"⟩ ⟨"DuesOnRungs$Ladder", "buyAt", "(IILDuesOnRungs$Book;LDuesOnRungs$Scene;)V"⟩ ∈ LW := lw_LW (List.mem_append_left _ (List.mem_of_getElem? (i := 18) rfl)) rfl
theorem w_19 : Cond.selects "DuesOnRungs" ⟨"DuesOnRungs", "readRates", "(LDuesOnRungs$Sheet;)Z"⟩ ⟨"DuesOnRungs", "readRates", "(LDuesOnRungs$Sheet;)Z"⟩ ∈ LW := lw_LW (List.mem_append_left _ (List.mem_of_getElem? (i := 19) rfl)) rfl
theorem w_20 : Cond.selects "DuesOnRungs" ⟨"DuesOnRungs", "playBy", "([I)V"⟩ ⟨"DuesOnRungs", "playBy", "([I)V"⟩ ∈ LW := lw_LW (List.mem_append_left _ (List.mem_of_getElem? (i := 20) rfl)) rfl
theorem w_21 : Cond.selects "DuesOnRungs" ⟨"DuesOnRungs", "shortBySeed", "(I)J"⟩ ⟨"DuesOnRungs", "shortBySeed", "(I)J"⟩ ∈ LW := lw_LW (List.mem_append_left _ (List.mem_of_getElem? (i := 21) rfl)) rfl
theorem w_22 : Cond.selects "DuesOnRungsModel" ⟨"DuesOnRungsModel", "finds", "()V"⟩ ⟨"DuesOnRungsModel", "finds", "()V"⟩ ∈ LW := lw_LW (List.mem_append_left _ (List.mem_of_getElem? (i := 22) rfl)) rfl
theorem w_23 : Cond.selects "DuesOnRungsModel" ⟨"DuesOnRungsModel", "isRung", "(I)Z"⟩ ⟨"DuesOnRungsModel", "isRung", "(I)Z"⟩ ∈ LW := lw_LW (List.mem_append_left _ (List.mem_of_getElem? (i := 23) rfl)) rfl
theorem w_24 : Cond.selects "DuesOnRungsModel" ⟨"DuesOnRungsModel", "rateOf", "(I)I"⟩ ⟨"DuesOnRungsModel", "rateOf", "(I)I"⟩ ∈ LW := lw_LW (List.mem_append_left _ (List.mem_of_getElem? (i := 24) rfl)) rfl
theorem w_25 : Cond.selects "DuesOnRungsModel" ⟨"DuesOnRungsModel", "rungFor", "(I)I"⟩ ⟨"DuesOnRungsModel", "rungFor", "(I)I"⟩ ∈ LW := lw_LW (List.mem_append_left _ (List.mem_of_getElem? (i := 25) rfl)) rfl
theorem w_26 : Cond.selects "DuesOnRungsModel" ⟨"DuesOnRungsModel", "isBond", "(I)Z"⟩ ⟨"DuesOnRungsModel", "isBond", "(I)Z"⟩ ∈ LW := lw_LW (List.mem_append_left _ (List.mem_of_getElem? (i := 26) rfl)) rfl
theorem w_27 : Cond.selects "DuesOnRungsModel" ⟨"DuesOnRungsModel", "of", "(II)I"⟩ ⟨"DuesOnRungsModel", "of", "(II)I"⟩ ∈ LW := lw_LW (List.mem_append_left _ (List.mem_of_getElem? (i := 27) rfl)) rfl
theorem w_28 : Cond.selects "DuesOnRungsModel" ⟨"DuesOnRungsModel", "lastOf", "(I)I"⟩ ⟨"DuesOnRungsModel", "lastOf", "(I)I"⟩ ∈ LW := lw_LW (List.mem_append_left _ (List.mem_of_getElem? (i := 28) rfl)) rfl
theorem w_29 : Cond.selects "DuesOnRungsModel" ⟨"DuesOnRungsModel", "paysAtRung", "(II)I"⟩ ⟨"DuesOnRungsModel", "paysAtRung", "(II)I"⟩ ∈ LW := lw_LW (List.mem_append_left _ (List.mem_of_getElem? (i := 29) rfl)) rfl
theorem w_30 : Cond.selects "DuesOnRungsModel" ⟨"DuesOnRungsModel", "paysOn", "(II)I"⟩ ⟨"DuesOnRungsModel", "paysOn", "(II)I"⟩ ∈ LW := lw_LW (List.mem_append_left _ (List.mem_of_getElem? (i := 30) rfl)) rfl
theorem w_31 : Cond.selects "DuesOnRungsModel" ⟨"DuesOnRungsModel", "rateBy", "(I)I"⟩ ⟨"DuesOnRungsModel", "rateBy", "(I)I"⟩ ∈ LW := lw_LW (List.mem_append_left _ (List.mem_of_getElem? (i := 31) rfl)) rfl
theorem w_32 : Cond.selects "DuesOnRungsModel" ⟨"DuesOnRungsModel", "calledOn", "(I)I"⟩ ⟨"DuesOnRungsModel", "calledOn", "(I)I"⟩ ∈ LW := lw_LW (List.mem_append_left _ (List.mem_of_getElem? (i := 32) rfl)) rfl
theorem w_33 : Cond.selects "DuesOnRungsModel" ⟨"DuesOnRungsModel", "allOf", "(I)I"⟩ ⟨"DuesOnRungsModel", "allOf", "(I)I"⟩ ∈ LW := lw_LW (List.mem_append_left _ (List.mem_of_getElem? (i := 33) rfl)) rfl
theorem w_34 : Cond.selects "DuesOnRungsModel" ⟨"DuesOnRungsModel", "ranks", "(I)V"⟩ ⟨"DuesOnRungsModel", "ranks", "(I)V"⟩ ∈ LW := lw_LW (List.mem_append_left _ (List.mem_of_getElem? (i := 34) rfl)) rfl
theorem w_35 : Cond.selects "DuesOnRungsModel" ⟨"DuesOnRungsModel", "isAhead", "(III)Z"⟩ ⟨"DuesOnRungsModel", "isAhead", "(III)Z"⟩ ∈ LW := lw_LW (List.mem_append_left _ (List.mem_of_getElem? (i := 35) rfl)) rfl
theorem w_36 : Cond.selects "DuesOnRungsModel" ⟨"DuesOnRungsModel", "isRow", "(I)Z"⟩ ⟨"DuesOnRungsModel", "isRow", "(I)Z"⟩ ∈ LW := lw_LW (List.mem_append_left _ (List.mem_of_getElem? (i := 36) rfl)) rfl
theorem w_37 : Cond.selects "DuesOnRungsModel" ⟨"DuesOnRungsModel", "worthOf", "(I)V"⟩ ⟨"DuesOnRungsModel", "worthOf", "(I)V"⟩ ∈ LW := lw_LW (List.mem_append_left _ (List.mem_of_getElem? (i := 37) rfl)) rfl
theorem w_38 : Cond.selects "DuesOnRungsModel" ⟨"DuesOnRungsModel", "worthAt", "(II)V"⟩ ⟨"DuesOnRungsModel", "worthAt", "(II)V"⟩ ∈ LW := lw_LW (List.mem_append_left _ (List.mem_of_getElem? (i := 38) rfl)) rfl
theorem w_39 : Cond.selects "DuesOnRungsModel" ⟨"DuesOnRungsModel", "amountAt", "(II)I"⟩ ⟨"DuesOnRungsModel", "amountAt", "(II)I"⟩ ∈ LW := lw_LW (List.mem_append_left _ (List.mem_of_getElem? (i := 39) rfl)) rfl
theorem w_40 : Cond.selects "DuesOnRungsModel" ⟨"DuesOnRungsModel", "byFactor", "(IZ)V"⟩ ⟨"DuesOnRungsModel", "byFactor", "(IZ)V"⟩ ∈ LW := lw_LW (List.mem_append_left _ (List.mem_of_getElem? (i := 40) rfl)) rfl
theorem w_41 : Cond.selects "DuesOnRungsModel" ⟨"DuesOnRungsModel", "factor", "(I)I"⟩ ⟨"DuesOnRungsModel", "factor", "(I)I"⟩ ∈ LW := lw_LW (List.mem_append_left _ (List.mem_of_getElem? (i := 41) rfl)) rfl
theorem w_42 : Cond.selects "DuesOnRungsModel" ⟨"DuesOnRungsModel", "lowest", "(JJ)V"⟩ ⟨"DuesOnRungsModel", "lowest", "(JJ)V"⟩ ∈ LW := lw_LW (List.mem_append_left _ (List.mem_of_getElem? (i := 42) rfl)) rfl
theorem w_43 : Cond.selects "DuesOnRungsModel" ⟨"DuesOnRungsModel", "quotient", "(JJJJ)V"⟩ ⟨"DuesOnRungsModel", "quotient", "(JJJJ)V"⟩ ∈ LW := lw_LW (List.mem_append_left _ (List.mem_of_getElem? (i := 43) rfl)) rfl
theorem w_44 : Cond.selects "DuesOnRungsModel" ⟨"DuesOnRungsModel", "product", "(JJJJ)V"⟩ ⟨"DuesOnRungsModel", "product", "(JJJJ)V"⟩ ∈ LW := lw_LW (List.mem_append_left _ (List.mem_of_getElem? (i := 44) rfl)) rfl
theorem w_45 : Cond.selects "DuesOnRungsModel" ⟨"DuesOnRungsModel", "times", "(JJ)J"⟩ ⟨"DuesOnRungsModel", "times", "(JJ)J"⟩ ∈ LW := lw_LW (List.mem_append_left _ (List.mem_of_getElem? (i := 45) rfl)) rfl
theorem w_46 : Cond.selects "DuesOnRungsModel" ⟨"DuesOnRungsModel", "sum", "(JJJJ)V"⟩ ⟨"DuesOnRungsModel", "sum", "(JJJJ)V"⟩ ∈ LW := lw_LW (List.mem_append_left _ (List.mem_of_getElem? (i := 46) rfl)) rfl
theorem w_47 : Cond.selects "DuesOnRungsModel" ⟨"DuesOnRungsModel", "plus", "(JJ)J"⟩ ⟨"DuesOnRungsModel", "plus", "(JJ)J"⟩ ∈ LW := lw_LW (List.mem_append_left _ (List.mem_of_getElem? (i := 47) rfl)) rfl
theorem w_48 : Cond.selects "DuesOnRungsModel" ⟨"DuesOnRungsModel", "part", "(I)J"⟩ ⟨"DuesOnRungsModel", "part", "(I)J"⟩ ∈ LW := lw_LW (List.mem_append_left _ (List.mem_of_getElem? (i := 48) rfl)) rfl
theorem w_49 : Cond.selects "DuesOnRungsModel" ⟨"DuesOnRungsModel", "lengthOf", "(IZJJ)V"⟩ ⟨"DuesOnRungsModel", "lengthOf", "(IZJJ)V"⟩ ∈ LW := lw_LW (List.mem_append_left _ (List.mem_of_getElem? (i := 49) rfl)) rfl
theorem w_50 : Cond.selects "DuesOnRungsModel" ⟨"DuesOnRungsModel", "solved", "()I"⟩ ⟨"DuesOnRungsModel", "solved", "()I"⟩ ∈ LW := lw_LW (List.mem_append_left _ (List.mem_of_getElem? (i := 50) rfl)) rfl
theorem w_51 : Cond.selects "DuesOnRungsModel" ⟨"DuesOnRungsModel", "begins", "()V"⟩ ⟨"DuesOnRungsModel", "begins", "()V"⟩ ∈ LW := lw_LW (List.mem_append_left _ (List.mem_of_getElem? (i := 51) rfl)) rfl
theorem w_52 : Cond.selects "DuesOnRungsModel" ⟨"DuesOnRungsModel", "comes", "(IZJ)V"⟩ ⟨"DuesOnRungsModel", "comes", "(IZJ)V"⟩ ∈ LW := lw_LW (List.mem_append_left _ (List.mem_of_getElem? (i := 52) rfl)) rfl
theorem w_53 : Cond.selects "DuesOnRungsModel" ⟨"DuesOnRungsModel", "isRoom", "(I)Z"⟩ ⟨"DuesOnRungsModel", "isRoom", "(I)Z"⟩ ∈ LW := lw_LW (List.mem_append_left _ (List.mem_of_getElem? (i := 53) rfl)) rfl
theorem w_54 : Cond.selects "DuesOnRungsModel" ⟨"DuesOnRungsModel", "leaves", "()I"⟩ ⟨"DuesOnRungsModel", "leaves", "()I"⟩ ∈ LW := lw_LW (List.mem_append_left _ (List.mem_of_getElem? (i := 54) rfl)) rfl
theorem w_55 : Cond.selects "DuesOnRungsModel" ⟨"DuesOnRungsModel", "enters", "(I)I"⟩ ⟨"DuesOnRungsModel", "enters", "(I)I"⟩ ∈ LW := lw_LW (List.mem_append_left _ (List.mem_of_getElem? (i := 55) rfl)) rfl
theorem w_56 : Cond.selects "DuesOnRungsModel" ⟨"DuesOnRungsModel", "turns", "(II)V"⟩ ⟨"DuesOnRungsModel", "turns", "(II)V"⟩ ∈ LW := lw_LW (List.mem_append_left _ (List.mem_of_getElem? (i := 56) rfl)) rfl
theorem w_57 : Cond.selects "DuesOnRungsModel" ⟨"DuesOnRungsModel", "fills", "(III)V"⟩ ⟨"DuesOnRungsModel", "fills", "(III)V"⟩ ∈ LW := lw_LW (List.mem_append_left _ (List.mem_of_getElem? (i := 57) rfl)) rfl
theorem w_58 : Cond.selects "DuesOnRungsModel" ⟨"DuesOnRungsModel", "bare", "(I)V"⟩ ⟨"DuesOnRungsModel", "bare", "(I)V"⟩ ∈ LW := lw_LW (List.mem_append_left _ (List.mem_of_getElem? (i := 58) rfl)) rfl
theorem w_59 : Cond.selects "DuesOnRungsModel" ⟨"DuesOnRungsModel", "proofOf", "(I)V"⟩ ⟨"DuesOnRungsModel", "proofOf", "(I)V"⟩ ∈ LW := lw_LW (List.mem_append_left _ (List.mem_of_getElem? (i := 59) rfl)) rfl
theorem w_60 : Cond.selects "DuesOnRungsModel" ⟨"DuesOnRungsModel", "price", "(I)V"⟩ ⟨"DuesOnRungsModel", "price", "(I)V"⟩ ∈ LW := lw_LW (List.mem_append_left _ (List.mem_of_getElem? (i := 60) rfl)) rfl
theorem w_61 : Cond.selects "DuesOnRungsModel" ⟨"DuesOnRungsModel", "climbs", "(I)V"⟩ ⟨"DuesOnRungsModel", "climbs", "(I)V"⟩ ∈ LW := lw_LW (List.mem_append_left _ (List.mem_of_getElem? (i := 61) rfl)) rfl
theorem w_62 : Cond.selects "DuesOnRungsModel" ⟨"DuesOnRungsModel", "plays", "()J"⟩ ⟨"DuesOnRungsModel", "plays", "()J"⟩ ∈ LW := lw_LW (List.mem_append_left _ (List.mem_of_getElem? (i := 62) rfl)) rfl
theorem w_63 : Cond.selects "DuesOnRungsModel" ⟨"DuesOnRungsModel", "clears", "()V"⟩ ⟨"DuesOnRungsModel", "clears", "()V"⟩ ∈ LW := lw_LW (List.mem_append_left _ (List.mem_of_getElem? (i := 63) rfl)) rfl
theorem w_64 : Cond.selects "DuesOnRungsModel" ⟨"DuesOnRungsModel", "drawnBy", "(I)I"⟩ ⟨"DuesOnRungsModel", "drawnBy", "(I)I"⟩ ∈ LW := lw_LW (List.mem_append_left _ (List.mem_of_getElem? (i := 64) rfl)) rfl
theorem w_65 : Cond.selects "DuesOnRungsModel" ⟨"DuesOnRungsModel", "unlike", "(I)I"⟩ ⟨"DuesOnRungsModel", "unlike", "(I)I"⟩ ∈ LW := lw_LW (List.mem_append_left _ (List.mem_of_getElem? (i := 65) rfl)) rfl
set_option maxRecDepth 20000 in
theorem w_66 : Cond.initialized "DuesOnRungsLaw" ∈ LW := lw_LW (in_t1 _ (List.mem_of_getElem? (i := 0) rfl)) rfl
set_option maxRecDepth 20000 in
theorem w_67 : Cond.initialized "DuesOnRungs" ∈ LW := lw_LW (in_t1 _ (List.mem_of_getElem? (i := 1) rfl)) rfl
set_option maxRecDepth 20000 in
theorem w_68 : Cond.initialized "DuesOnRungs$Book" ∈ LW := lw_LW (in_t1 _ (List.mem_of_getElem? (i := 2) rfl)) rfl
set_option maxRecDepth 20000 in
theorem w_69 : Cond.initialized "DuesOnRungs$DayRow" ∈ LW := lw_LW (in_t1 _ (List.mem_of_getElem? (i := 3) rfl)) rfl
set_option maxRecDepth 20000 in
theorem w_70 : Cond.initialized "java/util/Arrays" ∈ LW := lw_LW (in_t1 _ (List.mem_of_getElem? (i := 4) rfl)) rfl
set_option maxRecDepth 20000 in
theorem w_71 : Cond.initialized "DuesOnRungs$Bond" ∈ LW := lw_LW (in_t1 _ (List.mem_of_getElem? (i := 5) rfl)) rfl
set_option maxRecDepth 20000 in
theorem w_72 : Cond.initialized "DuesOnRungs$Scene" ∈ LW := lw_LW (in_t1 _ (List.mem_of_getElem? (i := 6) rfl)) rfl
set_option maxRecDepth 20000 in
theorem w_73 : Cond.initialized "DuesOnRungs$Worths" ∈ LW := lw_LW (in_t1 _ (List.mem_of_getElem? (i := 7) rfl)) rfl
set_option maxRecDepth 20000 in
theorem w_74 : Cond.initialized "DuesOnRungs$Fraction" ∈ LW := lw_LW (in_t1 _ (List.mem_of_getElem? (i := 8) rfl)) rfl
set_option maxRecDepth 20000 in
theorem w_75 : Cond.initialized "DuesOnRungs$Dictionary" ∈ LW := lw_LW (in_t1 _ (List.mem_of_getElem? (i := 9) rfl)) rfl
set_option maxRecDepth 20000 in
theorem w_76 : Cond.initialized "DuesOnRungs$Row" ∈ LW := lw_LW (in_t1 _ (List.mem_of_getElem? (i := 10) rfl)) rfl
set_option maxRecDepth 20000 in
theorem w_77 : Cond.initialized "DuesOnRungs$Ladder" ∈ LW := lw_LW (in_t1 _ (List.mem_of_getElem? (i := 11) rfl)) rfl
set_option maxRecDepth 20000 in
theorem w_78 : Cond.initialized "DuesOnRungs$Replay" ∈ LW := lw_LW (in_t1 _ (List.mem_of_getElem? (i := 12) rfl)) rfl
set_option maxRecDepth 20000 in
theorem w_79 : Cond.initialized "DuesOnRungs$Sheet" ∈ LW := lw_LW (in_t1 _ (List.mem_of_getElem? (i := 13) rfl)) rfl
set_option maxRecDepth 20000 in
theorem w_80 : Cond.initialized "DuesOnRungsModel" ∈ LW := lw_LW (in_t1 _ (List.mem_of_getElem? (i := 14) rfl)) rfl
set_option maxRecDepth 20000 in
theorem w_81 : Cond.initialized "java/lang/Integer" ∈ LW := lw_LW (in_t1 _ (List.mem_of_getElem? (i := 15) rfl)) rfl
set_option maxRecDepth 20000 in
theorem w_82 : Cond.initialized "java/lang/Math" ∈ LW := lw_LW (in_t1 _ (List.mem_of_getElem? (i := 16) rfl)) rfl
set_option maxRecDepth 20000 in
theorem w_83 : Cond.initialized "java/lang/System" ∈ LW := lw_LW (in_t1 _ (List.mem_of_getElem? (i := 17) rfl)) rfl
set_option maxRecDepth 20000 in
theorem w_84 : Cond.classLink "DuesOnRungsLaw" 7 "DuesOnRungs" ∈ LW := lw_LW (in_t1 _ (List.mem_of_getElem? (i := 18) rfl)) rfl
set_option maxRecDepth 20000 in
theorem w_85 : Cond.instantiable "DuesOnRungs" 18 ∈ LW := lw_LW (in_t1 _ (List.mem_of_getElem? (i := 19) rfl)) rfl
set_option maxRecDepth 20000 in
theorem w_86 : Cond.methodLink "DuesOnRungsLaw" 9 ⟨"DuesOnRungs", "<init>", "()V"⟩ ∈ LW := lw_LW (in_t1 _ (List.mem_of_getElem? (i := 20) rfl)) rfl
set_option maxRecDepth 20000 in
theorem w_87 : Cond.instanceMethod ⟨"DuesOnRungs", "<init>", "()V"⟩ ∈ LW := lw_LW (in_t1 _ (List.mem_of_getElem? (i := 21) rfl)) rfl
set_option maxRecDepth 20000 in
theorem w_88 : Cond.code ⟨"DuesOnRungs", "<init>", "()V"⟩ prog_1_method_1_code 2 (Option.none : Option FieldType) ∈ LW := lw_LW (in_t1 _ (List.mem_of_getElem? (i := 22) rfl)) rfl
set_option maxRecDepth 20000 in
theorem w_89 : Cond.methodLink "DuesOnRungs" 5 ⟨"java/lang/Object", "<init>", "()V"⟩ ∈ LW := lw_LW (in_t1 _ (List.mem_of_getElem? (i := 23) rfl)) rfl
set_option maxRecDepth 20000 in
theorem w_90 : Cond.instanceMethod ⟨"java/lang/Object", "<init>", "()V"⟩ ∈ LW := lw_LW (in_t1 _ (List.mem_of_getElem? (i := 24) rfl)) rfl
set_option maxRecDepth 20000 in
theorem w_91 : Cond.code ⟨"java/lang/Object", "<init>", "()V"⟩ object_method_1_code 1 (Option.none : Option FieldType) ∈ LW := lw_LW (in_t1 _ (List.mem_of_getElem? (i := 25) rfl)) rfl
set_option maxRecDepth 20000 in
theorem w_92 : Cond.classLink "DuesOnRungs" 11 "DuesOnRungs$Book" ∈ LW := lw_LW (in_t1 _ (List.mem_of_getElem? (i := 26) rfl)) rfl
set_option maxRecDepth 20000 in
theorem w_93 : Cond.instantiable "DuesOnRungs$Book" 5 ∈ LW := lw_LW (in_t1 _ (List.mem_of_getElem? (i := 27) rfl)) rfl
set_option maxRecDepth 20000 in
theorem w_94 : Cond.methodLink "DuesOnRungs" 13 ⟨"DuesOnRungs$Book", "<init>", "()V"⟩ ∈ LW := lw_LW (in_t1 _ (List.mem_of_getElem? (i := 28) rfl)) rfl
set_option maxRecDepth 20000 in
theorem w_95 : Cond.instanceMethod ⟨"DuesOnRungs$Book", "<init>", "()V"⟩ ∈ LW := lw_LW (in_t1 _ (List.mem_of_getElem? (i := 29) rfl)) rfl
set_option maxRecDepth 20000 in
theorem w_96 : Cond.code ⟨"DuesOnRungs$Book", "<init>", "()V"⟩ prog_3_method_1_code 2 (Option.none : Option FieldType) ∈ LW := lw_LW (in_t1 _ (List.mem_of_getElem? (i := 30) rfl)) rfl
set_option maxRecDepth 20000 in
theorem w_97 : Cond.methodLink "DuesOnRungs$Book" 3 ⟨"java/lang/Object", "<init>", "()V"⟩ ∈ LW := lw_LW (in_t1 _ (List.mem_of_getElem? (i := 31) rfl)) rfl
set_option maxRecDepth 20000 in
theorem w_98 : Cond.classLink "DuesOnRungs$Book" 9 "DuesOnRungs$DayRow" ∈ LW := lw_LW (in_t1 _ (List.mem_of_getElem? (i := 32) rfl)) rfl
set_option maxRecDepth 20000 in
theorem w_99 : Cond.instantiable "DuesOnRungs$DayRow" 3 ∈ LW := lw_LW (in_t1 _ (List.mem_of_getElem? (i := 33) rfl)) rfl
set_option maxRecDepth 20000 in
theorem w_100 : Cond.methodLink "DuesOnRungs$Book" 11 ⟨"DuesOnRungs$DayRow", "<init>", "(II)V"⟩ ∈ LW := lw_LW (in_t1 _ (List.mem_of_getElem? (i := 34) rfl)) rfl
set_option maxRecDepth 20000 in
theorem w_101 : Cond.instanceMethod ⟨"DuesOnRungs$DayRow", "<init>", "(II)V"⟩ ∈ LW := lw_LW (in_t1 _ (List.mem_of_getElem? (i := 35) rfl)) rfl
set_option maxRecDepth 20000 in
theorem w_102 : Cond.code ⟨"DuesOnRungs$DayRow", "<init>", "(II)V"⟩ prog_4_method_1_code 3 (Option.none : Option FieldType) ∈ LW := lw_LW (in_t1 _ (List.mem_of_getElem? (i := 36) rfl)) rfl
set_option maxRecDepth 20000 in
theorem w_103 : Cond.methodLink "DuesOnRungs$DayRow" 3 ⟨"java/lang/Object", "<init>", "()V"⟩ ∈ LW := lw_LW (in_t1 _ (List.mem_of_getElem? (i := 37) rfl)) rfl
set_option maxRecDepth 20000 in
theorem w_104 : Cond.methodLink "DuesOnRungs$DayRow" 22 ⟨"java/util/Arrays", "fill", "([II)V"⟩ ∈ LW := lw_LW (in_t1 _ (List.mem_of_getElem? (i := 38) rfl)) rfl
set_option maxRecDepth 20000 in
theorem w_105 : Cond.static ⟨"java/util/Arrays", "fill", "([II)V"⟩ ∈ LW := lw_LW (in_t1 _ (List.mem_of_getElem? (i := 39) rfl)) rfl
set_option maxRecDepth 20000 in
theorem w_106 : Cond.code ⟨"java/util/Arrays", "fill", "([II)V"⟩ prog_18_method_103_code 4 (Option.none : Option FieldType) ∈ LW := lw_LW (in_t1 _ (List.mem_of_getElem? (i := 40) rfl)) rfl
set_option maxRecDepth 20000 in
theorem w_107 : Cond.fieldLink "DuesOnRungs$DayRow" 9 "DuesOnRungs$DayRow" "of" "[I" ∈ LW := lw_LW (in_t1 _ (List.mem_of_getElem? (i := 41) rfl)) rfl
set_option maxRecDepth 20000 in
theorem w_108 : Cond.fieldLink "DuesOnRungs$Scene" 54 "DuesOnRungs$DayRow" "of" "[I" ∈ LW := lw_LW (in_t1 _ (List.mem_of_getElem? (i := 42) rfl)) rfl
set_option maxRecDepth 20000 in
theorem w_109 : Cond.fieldLink "DuesOnRungs$DayRow" 15 "DuesOnRungs$DayRow" "none" "I" ∈ LW := lw_LW (in_t1 _ (List.mem_of_getElem? (i := 43) rfl)) rfl
set_option maxRecDepth 20000 in
theorem w_110 : Cond.fieldLink "DuesOnRungs$DayRow" 19 "DuesOnRungs$DayRow" "most" "I" ∈ LW := lw_LW (in_t1 _ (List.mem_of_getElem? (i := 44) rfl)) rfl
set_option maxRecDepth 20000 in
theorem w_111 : Cond.laysFinal "DuesOnRungs$DayRow" "DuesOnRungs$DayRow" "of" "[I" ∈ LW := lw_LW (in_t1 _ (List.mem_of_getElem? (i := 45) rfl)) rfl
set_option maxRecDepth 20000 in
theorem w_113 : Cond.laysFinal "DuesOnRungs$DayRow" "DuesOnRungs$DayRow" "none" "I" ∈ LW := lw_LW (in_t1 _ (List.mem_of_getElem? (i := 47) rfl)) rfl
set_option maxRecDepth 20000 in
theorem w_115 : Cond.laysFinal "DuesOnRungs$DayRow" "DuesOnRungs$DayRow" "most" "I" ∈ LW := lw_LW (in_t1 _ (List.mem_of_getElem? (i := 49) rfl)) rfl
set_option maxRecDepth 20000 in
theorem w_118 : Cond.arrayClass FieldType.int ∈ lw_tbl := in_t1 _ (List.mem_of_getElem? (i := 52) rfl)
set_option maxRecDepth 20000 in
theorem w_119 : Cond.classLink "DuesOnRungs$Book" 26 "DuesOnRungs$Bond" ∈ LW := lw_LW (in_t1 _ (List.mem_of_getElem? (i := 53) rfl)) rfl
set_option maxRecDepth 20000 in
theorem w_120 : Cond.arrayOver (FieldType.object "DuesOnRungs$Bond") ∈ lw_tbl := in_t1 _ (List.mem_of_getElem? (i := 54) rfl)
set_option maxRecDepth 20000 in
theorem w_121 : Cond.instantiable "DuesOnRungs$Bond" 7 ∈ LW := lw_LW (in_t1 _ (List.mem_of_getElem? (i := 55) rfl)) rfl
set_option maxRecDepth 20000 in
theorem w_122 : Cond.methodLinkNest "DuesOnRungs$Book" 32 ⟨"DuesOnRungs$Bond", "<init>", "()V"⟩ "DuesOnRungs" ∈ lw_tbl := in_t1 _ (List.mem_of_getElem? (i := 56) rfl)
set_option maxRecDepth 20000 in
theorem w_123 : Cond.instanceMethod ⟨"DuesOnRungs$Bond", "<init>", "()V"⟩ ∈ LW := lw_LW (in_t1 _ (List.mem_of_getElem? (i := 57) rfl)) rfl
set_option maxRecDepth 20000 in
theorem w_124 : Cond.code ⟨"DuesOnRungs$Bond", "<init>", "()V"⟩ prog_2_method_1_code 1 (Option.none : Option FieldType) ∈ LW := lw_LW (in_t1 _ (List.mem_of_getElem? (i := 58) rfl)) rfl
set_option maxRecDepth 20000 in
theorem w_125 : Cond.methodLink "DuesOnRungs$Bond" 3 ⟨"java/lang/Object", "<init>", "()V"⟩ ∈ LW := lw_LW (in_t1 _ (List.mem_of_getElem? (i := 59) rfl)) rfl
set_option maxRecDepth 20000 in
theorem w_126 : Cond.fieldLink "DuesOnRungs$Bond" 9 "DuesOnRungs$Bond" "kind" "I" ∈ LW := lw_LW (in_t1 _ (List.mem_of_getElem? (i := 60) rfl)) rfl
set_option maxRecDepth 20000 in
theorem w_127 : Cond.fieldLink "DuesOnRungs$Bond" 15 "DuesOnRungs$Bond" "price" "I" ∈ LW := lw_LW (in_t1 _ (List.mem_of_getElem? (i := 61) rfl)) rfl
set_option maxRecDepth 20000 in
theorem w_128 : Cond.fieldLink "DuesOnRungs$Dictionary" 63 "DuesOnRungs$Bond" "price" "I" ∈ LW := lw_LW (in_t1 _ (List.mem_of_getElem? (i := 62) rfl)) rfl
set_option maxRecDepth 20000 in
theorem w_129 : Cond.fieldLink "DuesOnRungs$Ladder" 67 "DuesOnRungs$Bond" "price" "I" ∈ LW := lw_LW (in_t1 _ (List.mem_of_getElem? (i := 63) rfl)) rfl
set_option maxRecDepth 20000 in
theorem w_130 : Cond.fieldLink "DuesOnRungs" 186 "DuesOnRungs$Bond" "price" "I" ∈ LW := lw_LW (in_t1 _ (List.mem_of_getElem? (i := 64) rfl)) rfl
set_option maxRecDepth 20000 in
theorem w_131 : Cond.fieldLink "DuesOnRungs$Bond" 18 "DuesOnRungs$Bond" "coupon" "I" ∈ LW := lw_LW (in_t1 _ (List.mem_of_getElem? (i := 65) rfl)) rfl
set_option maxRecDepth 20000 in
theorem w_132 : Cond.fieldLink "DuesOnRungs$Ladder" 87 "DuesOnRungs$Bond" "coupon" "I" ∈ LW := lw_LW (in_t1 _ (List.mem_of_getElem? (i := 66) rfl)) rfl
set_option maxRecDepth 20000 in
theorem w_133 : Cond.fieldLink "DuesOnRungs$Bond" 21 "DuesOnRungs$Bond" "step" "I" ∈ LW := lw_LW (in_t1 _ (List.mem_of_getElem? (i := 67) rfl)) rfl
set_option maxRecDepth 20000 in
theorem w_134 : Cond.fieldLink "DuesOnRungs$Bond" 24 "DuesOnRungs$Bond" "end" "I" ∈ LW := lw_LW (in_t1 _ (List.mem_of_getElem? (i := 68) rfl)) rfl
set_option maxRecDepth 20000 in
theorem w_135 : Cond.fieldLink "DuesOnRungs$Ladder" 84 "DuesOnRungs$Bond" "end" "I" ∈ LW := lw_LW (in_t1 _ (List.mem_of_getElem? (i := 69) rfl)) rfl
set_option maxRecDepth 20000 in
theorem w_136 : Cond.fieldLink "DuesOnRungs$Bond" 27 "DuesOnRungs$Bond" "pay" "I" ∈ LW := lw_LW (in_t1 _ (List.mem_of_getElem? (i := 70) rfl)) rfl
set_option maxRecDepth 20000 in
theorem w_137 : Cond.fieldLink "DuesOnRungs$Bond" 30 "DuesOnRungs$Bond" "held" "I" ∈ LW := lw_LW (in_t1 _ (List.mem_of_getElem? (i := 71) rfl)) rfl
set_option maxRecDepth 20000 in
theorem w_138 : Cond.fieldLink "DuesOnRungs$Book" 37 "DuesOnRungs$Bond" "held" "I" ∈ LW := lw_LW (in_t1 _ (List.mem_of_getElem? (i := 72) rfl)) rfl
set_option maxRecDepth 20000 in
theorem w_139 : Cond.fieldLink "DuesOnRungs" 164 "DuesOnRungs$Bond" "held" "I" ∈ LW := lw_LW (in_t1 _ (List.mem_of_getElem? (i := 73) rfl)) rfl
set_option maxRecDepth 20000 in
theorem w_140 : Cond.lays "DuesOnRungs$Bond" "DuesOnRungs$Bond" "kind" "I" ∈ LW := lw_LW (in_t1 _ (List.mem_of_getElem? (i := 74) rfl)) rfl
set_option maxRecDepth 20000 in
theorem w_142 : Cond.lays "DuesOnRungs$Bond" "DuesOnRungs$Bond" "price" "I" ∈ LW := lw_LW (in_t1 _ (List.mem_of_getElem? (i := 76) rfl)) rfl
set_option maxRecDepth 20000 in
theorem w_144 : Cond.lays "DuesOnRungs$Bond" "DuesOnRungs$Bond" "coupon" "I" ∈ LW := lw_LW (in_t1 _ (List.mem_of_getElem? (i := 78) rfl)) rfl
set_option maxRecDepth 20000 in
theorem w_146 : Cond.lays "DuesOnRungs$Bond" "DuesOnRungs$Bond" "step" "I" ∈ LW := lw_LW (in_t1 _ (List.mem_of_getElem? (i := 80) rfl)) rfl
set_option maxRecDepth 20000 in
theorem w_148 : Cond.lays "DuesOnRungs$Bond" "DuesOnRungs$Bond" "end" "I" ∈ LW := lw_LW (in_t1 _ (List.mem_of_getElem? (i := 82) rfl)) rfl
set_option maxRecDepth 20000 in
theorem w_150 : Cond.lays "DuesOnRungs$Bond" "DuesOnRungs$Bond" "pay" "I" ∈ LW := lw_LW (in_t1 _ (List.mem_of_getElem? (i := 84) rfl)) rfl
set_option maxRecDepth 20000 in
theorem w_152 : Cond.lays "DuesOnRungs$Bond" "DuesOnRungs$Bond" "held" "I" ∈ LW := lw_LW (in_t1 _ (List.mem_of_getElem? (i := 86) rfl)) rfl
set_option maxRecDepth 20000 in
theorem w_155 : Cond.fieldLink "DuesOnRungs$Book" 14 "DuesOnRungs$Book" "dues" "LDuesOnRungs$DayRow;" ∈ LW := lw_LW (in_t1 _ (List.mem_of_getElem? (i := 89) rfl)) rfl
set_option maxRecDepth 20000 in
theorem w_156 : Cond.fieldLink "DuesOnRungs" 104 "DuesOnRungs$Book" "dues" "LDuesOnRungs$DayRow;" ∈ LW := lw_LW (in_t1 _ (List.mem_of_getElem? (i := 90) rfl)) rfl
set_option maxRecDepth 20000 in
theorem w_157 : Cond.fieldLink "DuesOnRungs$Scene" 83 "DuesOnRungs$Book" "dues" "LDuesOnRungs$DayRow;" ∈ LW := lw_LW (in_t1 _ (List.mem_of_getElem? (i := 91) rfl)) rfl
set_option maxRecDepth 20000 in
theorem w_158 : Cond.fieldLink "DuesOnRungs$Book" 20 "DuesOnRungs$Book" "rates" "LDuesOnRungs$DayRow;" ∈ LW := lw_LW (in_t1 _ (List.mem_of_getElem? (i := 92) rfl)) rfl
set_option maxRecDepth 20000 in
theorem w_159 : Cond.fieldLink "DuesOnRungs$Scene" 48 "DuesOnRungs$Book" "rates" "LDuesOnRungs$DayRow;" ∈ LW := lw_LW (in_t1 _ (List.mem_of_getElem? (i := 93) rfl)) rfl
set_option maxRecDepth 20000 in
theorem w_160 : Cond.fieldLink "DuesOnRungs" 114 "DuesOnRungs$Book" "rates" "LDuesOnRungs$DayRow;" ∈ LW := lw_LW (in_t1 _ (List.mem_of_getElem? (i := 94) rfl)) rfl
set_option maxRecDepth 20000 in
theorem w_161 : Cond.fieldLink "DuesOnRungs$Book" 23 "DuesOnRungs$Book" "limits" "LDuesOnRungs$DayRow;" ∈ LW := lw_LW (in_t1 _ (List.mem_of_getElem? (i := 95) rfl)) rfl
set_option maxRecDepth 20000 in
theorem w_162 : Cond.fieldLink "DuesOnRungs" 117 "DuesOnRungs$Book" "limits" "LDuesOnRungs$DayRow;" ∈ LW := lw_LW (in_t1 _ (List.mem_of_getElem? (i := 96) rfl)) rfl
set_option maxRecDepth 20000 in
theorem w_163 : Cond.fieldLink "DuesOnRungs$Scene" 86 "DuesOnRungs$Book" "limits" "LDuesOnRungs$DayRow;" ∈ LW := lw_LW (in_t1 _ (List.mem_of_getElem? (i := 97) rfl)) rfl
set_option maxRecDepth 20000 in
theorem w_164 : Cond.fieldLink "DuesOnRungs$Book" 28 "DuesOnRungs$Book" "bonds" "[LDuesOnRungs$Bond;" ∈ LW := lw_LW (in_t1 _ (List.mem_of_getElem? (i := 98) rfl)) rfl
set_option maxRecDepth 20000 in
theorem w_165 : Cond.fieldLink "DuesOnRungs$Scene" 67 "DuesOnRungs$Book" "bonds" "[LDuesOnRungs$Bond;" ∈ LW := lw_LW (in_t1 _ (List.mem_of_getElem? (i := 99) rfl)) rfl
set_option maxRecDepth 20000 in
theorem w_166 : Cond.fieldLink "DuesOnRungs$Dictionary" 59 "DuesOnRungs$Book" "bonds" "[LDuesOnRungs$Bond;" ∈ LW := lw_LW (in_t1 _ (List.mem_of_getElem? (i := 100) rfl)) rfl
set_option maxRecDepth 20000 in
theorem w_167 : Cond.fieldLink "DuesOnRungs$Ladder" 63 "DuesOnRungs$Book" "bonds" "[LDuesOnRungs$Bond;" ∈ LW := lw_LW (in_t1 _ (List.mem_of_getElem? (i := 101) rfl)) rfl
set_option maxRecDepth 20000 in
theorem w_168 : Cond.fieldLink "DuesOnRungs" 151 "DuesOnRungs$Book" "bonds" "[LDuesOnRungs$Bond;" ∈ LW := lw_LW (in_t1 _ (List.mem_of_getElem? (i := 102) rfl)) rfl
set_option maxRecDepth 20000 in
theorem w_169 : Cond.fieldLink "DuesOnRungs$Dictionary" 42 "DuesOnRungs$Book" "bondCount" "I" ∈ LW := lw_LW (in_t1 _ (List.mem_of_getElem? (i := 103) rfl)) rfl
set_option maxRecDepth 20000 in
theorem w_170 : Cond.fieldLink "DuesOnRungs$Book" 33 "DuesOnRungs$Book" "bondCount" "I" ∈ LW := lw_LW (in_t1 _ (List.mem_of_getElem? (i := 104) rfl)) rfl
set_option maxRecDepth 20000 in
theorem w_171 : Cond.fieldLink "DuesOnRungs$Ladder" 18 "DuesOnRungs$Book" "bondCount" "I" ∈ LW := lw_LW (in_t1 _ (List.mem_of_getElem? (i := 105) rfl)) rfl
set_option maxRecDepth 20000 in
theorem w_172 : Cond.fieldLink "DuesOnRungs$Scene" 63 "DuesOnRungs$Book" "bondCount" "I" ∈ LW := lw_LW (in_t1 _ (List.mem_of_getElem? (i := 106) rfl)) rfl
set_option maxRecDepth 20000 in
theorem w_173 : Cond.fieldLink "DuesOnRungs" 147 "DuesOnRungs$Book" "bondCount" "I" ∈ LW := lw_LW (in_t1 _ (List.mem_of_getElem? (i := 107) rfl)) rfl
set_option maxRecDepth 20000 in
theorem w_174 : Cond.laysFinal "DuesOnRungs$Book" "DuesOnRungs$Book" "dues" "LDuesOnRungs$DayRow;" ∈ LW := lw_LW (in_t1 _ (List.mem_of_getElem? (i := 108) rfl)) rfl
set_option maxRecDepth 20000 in
theorem w_176 : Cond.laysFinal "DuesOnRungs$Book" "DuesOnRungs$Book" "rates" "LDuesOnRungs$DayRow;" ∈ LW := lw_LW (in_t1 _ (List.mem_of_getElem? (i := 110) rfl)) rfl
set_option maxRecDepth 20000 in
theorem w_178 : Cond.laysFinal "DuesOnRungs$Book" "DuesOnRungs$Book" "limits" "LDuesOnRungs$DayRow;" ∈ LW := lw_LW (in_t1 _ (List.mem_of_getElem? (i := 112) rfl)) rfl
set_option maxRecDepth 20000 in
theorem w_180 : Cond.laysFinal "DuesOnRungs$Book" "DuesOnRungs$Book" "bonds" "[LDuesOnRungs$Bond;" ∈ LW := lw_LW (in_t1 _ (List.mem_of_getElem? (i := 114) rfl)) rfl
set_option maxRecDepth 20000 in
theorem w_182 : Cond.lays "DuesOnRungs$Book" "DuesOnRungs$Book" "bondCount" "I" ∈ LW := lw_LW (in_t1 _ (List.mem_of_getElem? (i := 116) rfl)) rfl
set_option maxRecDepth 20000 in
theorem w_185 : Cond.classLink "DuesOnRungs" 21 "DuesOnRungs$Scene" ∈ LW := lw_LW (in_t1 _ (List.mem_of_getElem? (i := 119) rfl)) rfl
set_option maxRecDepth 20000 in
theorem w_186 : Cond.instantiable "DuesOnRungs$Scene" 11 ∈ LW := lw_LW (in_t1 _ (List.mem_of_getElem? (i := 120) rfl)) rfl
set_option maxRecDepth 20000 in
theorem w_187 : Cond.methodLinkNest "DuesOnRungs" 23 ⟨"DuesOnRungs$Scene", "<init>", "()V"⟩ "DuesOnRungs" ∈ lw_tbl := in_t1 _ (List.mem_of_getElem? (i := 121) rfl)
set_option maxRecDepth 20000 in
theorem w_188 : Cond.instanceMethod ⟨"DuesOnRungs$Scene", "<init>", "()V"⟩ ∈ LW := lw_LW (in_t1 _ (List.mem_of_getElem? (i := 122) rfl)) rfl
set_option maxRecDepth 20000 in
theorem w_189 : Cond.code ⟨"DuesOnRungs$Scene", "<init>", "()V"⟩ prog_10_method_1_code 1 (Option.none : Option FieldType) ∈ LW := lw_LW (in_t1 _ (List.mem_of_getElem? (i := 123) rfl)) rfl
set_option maxRecDepth 20000 in
theorem w_190 : Cond.methodLink "DuesOnRungs$Scene" 3 ⟨"java/lang/Object", "<init>", "()V"⟩ ∈ LW := lw_LW (in_t1 _ (List.mem_of_getElem? (i := 124) rfl)) rfl
set_option maxRecDepth 20000 in
theorem w_191 : Cond.classLink "DuesOnRungs$Scene" 30 "[[I" ∈ LW := lw_LW (in_t1 _ (List.mem_of_getElem? (i := 125) rfl)) rfl
set_option maxRecDepth 20000 in
theorem w_192 : Cond.arrayOver (FieldType.array FieldType.int) ∈ lw_tbl := in_t1 _ (List.mem_of_getElem? (i := 126) rfl)
set_option maxRecDepth 20000 in
theorem w_193 : Cond.fieldLink "DuesOnRungs$Replay" 18 "DuesOnRungs$Scene" "rungs" "I" ∈ LW := lw_LW (in_t1 _ (List.mem_of_getElem? (i := 127) rfl)) rfl
set_option maxRecDepth 20000 in
theorem w_194 : Cond.fieldLink "DuesOnRungs$Worths" 41 "DuesOnRungs$Scene" "rungs" "I" ∈ LW := lw_LW (in_t1 _ (List.mem_of_getElem? (i := 128) rfl)) rfl
set_option maxRecDepth 20000 in
theorem w_195 : Cond.fieldLink "DuesOnRungs$Dictionary" 72 "DuesOnRungs$Scene" "rungs" "I" ∈ LW := lw_LW (in_t1 _ (List.mem_of_getElem? (i := 129) rfl)) rfl
set_option maxRecDepth 20000 in
theorem w_196 : Cond.fieldLink "DuesOnRungs$Scene" 80 "DuesOnRungs$Scene" "rungs" "I" ∈ LW := lw_LW (in_t1 _ (List.mem_of_getElem? (i := 130) rfl)) rfl
set_option maxRecDepth 20000 in
theorem w_197 : Cond.fieldLink "DuesOnRungs$Ladder" 40 "DuesOnRungs$Scene" "rungs" "I" ∈ LW := lw_LW (in_t1 _ (List.mem_of_getElem? (i := 131) rfl)) rfl
set_option maxRecDepth 20000 in
theorem w_198 : Cond.fieldLink "DuesOnRungs" 222 "DuesOnRungs$Scene" "rungs" "I" ∈ LW := lw_LW (in_t1 _ (List.mem_of_getElem? (i := 132) rfl)) rfl
set_option maxRecDepth 20000 in
theorem w_199 : Cond.fieldLink "DuesOnRungs$Scene" 9 "DuesOnRungs$Scene" "rungDay" "[I" ∈ LW := lw_LW (in_t1 _ (List.mem_of_getElem? (i := 133) rfl)) rfl
set_option maxRecDepth 20000 in
theorem w_200 : Cond.fieldLink "DuesOnRungs" 126 "DuesOnRungs$Scene" "rungDay" "[I" ∈ LW := lw_LW (in_t1 _ (List.mem_of_getElem? (i := 134) rfl)) rfl
set_option maxRecDepth 20000 in
theorem w_201 : Cond.fieldLink "DuesOnRungs$Scene" 15 "DuesOnRungs$Scene" "dueAt" "[I" ∈ LW := lw_LW (in_t1 _ (List.mem_of_getElem? (i := 135) rfl)) rfl
set_option maxRecDepth 20000 in
theorem w_202 : Cond.fieldLink "DuesOnRungs$Replay" 48 "DuesOnRungs$Scene" "dueAt" "[I" ∈ LW := lw_LW (in_t1 _ (List.mem_of_getElem? (i := 136) rfl)) rfl
set_option maxRecDepth 20000 in
theorem w_203 : Cond.fieldLink "DuesOnRungs$Ladder" 45 "DuesOnRungs$Scene" "dueAt" "[I" ∈ LW := lw_LW (in_t1 _ (List.mem_of_getElem? (i := 137) rfl)) rfl
set_option maxRecDepth 20000 in
theorem w_204 : Cond.fieldLink "DuesOnRungs" 129 "DuesOnRungs$Scene" "dueAt" "[I" ∈ LW := lw_LW (in_t1 _ (List.mem_of_getElem? (i := 138) rfl)) rfl
set_option maxRecDepth 20000 in
theorem w_205 : Cond.fieldLink "DuesOnRungs$Dictionary" 145 "DuesOnRungs$Scene" "dueAt" "[I" ∈ LW := lw_LW (in_t1 _ (List.mem_of_getElem? (i := 139) rfl)) rfl
set_option maxRecDepth 20000 in
theorem w_206 : Cond.fieldLink "DuesOnRungs$Scene" 18 "DuesOnRungs$Scene" "rateAt" "[I" ∈ LW := lw_LW (in_t1 _ (List.mem_of_getElem? (i := 140) rfl)) rfl
set_option maxRecDepth 20000 in
theorem w_207 : Cond.fieldLink "DuesOnRungs$Replay" 38 "DuesOnRungs$Scene" "rateAt" "[I" ∈ LW := lw_LW (in_t1 _ (List.mem_of_getElem? (i := 141) rfl)) rfl
set_option maxRecDepth 20000 in
theorem w_208 : Cond.fieldLink "DuesOnRungs$Worths" 47 "DuesOnRungs$Scene" "rateAt" "[I" ∈ LW := lw_LW (in_t1 _ (List.mem_of_getElem? (i := 142) rfl)) rfl
set_option maxRecDepth 20000 in
theorem w_209 : Cond.fieldLink "DuesOnRungs" 132 "DuesOnRungs$Scene" "rateAt" "[I" ∈ LW := lw_LW (in_t1 _ (List.mem_of_getElem? (i := 143) rfl)) rfl
set_option maxRecDepth 20000 in
theorem w_210 : Cond.fieldLink "DuesOnRungs$Dictionary" 126 "DuesOnRungs$Scene" "rateAt" "[I" ∈ LW := lw_LW (in_t1 _ (List.mem_of_getElem? (i := 144) rfl)) rfl
set_option maxRecDepth 20000 in
theorem w_211 : Cond.fieldLink "DuesOnRungs$Scene" 21 "DuesOnRungs$Scene" "limitAt" "[I" ∈ LW := lw_LW (in_t1 _ (List.mem_of_getElem? (i := 145) rfl)) rfl
set_option maxRecDepth 20000 in
theorem w_212 : Cond.fieldLink "DuesOnRungs$Dictionary" 94 "DuesOnRungs$Scene" "limitAt" "[I" ∈ LW := lw_LW (in_t1 _ (List.mem_of_getElem? (i := 146) rfl)) rfl
set_option maxRecDepth 20000 in
theorem w_213 : Cond.fieldLink "DuesOnRungs$Replay" 55 "DuesOnRungs$Scene" "limitAt" "[I" ∈ LW := lw_LW (in_t1 _ (List.mem_of_getElem? (i := 147) rfl)) rfl
set_option maxRecDepth 20000 in
theorem w_214 : Cond.fieldLink "DuesOnRungs" 135 "DuesOnRungs$Scene" "limitAt" "[I" ∈ LW := lw_LW (in_t1 _ (List.mem_of_getElem? (i := 148) rfl)) rfl
set_option maxRecDepth 20000 in
theorem w_215 : Cond.fieldLink "DuesOnRungs$Scene" 24 "DuesOnRungs$Scene" "rungOf" "[I" ∈ LW := lw_LW (in_t1 _ (List.mem_of_getElem? (i := 149) rfl)) rfl
set_option maxRecDepth 20000 in
theorem w_216 : Cond.fieldLink "DuesOnRungs" 141 "DuesOnRungs$Scene" "rungOf" "[I" ∈ LW := lw_LW (in_t1 _ (List.mem_of_getElem? (i := 150) rfl)) rfl
set_option maxRecDepth 20000 in
theorem w_217 : Cond.fieldLink "DuesOnRungs$Scene" 27 "DuesOnRungs$Scene" "rateOn" "[I" ∈ LW := lw_LW (in_t1 _ (List.mem_of_getElem? (i := 151) rfl)) rfl
set_option maxRecDepth 20000 in
theorem w_218 : Cond.fieldLink "DuesOnRungs" 138 "DuesOnRungs$Scene" "rateOn" "[I" ∈ LW := lw_LW (in_t1 _ (List.mem_of_getElem? (i := 152) rfl)) rfl
set_option maxRecDepth 20000 in
theorem w_219 : Cond.fieldLink "DuesOnRungs$Scene" 32 "DuesOnRungs$Scene" "paidOn" "[[I" ∈ LW := lw_LW (in_t1 _ (List.mem_of_getElem? (i := 153) rfl)) rfl
set_option maxRecDepth 20000 in
theorem w_220 : Cond.fieldLink "DuesOnRungs" 176 "DuesOnRungs$Scene" "paidOn" "[[I" ∈ LW := lw_LW (in_t1 _ (List.mem_of_getElem? (i := 154) rfl)) rfl
set_option maxRecDepth 20000 in
theorem w_221 : Cond.fieldLink "DuesOnRungs$Scene" 35 "DuesOnRungs$Scene" "paidAt" "[[I" ∈ LW := lw_LW (in_t1 _ (List.mem_of_getElem? (i := 155) rfl)) rfl
set_option maxRecDepth 20000 in
theorem w_222 : Cond.fieldLink "DuesOnRungs$Ladder" 56 "DuesOnRungs$Scene" "paidAt" "[[I" ∈ LW := lw_LW (in_t1 _ (List.mem_of_getElem? (i := 156) rfl)) rfl
set_option maxRecDepth 20000 in
theorem w_223 : Cond.fieldLink "DuesOnRungs$Dictionary" 141 "DuesOnRungs$Scene" "paidAt" "[[I" ∈ LW := lw_LW (in_t1 _ (List.mem_of_getElem? (i := 157) rfl)) rfl
set_option maxRecDepth 20000 in
theorem w_224 : Cond.fieldLink "DuesOnRungs" 180 "DuesOnRungs$Scene" "paidAt" "[[I" ∈ LW := lw_LW (in_t1 _ (List.mem_of_getElem? (i := 158) rfl)) rfl
set_option maxRecDepth 20000 in
theorem w_225 : Cond.fieldLink "DuesOnRungs$Scene" 38 "DuesOnRungs$Scene" "allPaid" "[I" ∈ LW := lw_LW (in_t1 _ (List.mem_of_getElem? (i := 159) rfl)) rfl
set_option maxRecDepth 20000 in
theorem w_226 : Cond.fieldLink "DuesOnRungs$Ladder" 77 "DuesOnRungs$Scene" "allPaid" "[I" ∈ LW := lw_LW (in_t1 _ (List.mem_of_getElem? (i := 160) rfl)) rfl
set_option maxRecDepth 20000 in
theorem w_227 : Cond.fieldLink "DuesOnRungs" 169 "DuesOnRungs$Scene" "allPaid" "[I" ∈ LW := lw_LW (in_t1 _ (List.mem_of_getElem? (i := 161) rfl)) rfl
set_option maxRecDepth 20000 in
theorem w_228 : Cond.fieldLink "DuesOnRungs$Scene" 41 "DuesOnRungs$Scene" "lastPaid" "[I" ∈ LW := lw_LW (in_t1 _ (List.mem_of_getElem? (i := 162) rfl)) rfl
set_option maxRecDepth 20000 in
theorem w_229 : Cond.fieldLink "DuesOnRungs$Ladder" 60 "DuesOnRungs$Scene" "lastPaid" "[I" ∈ LW := lw_LW (in_t1 _ (List.mem_of_getElem? (i := 163) rfl)) rfl
set_option maxRecDepth 20000 in
theorem w_230 : Cond.fieldLink "DuesOnRungs" 166 "DuesOnRungs$Scene" "lastPaid" "[I" ∈ LW := lw_LW (in_t1 _ (List.mem_of_getElem? (i := 164) rfl)) rfl
set_option maxRecDepth 20000 in
theorem w_231 : Cond.lays "DuesOnRungs$Scene" "DuesOnRungs$Scene" "rungs" "I" ∈ LW := lw_LW (in_t1 _ (List.mem_of_getElem? (i := 165) rfl)) rfl
set_option maxRecDepth 20000 in
theorem w_233 : Cond.laysFinal "DuesOnRungs$Scene" "DuesOnRungs$Scene" "rungDay" "[I" ∈ LW := lw_LW (in_t1 _ (List.mem_of_getElem? (i := 167) rfl)) rfl
set_option maxRecDepth 20000 in
theorem w_235 : Cond.laysFinal "DuesOnRungs$Scene" "DuesOnRungs$Scene" "dueAt" "[I" ∈ LW := lw_LW (in_t1 _ (List.mem_of_getElem? (i := 169) rfl)) rfl
set_option maxRecDepth 20000 in
theorem w_237 : Cond.laysFinal "DuesOnRungs$Scene" "DuesOnRungs$Scene" "rateAt" "[I" ∈ LW := lw_LW (in_t1 _ (List.mem_of_getElem? (i := 171) rfl)) rfl
set_option maxRecDepth 20000 in
theorem w_239 : Cond.laysFinal "DuesOnRungs$Scene" "DuesOnRungs$Scene" "limitAt" "[I" ∈ LW := lw_LW (in_t1 _ (List.mem_of_getElem? (i := 173) rfl)) rfl
set_option maxRecDepth 20000 in
theorem w_241 : Cond.laysFinal "DuesOnRungs$Scene" "DuesOnRungs$Scene" "rungOf" "[I" ∈ LW := lw_LW (in_t1 _ (List.mem_of_getElem? (i := 175) rfl)) rfl
set_option maxRecDepth 20000 in
theorem w_243 : Cond.laysFinal "DuesOnRungs$Scene" "DuesOnRungs$Scene" "rateOn" "[I" ∈ LW := lw_LW (in_t1 _ (List.mem_of_getElem? (i := 177) rfl)) rfl
set_option maxRecDepth 20000 in
theorem w_245 : Cond.laysFinal "DuesOnRungs$Scene" "DuesOnRungs$Scene" "paidOn" "[[I" ∈ LW := lw_LW (in_t1 _ (List.mem_of_getElem? (i := 179) rfl)) rfl
set_option maxRecDepth 20000 in
theorem w_247 : Cond.laysFinal "DuesOnRungs$Scene" "DuesOnRungs$Scene" "paidAt" "[[I" ∈ LW := lw_LW (in_t1 _ (List.mem_of_getElem? (i := 181) rfl)) rfl
set_option maxRecDepth 20000 in
theorem w_249 : Cond.laysFinal "DuesOnRungs$Scene" "DuesOnRungs$Scene" "allPaid" "[I" ∈ LW := lw_LW (in_t1 _ (List.mem_of_getElem? (i := 183) rfl)) rfl
set_option maxRecDepth 20000 in
theorem w_251 : Cond.laysFinal "DuesOnRungs$Scene" "DuesOnRungs$Scene" "lastPaid" "[I" ∈ LW := lw_LW (in_t1 _ (List.mem_of_getElem? (i := 185) rfl)) rfl
set_option maxRecDepth 20000 in
theorem w_254 : Cond.classLink "DuesOnRungs" 48 "DuesOnRungs$Worths" ∈ LW := lw_LW (in_t1 _ (List.mem_of_getElem? (i := 188) rfl)) rfl
set_option maxRecDepth 20000 in
theorem w_255 : Cond.instantiable "DuesOnRungs$Worths" 7 ∈ LW := lw_LW (in_t1 _ (List.mem_of_getElem? (i := 189) rfl)) rfl
set_option maxRecDepth 20000 in
theorem w_256 : Cond.methodLink "DuesOnRungs" 50 ⟨"DuesOnRungs$Worths", "<init>", "()V"⟩ ∈ LW := lw_LW (in_t1 _ (List.mem_of_getElem? (i := 190) rfl)) rfl
set_option maxRecDepth 20000 in
theorem w_257 : Cond.instanceMethod ⟨"DuesOnRungs$Worths", "<init>", "()V"⟩ ∈ LW := lw_LW (in_t1 _ (List.mem_of_getElem? (i := 191) rfl)) rfl
set_option maxRecDepth 20000 in
theorem w_258 : Cond.code ⟨"DuesOnRungs$Worths", "<init>", "()V"⟩ prog_12_method_1_code 2 (Option.none : Option FieldType) ∈ LW := lw_LW (in_t1 _ (List.mem_of_getElem? (i := 192) rfl)) rfl
set_option maxRecDepth 20000 in
theorem w_259 : Cond.methodLink "DuesOnRungs$Worths" 3 ⟨"java/lang/Object", "<init>", "()V"⟩ ∈ LW := lw_LW (in_t1 _ (List.mem_of_getElem? (i := 193) rfl)) rfl
set_option maxRecDepth 20000 in
theorem w_260 : Cond.classLink "DuesOnRungs$Worths" 9 "DuesOnRungs$Fraction" ∈ LW := lw_LW (in_t1 _ (List.mem_of_getElem? (i := 194) rfl)) rfl
set_option maxRecDepth 20000 in
theorem w_261 : Cond.instantiable "DuesOnRungs$Fraction" 3 ∈ LW := lw_LW (in_t1 _ (List.mem_of_getElem? (i := 195) rfl)) rfl
set_option maxRecDepth 20000 in
theorem w_262 : Cond.methodLinkNest "DuesOnRungs$Worths" 11 ⟨"DuesOnRungs$Fraction", "<init>", "()V"⟩ "DuesOnRungs" ∈ lw_tbl := in_t1 _ (List.mem_of_getElem? (i := 196) rfl)
set_option maxRecDepth 20000 in
theorem w_263 : Cond.instanceMethod ⟨"DuesOnRungs$Fraction", "<init>", "()V"⟩ ∈ LW := lw_LW (in_t1 _ (List.mem_of_getElem? (i := 197) rfl)) rfl
set_option maxRecDepth 20000 in
theorem w_264 : Cond.code ⟨"DuesOnRungs$Fraction", "<init>", "()V"⟩ prog_6_method_1_code 1 (Option.none : Option FieldType) ∈ LW := lw_LW (in_t1 _ (List.mem_of_getElem? (i := 198) rfl)) rfl
set_option maxRecDepth 20000 in
theorem w_265 : Cond.methodLink "DuesOnRungs$Fraction" 3 ⟨"java/lang/Object", "<init>", "()V"⟩ ∈ LW := lw_LW (in_t1 _ (List.mem_of_getElem? (i := 199) rfl)) rfl
set_option maxRecDepth 20000 in
theorem w_266 : Cond.fieldLink "DuesOnRungs$Fraction" 23 "DuesOnRungs$Fraction" "above" "J" ∈ LW := lw_LW (in_t1 _ (List.mem_of_getElem? (i := 200) rfl)) rfl
set_option maxRecDepth 20000 in
theorem w_267 : Cond.fieldLink "DuesOnRungs$Dictionary" 148 "DuesOnRungs$Fraction" "above" "J" ∈ LW := lw_LW (in_t1 _ (List.mem_of_getElem? (i := 201) rfl)) rfl
set_option maxRecDepth 20000 in
theorem w_268 : Cond.fieldLink "DuesOnRungs" 218 "DuesOnRungs$Fraction" "above" "J" ∈ LW := lw_LW (in_t1 _ (List.mem_of_getElem? (i := 202) rfl)) rfl
set_option maxRecDepth 20000 in
theorem w_269 : Cond.fieldLink "DuesOnRungs$Fraction" 9 "DuesOnRungs$Fraction" "below" "J" ∈ LW := lw_LW (in_t1 _ (List.mem_of_getElem? (i := 203) rfl)) rfl
set_option maxRecDepth 20000 in
theorem w_270 : Cond.fieldLink "DuesOnRungs$Fraction" 15 "DuesOnRungs$Fraction" "great" "Z" ∈ LW := lw_LW (in_t1 _ (List.mem_of_getElem? (i := 204) rfl)) rfl
set_option maxRecDepth 20000 in
theorem w_271 : Cond.fieldLink "DuesOnRungs$Row" 39 "DuesOnRungs$Fraction" "great" "Z" ∈ LW := lw_LW (in_t1 _ (List.mem_of_getElem? (i := 205) rfl)) rfl
set_option maxRecDepth 20000 in
theorem w_272 : Cond.fieldLink "DuesOnRungs$Dictionary" 155 "DuesOnRungs$Fraction" "great" "Z" ∈ LW := lw_LW (in_t1 _ (List.mem_of_getElem? (i := 206) rfl)) rfl
set_option maxRecDepth 20000 in
theorem w_273 : Cond.lays "DuesOnRungs$Fraction" "DuesOnRungs$Fraction" "above" "J" ∈ LW := lw_LW (in_t1 _ (List.mem_of_getElem? (i := 207) rfl)) rfl
set_option maxRecDepth 20000 in
theorem w_275 : Cond.lays "DuesOnRungs$Fraction" "DuesOnRungs$Fraction" "below" "J" ∈ LW := lw_LW (in_t1 _ (List.mem_of_getElem? (i := 209) rfl)) rfl
set_option maxRecDepth 20000 in
theorem w_277 : Cond.lays "DuesOnRungs$Fraction" "DuesOnRungs$Fraction" "great" "Z" ∈ LW := lw_LW (in_t1 _ (List.mem_of_getElem? (i := 211) rfl)) rfl
set_option maxRecDepth 20000 in
theorem w_280 : Cond.arrayOver (FieldType.object "DuesOnRungs$Fraction") ∈ lw_tbl := in_t1 _ (List.mem_of_getElem? (i := 214) rfl)
set_option maxRecDepth 20000 in
theorem w_281 : Cond.fieldLink "DuesOnRungs$Worths" 12 "DuesOnRungs$Worths" "whole" "LDuesOnRungs$Fraction;" ∈ LW := lw_LW (in_t1 _ (List.mem_of_getElem? (i := 215) rfl)) rfl
set_option maxRecDepth 20000 in
theorem w_282 : Cond.fieldLink "DuesOnRungs" 211 "DuesOnRungs$Worths" "whole" "LDuesOnRungs$Fraction;" ∈ LW := lw_LW (in_t1 _ (List.mem_of_getElem? (i := 216) rfl)) rfl
set_option maxRecDepth 20000 in
theorem w_283 : Cond.fieldLink "DuesOnRungs$Worths" 18 "DuesOnRungs$Worths" "middle" "LDuesOnRungs$Fraction;" ∈ LW := lw_LW (in_t1 _ (List.mem_of_getElem? (i := 217) rfl)) rfl
set_option maxRecDepth 20000 in
theorem w_284 : Cond.fieldLink "DuesOnRungs" 228 "DuesOnRungs$Worths" "middle" "LDuesOnRungs$Fraction;" ∈ LW := lw_LW (in_t1 _ (List.mem_of_getElem? (i := 218) rfl)) rfl
set_option maxRecDepth 20000 in
theorem w_285 : Cond.fieldLink "DuesOnRungs$Worths" 21 "DuesOnRungs$Worths" "spread" "LDuesOnRungs$Fraction;" ∈ LW := lw_LW (in_t1 _ (List.mem_of_getElem? (i := 219) rfl)) rfl
set_option maxRecDepth 20000 in
theorem w_286 : Cond.fieldLink "DuesOnRungs" 234 "DuesOnRungs$Worths" "spread" "LDuesOnRungs$Fraction;" ∈ LW := lw_LW (in_t1 _ (List.mem_of_getElem? (i := 220) rfl)) rfl
set_option maxRecDepth 20000 in
theorem w_287 : Cond.fieldLink "DuesOnRungs$Worths" 24 "DuesOnRungs$Worths" "at" "[LDuesOnRungs$Fraction;" ∈ LW := lw_LW (in_t1 _ (List.mem_of_getElem? (i := 221) rfl)) rfl
set_option maxRecDepth 20000 in
theorem w_288 : Cond.fieldLink "DuesOnRungs$Worths" 28 "DuesOnRungs$Worths" "factor" "LDuesOnRungs$Fraction;" ∈ LW := lw_LW (in_t1 _ (List.mem_of_getElem? (i := 222) rfl)) rfl
set_option maxRecDepth 20000 in
theorem w_289 : Cond.fieldLink "DuesOnRungs$Worths" 31 "DuesOnRungs$Worths" "term" "LDuesOnRungs$Fraction;" ∈ LW := lw_LW (in_t1 _ (List.mem_of_getElem? (i := 223) rfl)) rfl
set_option maxRecDepth 20000 in
theorem w_290 : Cond.fieldLink "DuesOnRungs$Worths" 34 "DuesOnRungs$Worths" "distance" "LDuesOnRungs$Fraction;" ∈ LW := lw_LW (in_t1 _ (List.mem_of_getElem? (i := 224) rfl)) rfl
set_option maxRecDepth 20000 in
theorem w_291 : Cond.laysFinal "DuesOnRungs$Worths" "DuesOnRungs$Worths" "whole" "LDuesOnRungs$Fraction;" ∈ LW := lw_LW (in_t1 _ (List.mem_of_getElem? (i := 225) rfl)) rfl
set_option maxRecDepth 20000 in
theorem w_293 : Cond.laysFinal "DuesOnRungs$Worths" "DuesOnRungs$Worths" "middle" "LDuesOnRungs$Fraction;" ∈ LW := lw_LW (in_t1 _ (List.mem_of_getElem? (i := 227) rfl)) rfl
set_option maxRecDepth 20000 in
theorem w_295 : Cond.laysFinal "DuesOnRungs$Worths" "DuesOnRungs$Worths" "spread" "LDuesOnRungs$Fraction;" ∈ LW := lw_LW (in_t1 _ (List.mem_of_getElem? (i := 229) rfl)) rfl
set_option maxRecDepth 20000 in
theorem w_297 : Cond.laysFinal "DuesOnRungs$Worths" "DuesOnRungs$Worths" "at" "[LDuesOnRungs$Fraction;" ∈ LW := lw_LW (in_t1 _ (List.mem_of_getElem? (i := 231) rfl)) rfl
set_option maxRecDepth 20000 in
theorem w_299 : Cond.laysFinal "DuesOnRungs$Worths" "DuesOnRungs$Worths" "factor" "LDuesOnRungs$Fraction;" ∈ LW := lw_LW (in_t1 _ (List.mem_of_getElem? (i := 233) rfl)) rfl
set_option maxRecDepth 20000 in
theorem w_301 : Cond.laysFinal "DuesOnRungs$Worths" "DuesOnRungs$Worths" "term" "LDuesOnRungs$Fraction;" ∈ LW := lw_LW (in_t1 _ (List.mem_of_getElem? (i := 235) rfl)) rfl
set_option maxRecDepth 20000 in
theorem w_303 : Cond.laysFinal "DuesOnRungs$Worths" "DuesOnRungs$Worths" "distance" "LDuesOnRungs$Fraction;" ∈ LW := lw_LW (in_t1 _ (List.mem_of_getElem? (i := 237) rfl)) rfl
set_option maxRecDepth 20000 in
theorem w_306 : Cond.classLink "DuesOnRungs" 55 "DuesOnRungs$Fraction" ∈ LW := lw_LW (in_t2 _ (List.mem_of_getElem? (i := 0) rfl)) rfl
set_option maxRecDepth 20000 in
theorem w_307 : Cond.methodLinkNest "DuesOnRungs" 57 ⟨"DuesOnRungs$Fraction", "<init>", "()V"⟩ "DuesOnRungs" ∈ lw_tbl := in_t2 _ (List.mem_of_getElem? (i := 1) rfl)
set_option maxRecDepth 20000 in
theorem w_308 : Cond.classLink "DuesOnRungs" 62 "DuesOnRungs$Dictionary" ∈ LW := lw_LW (in_t2 _ (List.mem_of_getElem? (i := 2) rfl)) rfl
set_option maxRecDepth 20000 in
theorem w_309 : Cond.instantiable "DuesOnRungs$Dictionary" 9 ∈ LW := lw_LW (in_t2 _ (List.mem_of_getElem? (i := 3) rfl)) rfl
set_option maxRecDepth 20000 in
theorem w_310 : Cond.methodLink "DuesOnRungs" 64 ⟨"DuesOnRungs$Dictionary", "<init>", "()V"⟩ ∈ LW := lw_LW (in_t2 _ (List.mem_of_getElem? (i := 4) rfl)) rfl
set_option maxRecDepth 20000 in
theorem w_311 : Cond.instanceMethod ⟨"DuesOnRungs$Dictionary", "<init>", "()V"⟩ ∈ LW := lw_LW (in_t2 _ (List.mem_of_getElem? (i := 5) rfl)) rfl
set_option maxRecDepth 20000 in
theorem w_312 : Cond.code ⟨"DuesOnRungs$Dictionary", "<init>", "()V"⟩ prog_5_method_1_code 2 (Option.none : Option FieldType) ∈ LW := lw_LW (in_t2 _ (List.mem_of_getElem? (i := 6) rfl)) rfl
set_option maxRecDepth 20000 in
theorem w_313 : Cond.methodLink "DuesOnRungs$Dictionary" 3 ⟨"java/lang/Object", "<init>", "()V"⟩ ∈ LW := lw_LW (in_t2 _ (List.mem_of_getElem? (i := 7) rfl)) rfl
set_option maxRecDepth 20000 in
theorem w_314 : Cond.classLink "DuesOnRungs$Dictionary" 9 "DuesOnRungs$Row" ∈ LW := lw_LW (in_t2 _ (List.mem_of_getElem? (i := 8) rfl)) rfl
set_option maxRecDepth 20000 in
theorem w_315 : Cond.instantiable "DuesOnRungs$Row" 3 ∈ LW := lw_LW (in_t2 _ (List.mem_of_getElem? (i := 9) rfl)) rfl
set_option maxRecDepth 20000 in
theorem w_316 : Cond.methodLink "DuesOnRungs$Dictionary" 11 ⟨"DuesOnRungs$Row", "<init>", "()V"⟩ ∈ LW := lw_LW (in_t2 _ (List.mem_of_getElem? (i := 10) rfl)) rfl
set_option maxRecDepth 20000 in
theorem w_317 : Cond.instanceMethod ⟨"DuesOnRungs$Row", "<init>", "()V"⟩ ∈ LW := lw_LW (in_t2 _ (List.mem_of_getElem? (i := 11) rfl)) rfl
set_option maxRecDepth 20000 in
theorem w_318 : Cond.code ⟨"DuesOnRungs$Row", "<init>", "()V"⟩ prog_9_method_1_code 2 (Option.none : Option FieldType) ∈ LW := lw_LW (in_t2 _ (List.mem_of_getElem? (i := 12) rfl)) rfl
set_option maxRecDepth 20000 in
theorem w_319 : Cond.methodLink "DuesOnRungs$Row" 3 ⟨"java/lang/Object", "<init>", "()V"⟩ ∈ LW := lw_LW (in_t2 _ (List.mem_of_getElem? (i := 13) rfl)) rfl
set_option maxRecDepth 20000 in
theorem w_320 : Cond.classLink "DuesOnRungs$Row" 9 "DuesOnRungs$Fraction" ∈ LW := lw_LW (in_t2 _ (List.mem_of_getElem? (i := 14) rfl)) rfl
set_option maxRecDepth 20000 in
theorem w_321 : Cond.methodLinkNest "DuesOnRungs$Row" 11 ⟨"DuesOnRungs$Fraction", "<init>", "()V"⟩ "DuesOnRungs" ∈ lw_tbl := in_t2 _ (List.mem_of_getElem? (i := 15) rfl)
set_option maxRecDepth 20000 in
theorem w_322 : Cond.fieldLink "DuesOnRungs$Row" 22 "DuesOnRungs$Row" "number" "I" ∈ LW := lw_LW (in_t2 _ (List.mem_of_getElem? (i := 16) rfl)) rfl
set_option maxRecDepth 20000 in
theorem w_323 : Cond.fieldLink "DuesOnRungs$Dictionary" 121 "DuesOnRungs$Row" "number" "I" ∈ LW := lw_LW (in_t2 _ (List.mem_of_getElem? (i := 17) rfl)) rfl
set_option maxRecDepth 20000 in
theorem w_324 : Cond.fieldLink "DuesOnRungs$Row" 12 "DuesOnRungs$Row" "bare" "LDuesOnRungs$Fraction;" ∈ LW := lw_LW (in_t2 _ (List.mem_of_getElem? (i := 18) rfl)) rfl
set_option maxRecDepth 20000 in
theorem w_325 : Cond.fieldLink "DuesOnRungs$Dictionary" 97 "DuesOnRungs$Row" "bare" "LDuesOnRungs$Fraction;" ∈ LW := lw_LW (in_t2 _ (List.mem_of_getElem? (i := 19) rfl)) rfl
set_option maxRecDepth 20000 in
theorem w_326 : Cond.fieldLink "DuesOnRungs" 257 "DuesOnRungs$Row" "bare" "LDuesOnRungs$Fraction;" ∈ LW := lw_LW (in_t2 _ (List.mem_of_getElem? (i := 20) rfl)) rfl
set_option maxRecDepth 20000 in
theorem w_327 : Cond.fieldLink "DuesOnRungs$Row" 18 "DuesOnRungs$Row" "shares" "[LDuesOnRungs$Fraction;" ∈ LW := lw_LW (in_t2 _ (List.mem_of_getElem? (i := 21) rfl)) rfl
set_option maxRecDepth 20000 in
theorem w_328 : Cond.fieldLink "DuesOnRungs$Dictionary" 55 "DuesOnRungs$Row" "shares" "[LDuesOnRungs$Fraction;" ∈ LW := lw_LW (in_t2 _ (List.mem_of_getElem? (i := 22) rfl)) rfl
set_option maxRecDepth 20000 in
theorem w_329 : Cond.lays "DuesOnRungs$Row" "DuesOnRungs$Row" "number" "I" ∈ LW := lw_LW (in_t2 _ (List.mem_of_getElem? (i := 23) rfl)) rfl
set_option maxRecDepth 20000 in
theorem w_331 : Cond.laysFinal "DuesOnRungs$Row" "DuesOnRungs$Row" "bare" "LDuesOnRungs$Fraction;" ∈ LW := lw_LW (in_t2 _ (List.mem_of_getElem? (i := 25) rfl)) rfl
set_option maxRecDepth 20000 in
theorem w_333 : Cond.laysFinal "DuesOnRungs$Row" "DuesOnRungs$Row" "shares" "[LDuesOnRungs$Fraction;" ∈ LW := lw_LW (in_t2 _ (List.mem_of_getElem? (i := 27) rfl)) rfl
set_option maxRecDepth 20000 in
theorem w_336 : Cond.arrayOver (FieldType.object "DuesOnRungs$Row") ∈ lw_tbl := in_t2 _ (List.mem_of_getElem? (i := 30) rfl)
set_option maxRecDepth 20000 in
theorem w_337 : Cond.classLink "DuesOnRungs$Dictionary" 26 "DuesOnRungs$Fraction" ∈ LW := lw_LW (in_t2 _ (List.mem_of_getElem? (i := 31) rfl)) rfl
set_option maxRecDepth 20000 in
theorem w_338 : Cond.methodLinkNest "DuesOnRungs$Dictionary" 28 ⟨"DuesOnRungs$Fraction", "<init>", "()V"⟩ "DuesOnRungs" ∈ lw_tbl := in_t2 _ (List.mem_of_getElem? (i := 32) rfl)
set_option maxRecDepth 20000 in
theorem w_339 : Cond.fieldLink "DuesOnRungs$Dictionary" 12 "DuesOnRungs$Dictionary" "cost" "LDuesOnRungs$Row;" ∈ LW := lw_LW (in_t2 _ (List.mem_of_getElem? (i := 33) rfl)) rfl
set_option maxRecDepth 20000 in
theorem w_340 : Cond.fieldLink "DuesOnRungs" 253 "DuesOnRungs$Dictionary" "cost" "LDuesOnRungs$Row;" ∈ LW := lw_LW (in_t2 _ (List.mem_of_getElem? (i := 34) rfl)) rfl
set_option maxRecDepth 20000 in
theorem w_341 : Cond.fieldLink "DuesOnRungs$Dictionary" 18 "DuesOnRungs$Dictionary" "rows" "[LDuesOnRungs$Row;" ∈ LW := lw_LW (in_t2 _ (List.mem_of_getElem? (i := 35) rfl)) rfl
set_option maxRecDepth 20000 in
theorem w_342 : Cond.fieldLink "DuesOnRungs$Dictionary" 77 "DuesOnRungs$Dictionary" "height" "I" ∈ LW := lw_LW (in_t2 _ (List.mem_of_getElem? (i := 36) rfl)) rfl
set_option maxRecDepth 20000 in
theorem w_343 : Cond.fieldLink "DuesOnRungs$Dictionary" 22 "DuesOnRungs$Dictionary" "shareOf" "[I" ∈ LW := lw_LW (in_t2 _ (List.mem_of_getElem? (i := 37) rfl)) rfl
set_option maxRecDepth 20000 in
theorem w_344 : Cond.fieldLink "DuesOnRungs$Dictionary" 48 "DuesOnRungs$Dictionary" "width" "I" ∈ LW := lw_LW (in_t2 _ (List.mem_of_getElem? (i := 38) rfl)) rfl
set_option maxRecDepth 20000 in
theorem w_345 : Cond.fieldLink "DuesOnRungs$Dictionary" 29 "DuesOnRungs$Dictionary" "factor" "LDuesOnRungs$Fraction;" ∈ LW := lw_LW (in_t2 _ (List.mem_of_getElem? (i := 39) rfl)) rfl
set_option maxRecDepth 20000 in
theorem w_346 : Cond.fieldLink "DuesOnRungs$Dictionary" 33 "DuesOnRungs$Dictionary" "term" "LDuesOnRungs$Fraction;" ∈ LW := lw_LW (in_t2 _ (List.mem_of_getElem? (i := 40) rfl)) rfl
set_option maxRecDepth 20000 in
theorem w_347 : Cond.fieldLink "DuesOnRungs$Dictionary" 36 "DuesOnRungs$Dictionary" "ratio" "LDuesOnRungs$Fraction;" ∈ LW := lw_LW (in_t2 _ (List.mem_of_getElem? (i := 41) rfl)) rfl
set_option maxRecDepth 20000 in
theorem w_348 : Cond.fieldLink "DuesOnRungs$Dictionary" 39 "DuesOnRungs$Dictionary" "leastRatio" "LDuesOnRungs$Fraction;" ∈ LW := lw_LW (in_t2 _ (List.mem_of_getElem? (i := 42) rfl)) rfl
set_option maxRecDepth 20000 in
theorem w_349 : Cond.laysFinal "DuesOnRungs$Dictionary" "DuesOnRungs$Dictionary" "cost" "LDuesOnRungs$Row;" ∈ LW := lw_LW (in_t2 _ (List.mem_of_getElem? (i := 43) rfl)) rfl
set_option maxRecDepth 20000 in
theorem w_351 : Cond.laysFinal "DuesOnRungs$Dictionary" "DuesOnRungs$Dictionary" "rows" "[LDuesOnRungs$Row;" ∈ LW := lw_LW (in_t2 _ (List.mem_of_getElem? (i := 45) rfl)) rfl
set_option maxRecDepth 20000 in
theorem w_353 : Cond.lays "DuesOnRungs$Dictionary" "DuesOnRungs$Dictionary" "height" "I" ∈ LW := lw_LW (in_t2 _ (List.mem_of_getElem? (i := 47) rfl)) rfl
set_option maxRecDepth 20000 in
theorem w_355 : Cond.laysFinal "DuesOnRungs$Dictionary" "DuesOnRungs$Dictionary" "shareOf" "[I" ∈ LW := lw_LW (in_t2 _ (List.mem_of_getElem? (i := 49) rfl)) rfl
set_option maxRecDepth 20000 in
theorem w_357 : Cond.lays "DuesOnRungs$Dictionary" "DuesOnRungs$Dictionary" "width" "I" ∈ LW := lw_LW (in_t2 _ (List.mem_of_getElem? (i := 51) rfl)) rfl
set_option maxRecDepth 20000 in
theorem w_359 : Cond.laysFinal "DuesOnRungs$Dictionary" "DuesOnRungs$Dictionary" "factor" "LDuesOnRungs$Fraction;" ∈ LW := lw_LW (in_t2 _ (List.mem_of_getElem? (i := 53) rfl)) rfl
set_option maxRecDepth 20000 in
theorem w_361 : Cond.laysFinal "DuesOnRungs$Dictionary" "DuesOnRungs$Dictionary" "term" "LDuesOnRungs$Fraction;" ∈ LW := lw_LW (in_t2 _ (List.mem_of_getElem? (i := 55) rfl)) rfl
set_option maxRecDepth 20000 in
theorem w_363 : Cond.laysFinal "DuesOnRungs$Dictionary" "DuesOnRungs$Dictionary" "ratio" "LDuesOnRungs$Fraction;" ∈ LW := lw_LW (in_t2 _ (List.mem_of_getElem? (i := 57) rfl)) rfl
set_option maxRecDepth 20000 in
theorem w_365 : Cond.laysFinal "DuesOnRungs$Dictionary" "DuesOnRungs$Dictionary" "leastRatio" "LDuesOnRungs$Fraction;" ∈ LW := lw_LW (in_t2 _ (List.mem_of_getElem? (i := 59) rfl)) rfl
set_option maxRecDepth 20000 in
theorem w_368 : Cond.classLink "DuesOnRungs" 69 "DuesOnRungs$Ladder" ∈ LW := lw_LW (in_t2 _ (List.mem_of_getElem? (i := 62) rfl)) rfl
set_option maxRecDepth 20000 in
theorem w_369 : Cond.instantiable "DuesOnRungs$Ladder" 4 ∈ LW := lw_LW (in_t2 _ (List.mem_of_getElem? (i := 63) rfl)) rfl
set_option maxRecDepth 20000 in
theorem w_370 : Cond.methodLinkNest "DuesOnRungs" 71 ⟨"DuesOnRungs$Ladder", "<init>", "()V"⟩ "DuesOnRungs" ∈ lw_tbl := in_t2 _ (List.mem_of_getElem? (i := 64) rfl)
set_option maxRecDepth 20000 in
theorem w_371 : Cond.instanceMethod ⟨"DuesOnRungs$Ladder", "<init>", "()V"⟩ ∈ LW := lw_LW (in_t2 _ (List.mem_of_getElem? (i := 65) rfl)) rfl
set_option maxRecDepth 20000 in
theorem w_372 : Cond.code ⟨"DuesOnRungs$Ladder", "<init>", "()V"⟩ prog_7_method_1_code 1 (Option.none : Option FieldType) ∈ LW := lw_LW (in_t2 _ (List.mem_of_getElem? (i := 66) rfl)) rfl
set_option maxRecDepth 20000 in
theorem w_373 : Cond.methodLink "DuesOnRungs$Ladder" 3 ⟨"java/lang/Object", "<init>", "()V"⟩ ∈ LW := lw_LW (in_t2 _ (List.mem_of_getElem? (i := 67) rfl)) rfl
set_option maxRecDepth 20000 in
theorem w_374 : Cond.fieldLink "DuesOnRungs$Ladder" 9 "DuesOnRungs$Ladder" "order" "[I" ∈ LW := lw_LW (in_t2 _ (List.mem_of_getElem? (i := 68) rfl)) rfl
set_option maxRecDepth 20000 in
theorem w_375 : Cond.fieldLink "DuesOnRungs" 196 "DuesOnRungs$Ladder" "order" "[I" ∈ LW := lw_LW (in_t2 _ (List.mem_of_getElem? (i := 69) rfl)) rfl
set_option maxRecDepth 20000 in
theorem w_376 : Cond.fieldLink "DuesOnRungs$Ladder" 15 "DuesOnRungs$Ladder" "bought" "[I" ∈ LW := lw_LW (in_t2 _ (List.mem_of_getElem? (i := 70) rfl)) rfl
set_option maxRecDepth 20000 in
theorem w_377 : Cond.fieldLink "DuesOnRungs" 282 "DuesOnRungs$Ladder" "bought" "[I" ∈ LW := lw_LW (in_t2 _ (List.mem_of_getElem? (i := 71) rfl)) rfl
set_option maxRecDepth 20000 in
theorem w_378 : Cond.fieldLink "DuesOnRungs$Ladder" 34 "DuesOnRungs$Ladder" "cost" "I" ∈ LW := lw_LW (in_t2 _ (List.mem_of_getElem? (i := 72) rfl)) rfl
set_option maxRecDepth 20000 in
theorem w_379 : Cond.fieldLink "DuesOnRungs" 277 "DuesOnRungs$Ladder" "cost" "I" ∈ LW := lw_LW (in_t2 _ (List.mem_of_getElem? (i := 73) rfl)) rfl
set_option maxRecDepth 20000 in
theorem w_380 : Cond.fieldLink "DuesOnRungs$Ladder" 37 "DuesOnRungs$Ladder" "lacking" "I" ∈ LW := lw_LW (in_t2 _ (List.mem_of_getElem? (i := 74) rfl)) rfl
set_option maxRecDepth 20000 in
theorem w_381 : Cond.fieldLink "DuesOnRungs" 279 "DuesOnRungs$Ladder" "lacking" "I" ∈ LW := lw_LW (in_t2 _ (List.mem_of_getElem? (i := 75) rfl)) rfl
set_option maxRecDepth 20000 in
theorem w_382 : Cond.laysFinal "DuesOnRungs$Ladder" "DuesOnRungs$Ladder" "order" "[I" ∈ LW := lw_LW (in_t2 _ (List.mem_of_getElem? (i := 76) rfl)) rfl
set_option maxRecDepth 20000 in
theorem w_384 : Cond.laysFinal "DuesOnRungs$Ladder" "DuesOnRungs$Ladder" "bought" "[I" ∈ LW := lw_LW (in_t2 _ (List.mem_of_getElem? (i := 78) rfl)) rfl
set_option maxRecDepth 20000 in
theorem w_386 : Cond.lays "DuesOnRungs$Ladder" "DuesOnRungs$Ladder" "cost" "I" ∈ LW := lw_LW (in_t2 _ (List.mem_of_getElem? (i := 80) rfl)) rfl
set_option maxRecDepth 20000 in
theorem w_388 : Cond.lays "DuesOnRungs$Ladder" "DuesOnRungs$Ladder" "lacking" "I" ∈ LW := lw_LW (in_t2 _ (List.mem_of_getElem? (i := 82) rfl)) rfl
set_option maxRecDepth 20000 in
theorem w_391 : Cond.classLink "DuesOnRungs" 76 "DuesOnRungs$Replay" ∈ LW := lw_LW (in_t2 _ (List.mem_of_getElem? (i := 85) rfl)) rfl
set_option maxRecDepth 20000 in
theorem w_392 : Cond.instantiable "DuesOnRungs$Replay" 7 ∈ LW := lw_LW (in_t2 _ (List.mem_of_getElem? (i := 86) rfl)) rfl
set_option maxRecDepth 20000 in
theorem w_393 : Cond.methodLinkNest "DuesOnRungs" 78 ⟨"DuesOnRungs$Replay", "<init>", "()V"⟩ "DuesOnRungs" ∈ lw_tbl := in_t2 _ (List.mem_of_getElem? (i := 87) rfl)
set_option maxRecDepth 20000 in
theorem w_394 : Cond.instanceMethod ⟨"DuesOnRungs$Replay", "<init>", "()V"⟩ ∈ LW := lw_LW (in_t2 _ (List.mem_of_getElem? (i := 88) rfl)) rfl
set_option maxRecDepth 20000 in
theorem w_395 : Cond.code ⟨"DuesOnRungs$Replay", "<init>", "()V"⟩ prog_8_method_1_code 1 (Option.none : Option FieldType) ∈ LW := lw_LW (in_t2 _ (List.mem_of_getElem? (i := 89) rfl)) rfl
set_option maxRecDepth 20000 in
theorem w_396 : Cond.methodLink "DuesOnRungs$Replay" 3 ⟨"java/lang/Object", "<init>", "()V"⟩ ∈ LW := lw_LW (in_t2 _ (List.mem_of_getElem? (i := 90) rfl)) rfl
set_option maxRecDepth 20000 in
theorem w_397 : Cond.fieldLink "DuesOnRungs$Replay" 9 "DuesOnRungs$Replay" "cash" "[J" ∈ LW := lw_LW (in_t2 _ (List.mem_of_getElem? (i := 91) rfl)) rfl
set_option maxRecDepth 20000 in
theorem w_398 : Cond.fieldLink "DuesOnRungs" 334 "DuesOnRungs$Replay" "cash" "[J" ∈ LW := lw_LW (in_t2 _ (List.mem_of_getElem? (i := 92) rfl)) rfl
set_option maxRecDepth 20000 in
theorem w_399 : Cond.fieldLink "DuesOnRungs$Replay" 25 "DuesOnRungs$Replay" "allShort" "J" ∈ LW := lw_LW (in_t2 _ (List.mem_of_getElem? (i := 93) rfl)) rfl
set_option maxRecDepth 20000 in
theorem w_400 : Cond.fieldLink "DuesOnRungs" 305 "DuesOnRungs$Replay" "allShort" "J" ∈ LW := lw_LW (in_t2 _ (List.mem_of_getElem? (i := 94) rfl)) rfl
set_option maxRecDepth 20000 in
theorem w_401 : Cond.fieldLink "DuesOnRungs$Replay" 15 "DuesOnRungs$Replay" "shortAt" "[J" ∈ LW := lw_LW (in_t2 _ (List.mem_of_getElem? (i := 95) rfl)) rfl
set_option maxRecDepth 20000 in
theorem w_402 : Cond.fieldLink "DuesOnRungs$Replay" 29 "DuesOnRungs$Replay" "allSpilt" "J" ∈ LW := lw_LW (in_t2 _ (List.mem_of_getElem? (i := 96) rfl)) rfl
set_option maxRecDepth 20000 in
theorem w_403 : Cond.fieldLink "DuesOnRungs$Replay" 32 "DuesOnRungs$Replay" "allGrew" "J" ∈ LW := lw_LW (in_t2 _ (List.mem_of_getElem? (i := 97) rfl)) rfl
set_option maxRecDepth 20000 in
theorem w_404 : Cond.fieldLink "DuesOnRungs$Replay" 35 "DuesOnRungs$Replay" "allPaid" "J" ∈ LW := lw_LW (in_t2 _ (List.mem_of_getElem? (i := 98) rfl)) rfl
set_option maxRecDepth 20000 in
theorem w_405 : Cond.fieldLink "DuesOnRungs$Replay" 24 "DuesOnRungs$Replay" "rungs" "I" ∈ LW := lw_LW (in_t2 _ (List.mem_of_getElem? (i := 99) rfl)) rfl
set_option maxRecDepth 20000 in
theorem w_406 : Cond.laysFinal "DuesOnRungs$Replay" "DuesOnRungs$Replay" "cash" "[J" ∈ LW := lw_LW (in_t2 _ (List.mem_of_getElem? (i := 100) rfl)) rfl
set_option maxRecDepth 20000 in
theorem w_408 : Cond.lays "DuesOnRungs$Replay" "DuesOnRungs$Replay" "allShort" "J" ∈ LW := lw_LW (in_t2 _ (List.mem_of_getElem? (i := 102) rfl)) rfl
set_option maxRecDepth 20000 in
theorem w_410 : Cond.laysFinal "DuesOnRungs$Replay" "DuesOnRungs$Replay" "shortAt" "[J" ∈ LW := lw_LW (in_t2 _ (List.mem_of_getElem? (i := 104) rfl)) rfl
set_option maxRecDepth 20000 in
theorem w_412 : Cond.lays "DuesOnRungs$Replay" "DuesOnRungs$Replay" "allSpilt" "J" ∈ LW := lw_LW (in_t2 _ (List.mem_of_getElem? (i := 106) rfl)) rfl
set_option maxRecDepth 20000 in
theorem w_414 : Cond.lays "DuesOnRungs$Replay" "DuesOnRungs$Replay" "allGrew" "J" ∈ LW := lw_LW (in_t2 _ (List.mem_of_getElem? (i := 108) rfl)) rfl
set_option maxRecDepth 20000 in
theorem w_416 : Cond.lays "DuesOnRungs$Replay" "DuesOnRungs$Replay" "allPaid" "J" ∈ LW := lw_LW (in_t2 _ (List.mem_of_getElem? (i := 110) rfl)) rfl
set_option maxRecDepth 20000 in
theorem w_418 : Cond.lays "DuesOnRungs$Replay" "DuesOnRungs$Replay" "rungs" "I" ∈ LW := lw_LW (in_t2 _ (List.mem_of_getElem? (i := 112) rfl)) rfl
set_option maxRecDepth 20000 in
theorem w_421 : Cond.arrayClass FieldType.long ∈ lw_tbl := in_t2 _ (List.mem_of_getElem? (i := 115) rfl)
set_option maxRecDepth 20000 in
theorem w_422 : Cond.classLink "DuesOnRungs" 83 "DuesOnRungs$Sheet" ∈ LW := lw_LW (in_t2 _ (List.mem_of_getElem? (i := 116) rfl)) rfl
set_option maxRecDepth 20000 in
theorem w_423 : Cond.arrayOver (FieldType.object "DuesOnRungs$Sheet") ∈ lw_tbl := in_t2 _ (List.mem_of_getElem? (i := 117) rfl)
set_option maxRecDepth 20000 in
theorem w_424 : Cond.methodLink "DuesOnRungs" 89 ⟨"java/util/Arrays", "fill", "([II)V"⟩ ∈ LW := lw_LW (in_t2 _ (List.mem_of_getElem? (i := 118) rfl)) rfl
set_option maxRecDepth 20000 in
theorem w_425 : Cond.instantiable "DuesOnRungs$Sheet" 3 ∈ LW := lw_LW (in_t2 _ (List.mem_of_getElem? (i := 119) rfl)) rfl
set_option maxRecDepth 20000 in
theorem w_426 : Cond.methodLinkNest "DuesOnRungs" 95 ⟨"DuesOnRungs$Sheet", "<init>", "()V"⟩ "DuesOnRungs" ∈ lw_tbl := in_t2 _ (List.mem_of_getElem? (i := 120) rfl)
set_option maxRecDepth 20000 in
theorem w_427 : Cond.instanceMethod ⟨"DuesOnRungs$Sheet", "<init>", "()V"⟩ ∈ LW := lw_LW (in_t2 _ (List.mem_of_getElem? (i := 121) rfl)) rfl
set_option maxRecDepth 20000 in
theorem w_428 : Cond.code ⟨"DuesOnRungs$Sheet", "<init>", "()V"⟩ prog_11_method_1_code 1 (Option.none : Option FieldType) ∈ LW := lw_LW (in_t2 _ (List.mem_of_getElem? (i := 122) rfl)) rfl
set_option maxRecDepth 20000 in
theorem w_429 : Cond.methodLink "DuesOnRungs$Sheet" 3 ⟨"java/lang/Object", "<init>", "()V"⟩ ∈ LW := lw_LW (in_t2 _ (List.mem_of_getElem? (i := 123) rfl)) rfl
set_option maxRecDepth 20000 in
theorem w_430 : Cond.fieldLink "DuesOnRungs$Sheet" 9 "DuesOnRungs$Sheet" "items" "[I" ∈ LW := lw_LW (in_t2 _ (List.mem_of_getElem? (i := 124) rfl)) rfl
set_option maxRecDepth 20000 in
theorem w_431 : Cond.fieldLink "DuesOnRungs$Replay" 63 "DuesOnRungs$Sheet" "items" "[I" ∈ LW := lw_LW (in_t2 _ (List.mem_of_getElem? (i := 125) rfl)) rfl
set_option maxRecDepth 20000 in
theorem w_432 : Cond.fieldLink "DuesOnRungs" 331 "DuesOnRungs$Sheet" "items" "[I" ∈ LW := lw_LW (in_t2 _ (List.mem_of_getElem? (i := 126) rfl)) rfl
set_option maxRecDepth 20000 in
theorem w_433 : Cond.fieldLink "DuesOnRungs$Sheet" 15 "DuesOnRungs$Sheet" "sort" "I" ∈ LW := lw_LW (in_t2 _ (List.mem_of_getElem? (i := 127) rfl)) rfl
set_option maxRecDepth 20000 in
theorem w_434 : Cond.fieldLink "DuesOnRungs" 360 "DuesOnRungs$Sheet" "sort" "I" ∈ LW := lw_LW (in_t2 _ (List.mem_of_getElem? (i := 128) rfl)) rfl
set_option maxRecDepth 20000 in
theorem w_435 : Cond.fieldLink "DuesOnRungs$Sheet" 19 "DuesOnRungs$Sheet" "size" "I" ∈ LW := lw_LW (in_t2 _ (List.mem_of_getElem? (i := 129) rfl)) rfl
set_option maxRecDepth 20000 in
theorem w_436 : Cond.fieldLink "DuesOnRungs$Replay" 58 "DuesOnRungs$Sheet" "size" "I" ∈ LW := lw_LW (in_t2 _ (List.mem_of_getElem? (i := 130) rfl)) rfl
set_option maxRecDepth 20000 in
theorem w_437 : Cond.fieldLink "DuesOnRungs" 314 "DuesOnRungs$Sheet" "size" "I" ∈ LW := lw_LW (in_t2 _ (List.mem_of_getElem? (i := 131) rfl)) rfl
set_option maxRecDepth 20000 in
theorem w_438 : Cond.laysFinal "DuesOnRungs$Sheet" "DuesOnRungs$Sheet" "items" "[I" ∈ LW := lw_LW (in_t2 _ (List.mem_of_getElem? (i := 132) rfl)) rfl
set_option maxRecDepth 20000 in
theorem w_440 : Cond.lays "DuesOnRungs$Sheet" "DuesOnRungs$Sheet" "sort" "I" ∈ LW := lw_LW (in_t2 _ (List.mem_of_getElem? (i := 134) rfl)) rfl
set_option maxRecDepth 20000 in
theorem w_442 : Cond.lays "DuesOnRungs$Sheet" "DuesOnRungs$Sheet" "size" "I" ∈ LW := lw_LW (in_t2 _ (List.mem_of_getElem? (i := 136) rfl)) rfl
set_option maxRecDepth 20000 in
theorem w_445 : Cond.fieldLink "DuesOnRungs" 14 "DuesOnRungs" "book" "LDuesOnRungs$Book;" ∈ LW := lw_LW (in_t2 _ (List.mem_of_getElem? (i := 139) rfl)) rfl
set_option maxRecDepth 20000 in
theorem w_446 : Cond.fieldLink "DuesOnRungs" 18 "DuesOnRungs" "image" "LDuesOnRungs$Book;" ∈ LW := lw_LW (in_t2 _ (List.mem_of_getElem? (i := 140) rfl)) rfl
set_option maxRecDepth 20000 in
theorem w_447 : Cond.fieldLink "DuesOnRungs" 341 "DuesOnRungs" "imageKept" "Z" ∈ LW := lw_LW (in_t2 _ (List.mem_of_getElem? (i := 141) rfl)) rfl
set_option maxRecDepth 20000 in
theorem w_448 : Cond.fieldLink "DuesOnRungs" 24 "DuesOnRungs" "now" "LDuesOnRungs$Scene;" ∈ LW := lw_LW (in_t2 _ (List.mem_of_getElem? (i := 142) rfl)) rfl
set_option maxRecDepth 20000 in
theorem w_449 : Cond.fieldLink "DuesOnRungs" 28 "DuesOnRungs" "then" "LDuesOnRungs$Scene;" ∈ LW := lw_LW (in_t2 _ (List.mem_of_getElem? (i := 143) rfl)) rfl
set_option maxRecDepth 20000 in
theorem w_450 : Cond.fieldLink "DuesOnRungs" 31 "DuesOnRungs" "stale" "Z" ∈ LW := lw_LW (in_t2 _ (List.mem_of_getElem? (i := 144) rfl)) rfl
set_option maxRecDepth 20000 in
theorem w_451 : Cond.fieldLink "DuesOnRungs" 35 "DuesOnRungs" "noRates" "[I" ∈ LW := lw_LW (in_t2 _ (List.mem_of_getElem? (i := 145) rfl)) rfl
set_option maxRecDepth 20000 in
theorem w_452 : Cond.fieldLink "DuesOnRungs" 39 "DuesOnRungs" "toldRates" "[I" ∈ LW := lw_LW (in_t2 _ (List.mem_of_getElem? (i := 146) rfl)) rfl
set_option maxRecDepth 20000 in
theorem w_453 : Cond.fieldLink "DuesOnRungs" 42 "DuesOnRungs" "held" "[I" ∈ LW := lw_LW (in_t2 _ (List.mem_of_getElem? (i := 147) rfl)) rfl
set_option maxRecDepth 20000 in
theorem w_454 : Cond.fieldLink "DuesOnRungs" 45 "DuesOnRungs" "amounts" "[I" ∈ LW := lw_LW (in_t2 _ (List.mem_of_getElem? (i := 148) rfl)) rfl
set_option maxRecDepth 20000 in
theorem w_455 : Cond.fieldLink "DuesOnRungs" 51 "DuesOnRungs" "worths" "LDuesOnRungs$Worths;" ∈ LW := lw_LW (in_t2 _ (List.mem_of_getElem? (i := 149) rfl)) rfl
set_option maxRecDepth 20000 in
theorem w_456 : Cond.fieldLink "DuesOnRungs" 58 "DuesOnRungs" "answer" "LDuesOnRungs$Fraction;" ∈ LW := lw_LW (in_t2 _ (List.mem_of_getElem? (i := 150) rfl)) rfl
set_option maxRecDepth 20000 in
theorem w_457 : Cond.fieldLink "DuesOnRungs" 65 "DuesOnRungs" "dictionary" "LDuesOnRungs$Dictionary;" ∈ LW := lw_LW (in_t2 _ (List.mem_of_getElem? (i := 151) rfl)) rfl
set_option maxRecDepth 20000 in
theorem w_458 : Cond.fieldLink "DuesOnRungs" 380 "DuesOnRungs" "solved" "Z" ∈ LW := lw_LW (in_t2 _ (List.mem_of_getElem? (i := 152) rfl)) rfl
set_option maxRecDepth 20000 in
theorem w_459 : Cond.fieldLink "DuesOnRungs" 250 "DuesOnRungs" "ending" "I" ∈ LW := lw_LW (in_t2 _ (List.mem_of_getElem? (i := 153) rfl)) rfl
set_option maxRecDepth 20000 in
theorem w_460 : Cond.fieldLink "DuesOnRungs" 72 "DuesOnRungs" "rungsBought" "LDuesOnRungs$Ladder;" ∈ LW := lw_LW (in_t2 _ (List.mem_of_getElem? (i := 154) rfl)) rfl
set_option maxRecDepth 20000 in
theorem w_461 : Cond.fieldLink "DuesOnRungs" 79 "DuesOnRungs" "played" "LDuesOnRungs$Replay;" ∈ LW := lw_LW (in_t2 _ (List.mem_of_getElem? (i := 155) rfl)) rfl
set_option maxRecDepth 20000 in
theorem w_462 : Cond.fieldLink "DuesOnRungs" 85 "DuesOnRungs" "sheets" "[LDuesOnRungs$Sheet;" ∈ LW := lw_LW (in_t2 _ (List.mem_of_getElem? (i := 156) rfl)) rfl
set_option maxRecDepth 20000 in
theorem w_463 : Cond.laysFinal "DuesOnRungs" "DuesOnRungs" "book" "LDuesOnRungs$Book;" ∈ LW := lw_LW (in_t2 _ (List.mem_of_getElem? (i := 157) rfl)) rfl
set_option maxRecDepth 20000 in
theorem w_465 : Cond.laysFinal "DuesOnRungs" "DuesOnRungs" "image" "LDuesOnRungs$Book;" ∈ LW := lw_LW (in_t2 _ (List.mem_of_getElem? (i := 159) rfl)) rfl
set_option maxRecDepth 20000 in
theorem w_467 : Cond.lays "DuesOnRungs" "DuesOnRungs" "imageKept" "Z" ∈ LW := lw_LW (in_t2 _ (List.mem_of_getElem? (i := 161) rfl)) rfl
set_option maxRecDepth 20000 in
theorem w_469 : Cond.laysFinal "DuesOnRungs" "DuesOnRungs" "now" "LDuesOnRungs$Scene;" ∈ LW := lw_LW (in_t2 _ (List.mem_of_getElem? (i := 163) rfl)) rfl
set_option maxRecDepth 20000 in
theorem w_471 : Cond.laysFinal "DuesOnRungs" "DuesOnRungs" "then" "LDuesOnRungs$Scene;" ∈ LW := lw_LW (in_t2 _ (List.mem_of_getElem? (i := 165) rfl)) rfl
set_option maxRecDepth 20000 in
theorem w_473 : Cond.lays "DuesOnRungs" "DuesOnRungs" "stale" "Z" ∈ LW := lw_LW (in_t2 _ (List.mem_of_getElem? (i := 167) rfl)) rfl
set_option maxRecDepth 20000 in
theorem w_475 : Cond.laysFinal "DuesOnRungs" "DuesOnRungs" "noRates" "[I" ∈ LW := lw_LW (in_t2 _ (List.mem_of_getElem? (i := 169) rfl)) rfl
set_option maxRecDepth 20000 in
theorem w_477 : Cond.laysFinal "DuesOnRungs" "DuesOnRungs" "toldRates" "[I" ∈ LW := lw_LW (in_t2 _ (List.mem_of_getElem? (i := 171) rfl)) rfl
set_option maxRecDepth 20000 in
theorem w_479 : Cond.laysFinal "DuesOnRungs" "DuesOnRungs" "held" "[I" ∈ LW := lw_LW (in_t2 _ (List.mem_of_getElem? (i := 173) rfl)) rfl
set_option maxRecDepth 20000 in
theorem w_481 : Cond.laysFinal "DuesOnRungs" "DuesOnRungs" "amounts" "[I" ∈ LW := lw_LW (in_t2 _ (List.mem_of_getElem? (i := 175) rfl)) rfl
set_option maxRecDepth 20000 in
theorem w_483 : Cond.laysFinal "DuesOnRungs" "DuesOnRungs" "worths" "LDuesOnRungs$Worths;" ∈ LW := lw_LW (in_t2 _ (List.mem_of_getElem? (i := 177) rfl)) rfl
set_option maxRecDepth 20000 in
theorem w_485 : Cond.laysFinal "DuesOnRungs" "DuesOnRungs" "answer" "LDuesOnRungs$Fraction;" ∈ LW := lw_LW (in_t2 _ (List.mem_of_getElem? (i := 179) rfl)) rfl
set_option maxRecDepth 20000 in
theorem w_487 : Cond.laysFinal "DuesOnRungs" "DuesOnRungs" "dictionary" "LDuesOnRungs$Dictionary;" ∈ LW := lw_LW (in_t2 _ (List.mem_of_getElem? (i := 181) rfl)) rfl
set_option maxRecDepth 20000 in
theorem w_489 : Cond.lays "DuesOnRungs" "DuesOnRungs" "solved" "Z" ∈ LW := lw_LW (in_t2 _ (List.mem_of_getElem? (i := 183) rfl)) rfl
set_option maxRecDepth 20000 in
theorem w_491 : Cond.lays "DuesOnRungs" "DuesOnRungs" "ending" "I" ∈ LW := lw_LW (in_t2 _ (List.mem_of_getElem? (i := 185) rfl)) rfl
set_option maxRecDepth 20000 in
theorem w_493 : Cond.laysFinal "DuesOnRungs" "DuesOnRungs" "rungsBought" "LDuesOnRungs$Ladder;" ∈ LW := lw_LW (in_t2 _ (List.mem_of_getElem? (i := 187) rfl)) rfl
set_option maxRecDepth 20000 in
theorem w_495 : Cond.laysFinal "DuesOnRungs" "DuesOnRungs" "played" "LDuesOnRungs$Replay;" ∈ LW := lw_LW (in_t2 _ (List.mem_of_getElem? (i := 189) rfl)) rfl
set_option maxRecDepth 20000 in
theorem w_497 : Cond.laysFinal "DuesOnRungs" "DuesOnRungs" "sheets" "[LDuesOnRungs$Sheet;" ∈ LW := lw_LW (in_t2 _ (List.mem_of_getElem? (i := 191) rfl)) rfl
set_option maxRecDepth 20000 in
theorem w_500 : Cond.methodLink "DuesOnRungsLaw" 13 ⟨"DuesOnRungs", "due", "(II)I"⟩ ∈ LW := lw_LW (in_t2 _ (List.mem_of_getElem? (i := 194) rfl)) rfl
set_option maxRecDepth 20000 in
theorem w_501 : Cond.instanceMethod ⟨"DuesOnRungs", "due", "(II)I"⟩ ∈ LW := lw_LW (in_t2 _ (List.mem_of_getElem? (i := 195) rfl)) rfl
set_option maxRecDepth 20000 in
theorem w_502 : Cond.selects "DuesOnRungs" ⟨"DuesOnRungs", "due", "(II)I"⟩ ⟨"DuesOnRungs", "due", "(II)I"⟩ ∈ LW := lw_LW (in_t2 _ (List.mem_of_getElem? (i := 196) rfl)) rfl
set_option maxRecDepth 20000 in
theorem w_503 : Cond.code ⟨"DuesOnRungs", "due", "(II)I"⟩ prog_1_method_2_code 3 (Option.some FieldType.int) ∈ LW := lw_LW (in_t2 _ (List.mem_of_getElem? (i := 197) rfl)) rfl
set_option maxRecDepth 20000 in
theorem w_504 : Cond.methodLink "DuesOnRungs" 96 ⟨"DuesOnRungs", "isDay", "(I)Z"⟩ ∈ LW := lw_LW (in_t2 _ (List.mem_of_getElem? (i := 198) rfl)) rfl
set_option maxRecDepth 20000 in
theorem w_505 : Cond.static ⟨"DuesOnRungs", "isDay", "(I)Z"⟩ ∈ LW := lw_LW (in_t2 _ (List.mem_of_getElem? (i := 199) rfl)) rfl
set_option maxRecDepth 20000 in
theorem w_506 : Cond.code ⟨"DuesOnRungs", "isDay", "(I)Z"⟩ prog_1_method_35_code 1 (Option.some FieldType.boolean) ∈ LW := lw_LW (in_t2 _ (List.mem_of_getElem? (i := 200) rfl)) rfl
set_option maxRecDepth 20000 in
theorem w_507 : Cond.methodLink "DuesOnRungs" 100 ⟨"DuesOnRungs", "within", "(III)Z"⟩ ∈ LW := lw_LW (in_t2 _ (List.mem_of_getElem? (i := 201) rfl)) rfl
set_option maxRecDepth 20000 in
theorem w_508 : Cond.static ⟨"DuesOnRungs", "within", "(III)Z"⟩ ∈ LW := lw_LW (in_t2 _ (List.mem_of_getElem? (i := 202) rfl)) rfl
set_option maxRecDepth 20000 in
theorem w_509 : Cond.code ⟨"DuesOnRungs", "within", "(III)Z"⟩ prog_1_method_34_code 3 (Option.some FieldType.boolean) ∈ LW := lw_LW (in_t2 _ (List.mem_of_getElem? (i := 203) rfl)) rfl
set_option maxRecDepth 20000 in
theorem w_510 : Cond.methodLink "DuesOnRungs" 108 ⟨"DuesOnRungs$DayRow", "tell", "(II)I"⟩ ∈ LW := lw_LW (in_t2 _ (List.mem_of_getElem? (i := 204) rfl)) rfl
set_option maxRecDepth 20000 in
theorem w_511 : Cond.instanceMethod ⟨"DuesOnRungs$DayRow", "tell", "(II)I"⟩ ∈ LW := lw_LW (in_t2 _ (List.mem_of_getElem? (i := 205) rfl)) rfl
set_option maxRecDepth 20000 in
theorem w_512 : Cond.selects "DuesOnRungs$DayRow" ⟨"DuesOnRungs$DayRow", "tell", "(II)I"⟩ ⟨"DuesOnRungs$DayRow", "tell", "(II)I"⟩ ∈ LW := lw_LW (in_t2 _ (List.mem_of_getElem? (i := 206) rfl)) rfl
set_option maxRecDepth 20000 in
theorem w_513 : Cond.code ⟨"DuesOnRungs$DayRow", "tell", "(II)I"⟩ prog_4_method_2_code 4 (Option.some FieldType.int) ∈ LW := lw_LW (in_t2 _ (List.mem_of_getElem? (i := 207) rfl)) rfl
set_option maxRecDepth 20000 in
theorem w_514 : Cond.methodLink "DuesOnRungs$DayRow" 28 ⟨"DuesOnRungs$DayRow", "countTold", "()I"⟩ ∈ LW := lw_LW (in_t2 _ (List.mem_of_getElem? (i := 208) rfl)) rfl
set_option maxRecDepth 20000 in
theorem w_515 : Cond.instanceMethod ⟨"DuesOnRungs$DayRow", "countTold", "()I"⟩ ∈ LW := lw_LW (in_t2 _ (List.mem_of_getElem? (i := 209) rfl)) rfl
set_option maxRecDepth 20000 in
theorem w_516 : Cond.selects "DuesOnRungs$DayRow" ⟨"DuesOnRungs$DayRow", "countTold", "()I"⟩ ⟨"DuesOnRungs$DayRow", "countTold", "()I"⟩ ∈ LW := lw_LW (in_t2 _ (List.mem_of_getElem? (i := 210) rfl)) rfl
set_option maxRecDepth 20000 in
theorem w_517 : Cond.code ⟨"DuesOnRungs$DayRow", "countTold", "()I"⟩ prog_4_method_3_code 3 (Option.some FieldType.int) ∈ LW := lw_LW (in_t2 _ (List.mem_of_getElem? (i := 211) rfl)) rfl
set_option maxRecDepth 20000 in
theorem w_518 : Cond.methodLink "DuesOnRungsLaw" 18 ⟨"DuesOnRungs", "rate", "(II)I"⟩ ∈ LW := lw_LW (in_t2 _ (List.mem_of_getElem? (i := 212) rfl)) rfl
set_option maxRecDepth 20000 in
theorem w_519 : Cond.instanceMethod ⟨"DuesOnRungs", "rate", "(II)I"⟩ ∈ LW := lw_LW (in_t2 _ (List.mem_of_getElem? (i := 213) rfl)) rfl
set_option maxRecDepth 20000 in
theorem w_520 : Cond.selects "DuesOnRungs" ⟨"DuesOnRungs", "rate", "(II)I"⟩ ⟨"DuesOnRungs", "rate", "(II)I"⟩ ∈ LW := lw_LW (in_t2 _ (List.mem_of_getElem? (i := 214) rfl)) rfl
set_option maxRecDepth 20000 in
theorem w_521 : Cond.code ⟨"DuesOnRungs", "rate", "(II)I"⟩ prog_1_method_3_code 3 (Option.some FieldType.int) ∈ LW := lw_LW (in_t2 _ (List.mem_of_getElem? (i := 215) rfl)) rfl
set_option maxRecDepth 20000 in
theorem w_522 : Cond.methodLink "DuesOnRungsLaw" 22 ⟨"DuesOnRungs", "limit", "(II)I"⟩ ∈ LW := lw_LW (in_t2 _ (List.mem_of_getElem? (i := 216) rfl)) rfl
set_option maxRecDepth 20000 in
theorem w_523 : Cond.instanceMethod ⟨"DuesOnRungs", "limit", "(II)I"⟩ ∈ LW := lw_LW (in_t2 _ (List.mem_of_getElem? (i := 217) rfl)) rfl
set_option maxRecDepth 20000 in
theorem w_524 : Cond.selects "DuesOnRungs" ⟨"DuesOnRungs", "limit", "(II)I"⟩ ⟨"DuesOnRungs", "limit", "(II)I"⟩ ∈ LW := lw_LW (in_t2 _ (List.mem_of_getElem? (i := 218) rfl)) rfl
set_option maxRecDepth 20000 in
theorem w_525 : Cond.code ⟨"DuesOnRungs", "limit", "(II)I"⟩ prog_1_method_4_code 3 (Option.some FieldType.int) ∈ LW := lw_LW (in_t2 _ (List.mem_of_getElem? (i := 219) rfl)) rfl
set_option maxRecDepth 20000 in
theorem w_526 : Cond.methodLink "DuesOnRungsLaw" 26 ⟨"DuesOnRungs", "rung", "(II)I"⟩ ∈ LW := lw_LW (in_t2 _ (List.mem_of_getElem? (i := 220) rfl)) rfl
set_option maxRecDepth 20000 in
theorem w_527 : Cond.instanceMethod ⟨"DuesOnRungs", "rung", "(II)I"⟩ ∈ LW := lw_LW (in_t2 _ (List.mem_of_getElem? (i := 221) rfl)) rfl
set_option maxRecDepth 20000 in
theorem w_528 : Cond.selects "DuesOnRungs" ⟨"DuesOnRungs", "rung", "(II)I"⟩ ⟨"DuesOnRungs", "rung", "(II)I"⟩ ∈ LW := lw_LW (in_t2 _ (List.mem_of_getElem? (i := 222) rfl)) rfl
set_option maxRecDepth 20000 in
theorem w_529 : Cond.code ⟨"DuesOnRungs", "rung", "(II)I"⟩ prog_1_method_5_code 3 (Option.some FieldType.int) ∈ LW := lw_LW (in_t2 _ (List.mem_of_getElem? (i := 223) rfl)) rfl
set_option maxRecDepth 20000 in
theorem w_530 : Cond.methodLink "DuesOnRungs" 120 ⟨"DuesOnRungs", "look", "()V"⟩ ∈ LW := lw_LW (in_t2 _ (List.mem_of_getElem? (i := 224) rfl)) rfl
set_option maxRecDepth 20000 in
theorem w_532 : Cond.instanceMethod ⟨"DuesOnRungs", "look", "()V"⟩ ∈ LW := lw_LW (in_t2 _ (List.mem_of_getElem? (i := 226) rfl)) rfl
set_option maxRecDepth 20000 in
theorem w_533 : Cond.code ⟨"DuesOnRungs", "look", "()V"⟩ prog_1_method_43_code 1 (Option.none : Option FieldType) ∈ LW := lw_LW (in_t2 _ (List.mem_of_getElem? (i := 227) rfl)) rfl
set_option maxRecDepth 20000 in
theorem w_534 : Cond.methodLink "DuesOnRungs" 376 ⟨"DuesOnRungs$Scene", "lay", "(LDuesOnRungs$Book;[I)V"⟩ ∈ LW := lw_LW (in_t2 _ (List.mem_of_getElem? (i := 228) rfl)) rfl
set_option maxRecDepth 20000 in
theorem w_535 : Cond.instanceMethod ⟨"DuesOnRungs$Scene", "lay", "(LDuesOnRungs$Book;[I)V"⟩ ∈ LW := lw_LW (in_t2 _ (List.mem_of_getElem? (i := 229) rfl)) rfl
set_option maxRecDepth 20000 in
theorem w_536 : Cond.selects "DuesOnRungs$Scene" ⟨"DuesOnRungs$Scene", "lay", "(LDuesOnRungs$Book;[I)V"⟩ ⟨"DuesOnRungs$Scene", "lay", "(LDuesOnRungs$Book;[I)V"⟩ ∈ LW := lw_LW (in_t2 _ (List.mem_of_getElem? (i := 230) rfl)) rfl
set_option maxRecDepth 20000 in
theorem w_537 : Cond.code ⟨"DuesOnRungs$Scene", "lay", "(LDuesOnRungs$Book;[I)V"⟩ prog_10_method_2_code 4 (Option.none : Option FieldType) ∈ LW := lw_LW (in_t2 _ (List.mem_of_getElem? (i := 231) rfl)) rfl
set_option maxRecDepth 20000 in
theorem w_538 : Cond.methodLink "DuesOnRungs$Scene" 44 ⟨"DuesOnRungs$Scene", "layRungs", "(LDuesOnRungs$Book;)V"⟩ ∈ LW := lw_LW (in_t2 _ (List.mem_of_getElem? (i := 232) rfl)) rfl
set_option maxRecDepth 20000 in
theorem w_540 : Cond.instanceMethod ⟨"DuesOnRungs$Scene", "layRungs", "(LDuesOnRungs$Book;)V"⟩ ∈ LW := lw_LW (in_t2 _ (List.mem_of_getElem? (i := 234) rfl)) rfl
set_option maxRecDepth 20000 in
theorem w_541 : Cond.code ⟨"DuesOnRungs$Scene", "layRungs", "(LDuesOnRungs$Book;)V"⟩ prog_10_method_6_code 3 (Option.none : Option FieldType) ∈ LW := lw_LW (in_t2 _ (List.mem_of_getElem? (i := 235) rfl)) rfl
set_option maxRecDepth 20000 in
theorem w_542 : Cond.methodLink "DuesOnRungs$Scene" 59 ⟨"DuesOnRungs$Scene", "layRates", "([I[I)V"⟩ ∈ LW := lw_LW (in_t2 _ (List.mem_of_getElem? (i := 236) rfl)) rfl
set_option maxRecDepth 20000 in
theorem w_544 : Cond.instanceMethod ⟨"DuesOnRungs$Scene", "layRates", "([I[I)V"⟩ ∈ LW := lw_LW (in_t2 _ (List.mem_of_getElem? (i := 238) rfl)) rfl
set_option maxRecDepth 20000 in
theorem w_545 : Cond.code ⟨"DuesOnRungs$Scene", "layRates", "([I[I)V"⟩ prog_10_method_7_code 6 (Option.none : Option FieldType) ∈ LW := lw_LW (in_t2 _ (List.mem_of_getElem? (i := 239) rfl)) rfl
set_option maxRecDepth 20000 in
theorem w_546 : Cond.methodLink "DuesOnRungs$Scene" 71 ⟨"DuesOnRungs$Bond", "layPayings", "([I[I)V"⟩ ∈ LW := lw_LW (in_t3 _ (List.mem_of_getElem? (i := 0) rfl)) rfl
set_option maxRecDepth 20000 in
theorem w_547 : Cond.instanceMethod ⟨"DuesOnRungs$Bond", "layPayings", "([I[I)V"⟩ ∈ LW := lw_LW (in_t3 _ (List.mem_of_getElem? (i := 1) rfl)) rfl
set_option maxRecDepth 20000 in
theorem w_548 : Cond.selects "DuesOnRungs$Bond" ⟨"DuesOnRungs$Bond", "layPayings", "([I[I)V"⟩ ⟨"DuesOnRungs$Bond", "layPayings", "([I[I)V"⟩ ∈ LW := lw_LW (in_t3 _ (List.mem_of_getElem? (i := 2) rfl)) rfl
set_option maxRecDepth 20000 in
theorem w_549 : Cond.code ⟨"DuesOnRungs$Bond", "layPayings", "([I[I)V"⟩ prog_2_method_6_code 6 (Option.none : Option FieldType) ∈ LW := lw_LW (in_t3 _ (List.mem_of_getElem? (i := 3) rfl)) rfl
set_option maxRecDepth 20000 in
theorem w_550 : Cond.methodLink "DuesOnRungs$Bond" 41 ⟨"java/util/Arrays", "fill", "([II)V"⟩ ∈ LW := lw_LW (in_t3 _ (List.mem_of_getElem? (i := 4) rfl)) rfl
set_option maxRecDepth 20000 in
theorem w_551 : Cond.methodLink "DuesOnRungs$Bond" 47 ⟨"DuesOnRungs$Bond", "payingOn", "(III)I"⟩ ∈ LW := lw_LW (in_t3 _ (List.mem_of_getElem? (i := 5) rfl)) rfl
set_option maxRecDepth 20000 in
theorem w_553 : Cond.instanceMethod ⟨"DuesOnRungs$Bond", "payingOn", "(III)I"⟩ ∈ LW := lw_LW (in_t3 _ (List.mem_of_getElem? (i := 7) rfl)) rfl
set_option maxRecDepth 20000 in
theorem w_554 : Cond.code ⟨"DuesOnRungs$Bond", "payingOn", "(III)I"⟩ prog_2_method_8_code 5 (Option.some FieldType.int) ∈ LW := lw_LW (in_t3 _ (List.mem_of_getElem? (i := 8) rfl)) rfl
set_option maxRecDepth 20000 in
theorem w_555 : Cond.methodLink "DuesOnRungs$Bond" 51 ⟨"DuesOnRungs$Bond", "isCalledOn", "(II)Z"⟩ ∈ LW := lw_LW (in_t3 _ (List.mem_of_getElem? (i := 9) rfl)) rfl
set_option maxRecDepth 20000 in
theorem w_557 : Cond.instanceMethod ⟨"DuesOnRungs$Bond", "isCalledOn", "(II)Z"⟩ ∈ LW := lw_LW (in_t3 _ (List.mem_of_getElem? (i := 11) rfl)) rfl
set_option maxRecDepth 20000 in
theorem w_558 : Cond.code ⟨"DuesOnRungs$Bond", "isCalledOn", "(II)Z"⟩ prog_2_method_7_code 3 (Option.some FieldType.boolean) ∈ LW := lw_LW (in_t3 _ (List.mem_of_getElem? (i := 12) rfl)) rfl
set_option maxRecDepth 20000 in
theorem w_559 : Cond.methodLink "DuesOnRungs$Scene" 76 ⟨"DuesOnRungs$Scene", "gatherPayings", "(I)V"⟩ ∈ LW := lw_LW (in_t3 _ (List.mem_of_getElem? (i := 13) rfl)) rfl
set_option maxRecDepth 20000 in
theorem w_561 : Cond.instanceMethod ⟨"DuesOnRungs$Scene", "gatherPayings", "(I)V"⟩ ∈ LW := lw_LW (in_t3 _ (List.mem_of_getElem? (i := 15) rfl)) rfl
set_option maxRecDepth 20000 in
theorem w_562 : Cond.code ⟨"DuesOnRungs$Scene", "gatherPayings", "(I)V"⟩ prog_10_method_8_code 4 (Option.none : Option FieldType) ∈ LW := lw_LW (in_t3 _ (List.mem_of_getElem? (i := 16) rfl)) rfl
set_option maxRecDepth 20000 in
theorem w_563 : Cond.methodLink "DuesOnRungs$Scene" 89 ⟨"java/util/Arrays", "fill", "([II)V"⟩ ∈ LW := lw_LW (in_t3 _ (List.mem_of_getElem? (i := 17) rfl)) rfl
set_option maxRecDepth 20000 in
theorem w_564 : Cond.methodLink "DuesOnRungs" 123 ⟨"DuesOnRungs$Scene", "hasRung", "(I)Z"⟩ ∈ LW := lw_LW (in_t3 _ (List.mem_of_getElem? (i := 18) rfl)) rfl
set_option maxRecDepth 20000 in
theorem w_565 : Cond.instanceMethod ⟨"DuesOnRungs$Scene", "hasRung", "(I)Z"⟩ ∈ LW := lw_LW (in_t3 _ (List.mem_of_getElem? (i := 19) rfl)) rfl
set_option maxRecDepth 20000 in
theorem w_566 : Cond.selects "DuesOnRungs$Scene" ⟨"DuesOnRungs$Scene", "hasRung", "(I)Z"⟩ ⟨"DuesOnRungs$Scene", "hasRung", "(I)Z"⟩ ∈ LW := lw_LW (in_t3 _ (List.mem_of_getElem? (i := 20) rfl)) rfl
set_option maxRecDepth 20000 in
theorem w_567 : Cond.code ⟨"DuesOnRungs$Scene", "hasRung", "(I)Z"⟩ prog_10_method_3_code 2 (Option.some FieldType.boolean) ∈ LW := lw_LW (in_t3 _ (List.mem_of_getElem? (i := 21) rfl)) rfl
set_option maxRecDepth 20000 in
theorem w_568 : Cond.methodLink "DuesOnRungsLaw" 30 ⟨"DuesOnRungs", "day", "(II)I"⟩ ∈ LW := lw_LW (in_t3 _ (List.mem_of_getElem? (i := 22) rfl)) rfl
set_option maxRecDepth 20000 in
theorem w_569 : Cond.instanceMethod ⟨"DuesOnRungs", "day", "(II)I"⟩ ∈ LW := lw_LW (in_t3 _ (List.mem_of_getElem? (i := 23) rfl)) rfl
set_option maxRecDepth 20000 in
theorem w_570 : Cond.selects "DuesOnRungs" ⟨"DuesOnRungs", "day", "(II)I"⟩ ⟨"DuesOnRungs", "day", "(II)I"⟩ ∈ LW := lw_LW (in_t3 _ (List.mem_of_getElem? (i := 24) rfl)) rfl
set_option maxRecDepth 20000 in
theorem w_571 : Cond.code ⟨"DuesOnRungs", "day", "(II)I"⟩ prog_1_method_6_code 3 (Option.some FieldType.int) ∈ LW := lw_LW (in_t3 _ (List.mem_of_getElem? (i := 25) rfl)) rfl
set_option maxRecDepth 20000 in
theorem w_572 : Cond.methodLink "DuesOnRungsLaw" 34 ⟨"DuesOnRungs", "bond", "(IIIIII)I"⟩ ∈ LW := lw_LW (in_t3 _ (List.mem_of_getElem? (i := 26) rfl)) rfl
set_option maxRecDepth 20000 in
theorem w_573 : Cond.instanceMethod ⟨"DuesOnRungs", "bond", "(IIIIII)I"⟩ ∈ LW := lw_LW (in_t3 _ (List.mem_of_getElem? (i := 27) rfl)) rfl
set_option maxRecDepth 20000 in
theorem w_574 : Cond.selects "DuesOnRungs" ⟨"DuesOnRungs", "bond", "(IIIIII)I"⟩ ⟨"DuesOnRungs", "bond", "(IIIIII)I"⟩ ∈ LW := lw_LW (in_t3 _ (List.mem_of_getElem? (i := 28) rfl)) rfl
set_option maxRecDepth 20000 in
theorem w_575 : Cond.code ⟨"DuesOnRungs", "bond", "(IIIIII)I"⟩ prog_1_method_7_code 8 (Option.some FieldType.int) ∈ LW := lw_LW (in_t3 _ (List.mem_of_getElem? (i := 29) rfl)) rfl
set_option maxRecDepth 20000 in
theorem w_576 : Cond.methodLink "DuesOnRungs" 144 ⟨"DuesOnRungs", "isKind", "(I)Z"⟩ ∈ LW := lw_LW (in_t3 _ (List.mem_of_getElem? (i := 30) rfl)) rfl
set_option maxRecDepth 20000 in
theorem w_577 : Cond.static ⟨"DuesOnRungs", "isKind", "(I)Z"⟩ ∈ LW := lw_LW (in_t3 _ (List.mem_of_getElem? (i := 31) rfl)) rfl
set_option maxRecDepth 20000 in
theorem w_578 : Cond.code ⟨"DuesOnRungs", "isKind", "(I)Z"⟩ prog_1_method_36_code 1 (Option.some FieldType.boolean) ∈ LW := lw_LW (in_t3 _ (List.mem_of_getElem? (i := 32) rfl)) rfl
set_option maxRecDepth 20000 in
theorem w_579 : Cond.methodLink "DuesOnRungs" 155 ⟨"DuesOnRungs$Bond", "begin", "(IIIIII)V"⟩ ∈ LW := lw_LW (in_t3 _ (List.mem_of_getElem? (i := 33) rfl)) rfl
set_option maxRecDepth 20000 in
theorem w_580 : Cond.instanceMethod ⟨"DuesOnRungs$Bond", "begin", "(IIIIII)V"⟩ ∈ LW := lw_LW (in_t3 _ (List.mem_of_getElem? (i := 34) rfl)) rfl
set_option maxRecDepth 20000 in
theorem w_581 : Cond.selects "DuesOnRungs$Bond" ⟨"DuesOnRungs$Bond", "begin", "(IIIIII)V"⟩ ⟨"DuesOnRungs$Bond", "begin", "(IIIIII)V"⟩ ∈ LW := lw_LW (in_t3 _ (List.mem_of_getElem? (i := 35) rfl)) rfl
set_option maxRecDepth 20000 in
theorem w_582 : Cond.code ⟨"DuesOnRungs$Bond", "begin", "(IIIIII)V"⟩ prog_2_method_2_code 7 (Option.none : Option FieldType) ∈ LW := lw_LW (in_t3 _ (List.mem_of_getElem? (i := 36) rfl)) rfl
set_option maxRecDepth 20000 in
theorem w_583 : Cond.methodLink "DuesOnRungsLaw" 39 ⟨"DuesOnRungs", "hold", "(II)I"⟩ ∈ LW := lw_LW (in_t3 _ (List.mem_of_getElem? (i := 37) rfl)) rfl
set_option maxRecDepth 20000 in
theorem w_584 : Cond.instanceMethod ⟨"DuesOnRungs", "hold", "(II)I"⟩ ∈ LW := lw_LW (in_t3 _ (List.mem_of_getElem? (i := 38) rfl)) rfl
set_option maxRecDepth 20000 in
theorem w_585 : Cond.selects "DuesOnRungs" ⟨"DuesOnRungs", "hold", "(II)I"⟩ ⟨"DuesOnRungs", "hold", "(II)I"⟩ ∈ LW := lw_LW (in_t3 _ (List.mem_of_getElem? (i := 39) rfl)) rfl
set_option maxRecDepth 20000 in
theorem w_586 : Cond.code ⟨"DuesOnRungs", "hold", "(II)I"⟩ prog_1_method_8_code 4 (Option.some FieldType.int) ∈ LW := lw_LW (in_t3 _ (List.mem_of_getElem? (i := 40) rfl)) rfl
set_option maxRecDepth 20000 in
theorem w_587 : Cond.methodLink "DuesOnRungs" 161 ⟨"DuesOnRungs$Book", "hasBond", "(I)Z"⟩ ∈ LW := lw_LW (in_t3 _ (List.mem_of_getElem? (i := 41) rfl)) rfl
set_option maxRecDepth 20000 in
theorem w_588 : Cond.instanceMethod ⟨"DuesOnRungs$Book", "hasBond", "(I)Z"⟩ ∈ LW := lw_LW (in_t3 _ (List.mem_of_getElem? (i := 42) rfl)) rfl
set_option maxRecDepth 20000 in
theorem w_589 : Cond.selects "DuesOnRungs$Book" ⟨"DuesOnRungs$Book", "hasBond", "(I)Z"⟩ ⟨"DuesOnRungs$Book", "hasBond", "(I)Z"⟩ ∈ LW := lw_LW (in_t3 _ (List.mem_of_getElem? (i := 43) rfl)) rfl
set_option maxRecDepth 20000 in
theorem w_590 : Cond.code ⟨"DuesOnRungs$Book", "hasBond", "(I)Z"⟩ prog_3_method_2_code 2 (Option.some FieldType.boolean) ∈ LW := lw_LW (in_t3 _ (List.mem_of_getElem? (i := 44) rfl)) rfl
set_option maxRecDepth 20000 in
theorem w_591 : Cond.methodLink "DuesOnRungsLaw" 43 ⟨"DuesOnRungs", "told", "(II)I"⟩ ∈ LW := lw_LW (in_t3 _ (List.mem_of_getElem? (i := 45) rfl)) rfl
set_option maxRecDepth 20000 in
theorem w_592 : Cond.instanceMethod ⟨"DuesOnRungs", "told", "(II)I"⟩ ∈ LW := lw_LW (in_t3 _ (List.mem_of_getElem? (i := 46) rfl)) rfl
set_option maxRecDepth 20000 in
theorem w_593 : Cond.selects "DuesOnRungs" ⟨"DuesOnRungs", "told", "(II)I"⟩ ⟨"DuesOnRungs", "told", "(II)I"⟩ ∈ LW := lw_LW (in_t3 _ (List.mem_of_getElem? (i := 47) rfl)) rfl
set_option maxRecDepth 20000 in
theorem w_594 : Cond.code ⟨"DuesOnRungs", "told", "(II)I"⟩ prog_1_method_9_code 3 (Option.some FieldType.int) ∈ LW := lw_LW (in_t3 _ (List.mem_of_getElem? (i := 48) rfl)) rfl
set_option maxRecDepth 20000 in
theorem w_595 : Cond.methodLink "DuesOnRungs" 172 ⟨"DuesOnRungs$Bond", "term", "(I)I"⟩ ∈ LW := lw_LW (in_t3 _ (List.mem_of_getElem? (i := 49) rfl)) rfl
set_option maxRecDepth 20000 in
theorem w_596 : Cond.instanceMethod ⟨"DuesOnRungs$Bond", "term", "(I)I"⟩ ∈ LW := lw_LW (in_t3 _ (List.mem_of_getElem? (i := 50) rfl)) rfl
set_option maxRecDepth 20000 in
theorem w_597 : Cond.selects "DuesOnRungs$Bond" ⟨"DuesOnRungs$Bond", "term", "(I)I"⟩ ⟨"DuesOnRungs$Bond", "term", "(I)I"⟩ ∈ LW := lw_LW (in_t3 _ (List.mem_of_getElem? (i := 51) rfl)) rfl
set_option maxRecDepth 20000 in
theorem w_598 : Cond.code ⟨"DuesOnRungs$Bond", "term", "(I)I"⟩ prog_2_method_4_code 2 (Option.some FieldType.int) ∈ LW := lw_LW (in_t3 _ (List.mem_of_getElem? (i := 52) rfl)) rfl
set_option maxRecDepth 20000 in
theorem w_599 : Cond.methodLink "DuesOnRungsLaw" 47 ⟨"DuesOnRungs", "pays", "(II)I"⟩ ∈ LW := lw_LW (in_t3 _ (List.mem_of_getElem? (i := 53) rfl)) rfl
set_option maxRecDepth 20000 in
theorem w_600 : Cond.instanceMethod ⟨"DuesOnRungs", "pays", "(II)I"⟩ ∈ LW := lw_LW (in_t3 _ (List.mem_of_getElem? (i := 54) rfl)) rfl
set_option maxRecDepth 20000 in
theorem w_601 : Cond.selects "DuesOnRungs" ⟨"DuesOnRungs", "pays", "(II)I"⟩ ⟨"DuesOnRungs", "pays", "(II)I"⟩ ∈ LW := lw_LW (in_t3 _ (List.mem_of_getElem? (i := 55) rfl)) rfl
set_option maxRecDepth 20000 in
theorem w_602 : Cond.code ⟨"DuesOnRungs", "pays", "(II)I"⟩ prog_1_method_10_code 3 (Option.some FieldType.int) ∈ LW := lw_LW (in_t3 _ (List.mem_of_getElem? (i := 56) rfl)) rfl
set_option maxRecDepth 20000 in
theorem w_603 : Cond.methodLink "DuesOnRungsLaw" 51 ⟨"DuesOnRungs", "paysAt", "(II)I"⟩ ∈ LW := lw_LW (in_t3 _ (List.mem_of_getElem? (i := 57) rfl)) rfl
set_option maxRecDepth 20000 in
theorem w_604 : Cond.instanceMethod ⟨"DuesOnRungs", "paysAt", "(II)I"⟩ ∈ LW := lw_LW (in_t3 _ (List.mem_of_getElem? (i := 58) rfl)) rfl
set_option maxRecDepth 20000 in
theorem w_605 : Cond.selects "DuesOnRungs" ⟨"DuesOnRungs", "paysAt", "(II)I"⟩ ⟨"DuesOnRungs", "paysAt", "(II)I"⟩ ∈ LW := lw_LW (in_t3 _ (List.mem_of_getElem? (i := 59) rfl)) rfl
set_option maxRecDepth 20000 in
theorem w_606 : Cond.code ⟨"DuesOnRungs", "paysAt", "(II)I"⟩ prog_1_method_11_code 3 (Option.some FieldType.int) ∈ LW := lw_LW (in_t3 _ (List.mem_of_getElem? (i := 60) rfl)) rfl
set_option maxRecDepth 20000 in
theorem w_607 : Cond.methodLink "DuesOnRungsLaw" 55 ⟨"DuesOnRungs", "taken", "(II)I"⟩ ∈ LW := lw_LW (in_t3 _ (List.mem_of_getElem? (i := 61) rfl)) rfl
set_option maxRecDepth 20000 in
theorem w_608 : Cond.instanceMethod ⟨"DuesOnRungs", "taken", "(II)I"⟩ ∈ LW := lw_LW (in_t3 _ (List.mem_of_getElem? (i := 62) rfl)) rfl
set_option maxRecDepth 20000 in
theorem w_609 : Cond.selects "DuesOnRungs" ⟨"DuesOnRungs", "taken", "(II)I"⟩ ⟨"DuesOnRungs", "taken", "(II)I"⟩ ∈ LW := lw_LW (in_t3 _ (List.mem_of_getElem? (i := 63) rfl)) rfl
set_option maxRecDepth 20000 in
theorem w_610 : Cond.code ⟨"DuesOnRungs", "taken", "(II)I"⟩ prog_1_method_12_code 3 (Option.some FieldType.int) ∈ LW := lw_LW (in_t3 _ (List.mem_of_getElem? (i := 64) rfl)) rfl
set_option maxRecDepth 20000 in
theorem w_611 : Cond.methodLink "DuesOnRungs" 183 ⟨"DuesOnRungs$Bond", "isOfKind", "(I)Z"⟩ ∈ LW := lw_LW (in_t3 _ (List.mem_of_getElem? (i := 65) rfl)) rfl
set_option maxRecDepth 20000 in
theorem w_612 : Cond.instanceMethod ⟨"DuesOnRungs$Bond", "isOfKind", "(I)Z"⟩ ∈ LW := lw_LW (in_t3 _ (List.mem_of_getElem? (i := 66) rfl)) rfl
set_option maxRecDepth 20000 in
theorem w_613 : Cond.selects "DuesOnRungs$Bond" ⟨"DuesOnRungs$Bond", "isOfKind", "(I)Z"⟩ ⟨"DuesOnRungs$Bond", "isOfKind", "(I)Z"⟩ ∈ LW := lw_LW (in_t3 _ (List.mem_of_getElem? (i := 67) rfl)) rfl
set_option maxRecDepth 20000 in
theorem w_614 : Cond.code ⟨"DuesOnRungs$Bond", "isOfKind", "(I)Z"⟩ prog_2_method_5_code 4 (Option.some FieldType.boolean) ∈ LW := lw_LW (in_t3 _ (List.mem_of_getElem? (i := 68) rfl)) rfl
set_option maxRecDepth 20000 in
theorem w_615 : Cond.fieldLinkNest "DuesOnRungs$Bond" 37 "DuesOnRungs" "UNDER" "[I" "DuesOnRungs" ∈ lw_tbl := in_t3 _ (List.mem_of_getElem? (i := 69) rfl)
set_option maxRecDepth 20000 in
theorem w_616 : Cond.laysStatic "DuesOnRungs" "UNDER" "[I" ∈ lw_tbl := in_t3 _ (List.mem_of_getElem? (i := 70) rfl)
set_option maxRecDepth 20000 in
theorem w_617 : Cond.methodLink "DuesOnRungsLaw" 59 ⟨"DuesOnRungs", "ranked", "(II)I"⟩ ∈ LW := lw_LW (in_t3 _ (List.mem_of_getElem? (i := 71) rfl)) rfl
set_option maxRecDepth 20000 in
theorem w_618 : Cond.instanceMethod ⟨"DuesOnRungs", "ranked", "(II)I"⟩ ∈ LW := lw_LW (in_t3 _ (List.mem_of_getElem? (i := 72) rfl)) rfl
set_option maxRecDepth 20000 in
theorem w_619 : Cond.selects "DuesOnRungs" ⟨"DuesOnRungs", "ranked", "(II)I"⟩ ⟨"DuesOnRungs", "ranked", "(II)I"⟩ ∈ LW := lw_LW (in_t3 _ (List.mem_of_getElem? (i := 73) rfl)) rfl
set_option maxRecDepth 20000 in
theorem w_620 : Cond.code ⟨"DuesOnRungs", "ranked", "(II)I"⟩ prog_1_method_13_code 3 (Option.some FieldType.int) ∈ LW := lw_LW (in_t3 _ (List.mem_of_getElem? (i := 74) rfl)) rfl
set_option maxRecDepth 20000 in
theorem w_621 : Cond.methodLink "DuesOnRungs" 189 ⟨"DuesOnRungs", "isRanking", "(I)Z"⟩ ∈ LW := lw_LW (in_t3 _ (List.mem_of_getElem? (i := 75) rfl)) rfl
set_option maxRecDepth 20000 in
theorem w_622 : Cond.static ⟨"DuesOnRungs", "isRanking", "(I)Z"⟩ ∈ LW := lw_LW (in_t3 _ (List.mem_of_getElem? (i := 76) rfl)) rfl
set_option maxRecDepth 20000 in
theorem w_623 : Cond.code ⟨"DuesOnRungs", "isRanking", "(I)Z"⟩ prog_1_method_37_code 1 (Option.some FieldType.boolean) ∈ LW := lw_LW (in_t3 _ (List.mem_of_getElem? (i := 77) rfl)) rfl
set_option maxRecDepth 20000 in
theorem w_624 : Cond.methodLink "DuesOnRungs" 192 ⟨"DuesOnRungs$Ladder", "rank", "(ILDuesOnRungs$Book;LDuesOnRungs$Scene;)V"⟩ ∈ LW := lw_LW (in_t3 _ (List.mem_of_getElem? (i := 78) rfl)) rfl
set_option maxRecDepth 20000 in
theorem w_625 : Cond.instanceMethod ⟨"DuesOnRungs$Ladder", "rank", "(ILDuesOnRungs$Book;LDuesOnRungs$Scene;)V"⟩ ∈ LW := lw_LW (in_t3 _ (List.mem_of_getElem? (i := 79) rfl)) rfl
set_option maxRecDepth 20000 in
theorem w_626 : Cond.selects "DuesOnRungs$Ladder" ⟨"DuesOnRungs$Ladder", "rank", "(ILDuesOnRungs$Book;LDuesOnRungs$Scene;)V"⟩ ⟨"DuesOnRungs$Ladder", "rank", "(ILDuesOnRungs$Book;LDuesOnRungs$Scene;)V"⟩ ∈ LW := lw_LW (in_t3 _ (List.mem_of_getElem? (i := 80) rfl)) rfl
set_option maxRecDepth 20000 in
theorem w_627 : Cond.code ⟨"DuesOnRungs$Ladder", "rank", "(ILDuesOnRungs$Book;LDuesOnRungs$Scene;)V"⟩ prog_7_method_2_code 6 (Option.none : Option FieldType) ∈ LW := lw_LW (in_t3 _ (List.mem_of_getElem? (i := 81) rfl)) rfl
set_option maxRecDepth 20000 in
theorem w_628 : Cond.methodLink "DuesOnRungs$Ladder" 24 ⟨"DuesOnRungs$Ladder", "compare", "(IIILDuesOnRungs$Book;LDuesOnRungs$Scene;)I"⟩ ∈ LW := lw_LW (in_t3 _ (List.mem_of_getElem? (i := 82) rfl)) rfl
set_option maxRecDepth 20000 in
theorem w_629 : Cond.static ⟨"DuesOnRungs$Ladder", "compare", "(IIILDuesOnRungs$Book;LDuesOnRungs$Scene;)I"⟩ ∈ LW := lw_LW (in_t3 _ (List.mem_of_getElem? (i := 83) rfl)) rfl
set_option maxRecDepth 20000 in
theorem w_630 : Cond.code ⟨"DuesOnRungs$Ladder", "compare", "(IIILDuesOnRungs$Book;LDuesOnRungs$Scene;)I"⟩ prog_7_method_5_code 7 (Option.some FieldType.int) ∈ LW := lw_LW (in_t3 _ (List.mem_of_getElem? (i := 84) rfl)) rfl
set_option maxRecDepth 20000 in
theorem w_631 : Cond.methodLink "DuesOnRungs$Ladder" 72 ⟨"java/lang/Integer", "compare", "(II)I"⟩ ∈ LW := lw_LW (in_t3 _ (List.mem_of_getElem? (i := 85) rfl)) rfl
set_option maxRecDepth 20000 in
theorem w_632 : Cond.static ⟨"java/lang/Integer", "compare", "(II)I"⟩ ∈ LW := lw_LW (in_t3 _ (List.mem_of_getElem? (i := 86) rfl)) rfl
set_option maxRecDepth 20000 in
theorem w_633 : Cond.code ⟨"java/lang/Integer", "compare", "(II)I"⟩ prog_15_method_40_code 2 (Option.some FieldType.int) ∈ LW := lw_LW (in_t3 _ (List.mem_of_getElem? (i := 87) rfl)) rfl
set_option maxRecDepth 20000 in
theorem w_634 : Cond.methodLink "DuesOnRungs$Ladder" 80 ⟨"DuesOnRungs$Ladder", "compareRich", "(IIII)I"⟩ ∈ LW := lw_LW (in_t3 _ (List.mem_of_getElem? (i := 88) rfl)) rfl
set_option maxRecDepth 20000 in
theorem w_635 : Cond.static ⟨"DuesOnRungs$Ladder", "compareRich", "(IIII)I"⟩ ∈ LW := lw_LW (in_t3 _ (List.mem_of_getElem? (i := 89) rfl)) rfl
set_option maxRecDepth 20000 in
theorem w_636 : Cond.code ⟨"DuesOnRungs$Ladder", "compareRich", "(IIII)I"⟩ prog_7_method_6_code 4 (Option.some FieldType.int) ∈ LW := lw_LW (in_t3 _ (List.mem_of_getElem? (i := 90) rfl)) rfl
set_option maxRecDepth 20000 in
theorem w_637 : Cond.methodLink "DuesOnRungsLaw" 63 ⟨"DuesOnRungs", "worth", "(II)J"⟩ ∈ LW := lw_LW (in_t3 _ (List.mem_of_getElem? (i := 91) rfl)) rfl
set_option maxRecDepth 20000 in
theorem w_638 : Cond.instanceMethod ⟨"DuesOnRungs", "worth", "(II)J"⟩ ∈ LW := lw_LW (in_t3 _ (List.mem_of_getElem? (i := 92) rfl)) rfl
set_option maxRecDepth 20000 in
theorem w_639 : Cond.selects "DuesOnRungs" ⟨"DuesOnRungs", "worth", "(II)J"⟩ ⟨"DuesOnRungs", "worth", "(II)J"⟩ ∈ LW := lw_LW (in_t3 _ (List.mem_of_getElem? (i := 93) rfl)) rfl
set_option maxRecDepth 20000 in
theorem w_640 : Cond.code ⟨"DuesOnRungs", "worth", "(II)J"⟩ prog_1_method_14_code 3 (Option.some FieldType.long) ∈ LW := lw_LW (in_t3 _ (List.mem_of_getElem? (i := 94) rfl)) rfl
set_option maxRecDepth 20000 in
theorem w_641 : Cond.methodLink "DuesOnRungs" 199 ⟨"DuesOnRungs", "isRow", "(I)Z"⟩ ∈ LW := lw_LW (in_t3 _ (List.mem_of_getElem? (i := 95) rfl)) rfl
set_option maxRecDepth 20000 in
theorem w_643 : Cond.instanceMethod ⟨"DuesOnRungs", "isRow", "(I)Z"⟩ ∈ LW := lw_LW (in_t3 _ (List.mem_of_getElem? (i := 97) rfl)) rfl
set_option maxRecDepth 20000 in
theorem w_644 : Cond.code ⟨"DuesOnRungs", "isRow", "(I)Z"⟩ prog_1_method_42_code 2 (Option.some FieldType.boolean) ∈ LW := lw_LW (in_t3 _ (List.mem_of_getElem? (i := 98) rfl)) rfl
set_option maxRecDepth 20000 in
theorem w_645 : Cond.methodLink "DuesOnRungs" 202 ⟨"DuesOnRungs", "isPart", "(I)Z"⟩ ∈ LW := lw_LW (in_t3 _ (List.mem_of_getElem? (i := 99) rfl)) rfl
set_option maxRecDepth 20000 in
theorem w_646 : Cond.static ⟨"DuesOnRungs", "isPart", "(I)Z"⟩ ∈ LW := lw_LW (in_t3 _ (List.mem_of_getElem? (i := 100) rfl)) rfl
set_option maxRecDepth 20000 in
theorem w_647 : Cond.code ⟨"DuesOnRungs", "isPart", "(I)Z"⟩ prog_1_method_38_code 1 (Option.some FieldType.boolean) ∈ LW := lw_LW (in_t3 _ (List.mem_of_getElem? (i := 101) rfl)) rfl
set_option maxRecDepth 20000 in
theorem w_648 : Cond.constantLong "DuesOnRungs" 205 (-9223372036854775808 : Int64) ∈ LW := lw_LW (in_t3 _ (List.mem_of_getElem? (i := 102) rfl)) rfl
set_option maxRecDepth 20000 in
theorem w_649 : Cond.methodLink "DuesOnRungs" 207 ⟨"DuesOnRungs", "reckonRow", "(I)V"⟩ ∈ LW := lw_LW (in_t3 _ (List.mem_of_getElem? (i := 103) rfl)) rfl
set_option maxRecDepth 20000 in
theorem w_651 : Cond.instanceMethod ⟨"DuesOnRungs", "reckonRow", "(I)V"⟩ ∈ LW := lw_LW (in_t3 _ (List.mem_of_getElem? (i := 105) rfl)) rfl
set_option maxRecDepth 20000 in
theorem w_652 : Cond.code ⟨"DuesOnRungs", "reckonRow", "(I)V"⟩ prog_1_method_46_code 3 (Option.none : Option FieldType) ∈ LW := lw_LW (in_t3 _ (List.mem_of_getElem? (i := 106) rfl)) rfl
set_option maxRecDepth 20000 in
theorem w_653 : Cond.methodLink "DuesOnRungs" 317 ⟨"DuesOnRungs", "readHeld", "()V"⟩ ∈ LW := lw_LW (in_t3 _ (List.mem_of_getElem? (i := 107) rfl)) rfl
set_option maxRecDepth 20000 in
theorem w_655 : Cond.instanceMethod ⟨"DuesOnRungs", "readHeld", "()V"⟩ ∈ LW := lw_LW (in_t3 _ (List.mem_of_getElem? (i := 109) rfl)) rfl
set_option maxRecDepth 20000 in
theorem w_656 : Cond.code ⟨"DuesOnRungs", "readHeld", "()V"⟩ prog_1_method_45_code 2 (Option.none : Option FieldType) ∈ LW := lw_LW (in_t3 _ (List.mem_of_getElem? (i := 110) rfl)) rfl
set_option maxRecDepth 20000 in
theorem w_657 : Cond.methodLink "DuesOnRungs" 387 ⟨"DuesOnRungs$Scene", "paidByAll", "([II)I"⟩ ∈ LW := lw_LW (in_t3 _ (List.mem_of_getElem? (i := 111) rfl)) rfl
set_option maxRecDepth 20000 in
theorem w_658 : Cond.instanceMethod ⟨"DuesOnRungs$Scene", "paidByAll", "([II)I"⟩ ∈ LW := lw_LW (in_t3 _ (List.mem_of_getElem? (i := 112) rfl)) rfl
set_option maxRecDepth 20000 in
theorem w_659 : Cond.selects "DuesOnRungs$Scene" ⟨"DuesOnRungs$Scene", "paidByAll", "([II)I"⟩ ⟨"DuesOnRungs$Scene", "paidByAll", "([II)I"⟩ ∈ LW := lw_LW (in_t3 _ (List.mem_of_getElem? (i := 113) rfl)) rfl
set_option maxRecDepth 20000 in
theorem w_660 : Cond.code ⟨"DuesOnRungs$Scene", "paidByAll", "([II)I"⟩ prog_10_method_5_code 5 (Option.some FieldType.int) ∈ LW := lw_LW (in_t3 _ (List.mem_of_getElem? (i := 114) rfl)) rfl
set_option maxRecDepth 20000 in
theorem w_661 : Cond.methodLink "DuesOnRungs" 391 ⟨"DuesOnRungs$Worths", "reckonWorth", "([ILDuesOnRungs$Scene;)V"⟩ ∈ LW := lw_LW (in_t3 _ (List.mem_of_getElem? (i := 115) rfl)) rfl
set_option maxRecDepth 20000 in
theorem w_662 : Cond.instanceMethod ⟨"DuesOnRungs$Worths", "reckonWorth", "([ILDuesOnRungs$Scene;)V"⟩ ∈ LW := lw_LW (in_t3 _ (List.mem_of_getElem? (i := 116) rfl)) rfl
set_option maxRecDepth 20000 in
theorem w_663 : Cond.selects "DuesOnRungs$Worths" ⟨"DuesOnRungs$Worths", "reckonWorth", "([ILDuesOnRungs$Scene;)V"⟩ ⟨"DuesOnRungs$Worths", "reckonWorth", "([ILDuesOnRungs$Scene;)V"⟩ ∈ LW := lw_LW (in_t3 _ (List.mem_of_getElem? (i := 117) rfl)) rfl
set_option maxRecDepth 20000 in
theorem w_664 : Cond.code ⟨"DuesOnRungs$Worths", "reckonWorth", "([ILDuesOnRungs$Scene;)V"⟩ prog_12_method_2_code 5 (Option.none : Option FieldType) ∈ LW := lw_LW (in_t3 _ (List.mem_of_getElem? (i := 118) rfl)) rfl
set_option maxRecDepth 20000 in
theorem w_665 : Cond.methodLink "DuesOnRungs$Worths" 37 ⟨"DuesOnRungs$Fraction", "become", "(JJ)V"⟩ ∈ LW := lw_LW (in_t3 _ (List.mem_of_getElem? (i := 119) rfl)) rfl
set_option maxRecDepth 20000 in
theorem w_666 : Cond.instanceMethod ⟨"DuesOnRungs$Fraction", "become", "(JJ)V"⟩ ∈ LW := lw_LW (in_t3 _ (List.mem_of_getElem? (i := 120) rfl)) rfl
set_option maxRecDepth 20000 in
theorem w_667 : Cond.selects "DuesOnRungs$Fraction" ⟨"DuesOnRungs$Fraction", "become", "(JJ)V"⟩ ⟨"DuesOnRungs$Fraction", "become", "(JJ)V"⟩ ∈ LW := lw_LW (in_t3 _ (List.mem_of_getElem? (i := 121) rfl)) rfl
set_option maxRecDepth 20000 in
theorem w_668 : Cond.code ⟨"DuesOnRungs$Fraction", "become", "(JJ)V"⟩ prog_6_method_2_code 5 (Option.none : Option FieldType) ∈ LW := lw_LW (in_t3 _ (List.mem_of_getElem? (i := 122) rfl)) rfl
set_option maxRecDepth 20000 in
theorem w_669 : Cond.methodLink "DuesOnRungs$Fraction" 19 ⟨"DuesOnRungs$Fraction", "reduce", "(JJ)V"⟩ ∈ LW := lw_LW (in_t3 _ (List.mem_of_getElem? (i := 123) rfl)) rfl
set_option maxRecDepth 20000 in
theorem w_671 : Cond.instanceMethod ⟨"DuesOnRungs$Fraction", "reduce", "(JJ)V"⟩ ∈ LW := lw_LW (in_t3 _ (List.mem_of_getElem? (i := 125) rfl)) rfl
set_option maxRecDepth 20000 in
theorem w_672 : Cond.code ⟨"DuesOnRungs$Fraction", "reduce", "(JJ)V"⟩ prog_6_method_11_code 12 (Option.none : Option FieldType) ∈ LW := lw_LW (in_t3 _ (List.mem_of_getElem? (i := 126) rfl)) rfl
set_option maxRecDepth 20000 in
theorem w_673 : Cond.constantLong "DuesOnRungs$Fraction" 35 (-9223372036854775808 : Int64) ∈ LW := lw_LW (in_t3 _ (List.mem_of_getElem? (i := 127) rfl)) rfl
set_option maxRecDepth 20000 in
theorem w_674 : Cond.methodLink "DuesOnRungs$Worths" 51 ⟨"DuesOnRungs$Fraction", "becomeFactor", "(I)V"⟩ ∈ LW := lw_LW (in_t3 _ (List.mem_of_getElem? (i := 128) rfl)) rfl
set_option maxRecDepth 20000 in
theorem w_675 : Cond.instanceMethod ⟨"DuesOnRungs$Fraction", "becomeFactor", "(I)V"⟩ ∈ LW := lw_LW (in_t3 _ (List.mem_of_getElem? (i := 129) rfl)) rfl
set_option maxRecDepth 20000 in
theorem w_676 : Cond.selects "DuesOnRungs$Fraction" ⟨"DuesOnRungs$Fraction", "becomeFactor", "(I)V"⟩ ⟨"DuesOnRungs$Fraction", "becomeFactor", "(I)V"⟩ ∈ LW := lw_LW (in_t3 _ (List.mem_of_getElem? (i := 130) rfl)) rfl
set_option maxRecDepth 20000 in
theorem w_677 : Cond.code ⟨"DuesOnRungs$Fraction", "becomeFactor", "(I)V"⟩ prog_6_method_4_code 2 (Option.none : Option FieldType) ∈ LW := lw_LW (in_t3 _ (List.mem_of_getElem? (i := 131) rfl)) rfl
set_option maxRecDepth 20000 in
theorem w_678 : Cond.constantLong "DuesOnRungs$Fraction" 26 (4 : Int64) ∈ LW := lw_LW (in_t3 _ (List.mem_of_getElem? (i := 132) rfl)) rfl
set_option maxRecDepth 20000 in
theorem w_679 : Cond.methodLink "DuesOnRungs$Fraction" 28 ⟨"DuesOnRungs$Fraction", "become", "(JJ)V"⟩ ∈ LW := lw_LW (in_t3 _ (List.mem_of_getElem? (i := 133) rfl)) rfl
set_option maxRecDepth 20000 in
theorem w_680 : Cond.methodLink "DuesOnRungs$Worths" 55 ⟨"DuesOnRungs$Fraction", "divide", "(LDuesOnRungs$Fraction;)V"⟩ ∈ LW := lw_LW (in_t3 _ (List.mem_of_getElem? (i := 134) rfl)) rfl
set_option maxRecDepth 20000 in
theorem w_681 : Cond.instanceMethod ⟨"DuesOnRungs$Fraction", "divide", "(LDuesOnRungs$Fraction;)V"⟩ ∈ LW := lw_LW (in_t3 _ (List.mem_of_getElem? (i := 135) rfl)) rfl
set_option maxRecDepth 20000 in
theorem w_682 : Cond.selects "DuesOnRungs$Fraction" ⟨"DuesOnRungs$Fraction", "divide", "(LDuesOnRungs$Fraction;)V"⟩ ⟨"DuesOnRungs$Fraction", "divide", "(LDuesOnRungs$Fraction;)V"⟩ ∈ LW := lw_LW (in_t3 _ (List.mem_of_getElem? (i := 136) rfl)) rfl
set_option maxRecDepth 20000 in
theorem w_683 : Cond.code ⟨"DuesOnRungs$Fraction", "divide", "(LDuesOnRungs$Fraction;)V"⟩ prog_6_method_7_code 3 (Option.none : Option FieldType) ∈ LW := lw_LW (in_t3 _ (List.mem_of_getElem? (i := 137) rfl)) rfl
set_option maxRecDepth 20000 in
theorem w_684 : Cond.methodLink "DuesOnRungs$Fraction" 31 ⟨"DuesOnRungs$Fraction", "product", "(JJ)J"⟩ ∈ LW := lw_LW (in_t3 _ (List.mem_of_getElem? (i := 138) rfl)) rfl
set_option maxRecDepth 20000 in
theorem w_685 : Cond.static ⟨"DuesOnRungs$Fraction", "product", "(JJ)J"⟩ ∈ LW := lw_LW (in_t3 _ (List.mem_of_getElem? (i := 139) rfl)) rfl
set_option maxRecDepth 20000 in
theorem w_686 : Cond.code ⟨"DuesOnRungs$Fraction", "product", "(JJ)J"⟩ prog_6_method_12_code 8 (Option.some FieldType.long) ∈ LW := lw_LW (in_t3 _ (List.mem_of_getElem? (i := 140) rfl)) rfl
set_option maxRecDepth 20000 in
theorem w_687 : Cond.constantLong "DuesOnRungs$Fraction" 47 (9223372036854775807 : Int64) ∈ LW := lw_LW (in_t3 _ (List.mem_of_getElem? (i := 141) rfl)) rfl
set_option maxRecDepth 20000 in
theorem w_688 : Cond.methodLink "DuesOnRungs$Worths" 59 ⟨"DuesOnRungs$Fraction", "add", "(LDuesOnRungs$Fraction;)V"⟩ ∈ LW := lw_LW (in_t3 _ (List.mem_of_getElem? (i := 142) rfl)) rfl
set_option maxRecDepth 20000 in
theorem w_689 : Cond.instanceMethod ⟨"DuesOnRungs$Fraction", "add", "(LDuesOnRungs$Fraction;)V"⟩ ∈ LW := lw_LW (in_t3 _ (List.mem_of_getElem? (i := 143) rfl)) rfl
set_option maxRecDepth 20000 in
theorem w_690 : Cond.selects "DuesOnRungs$Fraction" ⟨"DuesOnRungs$Fraction", "add", "(LDuesOnRungs$Fraction;)V"⟩ ⟨"DuesOnRungs$Fraction", "add", "(LDuesOnRungs$Fraction;)V"⟩ ∈ LW := lw_LW (in_t3 _ (List.mem_of_getElem? (i := 144) rfl)) rfl
set_option maxRecDepth 20000 in
theorem w_691 : Cond.code ⟨"DuesOnRungs$Fraction", "add", "(LDuesOnRungs$Fraction;)V"⟩ prog_6_method_5_code 8 (Option.none : Option FieldType) ∈ LW := lw_LW (in_t3 _ (List.mem_of_getElem? (i := 145) rfl)) rfl
set_option maxRecDepth 20000 in
theorem w_692 : Cond.methodLink "DuesOnRungs$Fraction" 37 ⟨"DuesOnRungs$Fraction", "sum", "(JJ)J"⟩ ∈ LW := lw_LW (in_t3 _ (List.mem_of_getElem? (i := 146) rfl)) rfl
set_option maxRecDepth 20000 in
theorem w_693 : Cond.static ⟨"DuesOnRungs$Fraction", "sum", "(JJ)J"⟩ ∈ LW := lw_LW (in_t3 _ (List.mem_of_getElem? (i := 147) rfl)) rfl
set_option maxRecDepth 20000 in
theorem w_694 : Cond.code ⟨"DuesOnRungs$Fraction", "sum", "(JJ)J"⟩ prog_6_method_13_code 7 (Option.some FieldType.long) ∈ LW := lw_LW (in_t3 _ (List.mem_of_getElem? (i := 148) rfl)) rfl
set_option maxRecDepth 20000 in
theorem w_695 : Cond.methodLink "DuesOnRungs" 214 ⟨"DuesOnRungs$Fraction", "part", "(I)J"⟩ ∈ LW := lw_LW (in_t3 _ (List.mem_of_getElem? (i := 149) rfl)) rfl
set_option maxRecDepth 20000 in
theorem w_696 : Cond.instanceMethod ⟨"DuesOnRungs$Fraction", "part", "(I)J"⟩ ∈ LW := lw_LW (in_t3 _ (List.mem_of_getElem? (i := 150) rfl)) rfl
set_option maxRecDepth 20000 in
theorem w_697 : Cond.selects "DuesOnRungs$Fraction" ⟨"DuesOnRungs$Fraction", "part", "(I)J"⟩ ⟨"DuesOnRungs$Fraction", "part", "(I)J"⟩ ∈ LW := lw_LW (in_t3 _ (List.mem_of_getElem? (i := 151) rfl)) rfl
set_option maxRecDepth 20000 in
theorem w_698 : Cond.code ⟨"DuesOnRungs$Fraction", "part", "(I)J"⟩ prog_6_method_9_code 2 (Option.some FieldType.long) ∈ LW := lw_LW (in_t3 _ (List.mem_of_getElem? (i := 152) rfl)) rfl
set_option maxRecDepth 20000 in
theorem w_699 : Cond.methodLink "DuesOnRungsLaw" 68 ⟨"DuesOnRungs", "length", "(III)J"⟩ ∈ LW := lw_LW (in_t3 _ (List.mem_of_getElem? (i := 153) rfl)) rfl
set_option maxRecDepth 20000 in
theorem w_700 : Cond.instanceMethod ⟨"DuesOnRungs", "length", "(III)J"⟩ ∈ LW := lw_LW (in_t3 _ (List.mem_of_getElem? (i := 154) rfl)) rfl
set_option maxRecDepth 20000 in
theorem w_701 : Cond.selects "DuesOnRungs" ⟨"DuesOnRungs", "length", "(III)J"⟩ ⟨"DuesOnRungs", "length", "(III)J"⟩ ∈ LW := lw_LW (in_t3 _ (List.mem_of_getElem? (i := 155) rfl)) rfl
set_option maxRecDepth 20000 in
theorem w_702 : Cond.code ⟨"DuesOnRungs", "length", "(III)J"⟩ prog_1_method_15_code 4 (Option.some FieldType.long) ∈ LW := lw_LW (in_t3 _ (List.mem_of_getElem? (i := 156) rfl)) rfl
set_option maxRecDepth 20000 in
theorem w_703 : Cond.methodLink "DuesOnRungs" 225 ⟨"DuesOnRungs$Worths", "reckonLength", "(I)V"⟩ ∈ LW := lw_LW (in_t3 _ (List.mem_of_getElem? (i := 157) rfl)) rfl
set_option maxRecDepth 20000 in
theorem w_704 : Cond.instanceMethod ⟨"DuesOnRungs$Worths", "reckonLength", "(I)V"⟩ ∈ LW := lw_LW (in_t3 _ (List.mem_of_getElem? (i := 158) rfl)) rfl
set_option maxRecDepth 20000 in
theorem w_705 : Cond.selects "DuesOnRungs$Worths" ⟨"DuesOnRungs$Worths", "reckonLength", "(I)V"⟩ ⟨"DuesOnRungs$Worths", "reckonLength", "(I)V"⟩ ∈ LW := lw_LW (in_t3 _ (List.mem_of_getElem? (i := 159) rfl)) rfl
set_option maxRecDepth 20000 in
theorem w_706 : Cond.code ⟨"DuesOnRungs$Worths", "reckonLength", "(I)V"⟩ prog_12_method_3_code 3 (Option.none : Option FieldType) ∈ LW := lw_LW (in_t3 _ (List.mem_of_getElem? (i := 160) rfl)) rfl
set_option maxRecDepth 20000 in
theorem w_707 : Cond.methodLink "DuesOnRungs$Worths" 62 ⟨"DuesOnRungs$Fraction", "multiply", "(LDuesOnRungs$Fraction;)V"⟩ ∈ LW := lw_LW (in_t3 _ (List.mem_of_getElem? (i := 161) rfl)) rfl
set_option maxRecDepth 20000 in
theorem w_708 : Cond.instanceMethod ⟨"DuesOnRungs$Fraction", "multiply", "(LDuesOnRungs$Fraction;)V"⟩ ∈ LW := lw_LW (in_t3 _ (List.mem_of_getElem? (i := 162) rfl)) rfl
set_option maxRecDepth 20000 in
theorem w_709 : Cond.selects "DuesOnRungs$Fraction" ⟨"DuesOnRungs$Fraction", "multiply", "(LDuesOnRungs$Fraction;)V"⟩ ⟨"DuesOnRungs$Fraction", "multiply", "(LDuesOnRungs$Fraction;)V"⟩ ∈ LW := lw_LW (in_t3 _ (List.mem_of_getElem? (i := 163) rfl)) rfl
set_option maxRecDepth 20000 in
theorem w_710 : Cond.code ⟨"DuesOnRungs$Fraction", "multiply", "(LDuesOnRungs$Fraction;)V"⟩ prog_6_method_6_code 2 (Option.none : Option FieldType) ∈ LW := lw_LW (in_t3 _ (List.mem_of_getElem? (i := 164) rfl)) rfl
set_option maxRecDepth 20000 in
theorem w_711 : Cond.methodLink "DuesOnRungs" 231 ⟨"DuesOnRungs$Worths", "reckonSpread", "(I)V"⟩ ∈ LW := lw_LW (in_t3 _ (List.mem_of_getElem? (i := 165) rfl)) rfl
set_option maxRecDepth 20000 in
theorem w_712 : Cond.instanceMethod ⟨"DuesOnRungs$Worths", "reckonSpread", "(I)V"⟩ ∈ LW := lw_LW (in_t3 _ (List.mem_of_getElem? (i := 166) rfl)) rfl
set_option maxRecDepth 20000 in
theorem w_713 : Cond.selects "DuesOnRungs$Worths" ⟨"DuesOnRungs$Worths", "reckonSpread", "(I)V"⟩ ⟨"DuesOnRungs$Worths", "reckonSpread", "(I)V"⟩ ∈ LW := lw_LW (in_t3 _ (List.mem_of_getElem? (i := 167) rfl)) rfl
set_option maxRecDepth 20000 in
theorem w_714 : Cond.code ⟨"DuesOnRungs$Worths", "reckonSpread", "(I)V"⟩ prog_12_method_4_code 3 (Option.none : Option FieldType) ∈ LW := lw_LW (in_t3 _ (List.mem_of_getElem? (i := 168) rfl)) rfl
set_option maxRecDepth 20000 in
theorem w_715 : Cond.methodLink "DuesOnRungs$Worths" 65 ⟨"DuesOnRungs$Fraction", "become", "(LDuesOnRungs$Fraction;)V"⟩ ∈ LW := lw_LW (in_t3 _ (List.mem_of_getElem? (i := 169) rfl)) rfl
set_option maxRecDepth 20000 in
theorem w_716 : Cond.instanceMethod ⟨"DuesOnRungs$Fraction", "become", "(LDuesOnRungs$Fraction;)V"⟩ ∈ LW := lw_LW (in_t3 _ (List.mem_of_getElem? (i := 170) rfl)) rfl
set_option maxRecDepth 20000 in
theorem w_717 : Cond.selects "DuesOnRungs$Fraction" ⟨"DuesOnRungs$Fraction", "become", "(LDuesOnRungs$Fraction;)V"⟩ ⟨"DuesOnRungs$Fraction", "become", "(LDuesOnRungs$Fraction;)V"⟩ ∈ LW := lw_LW (in_t3 _ (List.mem_of_getElem? (i := 171) rfl)) rfl
set_option maxRecDepth 20000 in
theorem w_718 : Cond.code ⟨"DuesOnRungs$Fraction", "become", "(LDuesOnRungs$Fraction;)V"⟩ prog_6_method_3_code 2 (Option.none : Option FieldType) ∈ LW := lw_LW (in_t3 _ (List.mem_of_getElem? (i := 172) rfl)) rfl
set_option maxRecDepth 20000 in
theorem w_719 : Cond.methodLink "DuesOnRungs$Worths" 67 ⟨"DuesOnRungs$Fraction", "negate", "()V"⟩ ∈ LW := lw_LW (in_t3 _ (List.mem_of_getElem? (i := 173) rfl)) rfl
set_option maxRecDepth 20000 in
theorem w_720 : Cond.instanceMethod ⟨"DuesOnRungs$Fraction", "negate", "()V"⟩ ∈ LW := lw_LW (in_t3 _ (List.mem_of_getElem? (i := 174) rfl)) rfl
set_option maxRecDepth 20000 in
theorem w_721 : Cond.selects "DuesOnRungs$Fraction" ⟨"DuesOnRungs$Fraction", "negate", "()V"⟩ ⟨"DuesOnRungs$Fraction", "negate", "()V"⟩ ∈ LW := lw_LW (in_t3 _ (List.mem_of_getElem? (i := 175) rfl)) rfl
set_option maxRecDepth 20000 in
theorem w_722 : Cond.code ⟨"DuesOnRungs$Fraction", "negate", "()V"⟩ prog_6_method_8_code 1 (Option.none : Option FieldType) ∈ LW := lw_LW (in_t3 _ (List.mem_of_getElem? (i := 176) rfl)) rfl
set_option maxRecDepth 20000 in
theorem w_723 : Cond.methodLink "DuesOnRungsLaw" 73 ⟨"DuesOnRungs", "surplus", "(I)J"⟩ ∈ LW := lw_LW (in_t3 _ (List.mem_of_getElem? (i := 177) rfl)) rfl
set_option maxRecDepth 20000 in
theorem w_724 : Cond.instanceMethod ⟨"DuesOnRungs", "surplus", "(I)J"⟩ ∈ LW := lw_LW (in_t3 _ (List.mem_of_getElem? (i := 178) rfl)) rfl
set_option maxRecDepth 20000 in
theorem w_725 : Cond.selects "DuesOnRungs" ⟨"DuesOnRungs", "surplus", "(I)J"⟩ ⟨"DuesOnRungs", "surplus", "(I)J"⟩ ∈ LW := lw_LW (in_t3 _ (List.mem_of_getElem? (i := 179) rfl)) rfl
set_option maxRecDepth 20000 in
theorem w_726 : Cond.code ⟨"DuesOnRungs", "surplus", "(I)J"⟩ prog_1_method_16_code 2 (Option.some FieldType.long) ∈ LW := lw_LW (in_t3 _ (List.mem_of_getElem? (i := 180) rfl)) rfl
set_option maxRecDepth 20000 in
theorem w_727 : Cond.methodLink "DuesOnRungs" 237 ⟨"DuesOnRungs$Fraction", "become", "(LDuesOnRungs$Fraction;)V"⟩ ∈ LW := lw_LW (in_t3 _ (List.mem_of_getElem? (i := 181) rfl)) rfl
set_option maxRecDepth 20000 in
theorem w_728 : Cond.methodLink "DuesOnRungs" 241 ⟨"DuesOnRungs$Fraction", "negate", "()V"⟩ ∈ LW := lw_LW (in_t3 _ (List.mem_of_getElem? (i := 182) rfl)) rfl
set_option maxRecDepth 20000 in
theorem w_729 : Cond.methodLink "DuesOnRungs" 244 ⟨"DuesOnRungs$Fraction", "add", "(LDuesOnRungs$Fraction;)V"⟩ ∈ LW := lw_LW (in_t3 _ (List.mem_of_getElem? (i := 183) rfl)) rfl
set_option maxRecDepth 20000 in
theorem w_730 : Cond.methodLink "DuesOnRungsLaw" 78 ⟨"DuesOnRungs", "least", "()I"⟩ ∈ LW := lw_LW (in_t3 _ (List.mem_of_getElem? (i := 184) rfl)) rfl
set_option maxRecDepth 20000 in
theorem w_731 : Cond.instanceMethod ⟨"DuesOnRungs", "least", "()I"⟩ ∈ LW := lw_LW (in_t3 _ (List.mem_of_getElem? (i := 185) rfl)) rfl
set_option maxRecDepth 20000 in
theorem w_732 : Cond.selects "DuesOnRungs" ⟨"DuesOnRungs", "least", "()I"⟩ ⟨"DuesOnRungs", "least", "()I"⟩ ∈ LW := lw_LW (in_t3 _ (List.mem_of_getElem? (i := 186) rfl)) rfl
set_option maxRecDepth 20000 in
theorem w_733 : Cond.code ⟨"DuesOnRungs", "least", "()I"⟩ prog_1_method_17_code 1 (Option.some FieldType.int) ∈ LW := lw_LW (in_t3 _ (List.mem_of_getElem? (i := 187) rfl)) rfl
set_option maxRecDepth 20000 in
theorem w_734 : Cond.methodLink "DuesOnRungs" 247 ⟨"DuesOnRungs", "solve", "()V"⟩ ∈ LW := lw_LW (in_t3 _ (List.mem_of_getElem? (i := 188) rfl)) rfl
set_option maxRecDepth 20000 in
theorem w_736 : Cond.instanceMethod ⟨"DuesOnRungs", "solve", "()V"⟩ ∈ LW := lw_LW (in_t3 _ (List.mem_of_getElem? (i := 190) rfl)) rfl
set_option maxRecDepth 20000 in
theorem w_737 : Cond.code ⟨"DuesOnRungs", "solve", "()V"⟩ prog_1_method_44_code 1 (Option.none : Option FieldType) ∈ LW := lw_LW (in_t3 _ (List.mem_of_getElem? (i := 191) rfl)) rfl
set_option maxRecDepth 20000 in
theorem w_738 : Cond.methodLink "DuesOnRungs" 383 ⟨"DuesOnRungs$Dictionary", "begin", "(LDuesOnRungs$Book;LDuesOnRungs$Scene;)V"⟩ ∈ LW := lw_LW (in_t3 _ (List.mem_of_getElem? (i := 192) rfl)) rfl
set_option maxRecDepth 20000 in
theorem w_739 : Cond.instanceMethod ⟨"DuesOnRungs$Dictionary", "begin", "(LDuesOnRungs$Book;LDuesOnRungs$Scene;)V"⟩ ∈ LW := lw_LW (in_t3 _ (List.mem_of_getElem? (i := 193) rfl)) rfl
set_option maxRecDepth 20000 in
theorem w_740 : Cond.selects "DuesOnRungs$Dictionary" ⟨"DuesOnRungs$Dictionary", "begin", "(LDuesOnRungs$Book;LDuesOnRungs$Scene;)V"⟩ ⟨"DuesOnRungs$Dictionary", "begin", "(LDuesOnRungs$Book;LDuesOnRungs$Scene;)V"⟩ ∈ LW := lw_LW (in_t3 _ (List.mem_of_getElem? (i := 194) rfl)) rfl
set_option maxRecDepth 20000 in
theorem w_741 : Cond.code ⟨"DuesOnRungs$Dictionary", "begin", "(LDuesOnRungs$Book;LDuesOnRungs$Scene;)V"⟩ prog_5_method_2_code 5 (Option.none : Option FieldType) ∈ LW := lw_LW (in_t3 _ (List.mem_of_getElem? (i := 195) rfl)) rfl
set_option maxRecDepth 20000 in
theorem w_742 : Cond.methodLink "DuesOnRungs$Dictionary" 51 ⟨"DuesOnRungs$Row", "begin", "(I)V"⟩ ∈ LW := lw_LW (in_t3 _ (List.mem_of_getElem? (i := 196) rfl)) rfl
set_option maxRecDepth 20000 in
theorem w_743 : Cond.instanceMethod ⟨"DuesOnRungs$Row", "begin", "(I)V"⟩ ∈ LW := lw_LW (in_t3 _ (List.mem_of_getElem? (i := 197) rfl)) rfl
set_option maxRecDepth 20000 in
theorem w_744 : Cond.selects "DuesOnRungs$Row" ⟨"DuesOnRungs$Row", "begin", "(I)V"⟩ ⟨"DuesOnRungs$Row", "begin", "(I)V"⟩ ∈ LW := lw_LW (in_t3 _ (List.mem_of_getElem? (i := 198) rfl)) rfl
set_option maxRecDepth 20000 in
theorem w_745 : Cond.code ⟨"DuesOnRungs$Row", "begin", "(I)V"⟩ prog_9_method_2_code 3 (Option.none : Option FieldType) ∈ LW := lw_LW (in_t3 _ (List.mem_of_getElem? (i := 199) rfl)) rfl
set_option maxRecDepth 20000 in
theorem w_746 : Cond.methodLink "DuesOnRungs$Row" 26 ⟨"DuesOnRungs$Fraction", "become", "(JJ)V"⟩ ∈ LW := lw_LW (in_t3 _ (List.mem_of_getElem? (i := 200) rfl)) rfl
set_option maxRecDepth 20000 in
theorem w_747 : Cond.methodLink "DuesOnRungs$Dictionary" 68 ⟨"DuesOnRungs$Fraction", "become", "(JJ)V"⟩ ∈ LW := lw_LW (in_t3 _ (List.mem_of_getElem? (i := 201) rfl)) rfl
set_option maxRecDepth 20000 in
theorem w_748 : Cond.methodLink "DuesOnRungs$Dictionary" 80 ⟨"DuesOnRungs$Dictionary", "beginCarry", "(ILDuesOnRungs$Scene;)V"⟩ ∈ LW := lw_LW (in_t3 _ (List.mem_of_getElem? (i := 202) rfl)) rfl
set_option maxRecDepth 20000 in
theorem w_750 : Cond.instanceMethod ⟨"DuesOnRungs$Dictionary", "beginCarry", "(ILDuesOnRungs$Scene;)V"⟩ ∈ LW := lw_LW (in_t3 _ (List.mem_of_getElem? (i := 204) rfl)) rfl
set_option maxRecDepth 20000 in
theorem w_751 : Cond.code ⟨"DuesOnRungs$Dictionary", "beginCarry", "(ILDuesOnRungs$Scene;)V"⟩ prog_5_method_7_code 5 (Option.none : Option FieldType) ∈ LW := lw_LW (in_t3 _ (List.mem_of_getElem? (i := 205) rfl)) rfl
set_option maxRecDepth 20000 in
theorem w_752 : Cond.methodLink "DuesOnRungs$Dictionary" 88 ⟨"DuesOnRungs$Row", "become", "(LDuesOnRungs$Row;)V"⟩ ∈ LW := lw_LW (in_t3 _ (List.mem_of_getElem? (i := 206) rfl)) rfl
set_option maxRecDepth 20000 in
theorem w_753 : Cond.instanceMethod ⟨"DuesOnRungs$Row", "become", "(LDuesOnRungs$Row;)V"⟩ ∈ LW := lw_LW (in_t3 _ (List.mem_of_getElem? (i := 207) rfl)) rfl
set_option maxRecDepth 20000 in
theorem w_754 : Cond.selects "DuesOnRungs$Row" ⟨"DuesOnRungs$Row", "become", "(LDuesOnRungs$Row;)V"⟩ ⟨"DuesOnRungs$Row", "become", "(LDuesOnRungs$Row;)V"⟩ ∈ LW := lw_LW (in_t3 _ (List.mem_of_getElem? (i := 208) rfl)) rfl
set_option maxRecDepth 20000 in
theorem w_755 : Cond.code ⟨"DuesOnRungs$Row", "become", "(LDuesOnRungs$Row;)V"⟩ prog_9_method_3_code 3 (Option.none : Option FieldType) ∈ LW := lw_LW (in_t3 _ (List.mem_of_getElem? (i := 209) rfl)) rfl
set_option maxRecDepth 20000 in
theorem w_756 : Cond.methodLink "DuesOnRungs$Row" 30 ⟨"DuesOnRungs$Fraction", "become", "(LDuesOnRungs$Fraction;)V"⟩ ∈ LW := lw_LW (in_t3 _ (List.mem_of_getElem? (i := 210) rfl)) rfl
set_option maxRecDepth 20000 in
theorem w_757 : Cond.methodLink "DuesOnRungs$Dictionary" 129 ⟨"DuesOnRungs$Fraction", "becomeFactor", "(I)V"⟩ ∈ LW := lw_LW (in_t3 _ (List.mem_of_getElem? (i := 211) rfl)) rfl
set_option maxRecDepth 20000 in
theorem w_758 : Cond.methodLink "DuesOnRungs$Dictionary" 140 ⟨"DuesOnRungs$Row", "multiply", "(LDuesOnRungs$Fraction;)V"⟩ ∈ LW := lw_LW (in_t3 _ (List.mem_of_getElem? (i := 212) rfl)) rfl
set_option maxRecDepth 20000 in
theorem w_759 : Cond.instanceMethod ⟨"DuesOnRungs$Row", "multiply", "(LDuesOnRungs$Fraction;)V"⟩ ∈ LW := lw_LW (in_t3 _ (List.mem_of_getElem? (i := 213) rfl)) rfl
set_option maxRecDepth 20000 in
theorem w_760 : Cond.selects "DuesOnRungs$Row" ⟨"DuesOnRungs$Row", "multiply", "(LDuesOnRungs$Fraction;)V"⟩ ⟨"DuesOnRungs$Row", "multiply", "(LDuesOnRungs$Fraction;)V"⟩ ∈ LW := lw_LW (in_t3 _ (List.mem_of_getElem? (i := 214) rfl)) rfl
set_option maxRecDepth 20000 in
theorem w_761 : Cond.code ⟨"DuesOnRungs$Row", "multiply", "(LDuesOnRungs$Fraction;)V"⟩ prog_9_method_4_code 3 (Option.none : Option FieldType) ∈ LW := lw_LW (in_t3 _ (List.mem_of_getElem? (i := 215) rfl)) rfl
set_option maxRecDepth 20000 in
theorem w_762 : Cond.methodLink "DuesOnRungs$Row" 33 ⟨"DuesOnRungs$Fraction", "multiply", "(LDuesOnRungs$Fraction;)V"⟩ ∈ LW := lw_LW (in_t3 _ (List.mem_of_getElem? (i := 216) rfl)) rfl
set_option maxRecDepth 20000 in
theorem w_763 : Cond.methodLink "DuesOnRungs$Dictionary" 100 ⟨"DuesOnRungs$Fraction", "add", "(LDuesOnRungs$Fraction;)V"⟩ ∈ LW := lw_LW (in_t3 _ (List.mem_of_getElem? (i := 217) rfl)) rfl
set_option maxRecDepth 20000 in
theorem w_764 : Cond.methodLink "DuesOnRungs$Dictionary" 84 ⟨"DuesOnRungs$Scene", "isLimited", "(I)Z"⟩ ∈ LW := lw_LW (in_t3 _ (List.mem_of_getElem? (i := 218) rfl)) rfl
set_option maxRecDepth 20000 in
theorem w_765 : Cond.instanceMethod ⟨"DuesOnRungs$Scene", "isLimited", "(I)Z"⟩ ∈ LW := lw_LW (in_t3 _ (List.mem_of_getElem? (i := 219) rfl)) rfl
set_option maxRecDepth 20000 in
theorem w_766 : Cond.selects "DuesOnRungs$Scene" ⟨"DuesOnRungs$Scene", "isLimited", "(I)Z"⟩ ⟨"DuesOnRungs$Scene", "isLimited", "(I)Z"⟩ ∈ LW := lw_LW (in_t3 _ (List.mem_of_getElem? (i := 220) rfl)) rfl
set_option maxRecDepth 20000 in
theorem w_767 : Cond.code ⟨"DuesOnRungs$Scene", "isLimited", "(I)Z"⟩ prog_10_method_4_code 2 (Option.some FieldType.boolean) ∈ LW := lw_LW (in_t3 _ (List.mem_of_getElem? (i := 221) rfl)) rfl
set_option maxRecDepth 20000 in
theorem w_768 : Cond.methodLink "DuesOnRungs$Dictionary" 91 ⟨"DuesOnRungs$Row", "negate", "()V"⟩ ∈ LW := lw_LW (in_t3 _ (List.mem_of_getElem? (i := 222) rfl)) rfl
set_option maxRecDepth 20000 in
theorem w_769 : Cond.instanceMethod ⟨"DuesOnRungs$Row", "negate", "()V"⟩ ∈ LW := lw_LW (in_t3 _ (List.mem_of_getElem? (i := 223) rfl)) rfl
set_option maxRecDepth 20000 in
theorem w_770 : Cond.selects "DuesOnRungs$Row" ⟨"DuesOnRungs$Row", "negate", "()V"⟩ ⟨"DuesOnRungs$Row", "negate", "()V"⟩ ∈ LW := lw_LW (in_t3 _ (List.mem_of_getElem? (i := 224) rfl)) rfl
set_option maxRecDepth 20000 in
theorem w_771 : Cond.code ⟨"DuesOnRungs$Row", "negate", "()V"⟩ prog_9_method_5_code 2 (Option.none : Option FieldType) ∈ LW := lw_LW (in_t3 _ (List.mem_of_getElem? (i := 225) rfl)) rfl
set_option maxRecDepth 20000 in
theorem w_772 : Cond.methodLink "DuesOnRungs$Row" 36 ⟨"DuesOnRungs$Fraction", "negate", "()V"⟩ ∈ LW := lw_LW (in_t3 _ (List.mem_of_getElem? (i := 226) rfl)) rfl
set_option maxRecDepth 20000 in
theorem w_773 : Cond.methodLink "DuesOnRungs" 385 ⟨"DuesOnRungs$Dictionary", "solve", "()I"⟩ ∈ LW := lw_LW (in_t3 _ (List.mem_of_getElem? (i := 227) rfl)) rfl
set_option maxRecDepth 20000 in
theorem w_774 : Cond.instanceMethod ⟨"DuesOnRungs$Dictionary", "solve", "()I"⟩ ∈ LW := lw_LW (in_t3 _ (List.mem_of_getElem? (i := 228) rfl)) rfl
set_option maxRecDepth 20000 in
theorem w_775 : Cond.selects "DuesOnRungs$Dictionary" ⟨"DuesOnRungs$Dictionary", "solve", "()I"⟩ ⟨"DuesOnRungs$Dictionary", "solve", "()I"⟩ ∈ LW := lw_LW (in_t3 _ (List.mem_of_getElem? (i := 229) rfl)) rfl
set_option maxRecDepth 20000 in
theorem w_776 : Cond.code ⟨"DuesOnRungs$Dictionary", "solve", "()I"⟩ prog_5_method_3_code 4 (Option.some FieldType.int) ∈ LW := lw_LW (in_t3 _ (List.mem_of_getElem? (i := 230) rfl)) rfl
set_option maxRecDepth 20000 in
theorem w_777 : Cond.constant "DuesOnRungs$Dictionary" 104 (1000000 : Int32) ∈ LW := lw_LW (in_t3 _ (List.mem_of_getElem? (i := 231) rfl)) rfl
set_option maxRecDepth 20000 in
theorem w_778 : Cond.methodLink "DuesOnRungs$Dictionary" 105 ⟨"DuesOnRungs$Dictionary", "findLeaving", "()I"⟩ ∈ LW := lw_LW (in_t3 _ (List.mem_of_getElem? (i := 232) rfl)) rfl
set_option maxRecDepth 20000 in
theorem w_780 : Cond.instanceMethod ⟨"DuesOnRungs$Dictionary", "findLeaving", "()I"⟩ ∈ LW := lw_LW (in_t3 _ (List.mem_of_getElem? (i := 234) rfl)) rfl
set_option maxRecDepth 20000 in
theorem w_781 : Cond.code ⟨"DuesOnRungs$Dictionary", "findLeaving", "()I"⟩ prog_5_method_8_code 3 (Option.some FieldType.int) ∈ LW := lw_LW (in_t3 _ (List.mem_of_getElem? (i := 235) rfl)) rfl
set_option maxRecDepth 20000 in
theorem w_782 : Cond.methodLink "DuesOnRungs$Dictionary" 109 ⟨"DuesOnRungs$Dictionary", "findEntering", "(LDuesOnRungs$Row;)I"⟩ ∈ LW := lw_LW (in_t3 _ (List.mem_of_getElem? (i := 236) rfl)) rfl
set_option maxRecDepth 20000 in
theorem w_784 : Cond.instanceMethod ⟨"DuesOnRungs$Dictionary", "findEntering", "(LDuesOnRungs$Row;)I"⟩ ∈ LW := lw_LW (in_t3 _ (List.mem_of_getElem? (i := 238) rfl)) rfl
set_option maxRecDepth 20000 in
theorem w_785 : Cond.code ⟨"DuesOnRungs$Dictionary", "findEntering", "(LDuesOnRungs$Row;)I"⟩ prog_5_method_9_code 5 (Option.some FieldType.int) ∈ LW := lw_LW (in_t3 _ (List.mem_of_getElem? (i := 239) rfl)) rfl
set_option maxRecDepth 20000 in
theorem w_786 : Cond.methodLink "DuesOnRungs$Dictionary" 124 ⟨"DuesOnRungs$Fraction", "become", "(LDuesOnRungs$Fraction;)V"⟩ ∈ LW := lw_LW (in_t4 _ (List.mem_of_getElem? (i := 0) rfl)) rfl
set_option maxRecDepth 20000 in
theorem w_787 : Cond.methodLink "DuesOnRungs$Dictionary" 152 ⟨"DuesOnRungs$Fraction", "divide", "(LDuesOnRungs$Fraction;)V"⟩ ∈ LW := lw_LW (in_t4 _ (List.mem_of_getElem? (i := 1) rfl)) rfl
set_option maxRecDepth 20000 in
theorem w_788 : Cond.methodLink "DuesOnRungs$Dictionary" 159 ⟨"DuesOnRungs$Fraction", "compare", "(LDuesOnRungs$Fraction;)I"⟩ ∈ LW := lw_LW (in_t4 _ (List.mem_of_getElem? (i := 2) rfl)) rfl
set_option maxRecDepth 20000 in
theorem w_789 : Cond.instanceMethod ⟨"DuesOnRungs$Fraction", "compare", "(LDuesOnRungs$Fraction;)I"⟩ ∈ LW := lw_LW (in_t4 _ (List.mem_of_getElem? (i := 3) rfl)) rfl
set_option maxRecDepth 20000 in
theorem w_790 : Cond.selects "DuesOnRungs$Fraction" ⟨"DuesOnRungs$Fraction", "compare", "(LDuesOnRungs$Fraction;)I"⟩ ⟨"DuesOnRungs$Fraction", "compare", "(LDuesOnRungs$Fraction;)I"⟩ ∈ LW := lw_LW (in_t4 _ (List.mem_of_getElem? (i := 4) rfl)) rfl
set_option maxRecDepth 20000 in
theorem w_791 : Cond.code ⟨"DuesOnRungs$Fraction", "compare", "(LDuesOnRungs$Fraction;)I"⟩ prog_6_method_10_code 20 (Option.some FieldType.int) ∈ LW := lw_LW (in_t4 _ (List.mem_of_getElem? (i := 5) rfl)) rfl
set_option maxRecDepth 20000 in
theorem w_792 : Cond.methodLink "DuesOnRungs$Fraction" 40 ⟨"java/lang/Math", "floorDiv", "(JJ)J"⟩ ∈ LW := lw_LW (in_t4 _ (List.mem_of_getElem? (i := 6) rfl)) rfl
set_option maxRecDepth 20000 in
theorem w_793 : Cond.static ⟨"java/lang/Math", "floorDiv", "(JJ)J"⟩ ∈ LW := lw_LW (in_t4 _ (List.mem_of_getElem? (i := 7) rfl)) rfl
set_option maxRecDepth 20000 in
theorem w_794 : Cond.code ⟨"java/lang/Math", "floorDiv", "(JJ)J"⟩ prog_16_method_49_code 6 (Option.some FieldType.long) ∈ LW := lw_LW (in_t4 _ (List.mem_of_getElem? (i := 8) rfl)) rfl
set_option maxRecDepth 20000 in
theorem w_795 : Cond.methodLink "DuesOnRungs$Dictionary" 113 ⟨"DuesOnRungs$Dictionary", "exchange", "(II)V"⟩ ∈ LW := lw_LW (in_t4 _ (List.mem_of_getElem? (i := 9) rfl)) rfl
set_option maxRecDepth 20000 in
theorem w_797 : Cond.instanceMethod ⟨"DuesOnRungs$Dictionary", "exchange", "(II)V"⟩ ∈ LW := lw_LW (in_t4 _ (List.mem_of_getElem? (i := 11) rfl)) rfl
set_option maxRecDepth 20000 in
theorem w_798 : Cond.code ⟨"DuesOnRungs$Dictionary", "exchange", "(II)V"⟩ prog_5_method_10_code 6 (Option.none : Option FieldType) ∈ LW := lw_LW (in_t4 _ (List.mem_of_getElem? (i := 12) rfl)) rfl
set_option maxRecDepth 20000 in
theorem w_799 : Cond.methodLink "DuesOnRungs$Dictionary" 163 ⟨"DuesOnRungs$Dictionary", "solveFor", "(LDuesOnRungs$Row;I)V"⟩ ∈ LW := lw_LW (in_t4 _ (List.mem_of_getElem? (i := 13) rfl)) rfl
set_option maxRecDepth 20000 in
theorem w_801 : Cond.instanceMethod ⟨"DuesOnRungs$Dictionary", "solveFor", "(LDuesOnRungs$Row;I)V"⟩ ∈ LW := lw_LW (in_t4 _ (List.mem_of_getElem? (i := 15) rfl)) rfl
set_option maxRecDepth 20000 in
theorem w_802 : Cond.code ⟨"DuesOnRungs$Dictionary", "solveFor", "(LDuesOnRungs$Row;I)V"⟩ prog_5_method_11_code 4 (Option.none : Option FieldType) ∈ LW := lw_LW (in_t4 _ (List.mem_of_getElem? (i := 16) rfl)) rfl
set_option maxRecDepth 20000 in
theorem w_803 : Cond.methodLink "DuesOnRungs$Dictionary" 139 ⟨"DuesOnRungs$Fraction", "negate", "()V"⟩ ∈ LW := lw_LW (in_t4 _ (List.mem_of_getElem? (i := 17) rfl)) rfl
set_option maxRecDepth 20000 in
theorem w_804 : Cond.methodLink "DuesOnRungs$Dictionary" 167 ⟨"DuesOnRungs$Dictionary", "replaceIn", "(LDuesOnRungs$Row;LDuesOnRungs$Row;I)V"⟩ ∈ LW := lw_LW (in_t4 _ (List.mem_of_getElem? (i := 18) rfl)) rfl
set_option maxRecDepth 20000 in
theorem w_806 : Cond.instanceMethod ⟨"DuesOnRungs$Dictionary", "replaceIn", "(LDuesOnRungs$Row;LDuesOnRungs$Row;I)V"⟩ ∈ LW := lw_LW (in_t4 _ (List.mem_of_getElem? (i := 20) rfl)) rfl
set_option maxRecDepth 20000 in
theorem w_807 : Cond.code ⟨"DuesOnRungs$Dictionary", "replaceIn", "(LDuesOnRungs$Row;LDuesOnRungs$Row;I)V"⟩ prog_5_method_12_code 5 (Option.none : Option FieldType) ∈ LW := lw_LW (in_t4 _ (List.mem_of_getElem? (i := 21) rfl)) rfl
set_option maxRecDepth 20000 in
theorem w_808 : Cond.methodLink "DuesOnRungs$Dictionary" 132 ⟨"DuesOnRungs$Fraction", "multiply", "(LDuesOnRungs$Fraction;)V"⟩ ∈ LW := lw_LW (in_t4 _ (List.mem_of_getElem? (i := 22) rfl)) rfl
set_option maxRecDepth 20000 in
theorem w_809 : Cond.methodLink "DuesOnRungs$Dictionary" 117 ⟨"DuesOnRungs$Dictionary", "isGreat", "()Z"⟩ ∈ LW := lw_LW (in_t4 _ (List.mem_of_getElem? (i := 23) rfl)) rfl
set_option maxRecDepth 20000 in
theorem w_811 : Cond.instanceMethod ⟨"DuesOnRungs$Dictionary", "isGreat", "()Z"⟩ ∈ LW := lw_LW (in_t4 _ (List.mem_of_getElem? (i := 25) rfl)) rfl
set_option maxRecDepth 20000 in
theorem w_812 : Cond.code ⟨"DuesOnRungs$Dictionary", "isGreat", "()Z"⟩ prog_5_method_13_code 3 (Option.some FieldType.boolean) ∈ LW := lw_LW (in_t4 _ (List.mem_of_getElem? (i := 26) rfl)) rfl
set_option maxRecDepth 20000 in
theorem w_813 : Cond.methodLink "DuesOnRungs$Dictionary" 171 ⟨"DuesOnRungs$Row", "isGreat", "()Z"⟩ ∈ LW := lw_LW (in_t4 _ (List.mem_of_getElem? (i := 27) rfl)) rfl
set_option maxRecDepth 20000 in
theorem w_814 : Cond.instanceMethod ⟨"DuesOnRungs$Row", "isGreat", "()Z"⟩ ∈ LW := lw_LW (in_t4 _ (List.mem_of_getElem? (i := 28) rfl)) rfl
set_option maxRecDepth 20000 in
theorem w_815 : Cond.selects "DuesOnRungs$Row" ⟨"DuesOnRungs$Row", "isGreat", "()Z"⟩ ⟨"DuesOnRungs$Row", "isGreat", "()Z"⟩ ∈ LW := lw_LW (in_t4 _ (List.mem_of_getElem? (i := 29) rfl)) rfl
set_option maxRecDepth 20000 in
theorem w_816 : Cond.code ⟨"DuesOnRungs$Row", "isGreat", "()Z"⟩ prog_9_method_6_code 3 (Option.some FieldType.boolean) ∈ LW := lw_LW (in_t4 _ (List.mem_of_getElem? (i := 30) rfl)) rfl
set_option maxRecDepth 20000 in
theorem w_817 : Cond.methodLink "DuesOnRungsLaw" 83 ⟨"DuesOnRungs", "amount", "(II)J"⟩ ∈ LW := lw_LW (in_t4 _ (List.mem_of_getElem? (i := 31) rfl)) rfl
set_option maxRecDepth 20000 in
theorem w_818 : Cond.instanceMethod ⟨"DuesOnRungs", "amount", "(II)J"⟩ ∈ LW := lw_LW (in_t4 _ (List.mem_of_getElem? (i := 32) rfl)) rfl
set_option maxRecDepth 20000 in
theorem w_819 : Cond.selects "DuesOnRungs" ⟨"DuesOnRungs", "amount", "(II)J"⟩ ⟨"DuesOnRungs", "amount", "(II)J"⟩ ∈ LW := lw_LW (in_t4 _ (List.mem_of_getElem? (i := 33) rfl)) rfl
set_option maxRecDepth 20000 in
theorem w_820 : Cond.code ⟨"DuesOnRungs", "amount", "(II)J"⟩ prog_1_method_18_code 3 (Option.some FieldType.long) ∈ LW := lw_LW (in_t4 _ (List.mem_of_getElem? (i := 34) rfl)) rfl
set_option maxRecDepth 20000 in
theorem w_821 : Cond.methodLink "DuesOnRungs" 262 ⟨"DuesOnRungs$Dictionary", "amountOf", "(ILDuesOnRungs$Fraction;)V"⟩ ∈ LW := lw_LW (in_t4 _ (List.mem_of_getElem? (i := 35) rfl)) rfl
set_option maxRecDepth 20000 in
theorem w_822 : Cond.instanceMethod ⟨"DuesOnRungs$Dictionary", "amountOf", "(ILDuesOnRungs$Fraction;)V"⟩ ∈ LW := lw_LW (in_t4 _ (List.mem_of_getElem? (i := 36) rfl)) rfl
set_option maxRecDepth 20000 in
theorem w_823 : Cond.selects "DuesOnRungs$Dictionary" ⟨"DuesOnRungs$Dictionary", "amountOf", "(ILDuesOnRungs$Fraction;)V"⟩ ⟨"DuesOnRungs$Dictionary", "amountOf", "(ILDuesOnRungs$Fraction;)V"⟩ ∈ LW := lw_LW (in_t4 _ (List.mem_of_getElem? (i := 37) rfl)) rfl
set_option maxRecDepth 20000 in
theorem w_824 : Cond.code ⟨"DuesOnRungs$Dictionary", "amountOf", "(ILDuesOnRungs$Fraction;)V"⟩ prog_5_method_4_code 4 (Option.none : Option FieldType) ∈ LW := lw_LW (in_t4 _ (List.mem_of_getElem? (i := 38) rfl)) rfl
set_option maxRecDepth 20000 in
theorem w_825 : Cond.methodLink "DuesOnRungsLaw" 87 ⟨"DuesOnRungs", "proof", "(III)J"⟩ ∈ LW := lw_LW (in_t4 _ (List.mem_of_getElem? (i := 39) rfl)) rfl
set_option maxRecDepth 20000 in
theorem w_826 : Cond.instanceMethod ⟨"DuesOnRungs", "proof", "(III)J"⟩ ∈ LW := lw_LW (in_t4 _ (List.mem_of_getElem? (i := 40) rfl)) rfl
set_option maxRecDepth 20000 in
theorem w_827 : Cond.selects "DuesOnRungs" ⟨"DuesOnRungs", "proof", "(III)J"⟩ ⟨"DuesOnRungs", "proof", "(III)J"⟩ ∈ LW := lw_LW (in_t4 _ (List.mem_of_getElem? (i := 41) rfl)) rfl
set_option maxRecDepth 20000 in
theorem w_828 : Cond.code ⟨"DuesOnRungs", "proof", "(III)J"⟩ prog_1_method_19_code 4 (Option.some FieldType.long) ∈ LW := lw_LW (in_t4 _ (List.mem_of_getElem? (i := 42) rfl)) rfl
set_option maxRecDepth 20000 in
theorem w_829 : Cond.methodLink "DuesOnRungs" 266 ⟨"DuesOnRungs$Dictionary", "priceOf", "(ILDuesOnRungs$Fraction;)V"⟩ ∈ LW := lw_LW (in_t4 _ (List.mem_of_getElem? (i := 43) rfl)) rfl
set_option maxRecDepth 20000 in
theorem w_830 : Cond.instanceMethod ⟨"DuesOnRungs$Dictionary", "priceOf", "(ILDuesOnRungs$Fraction;)V"⟩ ∈ LW := lw_LW (in_t4 _ (List.mem_of_getElem? (i := 44) rfl)) rfl
set_option maxRecDepth 20000 in
theorem w_831 : Cond.selects "DuesOnRungs$Dictionary" ⟨"DuesOnRungs$Dictionary", "priceOf", "(ILDuesOnRungs$Fraction;)V"⟩ ⟨"DuesOnRungs$Dictionary", "priceOf", "(ILDuesOnRungs$Fraction;)V"⟩ ∈ LW := lw_LW (in_t4 _ (List.mem_of_getElem? (i := 45) rfl)) rfl
set_option maxRecDepth 20000 in
theorem w_832 : Cond.code ⟨"DuesOnRungs$Dictionary", "priceOf", "(ILDuesOnRungs$Fraction;)V"⟩ prog_5_method_5_code 4 (Option.none : Option FieldType) ∈ LW := lw_LW (in_t4 _ (List.mem_of_getElem? (i := 46) rfl)) rfl
set_option maxRecDepth 20000 in
theorem w_833 : Cond.methodLink "DuesOnRungs" 269 ⟨"DuesOnRungs$Dictionary", "prove", "(ILDuesOnRungs$Scene;LDuesOnRungs$Fraction;)V"⟩ ∈ LW := lw_LW (in_t4 _ (List.mem_of_getElem? (i := 47) rfl)) rfl
set_option maxRecDepth 20000 in
theorem w_834 : Cond.instanceMethod ⟨"DuesOnRungs$Dictionary", "prove", "(ILDuesOnRungs$Scene;LDuesOnRungs$Fraction;)V"⟩ ∈ LW := lw_LW (in_t4 _ (List.mem_of_getElem? (i := 48) rfl)) rfl
set_option maxRecDepth 20000 in
theorem w_835 : Cond.selects "DuesOnRungs$Dictionary" ⟨"DuesOnRungs$Dictionary", "prove", "(ILDuesOnRungs$Scene;LDuesOnRungs$Fraction;)V"⟩ ⟨"DuesOnRungs$Dictionary", "prove", "(ILDuesOnRungs$Scene;LDuesOnRungs$Fraction;)V"⟩ ∈ LW := lw_LW (in_t4 _ (List.mem_of_getElem? (i := 49) rfl)) rfl
set_option maxRecDepth 20000 in
theorem w_836 : Cond.code ⟨"DuesOnRungs$Dictionary", "prove", "(ILDuesOnRungs$Scene;LDuesOnRungs$Fraction;)V"⟩ prog_5_method_6_code 5 (Option.none : Option FieldType) ∈ LW := lw_LW (in_t4 _ (List.mem_of_getElem? (i := 50) rfl)) rfl
set_option maxRecDepth 20000 in
theorem w_837 : Cond.methodLink "DuesOnRungs$Dictionary" 135 ⟨"DuesOnRungs$Dictionary", "priceOf", "(ILDuesOnRungs$Fraction;)V"⟩ ∈ LW := lw_LW (in_t4 _ (List.mem_of_getElem? (i := 51) rfl)) rfl
set_option maxRecDepth 20000 in
theorem w_838 : Cond.methodLink "DuesOnRungsLaw" 91 ⟨"DuesOnRungs", "ladder", "(II)I"⟩ ∈ LW := lw_LW (in_t4 _ (List.mem_of_getElem? (i := 52) rfl)) rfl
set_option maxRecDepth 20000 in
theorem w_839 : Cond.instanceMethod ⟨"DuesOnRungs", "ladder", "(II)I"⟩ ∈ LW := lw_LW (in_t4 _ (List.mem_of_getElem? (i := 53) rfl)) rfl
set_option maxRecDepth 20000 in
theorem w_840 : Cond.selects "DuesOnRungs" ⟨"DuesOnRungs", "ladder", "(II)I"⟩ ⟨"DuesOnRungs", "ladder", "(II)I"⟩ ∈ LW := lw_LW (in_t4 _ (List.mem_of_getElem? (i := 54) rfl)) rfl
set_option maxRecDepth 20000 in
theorem w_841 : Cond.code ⟨"DuesOnRungs", "ladder", "(II)I"⟩ prog_1_method_20_code 3 (Option.some FieldType.int) ∈ LW := lw_LW (in_t4 _ (List.mem_of_getElem? (i := 55) rfl)) rfl
set_option maxRecDepth 20000 in
theorem w_842 : Cond.methodLink "DuesOnRungs" 273 ⟨"DuesOnRungs$Ladder", "buy", "(LDuesOnRungs$Book;LDuesOnRungs$Scene;)V"⟩ ∈ LW := lw_LW (in_t4 _ (List.mem_of_getElem? (i := 56) rfl)) rfl
set_option maxRecDepth 20000 in
theorem w_843 : Cond.instanceMethod ⟨"DuesOnRungs$Ladder", "buy", "(LDuesOnRungs$Book;LDuesOnRungs$Scene;)V"⟩ ∈ LW := lw_LW (in_t4 _ (List.mem_of_getElem? (i := 57) rfl)) rfl
set_option maxRecDepth 20000 in
theorem w_844 : Cond.selects "DuesOnRungs$Ladder" ⟨"DuesOnRungs$Ladder", "buy", "(LDuesOnRungs$Book;LDuesOnRungs$Scene;)V"⟩ ⟨"DuesOnRungs$Ladder", "buy", "(LDuesOnRungs$Book;LDuesOnRungs$Scene;)V"⟩ ∈ LW := lw_LW (in_t4 _ (List.mem_of_getElem? (i := 58) rfl)) rfl
set_option maxRecDepth 20000 in
theorem w_845 : Cond.code ⟨"DuesOnRungs$Ladder", "buy", "(LDuesOnRungs$Book;LDuesOnRungs$Scene;)V"⟩ prog_7_method_3_code 5 (Option.none : Option FieldType) ∈ LW := lw_LW (in_t4 _ (List.mem_of_getElem? (i := 59) rfl)) rfl
set_option maxRecDepth 20000 in
theorem w_846 : Cond.methodLink "DuesOnRungs$Ladder" 28 ⟨"java/util/Arrays", "fill", "([II)V"⟩ ∈ LW := lw_LW (in_t4 _ (List.mem_of_getElem? (i := 60) rfl)) rfl
set_option maxRecDepth 20000 in
theorem w_847 : Cond.methodLink "DuesOnRungs$Ladder" 48 ⟨"DuesOnRungs$Scene", "paidByAll", "([II)I"⟩ ∈ LW := lw_LW (in_t4 _ (List.mem_of_getElem? (i := 61) rfl)) rfl
set_option maxRecDepth 20000 in
theorem w_848 : Cond.methodLink "DuesOnRungs$Ladder" 52 ⟨"DuesOnRungs$Ladder", "buyAt", "(IILDuesOnRungs$Book;LDuesOnRungs$Scene;)V"⟩ ∈ LW := lw_LW (in_t4 _ (List.mem_of_getElem? (i := 62) rfl)) rfl
set_option maxRecDepth 20000 in
theorem w_850 : Cond.instanceMethod ⟨"DuesOnRungs$Ladder", "buyAt", "(IILDuesOnRungs$Book;LDuesOnRungs$Scene;)V"⟩ ∈ LW := lw_LW (in_t4 _ (List.mem_of_getElem? (i := 64) rfl)) rfl
set_option maxRecDepth 20000 in
theorem w_851 : Cond.code ⟨"DuesOnRungs$Ladder", "buyAt", "(IILDuesOnRungs$Book;LDuesOnRungs$Scene;)V"⟩ prog_7_method_4_code 9 (Option.none : Option FieldType) ∈ LW := lw_LW (in_t4 _ (List.mem_of_getElem? (i := 65) rfl)) rfl
set_option maxRecDepth 20000 in
theorem w_852 : Cond.methodLink "DuesOnRungsLaw" 95 ⟨"DuesOnRungs", "replay", "(II)I"⟩ ∈ LW := lw_LW (in_t4 _ (List.mem_of_getElem? (i := 66) rfl)) rfl
set_option maxRecDepth 20000 in
theorem w_853 : Cond.instanceMethod ⟨"DuesOnRungs", "replay", "(II)I"⟩ ∈ LW := lw_LW (in_t4 _ (List.mem_of_getElem? (i := 67) rfl)) rfl
set_option maxRecDepth 20000 in
theorem w_854 : Cond.selects "DuesOnRungs" ⟨"DuesOnRungs", "replay", "(II)I"⟩ ⟨"DuesOnRungs", "replay", "(II)I"⟩ ∈ LW := lw_LW (in_t4 _ (List.mem_of_getElem? (i := 68) rfl)) rfl
set_option maxRecDepth 20000 in
theorem w_855 : Cond.code ⟨"DuesOnRungs", "replay", "(II)I"⟩ prog_1_method_21_code 3 (Option.some FieldType.int) ∈ LW := lw_LW (in_t4 _ (List.mem_of_getElem? (i := 69) rfl)) rfl
set_option maxRecDepth 20000 in
theorem w_856 : Cond.methodLink "DuesOnRungs" 285 ⟨"DuesOnRungs", "isSheet", "(I)Z"⟩ ∈ LW := lw_LW (in_t4 _ (List.mem_of_getElem? (i := 70) rfl)) rfl
set_option maxRecDepth 20000 in
theorem w_857 : Cond.static ⟨"DuesOnRungs", "isSheet", "(I)Z"⟩ ∈ LW := lw_LW (in_t4 _ (List.mem_of_getElem? (i := 71) rfl)) rfl
set_option maxRecDepth 20000 in
theorem w_858 : Cond.code ⟨"DuesOnRungs", "isSheet", "(I)Z"⟩ prog_1_method_39_code 1 (Option.some FieldType.boolean) ∈ LW := lw_LW (in_t4 _ (List.mem_of_getElem? (i := 72) rfl)) rfl
set_option maxRecDepth 20000 in
theorem w_859 : Cond.methodLink "DuesOnRungs" 288 ⟨"DuesOnRungs", "isAskedOfReplay", "(I)Z"⟩ ∈ LW := lw_LW (in_t4 _ (List.mem_of_getElem? (i := 73) rfl)) rfl
set_option maxRecDepth 20000 in
theorem w_860 : Cond.static ⟨"DuesOnRungs", "isAskedOfReplay", "(I)Z"⟩ ∈ LW := lw_LW (in_t4 _ (List.mem_of_getElem? (i := 74) rfl)) rfl
set_option maxRecDepth 20000 in
theorem w_861 : Cond.code ⟨"DuesOnRungs", "isAskedOfReplay", "(I)Z"⟩ prog_1_method_41_code 1 (Option.some FieldType.boolean) ∈ LW := lw_LW (in_t4 _ (List.mem_of_getElem? (i := 75) rfl)) rfl
set_option maxRecDepth 20000 in
theorem w_862 : Cond.methodLink "DuesOnRungs" 291 ⟨"DuesOnRungs$Sheet", "isMissing", "()Z"⟩ ∈ LW := lw_LW (in_t4 _ (List.mem_of_getElem? (i := 76) rfl)) rfl
set_option maxRecDepth 20000 in
theorem w_863 : Cond.instanceMethod ⟨"DuesOnRungs$Sheet", "isMissing", "()Z"⟩ ∈ LW := lw_LW (in_t4 _ (List.mem_of_getElem? (i := 77) rfl)) rfl
set_option maxRecDepth 20000 in
theorem w_864 : Cond.selects "DuesOnRungs$Sheet" ⟨"DuesOnRungs$Sheet", "isMissing", "()Z"⟩ ⟨"DuesOnRungs$Sheet", "isMissing", "()Z"⟩ ∈ LW := lw_LW (in_t4 _ (List.mem_of_getElem? (i := 78) rfl)) rfl
set_option maxRecDepth 20000 in
theorem w_865 : Cond.code ⟨"DuesOnRungs$Sheet", "isMissing", "()Z"⟩ prog_11_method_3_code 1 (Option.some FieldType.boolean) ∈ LW := lw_LW (in_t4 _ (List.mem_of_getElem? (i := 79) rfl)) rfl
set_option maxRecDepth 20000 in
theorem w_866 : Cond.methodLink "DuesOnRungs" 295 ⟨"DuesOnRungs", "readRates", "(LDuesOnRungs$Sheet;)Z"⟩ ∈ LW := lw_LW (in_t4 _ (List.mem_of_getElem? (i := 80) rfl)) rfl
set_option maxRecDepth 20000 in
theorem w_868 : Cond.instanceMethod ⟨"DuesOnRungs", "readRates", "(LDuesOnRungs$Sheet;)Z"⟩ ∈ LW := lw_LW (in_t4 _ (List.mem_of_getElem? (i := 82) rfl)) rfl
set_option maxRecDepth 20000 in
theorem w_869 : Cond.code ⟨"DuesOnRungs", "readRates", "(LDuesOnRungs$Sheet;)Z"⟩ prog_1_method_47_code 3 (Option.some FieldType.boolean) ∈ LW := lw_LW (in_t4 _ (List.mem_of_getElem? (i := 83) rfl)) rfl
set_option maxRecDepth 20000 in
theorem w_870 : Cond.methodLink "DuesOnRungs" 299 ⟨"DuesOnRungs", "playBy", "([I)V"⟩ ∈ LW := lw_LW (in_t4 _ (List.mem_of_getElem? (i := 84) rfl)) rfl
set_option maxRecDepth 20000 in
theorem w_872 : Cond.instanceMethod ⟨"DuesOnRungs", "playBy", "([I)V"⟩ ∈ LW := lw_LW (in_t4 _ (List.mem_of_getElem? (i := 86) rfl)) rfl
set_option maxRecDepth 20000 in
theorem w_873 : Cond.code ⟨"DuesOnRungs", "playBy", "([I)V"⟩ prog_1_method_48_code 2 (Option.none : Option FieldType) ∈ LW := lw_LW (in_t4 _ (List.mem_of_getElem? (i := 87) rfl)) rfl
set_option maxRecDepth 20000 in
theorem w_874 : Cond.methodLink "DuesOnRungs" 320 ⟨"DuesOnRungs$Replay", "play", "(LDuesOnRungs$Scene;[I)V"⟩ ∈ LW := lw_LW (in_t4 _ (List.mem_of_getElem? (i := 88) rfl)) rfl
set_option maxRecDepth 20000 in
theorem w_875 : Cond.instanceMethod ⟨"DuesOnRungs$Replay", "play", "(LDuesOnRungs$Scene;[I)V"⟩ ∈ LW := lw_LW (in_t4 _ (List.mem_of_getElem? (i := 89) rfl)) rfl
set_option maxRecDepth 20000 in
theorem w_876 : Cond.selects "DuesOnRungs$Replay" ⟨"DuesOnRungs$Replay", "play", "(LDuesOnRungs$Scene;[I)V"⟩ ⟨"DuesOnRungs$Replay", "play", "(LDuesOnRungs$Scene;[I)V"⟩ ∈ LW := lw_LW (in_t4 _ (List.mem_of_getElem? (i := 90) rfl)) rfl
set_option maxRecDepth 20000 in
theorem w_877 : Cond.code ⟨"DuesOnRungs$Replay", "play", "(LDuesOnRungs$Scene;[I)V"⟩ prog_8_method_2_code 12 (Option.none : Option FieldType) ∈ LW := lw_LW (in_t4 _ (List.mem_of_getElem? (i := 91) rfl)) rfl
set_option maxRecDepth 20000 in
theorem w_878 : Cond.constantLong "DuesOnRungs$Replay" 42 (4 : Int64) ∈ LW := lw_LW (in_t4 _ (List.mem_of_getElem? (i := 92) rfl)) rfl
set_option maxRecDepth 20000 in
theorem w_879 : Cond.methodLink "DuesOnRungs$Replay" 44 ⟨"DuesOnRungs$Scene", "paidByAll", "([II)I"⟩ ∈ LW := lw_LW (in_t4 _ (List.mem_of_getElem? (i := 93) rfl)) rfl
set_option maxRecDepth 20000 in
theorem w_880 : Cond.methodLink "DuesOnRungs$Replay" 51 ⟨"DuesOnRungs$Scene", "isLimited", "(I)Z"⟩ ∈ LW := lw_LW (in_t4 _ (List.mem_of_getElem? (i := 94) rfl)) rfl
set_option maxRecDepth 20000 in
theorem w_881 : Cond.methodLink "DuesOnRungs" 303 ⟨"DuesOnRungs$Replay", "tell", "(I)J"⟩ ∈ LW := lw_LW (in_t4 _ (List.mem_of_getElem? (i := 95) rfl)) rfl
set_option maxRecDepth 20000 in
theorem w_882 : Cond.instanceMethod ⟨"DuesOnRungs$Replay", "tell", "(I)J"⟩ ∈ LW := lw_LW (in_t4 _ (List.mem_of_getElem? (i := 96) rfl)) rfl
set_option maxRecDepth 20000 in
theorem w_883 : Cond.selects "DuesOnRungs$Replay" ⟨"DuesOnRungs$Replay", "tell", "(I)J"⟩ ⟨"DuesOnRungs$Replay", "tell", "(I)J"⟩ ∈ LW := lw_LW (in_t4 _ (List.mem_of_getElem? (i := 97) rfl)) rfl
set_option maxRecDepth 20000 in
theorem w_884 : Cond.code ⟨"DuesOnRungs$Replay", "tell", "(I)J"⟩ prog_8_method_3_code 2 (Option.some FieldType.long) ∈ LW := lw_LW (in_t4 _ (List.mem_of_getElem? (i := 98) rfl)) rfl
set_option maxRecDepth 20000 in
theorem w_885 : Cond.methodLink "DuesOnRungsLaw" 99 ⟨"DuesOnRungs", "worst", "(I)I"⟩ ∈ LW := lw_LW (in_t4 _ (List.mem_of_getElem? (i := 99) rfl)) rfl
set_option maxRecDepth 20000 in
theorem w_886 : Cond.instanceMethod ⟨"DuesOnRungs", "worst", "(I)I"⟩ ∈ LW := lw_LW (in_t4 _ (List.mem_of_getElem? (i := 100) rfl)) rfl
set_option maxRecDepth 20000 in
theorem w_887 : Cond.selects "DuesOnRungs" ⟨"DuesOnRungs", "worst", "(I)I"⟩ ⟨"DuesOnRungs", "worst", "(I)I"⟩ ∈ LW := lw_LW (in_t4 _ (List.mem_of_getElem? (i := 101) rfl)) rfl
set_option maxRecDepth 20000 in
theorem w_888 : Cond.code ⟨"DuesOnRungs", "worst", "(I)I"⟩ prog_1_method_22_code 6 (Option.some FieldType.int) ∈ LW := lw_LW (in_t4 _ (List.mem_of_getElem? (i := 102) rfl)) rfl
set_option maxRecDepth 20000 in
theorem w_889 : Cond.methodLink "DuesOnRungsLaw" 104 ⟨"DuesOnRungs", "drawn", "(I)I"⟩ ∈ LW := lw_LW (in_t4 _ (List.mem_of_getElem? (i := 103) rfl)) rfl
set_option maxRecDepth 20000 in
theorem w_890 : Cond.instanceMethod ⟨"DuesOnRungs", "drawn", "(I)I"⟩ ∈ LW := lw_LW (in_t4 _ (List.mem_of_getElem? (i := 104) rfl)) rfl
set_option maxRecDepth 20000 in
theorem w_891 : Cond.selects "DuesOnRungs" ⟨"DuesOnRungs", "drawn", "(I)I"⟩ ⟨"DuesOnRungs", "drawn", "(I)I"⟩ ∈ LW := lw_LW (in_t4 _ (List.mem_of_getElem? (i := 105) rfl)) rfl
set_option maxRecDepth 20000 in
theorem w_892 : Cond.code ⟨"DuesOnRungs", "drawn", "(I)I"⟩ prog_1_method_23_code 2 (Option.some FieldType.int) ∈ LW := lw_LW (in_t4 _ (List.mem_of_getElem? (i := 106) rfl)) rfl
set_option maxRecDepth 20000 in
theorem w_893 : Cond.methodLink "DuesOnRungs" 308 ⟨"DuesOnRungs", "shortBySeed", "(I)J"⟩ ∈ LW := lw_LW (in_t4 _ (List.mem_of_getElem? (i := 107) rfl)) rfl
set_option maxRecDepth 20000 in
theorem w_895 : Cond.instanceMethod ⟨"DuesOnRungs", "shortBySeed", "(I)J"⟩ ∈ LW := lw_LW (in_t4 _ (List.mem_of_getElem? (i := 109) rfl)) rfl
set_option maxRecDepth 20000 in
theorem w_896 : Cond.code ⟨"DuesOnRungs", "shortBySeed", "(I)J"⟩ prog_1_method_49_code 4 (Option.some FieldType.long) ∈ LW := lw_LW (in_t4 _ (List.mem_of_getElem? (i := 110) rfl)) rfl
set_option maxRecDepth 20000 in
theorem w_897 : Cond.constant "DuesOnRungs" 395 (1103515245 : Int32) ∈ LW := lw_LW (in_t4 _ (List.mem_of_getElem? (i := 111) rfl)) rfl
set_option maxRecDepth 20000 in
theorem w_898 : Cond.methodLink "DuesOnRungsLaw" 108 ⟨"DuesOnRungs", "chance", "(III)I"⟩ ∈ LW := lw_LW (in_t4 _ (List.mem_of_getElem? (i := 112) rfl)) rfl
set_option maxRecDepth 20000 in
theorem w_899 : Cond.instanceMethod ⟨"DuesOnRungs", "chance", "(III)I"⟩ ∈ LW := lw_LW (in_t4 _ (List.mem_of_getElem? (i := 113) rfl)) rfl
set_option maxRecDepth 20000 in
theorem w_900 : Cond.selects "DuesOnRungs" ⟨"DuesOnRungs", "chance", "(III)I"⟩ ⟨"DuesOnRungs", "chance", "(III)I"⟩ ∈ LW := lw_LW (in_t4 _ (List.mem_of_getElem? (i := 114) rfl)) rfl
set_option maxRecDepth 20000 in
theorem w_901 : Cond.code ⟨"DuesOnRungs", "chance", "(III)I"⟩ prog_1_method_24_code 6 (Option.some FieldType.int) ∈ LW := lw_LW (in_t4 _ (List.mem_of_getElem? (i := 115) rfl)) rfl
set_option maxRecDepth 20000 in
theorem w_902 : Cond.methodLink "DuesOnRungs" 311 ⟨"DuesOnRungs$Fraction", "become", "(JJ)V"⟩ ∈ LW := lw_LW (in_t4 _ (List.mem_of_getElem? (i := 116) rfl)) rfl
set_option maxRecDepth 20000 in
theorem w_903 : Cond.methodLink "DuesOnRungsLaw" 113 ⟨"DuesOnRungs", "tells", "(III)I"⟩ ∈ LW := lw_LW (in_t4 _ (List.mem_of_getElem? (i := 117) rfl)) rfl
set_option maxRecDepth 20000 in
theorem w_904 : Cond.instanceMethod ⟨"DuesOnRungs", "tells", "(III)I"⟩ ∈ LW := lw_LW (in_t4 _ (List.mem_of_getElem? (i := 118) rfl)) rfl
set_option maxRecDepth 20000 in
theorem w_905 : Cond.selects "DuesOnRungs" ⟨"DuesOnRungs", "tells", "(III)I"⟩ ⟨"DuesOnRungs", "tells", "(III)I"⟩ ∈ LW := lw_LW (in_t4 _ (List.mem_of_getElem? (i := 119) rfl)) rfl
set_option maxRecDepth 20000 in
theorem w_906 : Cond.code ⟨"DuesOnRungs", "tells", "(III)I"⟩ prog_1_method_25_code 8 (Option.some FieldType.int) ∈ LW := lw_LW (in_t4 _ (List.mem_of_getElem? (i := 120) rfl)) rfl
set_option maxRecDepth 20000 in
theorem w_907 : Cond.methodLink "DuesOnRungs" 324 ⟨"DuesOnRungs$Replay", "firstOtherwise", "(LDuesOnRungs$Sheet;)I"⟩ ∈ LW := lw_LW (in_t4 _ (List.mem_of_getElem? (i := 121) rfl)) rfl
set_option maxRecDepth 20000 in
theorem w_908 : Cond.instanceMethod ⟨"DuesOnRungs$Replay", "firstOtherwise", "(LDuesOnRungs$Sheet;)I"⟩ ∈ LW := lw_LW (in_t4 _ (List.mem_of_getElem? (i := 122) rfl)) rfl
set_option maxRecDepth 20000 in
theorem w_909 : Cond.selects "DuesOnRungs$Replay" ⟨"DuesOnRungs$Replay", "firstOtherwise", "(LDuesOnRungs$Sheet;)I"⟩ ⟨"DuesOnRungs$Replay", "firstOtherwise", "(LDuesOnRungs$Sheet;)I"⟩ ∈ LW := lw_LW (in_t4 _ (List.mem_of_getElem? (i := 123) rfl)) rfl
set_option maxRecDepth 20000 in
theorem w_910 : Cond.code ⟨"DuesOnRungs$Replay", "firstOtherwise", "(LDuesOnRungs$Sheet;)I"⟩ prog_8_method_4_code 3 (Option.some FieldType.int) ∈ LW := lw_LW (in_t4 _ (List.mem_of_getElem? (i := 124) rfl)) rfl
set_option maxRecDepth 20000 in
theorem w_911 : Cond.methodLink "DuesOnRungsLaw" 117 ⟨"DuesOnRungs", "film", "(I)I"⟩ ∈ LW := lw_LW (in_t4 _ (List.mem_of_getElem? (i := 125) rfl)) rfl
set_option maxRecDepth 20000 in
theorem w_912 : Cond.instanceMethod ⟨"DuesOnRungs", "film", "(I)I"⟩ ∈ LW := lw_LW (in_t4 _ (List.mem_of_getElem? (i := 126) rfl)) rfl
set_option maxRecDepth 20000 in
theorem w_913 : Cond.selects "DuesOnRungs" ⟨"DuesOnRungs", "film", "(I)I"⟩ ⟨"DuesOnRungs", "film", "(I)I"⟩ ∈ LW := lw_LW (in_t4 _ (List.mem_of_getElem? (i := 127) rfl)) rfl
set_option maxRecDepth 20000 in
theorem w_914 : Cond.code ⟨"DuesOnRungs", "film", "(I)I"⟩ prog_1_method_26_code 3 (Option.some FieldType.int) ∈ LW := lw_LW (in_t4 _ (List.mem_of_getElem? (i := 128) rfl)) rfl
set_option maxRecDepth 20000 in
theorem w_915 : Cond.methodLink "DuesOnRungs" 328 ⟨"DuesOnRungs$Sheet", "begin", "(II)V"⟩ ∈ LW := lw_LW (in_t4 _ (List.mem_of_getElem? (i := 129) rfl)) rfl
set_option maxRecDepth 20000 in
theorem w_916 : Cond.instanceMethod ⟨"DuesOnRungs$Sheet", "begin", "(II)V"⟩ ∈ LW := lw_LW (in_t4 _ (List.mem_of_getElem? (i := 130) rfl)) rfl
set_option maxRecDepth 20000 in
theorem w_917 : Cond.selects "DuesOnRungs$Sheet" ⟨"DuesOnRungs$Sheet", "begin", "(II)V"⟩ ⟨"DuesOnRungs$Sheet", "begin", "(II)V"⟩ ∈ LW := lw_LW (in_t4 _ (List.mem_of_getElem? (i := 131) rfl)) rfl
set_option maxRecDepth 20000 in
theorem w_918 : Cond.code ⟨"DuesOnRungs$Sheet", "begin", "(II)V"⟩ prog_11_method_2_code 3 (Option.none : Option FieldType) ∈ LW := lw_LW (in_t4 _ (List.mem_of_getElem? (i := 132) rfl)) rfl
set_option maxRecDepth 20000 in
theorem w_919 : Cond.methodLink "DuesOnRungs$Sheet" 22 ⟨"java/util/Arrays", "fill", "([II)V"⟩ ∈ LW := lw_LW (in_t4 _ (List.mem_of_getElem? (i := 133) rfl)) rfl
set_option maxRecDepth 20000 in
theorem w_920 : Cond.methodLink "DuesOnRungsLaw" 121 ⟨"DuesOnRungs", "image", "()I"⟩ ∈ LW := lw_LW (in_t4 _ (List.mem_of_getElem? (i := 134) rfl)) rfl
set_option maxRecDepth 20000 in
theorem w_921 : Cond.instanceMethod ⟨"DuesOnRungs", "image", "()I"⟩ ∈ LW := lw_LW (in_t4 _ (List.mem_of_getElem? (i := 135) rfl)) rfl
set_option maxRecDepth 20000 in
theorem w_922 : Cond.selects "DuesOnRungs" ⟨"DuesOnRungs", "image", "()I"⟩ ⟨"DuesOnRungs", "image", "()I"⟩ ∈ LW := lw_LW (in_t4 _ (List.mem_of_getElem? (i := 136) rfl)) rfl
set_option maxRecDepth 20000 in
theorem w_923 : Cond.code ⟨"DuesOnRungs", "image", "()I"⟩ prog_1_method_27_code 1 (Option.some FieldType.int) ∈ LW := lw_LW (in_t4 _ (List.mem_of_getElem? (i := 137) rfl)) rfl
set_option maxRecDepth 20000 in
theorem w_924 : Cond.methodLink "DuesOnRungs" 338 ⟨"DuesOnRungs$Book", "become", "(LDuesOnRungs$Book;)V"⟩ ∈ LW := lw_LW (in_t4 _ (List.mem_of_getElem? (i := 138) rfl)) rfl
set_option maxRecDepth 20000 in
theorem w_925 : Cond.instanceMethod ⟨"DuesOnRungs$Book", "become", "(LDuesOnRungs$Book;)V"⟩ ∈ LW := lw_LW (in_t4 _ (List.mem_of_getElem? (i := 139) rfl)) rfl
set_option maxRecDepth 20000 in
theorem w_926 : Cond.selects "DuesOnRungs$Book" ⟨"DuesOnRungs$Book", "become", "(LDuesOnRungs$Book;)V"⟩ ⟨"DuesOnRungs$Book", "become", "(LDuesOnRungs$Book;)V"⟩ ∈ LW := lw_LW (in_t4 _ (List.mem_of_getElem? (i := 140) rfl)) rfl
set_option maxRecDepth 20000 in
theorem w_927 : Cond.code ⟨"DuesOnRungs$Book", "become", "(LDuesOnRungs$Book;)V"⟩ prog_3_method_4_code 3 (Option.none : Option FieldType) ∈ LW := lw_LW (in_t4 _ (List.mem_of_getElem? (i := 141) rfl)) rfl
set_option maxRecDepth 20000 in
theorem w_928 : Cond.methodLink "DuesOnRungs$Book" 40 ⟨"DuesOnRungs$DayRow", "become", "(LDuesOnRungs$DayRow;)V"⟩ ∈ LW := lw_LW (in_t4 _ (List.mem_of_getElem? (i := 142) rfl)) rfl
set_option maxRecDepth 20000 in
theorem w_929 : Cond.instanceMethod ⟨"DuesOnRungs$DayRow", "become", "(LDuesOnRungs$DayRow;)V"⟩ ∈ LW := lw_LW (in_t4 _ (List.mem_of_getElem? (i := 143) rfl)) rfl
set_option maxRecDepth 20000 in
theorem w_930 : Cond.selects "DuesOnRungs$DayRow" ⟨"DuesOnRungs$DayRow", "become", "(LDuesOnRungs$DayRow;)V"⟩ ⟨"DuesOnRungs$DayRow", "become", "(LDuesOnRungs$DayRow;)V"⟩ ∈ LW := lw_LW (in_t4 _ (List.mem_of_getElem? (i := 144) rfl)) rfl
set_option maxRecDepth 20000 in
theorem w_931 : Cond.code ⟨"DuesOnRungs$DayRow", "become", "(LDuesOnRungs$DayRow;)V"⟩ prog_4_method_4_code 2 (Option.none : Option FieldType) ∈ LW := lw_LW (in_t4 _ (List.mem_of_getElem? (i := 145) rfl)) rfl
set_option maxRecDepth 20000 in
theorem w_932 : Cond.methodLink "DuesOnRungs$DayRow" 32 ⟨"java/lang/System", "arraycopy", "(Ljava/lang/Object;ILjava/lang/Object;II)V"⟩ ∈ LW := lw_LW (in_t4 _ (List.mem_of_getElem? (i := 146) rfl)) rfl
set_option maxRecDepth 20000 in
theorem w_933 : Cond.static ⟨"java/lang/System", "arraycopy", "(Ljava/lang/Object;ILjava/lang/Object;II)V"⟩ ∈ LW := lw_LW (in_t4 _ (List.mem_of_getElem? (i := 147) rfl)) rfl
set_option maxRecDepth 20000 in
theorem w_934 : Cond.native ⟨"java/lang/System", "arraycopy", "(Ljava/lang/Object;ILjava/lang/Object;II)V"⟩ ∈ LW := lw_LW (in_t4 _ (List.mem_of_getElem? (i := 148) rfl)) rfl
set_option maxRecDepth 20000 in
theorem w_935 : Cond.methodLink "DuesOnRungs$Book" 44 ⟨"DuesOnRungs$Bond", "become", "(LDuesOnRungs$Bond;)V"⟩ ∈ LW := lw_LW (in_t4 _ (List.mem_of_getElem? (i := 149) rfl)) rfl
set_option maxRecDepth 20000 in
theorem w_936 : Cond.instanceMethod ⟨"DuesOnRungs$Bond", "become", "(LDuesOnRungs$Bond;)V"⟩ ∈ LW := lw_LW (in_t4 _ (List.mem_of_getElem? (i := 150) rfl)) rfl
set_option maxRecDepth 20000 in
theorem w_937 : Cond.selects "DuesOnRungs$Bond" ⟨"DuesOnRungs$Bond", "become", "(LDuesOnRungs$Bond;)V"⟩ ⟨"DuesOnRungs$Bond", "become", "(LDuesOnRungs$Bond;)V"⟩ ∈ LW := lw_LW (in_t4 _ (List.mem_of_getElem? (i := 151) rfl)) rfl
set_option maxRecDepth 20000 in
theorem w_938 : Cond.code ⟨"DuesOnRungs$Bond", "become", "(LDuesOnRungs$Bond;)V"⟩ prog_2_method_3_code 2 (Option.none : Option FieldType) ∈ LW := lw_LW (in_t4 _ (List.mem_of_getElem? (i := 152) rfl)) rfl
set_option maxRecDepth 20000 in
theorem w_939 : Cond.methodLink "DuesOnRungs$Bond" 33 ⟨"DuesOnRungs$Bond", "begin", "(IIIIII)V"⟩ ∈ LW := lw_LW (in_t4 _ (List.mem_of_getElem? (i := 153) rfl)) rfl
set_option maxRecDepth 20000 in
theorem w_940 : Cond.methodLink "DuesOnRungsLaw" 125 ⟨"DuesOnRungs", "back", "()I"⟩ ∈ LW := lw_LW (in_t4 _ (List.mem_of_getElem? (i := 154) rfl)) rfl
set_option maxRecDepth 20000 in
theorem w_941 : Cond.instanceMethod ⟨"DuesOnRungs", "back", "()I"⟩ ∈ LW := lw_LW (in_t4 _ (List.mem_of_getElem? (i := 155) rfl)) rfl
set_option maxRecDepth 20000 in
theorem w_942 : Cond.selects "DuesOnRungs" ⟨"DuesOnRungs", "back", "()I"⟩ ⟨"DuesOnRungs", "back", "()I"⟩ ∈ LW := lw_LW (in_t4 _ (List.mem_of_getElem? (i := 156) rfl)) rfl
set_option maxRecDepth 20000 in
theorem w_943 : Cond.code ⟨"DuesOnRungs", "back", "()I"⟩ prog_1_method_28_code 1 (Option.some FieldType.int) ∈ LW := lw_LW (in_t4 _ (List.mem_of_getElem? (i := 157) rfl)) rfl
set_option maxRecDepth 20000 in
theorem w_944 : Cond.methodLink "DuesOnRungsLaw" 129 ⟨"DuesOnRungs", "count", "(I)I"⟩ ∈ LW := lw_LW (in_t4 _ (List.mem_of_getElem? (i := 158) rfl)) rfl
set_option maxRecDepth 20000 in
theorem w_945 : Cond.instanceMethod ⟨"DuesOnRungs", "count", "(I)I"⟩ ∈ LW := lw_LW (in_t4 _ (List.mem_of_getElem? (i := 159) rfl)) rfl
set_option maxRecDepth 20000 in
theorem w_946 : Cond.selects "DuesOnRungs" ⟨"DuesOnRungs", "count", "(I)I"⟩ ⟨"DuesOnRungs", "count", "(I)I"⟩ ∈ LW := lw_LW (in_t4 _ (List.mem_of_getElem? (i := 160) rfl)) rfl
set_option maxRecDepth 20000 in
theorem w_947 : Cond.code ⟨"DuesOnRungs", "count", "(I)I"⟩ prog_1_method_29_code 2 (Option.some FieldType.int) ∈ LW := lw_LW (in_t4 _ (List.mem_of_getElem? (i := 161) rfl)) rfl
set_option maxRecDepth 20000 in
theorem w_948 : Cond.methodLink "DuesOnRungs" 344 ⟨"DuesOnRungs$DayRow", "countTold", "()I"⟩ ∈ LW := lw_LW (in_t4 _ (List.mem_of_getElem? (i := 162) rfl)) rfl
set_option maxRecDepth 20000 in
theorem w_949 : Cond.methodLink "DuesOnRungs" 348 ⟨"DuesOnRungs$Book", "countHeld", "()I"⟩ ∈ LW := lw_LW (in_t4 _ (List.mem_of_getElem? (i := 163) rfl)) rfl
set_option maxRecDepth 20000 in
theorem w_950 : Cond.instanceMethod ⟨"DuesOnRungs$Book", "countHeld", "()I"⟩ ∈ LW := lw_LW (in_t4 _ (List.mem_of_getElem? (i := 164) rfl)) rfl
set_option maxRecDepth 20000 in
theorem w_951 : Cond.selects "DuesOnRungs$Book" ⟨"DuesOnRungs$Book", "countHeld", "()I"⟩ ⟨"DuesOnRungs$Book", "countHeld", "()I"⟩ ∈ LW := lw_LW (in_t4 _ (List.mem_of_getElem? (i := 165) rfl)) rfl
set_option maxRecDepth 20000 in
theorem w_952 : Cond.code ⟨"DuesOnRungs$Book", "countHeld", "()I"⟩ prog_3_method_3_code 3 (Option.some FieldType.int) ∈ LW := lw_LW (in_t4 _ (List.mem_of_getElem? (i := 166) rfl)) rfl
set_option maxRecDepth 20000 in
theorem w_953 : Cond.methodLink "DuesOnRungsLaw" 133 ⟨"DuesOnRungs", "sheet", "(III)I"⟩ ∈ LW := lw_LW (in_t4 _ (List.mem_of_getElem? (i := 167) rfl)) rfl
set_option maxRecDepth 20000 in
theorem w_954 : Cond.instanceMethod ⟨"DuesOnRungs", "sheet", "(III)I"⟩ ∈ LW := lw_LW (in_t4 _ (List.mem_of_getElem? (i := 168) rfl)) rfl
set_option maxRecDepth 20000 in
theorem w_955 : Cond.selects "DuesOnRungs" ⟨"DuesOnRungs", "sheet", "(III)I"⟩ ⟨"DuesOnRungs", "sheet", "(III)I"⟩ ∈ LW := lw_LW (in_t4 _ (List.mem_of_getElem? (i := 169) rfl)) rfl
set_option maxRecDepth 20000 in
theorem w_956 : Cond.code ⟨"DuesOnRungs", "sheet", "(III)I"⟩ prog_1_method_30_code 4 (Option.some FieldType.int) ∈ LW := lw_LW (in_t4 _ (List.mem_of_getElem? (i := 170) rfl)) rfl
set_option maxRecDepth 20000 in
theorem w_957 : Cond.methodLink "DuesOnRungs" 351 ⟨"DuesOnRungs", "isSort", "(I)Z"⟩ ∈ LW := lw_LW (in_t4 _ (List.mem_of_getElem? (i := 171) rfl)) rfl
set_option maxRecDepth 20000 in
theorem w_958 : Cond.static ⟨"DuesOnRungs", "isSort", "(I)Z"⟩ ∈ LW := lw_LW (in_t4 _ (List.mem_of_getElem? (i := 172) rfl)) rfl
set_option maxRecDepth 20000 in
theorem w_959 : Cond.code ⟨"DuesOnRungs", "isSort", "(I)Z"⟩ prog_1_method_40_code 1 (Option.some FieldType.boolean) ∈ LW := lw_LW (in_t4 _ (List.mem_of_getElem? (i := 173) rfl)) rfl
set_option maxRecDepth 20000 in
theorem w_960 : Cond.methodLink "DuesOnRungsLaw" 137 ⟨"DuesOnRungs", "put", "(III)I"⟩ ∈ LW := lw_LW (in_t4 _ (List.mem_of_getElem? (i := 174) rfl)) rfl
set_option maxRecDepth 20000 in
theorem w_961 : Cond.instanceMethod ⟨"DuesOnRungs", "put", "(III)I"⟩ ∈ LW := lw_LW (in_t4 _ (List.mem_of_getElem? (i := 175) rfl)) rfl
set_option maxRecDepth 20000 in
theorem w_962 : Cond.selects "DuesOnRungs" ⟨"DuesOnRungs", "put", "(III)I"⟩ ⟨"DuesOnRungs", "put", "(III)I"⟩ ∈ LW := lw_LW (in_t4 _ (List.mem_of_getElem? (i := 176) rfl)) rfl
set_option maxRecDepth 20000 in
theorem w_963 : Cond.code ⟨"DuesOnRungs", "put", "(III)I"⟩ prog_1_method_31_code 4 (Option.some FieldType.int) ∈ LW := lw_LW (in_t4 _ (List.mem_of_getElem? (i := 177) rfl)) rfl
set_option maxRecDepth 20000 in
theorem w_964 : Cond.methodLink "DuesOnRungs" 354 ⟨"DuesOnRungs$Sheet", "hasItem", "(I)Z"⟩ ∈ LW := lw_LW (in_t4 _ (List.mem_of_getElem? (i := 178) rfl)) rfl
set_option maxRecDepth 20000 in
theorem w_965 : Cond.instanceMethod ⟨"DuesOnRungs$Sheet", "hasItem", "(I)Z"⟩ ∈ LW := lw_LW (in_t4 _ (List.mem_of_getElem? (i := 179) rfl)) rfl
set_option maxRecDepth 20000 in
theorem w_966 : Cond.selects "DuesOnRungs$Sheet" ⟨"DuesOnRungs$Sheet", "hasItem", "(I)Z"⟩ ⟨"DuesOnRungs$Sheet", "hasItem", "(I)Z"⟩ ∈ LW := lw_LW (in_t4 _ (List.mem_of_getElem? (i := 180) rfl)) rfl
set_option maxRecDepth 20000 in
theorem w_967 : Cond.code ⟨"DuesOnRungs$Sheet", "hasItem", "(I)Z"⟩ prog_11_method_4_code 2 (Option.some FieldType.boolean) ∈ LW := lw_LW (in_t4 _ (List.mem_of_getElem? (i := 181) rfl)) rfl
set_option maxRecDepth 20000 in
theorem w_968 : Cond.methodLink "DuesOnRungs" 357 ⟨"DuesOnRungs$Sheet", "write", "(II)V"⟩ ∈ LW := lw_LW (in_t4 _ (List.mem_of_getElem? (i := 182) rfl)) rfl
set_option maxRecDepth 20000 in
theorem w_969 : Cond.instanceMethod ⟨"DuesOnRungs$Sheet", "write", "(II)V"⟩ ∈ LW := lw_LW (in_t4 _ (List.mem_of_getElem? (i := 183) rfl)) rfl
set_option maxRecDepth 20000 in
theorem w_970 : Cond.selects "DuesOnRungs$Sheet" ⟨"DuesOnRungs$Sheet", "write", "(II)V"⟩ ⟨"DuesOnRungs$Sheet", "write", "(II)V"⟩ ∈ LW := lw_LW (in_t4 _ (List.mem_of_getElem? (i := 184) rfl)) rfl
set_option maxRecDepth 20000 in
theorem w_971 : Cond.code ⟨"DuesOnRungs$Sheet", "write", "(II)V"⟩ prog_11_method_6_code 3 (Option.none : Option FieldType) ∈ LW := lw_LW (in_t4 _ (List.mem_of_getElem? (i := 185) rfl)) rfl
set_option maxRecDepth 20000 in
theorem w_972 : Cond.methodLink "DuesOnRungsLaw" 141 ⟨"DuesOnRungs", "copy", "(IIIII)I"⟩ ∈ LW := lw_LW (in_t4 _ (List.mem_of_getElem? (i := 186) rfl)) rfl
set_option maxRecDepth 20000 in
theorem w_973 : Cond.instanceMethod ⟨"DuesOnRungs", "copy", "(IIIII)I"⟩ ∈ LW := lw_LW (in_t4 _ (List.mem_of_getElem? (i := 187) rfl)) rfl
set_option maxRecDepth 20000 in
theorem w_974 : Cond.selects "DuesOnRungs" ⟨"DuesOnRungs", "copy", "(IIIII)I"⟩ ⟨"DuesOnRungs", "copy", "(IIIII)I"⟩ ∈ LW := lw_LW (in_t4 _ (List.mem_of_getElem? (i := 188) rfl)) rfl
set_option maxRecDepth 20000 in
theorem w_975 : Cond.code ⟨"DuesOnRungs", "copy", "(IIIII)I"⟩ prog_1_method_32_code 8 (Option.some FieldType.int) ∈ LW := lw_LW (in_t4 _ (List.mem_of_getElem? (i := 189) rfl)) rfl
set_option maxRecDepth 20000 in
theorem w_976 : Cond.methodLink "DuesOnRungs" 363 ⟨"DuesOnRungs$Sheet", "hasItems", "(II)Z"⟩ ∈ LW := lw_LW (in_t4 _ (List.mem_of_getElem? (i := 190) rfl)) rfl
set_option maxRecDepth 20000 in
theorem w_977 : Cond.instanceMethod ⟨"DuesOnRungs$Sheet", "hasItems", "(II)Z"⟩ ∈ LW := lw_LW (in_t4 _ (List.mem_of_getElem? (i := 191) rfl)) rfl
set_option maxRecDepth 20000 in
theorem w_978 : Cond.selects "DuesOnRungs$Sheet" ⟨"DuesOnRungs$Sheet", "hasItems", "(II)Z"⟩ ⟨"DuesOnRungs$Sheet", "hasItems", "(II)Z"⟩ ∈ LW := lw_LW (in_t4 _ (List.mem_of_getElem? (i := 192) rfl)) rfl
set_option maxRecDepth 20000 in
theorem w_979 : Cond.code ⟨"DuesOnRungs$Sheet", "hasItems", "(II)Z"⟩ prog_11_method_5_code 3 (Option.some FieldType.boolean) ∈ LW := lw_LW (in_t4 _ (List.mem_of_getElem? (i := 193) rfl)) rfl
set_option maxRecDepth 20000 in
theorem w_980 : Cond.methodLink "DuesOnRungs" 367 ⟨"java/lang/System", "arraycopy", "(Ljava/lang/Object;ILjava/lang/Object;II)V"⟩ ∈ LW := lw_LW (in_t4 _ (List.mem_of_getElem? (i := 194) rfl)) rfl
set_option maxRecDepth 20000 in
theorem w_981 : Cond.methodLink "DuesOnRungsLaw" 146 ⟨"DuesOnRungs", "load", "(IIII)I"⟩ ∈ LW := lw_LW (in_t4 _ (List.mem_of_getElem? (i := 195) rfl)) rfl
set_option maxRecDepth 20000 in
theorem w_982 : Cond.instanceMethod ⟨"DuesOnRungs", "load", "(IIII)I"⟩ ∈ LW := lw_LW (in_t4 _ (List.mem_of_getElem? (i := 196) rfl)) rfl
set_option maxRecDepth 20000 in
theorem w_983 : Cond.selects "DuesOnRungs" ⟨"DuesOnRungs", "load", "(IIII)I"⟩ ⟨"DuesOnRungs", "load", "(IIII)I"⟩ ∈ LW := lw_LW (in_t4 _ (List.mem_of_getElem? (i := 197) rfl)) rfl
set_option maxRecDepth 20000 in
theorem w_984 : Cond.code ⟨"DuesOnRungs", "load", "(IIII)I"⟩ prog_1_method_33_code 8 (Option.some FieldType.int) ∈ LW := lw_LW (in_t4 _ (List.mem_of_getElem? (i := 198) rfl)) rfl
set_option maxRecDepth 20000 in
theorem w_985 : Cond.methodLink "DuesOnRungs" 373 ⟨"DuesOnRungs", "due", "(II)I"⟩ ∈ LW := lw_LW (in_t4 _ (List.mem_of_getElem? (i := 199) rfl)) rfl
set_option maxRecDepth 20000 in
theorem w_986 : Cond.classLink "DuesOnRungsLaw" 10 "DuesOnRungsModel" ∈ LW := lw_LW (in_t4 _ (List.mem_of_getElem? (i := 200) rfl)) rfl
set_option maxRecDepth 20000 in
theorem w_987 : Cond.instantiable "DuesOnRungsModel" 34 ∈ LW := lw_LW (in_t4 _ (List.mem_of_getElem? (i := 201) rfl)) rfl
set_option maxRecDepth 20000 in
theorem w_988 : Cond.methodLink "DuesOnRungsLaw" 12 ⟨"DuesOnRungsModel", "<init>", "()V"⟩ ∈ LW := lw_LW (in_t4 _ (List.mem_of_getElem? (i := 202) rfl)) rfl
set_option maxRecDepth 20000 in
theorem w_989 : Cond.instanceMethod ⟨"DuesOnRungsModel", "<init>", "()V"⟩ ∈ LW := lw_LW (in_t4 _ (List.mem_of_getElem? (i := 203) rfl)) rfl
set_option maxRecDepth 20000 in
theorem w_990 : Cond.code ⟨"DuesOnRungsModel", "<init>", "()V"⟩ prog_14_method_1_code 2 (Option.none : Option FieldType) ∈ LW := lw_LW (in_t4 _ (List.mem_of_getElem? (i := 204) rfl)) rfl
set_option maxRecDepth 20000 in
theorem w_991 : Cond.methodLink "DuesOnRungsModel" 3 ⟨"java/lang/Object", "<init>", "()V"⟩ ∈ LW := lw_LW (in_t4 _ (List.mem_of_getElem? (i := 205) rfl)) rfl
set_option maxRecDepth 20000 in
theorem w_992 : Cond.fieldLink "DuesOnRungsModel" 9 "DuesOnRungsModel" "dues" "[I" ∈ LW := lw_LW (in_t4 _ (List.mem_of_getElem? (i := 206) rfl)) rfl
set_option maxRecDepth 20000 in
theorem w_993 : Cond.fieldLink "DuesOnRungsModel" 15 "DuesOnRungsModel" "rates" "[I" ∈ LW := lw_LW (in_t4 _ (List.mem_of_getElem? (i := 207) rfl)) rfl
set_option maxRecDepth 20000 in
theorem w_994 : Cond.fieldLink "DuesOnRungsModel" 18 "DuesOnRungsModel" "limits" "[I" ∈ LW := lw_LW (in_t4 _ (List.mem_of_getElem? (i := 208) rfl)) rfl
set_option maxRecDepth 20000 in
theorem w_995 : Cond.fieldLink "DuesOnRungsModel" 87 "DuesOnRungsModel" "bonds" "I" ∈ LW := lw_LW (in_t4 _ (List.mem_of_getElem? (i := 209) rfl)) rfl
set_option maxRecDepth 20000 in
theorem w_996 : Cond.fieldLink "DuesOnRungsModel" 21 "DuesOnRungsModel" "told" "[I" ∈ LW := lw_LW (in_t4 _ (List.mem_of_getElem? (i := 210) rfl)) rfl
set_option maxRecDepth 20000 in
theorem w_997 : Cond.fieldLink "DuesOnRungsModel" 83 "DuesOnRungsModel" "rungs" "I" ∈ LW := lw_LW (in_t4 _ (List.mem_of_getElem? (i := 211) rfl)) rfl
set_option maxRecDepth 20000 in
theorem w_998 : Cond.fieldLink "DuesOnRungsModel" 24 "DuesOnRungsModel" "rung" "[I" ∈ LW := lw_LW (in_t4 _ (List.mem_of_getElem? (i := 212) rfl)) rfl
set_option maxRecDepth 20000 in
theorem w_999 : Cond.fieldLink "DuesOnRungsModel" 27 "DuesOnRungsModel" "by" "[I" ∈ LW := lw_LW (in_t4 _ (List.mem_of_getElem? (i := 213) rfl)) rfl
set_option maxRecDepth 20000 in
theorem w_1000 : Cond.fieldLink "DuesOnRungsModel" 152 "DuesOnRungsModel" "great" "Z" ∈ LW := lw_LW (in_t4 _ (List.mem_of_getElem? (i := 214) rfl)) rfl
set_option maxRecDepth 20000 in
theorem w_1001 : Cond.fieldLink "DuesOnRungsModel" 162 "DuesOnRungsModel" "up" "J" ∈ LW := lw_LW (in_t4 _ (List.mem_of_getElem? (i := 215) rfl)) rfl
set_option maxRecDepth 20000 in
theorem w_1002 : Cond.fieldLink "DuesOnRungsModel" 166 "DuesOnRungsModel" "low" "J" ∈ LW := lw_LW (in_t4 _ (List.mem_of_getElem? (i := 216) rfl)) rfl
set_option maxRecDepth 20000 in
theorem w_1003 : Cond.fieldLink "DuesOnRungsModel" 228 "DuesOnRungsModel" "rows" "I" ∈ LW := lw_LW (in_t4 _ (List.mem_of_getElem? (i := 217) rfl)) rfl
set_option maxRecDepth 20000 in
theorem w_1004 : Cond.fieldLink "DuesOnRungsModel" 30 "DuesOnRungsModel" "rowOf" "[I" ∈ LW := lw_LW (in_t4 _ (List.mem_of_getElem? (i := 218) rfl)) rfl
set_option maxRecDepth 20000 in
theorem w_1005 : Cond.fieldLink "DuesOnRungsModel" 33 "DuesOnRungsModel" "shareOf" "[I" ∈ LW := lw_LW (in_t4 _ (List.mem_of_getElem? (i := 219) rfl)) rfl
set_option maxRecDepth 20000 in
theorem w_1006 : Cond.fieldLink "DuesOnRungsModel" 36 "DuesOnRungsModel" "bareUp" "[J" ∈ LW := lw_LW (in_t4 _ (List.mem_of_getElem? (i := 220) rfl)) rfl
set_option maxRecDepth 20000 in
theorem w_1007 : Cond.fieldLink "DuesOnRungsModel" 40 "DuesOnRungsModel" "bareLow" "[J" ∈ LW := lw_LW (in_t4 _ (List.mem_of_getElem? (i := 221) rfl)) rfl
set_option maxRecDepth 20000 in
theorem w_1008 : Cond.fieldLink "DuesOnRungsModel" 43 "DuesOnRungsModel" "shareUp" "[J" ∈ LW := lw_LW (in_t4 _ (List.mem_of_getElem? (i := 222) rfl)) rfl
set_option maxRecDepth 20000 in
theorem w_1009 : Cond.fieldLink "DuesOnRungsModel" 46 "DuesOnRungsModel" "shareLow" "[J" ∈ LW := lw_LW (in_t4 _ (List.mem_of_getElem? (i := 223) rfl)) rfl
set_option maxRecDepth 20000 in
theorem w_1010 : Cond.fieldLink "DuesOnRungsModel" 49 "DuesOnRungsModel" "rowUp" "[J" ∈ LW := lw_LW (in_t4 _ (List.mem_of_getElem? (i := 224) rfl)) rfl
set_option maxRecDepth 20000 in
theorem w_1011 : Cond.fieldLink "DuesOnRungsModel" 52 "DuesOnRungsModel" "rowLow" "[J" ∈ LW := lw_LW (in_t4 _ (List.mem_of_getElem? (i := 225) rfl)) rfl
set_option maxRecDepth 20000 in
theorem w_1012 : Cond.fieldLink "DuesOnRungsModel" 55 "DuesOnRungsModel" "bought" "[I" ∈ LW := lw_LW (in_t4 _ (List.mem_of_getElem? (i := 226) rfl)) rfl
set_option maxRecDepth 20000 in
theorem w_1013 : Cond.fieldLink "DuesOnRungsModel" 271 "DuesOnRungsModel" "lacking" "I" ∈ LW := lw_LW (in_t4 _ (List.mem_of_getElem? (i := 227) rfl)) rfl
set_option maxRecDepth 20000 in
theorem w_1014 : Cond.fieldLink "DuesOnRungsModel" 58 "DuesOnRungsModel" "ranked" "[I" ∈ LW := lw_LW (in_t4 _ (List.mem_of_getElem? (i := 228) rfl)) rfl
set_option maxRecDepth 20000 in
theorem w_1015 : Cond.fieldLink "DuesOnRungsModel" 61 "DuesOnRungsModel" "cash" "[J" ∈ LW := lw_LW (in_t4 _ (List.mem_of_getElem? (i := 229) rfl)) rfl
set_option maxRecDepth 20000 in
theorem w_1016 : Cond.fieldLink "DuesOnRungsModel" 64 "DuesOnRungsModel" "lack" "[J" ∈ LW := lw_LW (in_t4 _ (List.mem_of_getElem? (i := 230) rfl)) rfl
set_option maxRecDepth 20000 in
theorem w_1017 : Cond.fieldLink "DuesOnRungsModel" 277 "DuesOnRungsModel" "spilt" "J" ∈ LW := lw_LW (in_t4 _ (List.mem_of_getElem? (i := 231) rfl)) rfl
set_option maxRecDepth 20000 in
theorem w_1018 : Cond.fieldLink "DuesOnRungsModel" 280 "DuesOnRungsModel" "grew" "J" ∈ LW := lw_LW (in_t4 _ (List.mem_of_getElem? (i := 232) rfl)) rfl
set_option maxRecDepth 20000 in
theorem w_1019 : Cond.fieldLink "DuesOnRungsModel" 283 "DuesOnRungsModel" "paid" "J" ∈ LW := lw_LW (in_t4 _ (List.mem_of_getElem? (i := 233) rfl)) rfl
set_option maxRecDepth 20000 in
theorem w_1020 : Cond.fieldLink "DuesOnRungsModel" 306 "DuesOnRungsModel" "imaged" "Z" ∈ LW := lw_LW (in_t4 _ (List.mem_of_getElem? (i := 234) rfl)) rfl
set_option maxRecDepth 20000 in
theorem w_1021 : Cond.fieldLink "DuesOnRungsModel" 309 "DuesOnRungsModel" "oldBonds" "I" ∈ LW := lw_LW (in_t4 _ (List.mem_of_getElem? (i := 235) rfl)) rfl
set_option maxRecDepth 20000 in
theorem w_1022 : Cond.fieldLink "DuesOnRungsModel" 67 "DuesOnRungsModel" "old" "[I" ∈ LW := lw_LW (in_t4 _ (List.mem_of_getElem? (i := 236) rfl)) rfl
set_option maxRecDepth 20000 in
theorem w_1023 : Cond.fieldLink "DuesOnRungsModel" 70 "DuesOnRungsModel" "sort" "[I" ∈ LW := lw_LW (in_t4 _ (List.mem_of_getElem? (i := 237) rfl)) rfl
set_option maxRecDepth 20000 in
theorem w_1024 : Cond.fieldLink "DuesOnRungsModel" 73 "DuesOnRungsModel" "size" "[I" ∈ LW := lw_LW (in_t4 _ (List.mem_of_getElem? (i := 238) rfl)) rfl
set_option maxRecDepth 20000 in
theorem w_1025 : Cond.fieldLink "DuesOnRungsModel" 76 "DuesOnRungsModel" "items" "[I" ∈ LW := lw_LW (in_t4 _ (List.mem_of_getElem? (i := 239) rfl)) rfl
set_option maxRecDepth 20000 in
theorem w_1026 : Cond.laysFinal "DuesOnRungsModel" "DuesOnRungsModel" "dues" "[I" ∈ LW := lw_LW (in_t5 _ (List.mem_of_getElem? (i := 0) rfl)) rfl
set_option maxRecDepth 20000 in
theorem w_1028 : Cond.laysFinal "DuesOnRungsModel" "DuesOnRungsModel" "rates" "[I" ∈ LW := lw_LW (in_t5 _ (List.mem_of_getElem? (i := 2) rfl)) rfl
set_option maxRecDepth 20000 in
theorem w_1030 : Cond.laysFinal "DuesOnRungsModel" "DuesOnRungsModel" "limits" "[I" ∈ LW := lw_LW (in_t5 _ (List.mem_of_getElem? (i := 4) rfl)) rfl
set_option maxRecDepth 20000 in
theorem w_1032 : Cond.lays "DuesOnRungsModel" "DuesOnRungsModel" "bonds" "I" ∈ LW := lw_LW (in_t5 _ (List.mem_of_getElem? (i := 6) rfl)) rfl
set_option maxRecDepth 20000 in
theorem w_1034 : Cond.laysFinal "DuesOnRungsModel" "DuesOnRungsModel" "told" "[I" ∈ LW := lw_LW (in_t5 _ (List.mem_of_getElem? (i := 8) rfl)) rfl
set_option maxRecDepth 20000 in
theorem w_1036 : Cond.lays "DuesOnRungsModel" "DuesOnRungsModel" "rungs" "I" ∈ LW := lw_LW (in_t5 _ (List.mem_of_getElem? (i := 10) rfl)) rfl
set_option maxRecDepth 20000 in
theorem w_1038 : Cond.laysFinal "DuesOnRungsModel" "DuesOnRungsModel" "rung" "[I" ∈ LW := lw_LW (in_t5 _ (List.mem_of_getElem? (i := 12) rfl)) rfl
set_option maxRecDepth 20000 in
theorem w_1040 : Cond.laysFinal "DuesOnRungsModel" "DuesOnRungsModel" "by" "[I" ∈ LW := lw_LW (in_t5 _ (List.mem_of_getElem? (i := 14) rfl)) rfl
set_option maxRecDepth 20000 in
theorem w_1042 : Cond.lays "DuesOnRungsModel" "DuesOnRungsModel" "great" "Z" ∈ LW := lw_LW (in_t5 _ (List.mem_of_getElem? (i := 16) rfl)) rfl
set_option maxRecDepth 20000 in
theorem w_1044 : Cond.lays "DuesOnRungsModel" "DuesOnRungsModel" "up" "J" ∈ LW := lw_LW (in_t5 _ (List.mem_of_getElem? (i := 18) rfl)) rfl
set_option maxRecDepth 20000 in
theorem w_1046 : Cond.lays "DuesOnRungsModel" "DuesOnRungsModel" "low" "J" ∈ LW := lw_LW (in_t5 _ (List.mem_of_getElem? (i := 20) rfl)) rfl
set_option maxRecDepth 20000 in
theorem w_1048 : Cond.lays "DuesOnRungsModel" "DuesOnRungsModel" "rows" "I" ∈ LW := lw_LW (in_t5 _ (List.mem_of_getElem? (i := 22) rfl)) rfl
set_option maxRecDepth 20000 in
theorem w_1050 : Cond.laysFinal "DuesOnRungsModel" "DuesOnRungsModel" "rowOf" "[I" ∈ LW := lw_LW (in_t5 _ (List.mem_of_getElem? (i := 24) rfl)) rfl
set_option maxRecDepth 20000 in
theorem w_1052 : Cond.laysFinal "DuesOnRungsModel" "DuesOnRungsModel" "shareOf" "[I" ∈ LW := lw_LW (in_t5 _ (List.mem_of_getElem? (i := 26) rfl)) rfl
set_option maxRecDepth 20000 in
theorem w_1054 : Cond.laysFinal "DuesOnRungsModel" "DuesOnRungsModel" "bareUp" "[J" ∈ LW := lw_LW (in_t5 _ (List.mem_of_getElem? (i := 28) rfl)) rfl
set_option maxRecDepth 20000 in
theorem w_1056 : Cond.laysFinal "DuesOnRungsModel" "DuesOnRungsModel" "bareLow" "[J" ∈ LW := lw_LW (in_t5 _ (List.mem_of_getElem? (i := 30) rfl)) rfl
set_option maxRecDepth 20000 in
theorem w_1058 : Cond.laysFinal "DuesOnRungsModel" "DuesOnRungsModel" "shareUp" "[J" ∈ LW := lw_LW (in_t5 _ (List.mem_of_getElem? (i := 32) rfl)) rfl
set_option maxRecDepth 20000 in
theorem w_1060 : Cond.laysFinal "DuesOnRungsModel" "DuesOnRungsModel" "shareLow" "[J" ∈ LW := lw_LW (in_t5 _ (List.mem_of_getElem? (i := 34) rfl)) rfl
set_option maxRecDepth 20000 in
theorem w_1062 : Cond.laysFinal "DuesOnRungsModel" "DuesOnRungsModel" "rowUp" "[J" ∈ LW := lw_LW (in_t5 _ (List.mem_of_getElem? (i := 36) rfl)) rfl
set_option maxRecDepth 20000 in
theorem w_1064 : Cond.laysFinal "DuesOnRungsModel" "DuesOnRungsModel" "rowLow" "[J" ∈ LW := lw_LW (in_t5 _ (List.mem_of_getElem? (i := 38) rfl)) rfl
set_option maxRecDepth 20000 in
theorem w_1066 : Cond.laysFinal "DuesOnRungsModel" "DuesOnRungsModel" "bought" "[I" ∈ LW := lw_LW (in_t5 _ (List.mem_of_getElem? (i := 40) rfl)) rfl
set_option maxRecDepth 20000 in
theorem w_1068 : Cond.lays "DuesOnRungsModel" "DuesOnRungsModel" "lacking" "I" ∈ LW := lw_LW (in_t5 _ (List.mem_of_getElem? (i := 42) rfl)) rfl
set_option maxRecDepth 20000 in
theorem w_1070 : Cond.laysFinal "DuesOnRungsModel" "DuesOnRungsModel" "ranked" "[I" ∈ LW := lw_LW (in_t5 _ (List.mem_of_getElem? (i := 44) rfl)) rfl
set_option maxRecDepth 20000 in
theorem w_1072 : Cond.laysFinal "DuesOnRungsModel" "DuesOnRungsModel" "cash" "[J" ∈ LW := lw_LW (in_t5 _ (List.mem_of_getElem? (i := 46) rfl)) rfl
set_option maxRecDepth 20000 in
theorem w_1074 : Cond.laysFinal "DuesOnRungsModel" "DuesOnRungsModel" "lack" "[J" ∈ LW := lw_LW (in_t5 _ (List.mem_of_getElem? (i := 48) rfl)) rfl
set_option maxRecDepth 20000 in
theorem w_1076 : Cond.lays "DuesOnRungsModel" "DuesOnRungsModel" "spilt" "J" ∈ LW := lw_LW (in_t5 _ (List.mem_of_getElem? (i := 50) rfl)) rfl
set_option maxRecDepth 20000 in
theorem w_1078 : Cond.lays "DuesOnRungsModel" "DuesOnRungsModel" "grew" "J" ∈ LW := lw_LW (in_t5 _ (List.mem_of_getElem? (i := 52) rfl)) rfl
set_option maxRecDepth 20000 in
theorem w_1080 : Cond.lays "DuesOnRungsModel" "DuesOnRungsModel" "paid" "J" ∈ LW := lw_LW (in_t5 _ (List.mem_of_getElem? (i := 54) rfl)) rfl
set_option maxRecDepth 20000 in
theorem w_1082 : Cond.lays "DuesOnRungsModel" "DuesOnRungsModel" "imaged" "Z" ∈ LW := lw_LW (in_t5 _ (List.mem_of_getElem? (i := 56) rfl)) rfl
set_option maxRecDepth 20000 in
theorem w_1084 : Cond.lays "DuesOnRungsModel" "DuesOnRungsModel" "oldBonds" "I" ∈ LW := lw_LW (in_t5 _ (List.mem_of_getElem? (i := 58) rfl)) rfl
set_option maxRecDepth 20000 in
theorem w_1086 : Cond.laysFinal "DuesOnRungsModel" "DuesOnRungsModel" "old" "[I" ∈ LW := lw_LW (in_t5 _ (List.mem_of_getElem? (i := 60) rfl)) rfl
set_option maxRecDepth 20000 in
theorem w_1088 : Cond.laysFinal "DuesOnRungsModel" "DuesOnRungsModel" "sort" "[I" ∈ LW := lw_LW (in_t5 _ (List.mem_of_getElem? (i := 62) rfl)) rfl
set_option maxRecDepth 20000 in
theorem w_1090 : Cond.laysFinal "DuesOnRungsModel" "DuesOnRungsModel" "size" "[I" ∈ LW := lw_LW (in_t5 _ (List.mem_of_getElem? (i := 64) rfl)) rfl
set_option maxRecDepth 20000 in
theorem w_1092 : Cond.laysFinal "DuesOnRungsModel" "DuesOnRungsModel" "items" "[I" ∈ LW := lw_LW (in_t5 _ (List.mem_of_getElem? (i := 66) rfl)) rfl
set_option maxRecDepth 20000 in
theorem w_1095 : Cond.methodLink "DuesOnRungsLaw" 17 ⟨"DuesOnRungsModel", "due", "(II)I"⟩ ∈ LW := lw_LW (in_t5 _ (List.mem_of_getElem? (i := 69) rfl)) rfl
set_option maxRecDepth 20000 in
theorem w_1096 : Cond.instanceMethod ⟨"DuesOnRungsModel", "due", "(II)I"⟩ ∈ LW := lw_LW (in_t5 _ (List.mem_of_getElem? (i := 70) rfl)) rfl
set_option maxRecDepth 20000 in
theorem w_1097 : Cond.selects "DuesOnRungsModel" ⟨"DuesOnRungsModel", "due", "(II)I"⟩ ⟨"DuesOnRungsModel", "due", "(II)I"⟩ ∈ LW := lw_LW (in_t5 _ (List.mem_of_getElem? (i := 71) rfl)) rfl
set_option maxRecDepth 20000 in
theorem w_1098 : Cond.code ⟨"DuesOnRungsModel", "due", "(II)I"⟩ prog_14_method_9_code 4 (Option.some FieldType.int) ∈ LW := lw_LW (in_t5 _ (List.mem_of_getElem? (i := 72) rfl)) rfl
set_option maxRecDepth 20000 in
theorem w_1099 : Cond.methodLink "DuesOnRungsModel" 94 ⟨"DuesOnRungsModel", "isDay", "(I)Z"⟩ ∈ LW := lw_LW (in_t5 _ (List.mem_of_getElem? (i := 73) rfl)) rfl
set_option maxRecDepth 20000 in
theorem w_1100 : Cond.static ⟨"DuesOnRungsModel", "isDay", "(I)Z"⟩ ∈ LW := lw_LW (in_t5 _ (List.mem_of_getElem? (i := 74) rfl)) rfl
set_option maxRecDepth 20000 in
theorem w_1101 : Cond.code ⟨"DuesOnRungsModel", "isDay", "(I)Z"⟩ prog_14_method_3_code 1 (Option.some FieldType.boolean) ∈ LW := lw_LW (in_t5 _ (List.mem_of_getElem? (i := 75) rfl)) rfl
set_option maxRecDepth 20000 in
theorem w_1102 : Cond.methodLink "DuesOnRungsModel" 79 ⟨"DuesOnRungsModel", "within", "(III)Z"⟩ ∈ LW := lw_LW (in_t5 _ (List.mem_of_getElem? (i := 76) rfl)) rfl
set_option maxRecDepth 20000 in
theorem w_1103 : Cond.static ⟨"DuesOnRungsModel", "within", "(III)Z"⟩ ∈ LW := lw_LW (in_t5 _ (List.mem_of_getElem? (i := 77) rfl)) rfl
set_option maxRecDepth 20000 in
theorem w_1104 : Cond.code ⟨"DuesOnRungsModel", "within", "(III)Z"⟩ prog_14_method_2_code 3 (Option.some FieldType.boolean) ∈ LW := lw_LW (in_t5 _ (List.mem_of_getElem? (i := 78) rfl)) rfl
set_option maxRecDepth 20000 in
theorem w_1105 : Cond.methodLink "DuesOnRungsModel" 98 ⟨"DuesOnRungsModel", "becomes", "([IIII)I"⟩ ∈ LW := lw_LW (in_t5 _ (List.mem_of_getElem? (i := 79) rfl)) rfl
set_option maxRecDepth 20000 in
theorem w_1106 : Cond.static ⟨"DuesOnRungsModel", "becomes", "([IIII)I"⟩ ∈ LW := lw_LW (in_t5 _ (List.mem_of_getElem? (i := 80) rfl)) rfl
set_option maxRecDepth 20000 in
theorem w_1107 : Cond.code ⟨"DuesOnRungsModel", "becomes", "([IIII)I"⟩ prog_14_method_8_code 5 (Option.some FieldType.int) ∈ LW := lw_LW (in_t5 _ (List.mem_of_getElem? (i := 81) rfl)) rfl
set_option maxRecDepth 20000 in
theorem w_1108 : Cond.methodLink "DuesOnRungsModel" 90 ⟨"DuesOnRungsModel", "many", "([I)I"⟩ ∈ LW := lw_LW (in_t5 _ (List.mem_of_getElem? (i := 82) rfl)) rfl
set_option maxRecDepth 20000 in
theorem w_1109 : Cond.static ⟨"DuesOnRungsModel", "many", "([I)I"⟩ ∈ LW := lw_LW (in_t5 _ (List.mem_of_getElem? (i := 83) rfl)) rfl
set_option maxRecDepth 20000 in
theorem w_1110 : Cond.code ⟨"DuesOnRungsModel", "many", "([I)I"⟩ prog_14_method_7_code 3 (Option.some FieldType.int) ∈ LW := lw_LW (in_t5 _ (List.mem_of_getElem? (i := 84) rfl)) rfl
set_option maxRecDepth 20000 in
theorem w_1111 : Cond.methodLink "DuesOnRungsModel" 102 ⟨"DuesOnRungsModel", "finds", "()V"⟩ ∈ LW := lw_LW (in_t5 _ (List.mem_of_getElem? (i := 85) rfl)) rfl
set_option maxRecDepth 20000 in
theorem w_1113 : Cond.instanceMethod ⟨"DuesOnRungsModel", "finds", "()V"⟩ ∈ LW := lw_LW (in_t5 _ (List.mem_of_getElem? (i := 87) rfl)) rfl
set_option maxRecDepth 20000 in
theorem w_1114 : Cond.code ⟨"DuesOnRungsModel", "finds", "()V"⟩ prog_14_method_6_code 2 (Option.none : Option FieldType) ∈ LW := lw_LW (in_t5 _ (List.mem_of_getElem? (i := 88) rfl)) rfl
set_option maxRecDepth 20000 in
theorem w_1115 : Cond.methodLink "DuesOnRungsLaw" 21 ⟨"DuesOnRungsModel", "rate", "(II)I"⟩ ∈ LW := lw_LW (in_t5 _ (List.mem_of_getElem? (i := 89) rfl)) rfl
set_option maxRecDepth 20000 in
theorem w_1116 : Cond.instanceMethod ⟨"DuesOnRungsModel", "rate", "(II)I"⟩ ∈ LW := lw_LW (in_t5 _ (List.mem_of_getElem? (i := 90) rfl)) rfl
set_option maxRecDepth 20000 in
theorem w_1117 : Cond.selects "DuesOnRungsModel" ⟨"DuesOnRungsModel", "rate", "(II)I"⟩ ⟨"DuesOnRungsModel", "rate", "(II)I"⟩ ∈ LW := lw_LW (in_t5 _ (List.mem_of_getElem? (i := 91) rfl)) rfl
set_option maxRecDepth 20000 in
theorem w_1118 : Cond.code ⟨"DuesOnRungsModel", "rate", "(II)I"⟩ prog_14_method_10_code 4 (Option.some FieldType.int) ∈ LW := lw_LW (in_t5 _ (List.mem_of_getElem? (i := 92) rfl)) rfl
set_option maxRecDepth 20000 in
theorem w_1119 : Cond.methodLink "DuesOnRungsLaw" 25 ⟨"DuesOnRungsModel", "limit", "(II)I"⟩ ∈ LW := lw_LW (in_t5 _ (List.mem_of_getElem? (i := 93) rfl)) rfl
set_option maxRecDepth 20000 in
theorem w_1120 : Cond.instanceMethod ⟨"DuesOnRungsModel", "limit", "(II)I"⟩ ∈ LW := lw_LW (in_t5 _ (List.mem_of_getElem? (i := 94) rfl)) rfl
set_option maxRecDepth 20000 in
theorem w_1121 : Cond.selects "DuesOnRungsModel" ⟨"DuesOnRungsModel", "limit", "(II)I"⟩ ⟨"DuesOnRungsModel", "limit", "(II)I"⟩ ∈ LW := lw_LW (in_t5 _ (List.mem_of_getElem? (i := 95) rfl)) rfl
set_option maxRecDepth 20000 in
theorem w_1122 : Cond.code ⟨"DuesOnRungsModel", "limit", "(II)I"⟩ prog_14_method_11_code 4 (Option.some FieldType.int) ∈ LW := lw_LW (in_t5 _ (List.mem_of_getElem? (i := 96) rfl)) rfl
set_option maxRecDepth 20000 in
theorem w_1123 : Cond.methodLink "DuesOnRungsLaw" 29 ⟨"DuesOnRungsModel", "rung", "(II)I"⟩ ∈ LW := lw_LW (in_t5 _ (List.mem_of_getElem? (i := 97) rfl)) rfl
set_option maxRecDepth 20000 in
theorem w_1124 : Cond.instanceMethod ⟨"DuesOnRungsModel", "rung", "(II)I"⟩ ∈ LW := lw_LW (in_t5 _ (List.mem_of_getElem? (i := 98) rfl)) rfl
set_option maxRecDepth 20000 in
theorem w_1125 : Cond.selects "DuesOnRungsModel" ⟨"DuesOnRungsModel", "rung", "(II)I"⟩ ⟨"DuesOnRungsModel", "rung", "(II)I"⟩ ∈ LW := lw_LW (in_t5 _ (List.mem_of_getElem? (i := 99) rfl)) rfl
set_option maxRecDepth 20000 in
theorem w_1126 : Cond.code ⟨"DuesOnRungsModel", "rung", "(II)I"⟩ prog_14_method_15_code 4 (Option.some FieldType.int) ∈ LW := lw_LW (in_t5 _ (List.mem_of_getElem? (i := 100) rfl)) rfl
set_option maxRecDepth 20000 in
theorem w_1127 : Cond.methodLink "DuesOnRungsModel" 112 ⟨"DuesOnRungsModel", "isRung", "(I)Z"⟩ ∈ LW := lw_LW (in_t5 _ (List.mem_of_getElem? (i := 101) rfl)) rfl
set_option maxRecDepth 20000 in
theorem w_1129 : Cond.instanceMethod ⟨"DuesOnRungsModel", "isRung", "(I)Z"⟩ ∈ LW := lw_LW (in_t5 _ (List.mem_of_getElem? (i := 103) rfl)) rfl
set_option maxRecDepth 20000 in
theorem w_1130 : Cond.code ⟨"DuesOnRungsModel", "isRung", "(I)Z"⟩ prog_14_method_4_code 2 (Option.some FieldType.boolean) ∈ LW := lw_LW (in_t5 _ (List.mem_of_getElem? (i := 104) rfl)) rfl
set_option maxRecDepth 20000 in
theorem w_1131 : Cond.methodLink "DuesOnRungsModel" 109 ⟨"DuesOnRungsModel", "rateOf", "(I)I"⟩ ∈ LW := lw_LW (in_t5 _ (List.mem_of_getElem? (i := 105) rfl)) rfl
set_option maxRecDepth 20000 in
theorem w_1133 : Cond.instanceMethod ⟨"DuesOnRungsModel", "rateOf", "(I)I"⟩ ∈ LW := lw_LW (in_t5 _ (List.mem_of_getElem? (i := 107) rfl)) rfl
set_option maxRecDepth 20000 in
theorem w_1134 : Cond.code ⟨"DuesOnRungsModel", "rateOf", "(I)I"⟩ prog_14_method_12_code 3 (Option.some FieldType.int) ∈ LW := lw_LW (in_t5 _ (List.mem_of_getElem? (i := 108) rfl)) rfl
set_option maxRecDepth 20000 in
theorem w_1135 : Cond.methodLink "DuesOnRungsLaw" 33 ⟨"DuesOnRungsModel", "day", "(II)I"⟩ ∈ LW := lw_LW (in_t5 _ (List.mem_of_getElem? (i := 109) rfl)) rfl
set_option maxRecDepth 20000 in
theorem w_1136 : Cond.instanceMethod ⟨"DuesOnRungsModel", "day", "(II)I"⟩ ∈ LW := lw_LW (in_t5 _ (List.mem_of_getElem? (i := 110) rfl)) rfl
set_option maxRecDepth 20000 in
theorem w_1137 : Cond.selects "DuesOnRungsModel" ⟨"DuesOnRungsModel", "day", "(II)I"⟩ ⟨"DuesOnRungsModel", "day", "(II)I"⟩ ∈ LW := lw_LW (in_t5 _ (List.mem_of_getElem? (i := 111) rfl)) rfl
set_option maxRecDepth 20000 in
theorem w_1138 : Cond.code ⟨"DuesOnRungsModel", "day", "(II)I"⟩ prog_14_method_16_code 3 (Option.some FieldType.int) ∈ LW := lw_LW (in_t5 _ (List.mem_of_getElem? (i := 112) rfl)) rfl
set_option maxRecDepth 20000 in
theorem w_1139 : Cond.methodLink "DuesOnRungsModel" 105 ⟨"DuesOnRungsModel", "rungFor", "(I)I"⟩ ∈ LW := lw_LW (in_t5 _ (List.mem_of_getElem? (i := 113) rfl)) rfl
set_option maxRecDepth 20000 in
theorem w_1141 : Cond.instanceMethod ⟨"DuesOnRungsModel", "rungFor", "(I)I"⟩ ∈ LW := lw_LW (in_t5 _ (List.mem_of_getElem? (i := 115) rfl)) rfl
set_option maxRecDepth 20000 in
theorem w_1142 : Cond.code ⟨"DuesOnRungsModel", "rungFor", "(I)I"⟩ prog_14_method_13_code 3 (Option.some FieldType.int) ∈ LW := lw_LW (in_t5 _ (List.mem_of_getElem? (i := 116) rfl)) rfl
set_option maxRecDepth 20000 in
theorem w_1143 : Cond.methodLink "DuesOnRungsLaw" 38 ⟨"DuesOnRungsModel", "bond", "(IIIIII)I"⟩ ∈ LW := lw_LW (in_t5 _ (List.mem_of_getElem? (i := 117) rfl)) rfl
set_option maxRecDepth 20000 in
theorem w_1144 : Cond.instanceMethod ⟨"DuesOnRungsModel", "bond", "(IIIIII)I"⟩ ∈ LW := lw_LW (in_t5 _ (List.mem_of_getElem? (i := 118) rfl)) rfl
set_option maxRecDepth 20000 in
theorem w_1145 : Cond.selects "DuesOnRungsModel" ⟨"DuesOnRungsModel", "bond", "(IIIIII)I"⟩ ⟨"DuesOnRungsModel", "bond", "(IIIIII)I"⟩ ∈ LW := lw_LW (in_t5 _ (List.mem_of_getElem? (i := 119) rfl)) rfl
set_option maxRecDepth 20000 in
theorem w_1146 : Cond.code ⟨"DuesOnRungsModel", "bond", "(IIIIII)I"⟩ prog_14_method_18_code 7 (Option.some FieldType.int) ∈ LW := lw_LW (in_t5 _ (List.mem_of_getElem? (i := 120) rfl)) rfl
set_option maxRecDepth 20000 in
theorem w_1147 : Cond.methodLink "DuesOnRungsLaw" 42 ⟨"DuesOnRungsModel", "hold", "(II)I"⟩ ∈ LW := lw_LW (in_t5 _ (List.mem_of_getElem? (i := 121) rfl)) rfl
set_option maxRecDepth 20000 in
theorem w_1148 : Cond.instanceMethod ⟨"DuesOnRungsModel", "hold", "(II)I"⟩ ∈ LW := lw_LW (in_t5 _ (List.mem_of_getElem? (i := 122) rfl)) rfl
set_option maxRecDepth 20000 in
theorem w_1149 : Cond.selects "DuesOnRungsModel" ⟨"DuesOnRungsModel", "hold", "(II)I"⟩ ⟨"DuesOnRungsModel", "hold", "(II)I"⟩ ∈ LW := lw_LW (in_t5 _ (List.mem_of_getElem? (i := 123) rfl)) rfl
set_option maxRecDepth 20000 in
theorem w_1150 : Cond.code ⟨"DuesOnRungsModel", "hold", "(II)I"⟩ prog_14_method_19_code 4 (Option.some FieldType.int) ∈ LW := lw_LW (in_t5 _ (List.mem_of_getElem? (i := 124) rfl)) rfl
set_option maxRecDepth 20000 in
theorem w_1151 : Cond.methodLink "DuesOnRungsModel" 115 ⟨"DuesOnRungsModel", "isBond", "(I)Z"⟩ ∈ LW := lw_LW (in_t5 _ (List.mem_of_getElem? (i := 125) rfl)) rfl
set_option maxRecDepth 20000 in
theorem w_1153 : Cond.instanceMethod ⟨"DuesOnRungsModel", "isBond", "(I)Z"⟩ ∈ LW := lw_LW (in_t5 _ (List.mem_of_getElem? (i := 127) rfl)) rfl
set_option maxRecDepth 20000 in
theorem w_1154 : Cond.code ⟨"DuesOnRungsModel", "isBond", "(I)Z"⟩ prog_14_method_5_code 2 (Option.some FieldType.boolean) ∈ LW := lw_LW (in_t5 _ (List.mem_of_getElem? (i := 128) rfl)) rfl
set_option maxRecDepth 20000 in
theorem w_1155 : Cond.methodLink "DuesOnRungsModel" 118 ⟨"DuesOnRungsModel", "of", "(II)I"⟩ ∈ LW := lw_LW (in_t5 _ (List.mem_of_getElem? (i := 129) rfl)) rfl
set_option maxRecDepth 20000 in
theorem w_1157 : Cond.instanceMethod ⟨"DuesOnRungsModel", "of", "(II)I"⟩ ∈ LW := lw_LW (in_t5 _ (List.mem_of_getElem? (i := 131) rfl)) rfl
set_option maxRecDepth 20000 in
theorem w_1158 : Cond.code ⟨"DuesOnRungsModel", "of", "(II)I"⟩ prog_14_method_17_code 3 (Option.some FieldType.int) ∈ LW := lw_LW (in_t5 _ (List.mem_of_getElem? (i := 132) rfl)) rfl
set_option maxRecDepth 20000 in
theorem w_1159 : Cond.methodLink "DuesOnRungsLaw" 46 ⟨"DuesOnRungsModel", "told", "(II)I"⟩ ∈ LW := lw_LW (in_t5 _ (List.mem_of_getElem? (i := 133) rfl)) rfl
set_option maxRecDepth 20000 in
theorem w_1160 : Cond.instanceMethod ⟨"DuesOnRungsModel", "told", "(II)I"⟩ ∈ LW := lw_LW (in_t5 _ (List.mem_of_getElem? (i := 134) rfl)) rfl
set_option maxRecDepth 20000 in
theorem w_1161 : Cond.selects "DuesOnRungsModel" ⟨"DuesOnRungsModel", "told", "(II)I"⟩ ⟨"DuesOnRungsModel", "told", "(II)I"⟩ ∈ LW := lw_LW (in_t5 _ (List.mem_of_getElem? (i := 135) rfl)) rfl
set_option maxRecDepth 20000 in
theorem w_1162 : Cond.code ⟨"DuesOnRungsModel", "told", "(II)I"⟩ prog_14_method_25_code 3 (Option.some FieldType.int) ∈ LW := lw_LW (in_t5 _ (List.mem_of_getElem? (i := 136) rfl)) rfl
set_option maxRecDepth 20000 in
theorem w_1163 : Cond.methodLink "DuesOnRungsModel" 134 ⟨"DuesOnRungsModel", "lastOf", "(I)I"⟩ ∈ LW := lw_LW (in_t5 _ (List.mem_of_getElem? (i := 137) rfl)) rfl
set_option maxRecDepth 20000 in
theorem w_1165 : Cond.instanceMethod ⟨"DuesOnRungsModel", "lastOf", "(I)I"⟩ ∈ LW := lw_LW (in_t5 _ (List.mem_of_getElem? (i := 139) rfl)) rfl
set_option maxRecDepth 20000 in
theorem w_1166 : Cond.code ⟨"DuesOnRungsModel", "lastOf", "(I)I"⟩ prog_14_method_23_code 4 (Option.some FieldType.int) ∈ LW := lw_LW (in_t5 _ (List.mem_of_getElem? (i := 140) rfl)) rfl
set_option maxRecDepth 20000 in
theorem w_1167 : Cond.methodLink "DuesOnRungsModel" 131 ⟨"DuesOnRungsModel", "paysAtRung", "(II)I"⟩ ∈ LW := lw_LW (in_t5 _ (List.mem_of_getElem? (i := 141) rfl)) rfl
set_option maxRecDepth 20000 in
theorem w_1169 : Cond.instanceMethod ⟨"DuesOnRungsModel", "paysAtRung", "(II)I"⟩ ∈ LW := lw_LW (in_t5 _ (List.mem_of_getElem? (i := 143) rfl)) rfl
set_option maxRecDepth 20000 in
theorem w_1170 : Cond.code ⟨"DuesOnRungsModel", "paysAtRung", "(II)I"⟩ prog_14_method_22_code 5 (Option.some FieldType.int) ∈ LW := lw_LW (in_t5 _ (List.mem_of_getElem? (i := 144) rfl)) rfl
set_option maxRecDepth 20000 in
theorem w_1171 : Cond.methodLink "DuesOnRungsModel" 128 ⟨"DuesOnRungsModel", "paysOn", "(II)I"⟩ ∈ LW := lw_LW (in_t5 _ (List.mem_of_getElem? (i := 145) rfl)) rfl
set_option maxRecDepth 20000 in
theorem w_1173 : Cond.instanceMethod ⟨"DuesOnRungsModel", "paysOn", "(II)I"⟩ ∈ LW := lw_LW (in_t5 _ (List.mem_of_getElem? (i := 147) rfl)) rfl
set_option maxRecDepth 20000 in
theorem w_1174 : Cond.code ⟨"DuesOnRungsModel", "paysOn", "(II)I"⟩ prog_14_method_21_code 9 (Option.some FieldType.int) ∈ LW := lw_LW (in_t5 _ (List.mem_of_getElem? (i := 148) rfl)) rfl
set_option maxRecDepth 20000 in
theorem w_1175 : Cond.methodLink "DuesOnRungsModel" 122 ⟨"DuesOnRungsModel", "rateBy", "(I)I"⟩ ∈ LW := lw_LW (in_t5 _ (List.mem_of_getElem? (i := 149) rfl)) rfl
set_option maxRecDepth 20000 in
theorem w_1177 : Cond.instanceMethod ⟨"DuesOnRungsModel", "rateBy", "(I)I"⟩ ∈ LW := lw_LW (in_t5 _ (List.mem_of_getElem? (i := 151) rfl)) rfl
set_option maxRecDepth 20000 in
theorem w_1178 : Cond.code ⟨"DuesOnRungsModel", "rateBy", "(I)I"⟩ prog_14_method_14_code 3 (Option.some FieldType.int) ∈ LW := lw_LW (in_t5 _ (List.mem_of_getElem? (i := 152) rfl)) rfl
set_option maxRecDepth 20000 in
theorem w_1179 : Cond.methodLink "DuesOnRungsModel" 125 ⟨"DuesOnRungsModel", "calledOn", "(I)I"⟩ ∈ LW := lw_LW (in_t5 _ (List.mem_of_getElem? (i := 153) rfl)) rfl
set_option maxRecDepth 20000 in
theorem w_1181 : Cond.instanceMethod ⟨"DuesOnRungsModel", "calledOn", "(I)I"⟩ ∈ LW := lw_LW (in_t5 _ (List.mem_of_getElem? (i := 155) rfl)) rfl
set_option maxRecDepth 20000 in
theorem w_1182 : Cond.code ⟨"DuesOnRungsModel", "calledOn", "(I)I"⟩ prog_14_method_20_code 3 (Option.some FieldType.int) ∈ LW := lw_LW (in_t5 _ (List.mem_of_getElem? (i := 156) rfl)) rfl
set_option maxRecDepth 20000 in
theorem w_1183 : Cond.methodLink "DuesOnRungsModel" 137 ⟨"DuesOnRungsModel", "allOf", "(I)I"⟩ ∈ LW := lw_LW (in_t5 _ (List.mem_of_getElem? (i := 157) rfl)) rfl
set_option maxRecDepth 20000 in
theorem w_1185 : Cond.instanceMethod ⟨"DuesOnRungsModel", "allOf", "(I)I"⟩ ∈ LW := lw_LW (in_t5 _ (List.mem_of_getElem? (i := 159) rfl)) rfl
set_option maxRecDepth 20000 in
theorem w_1186 : Cond.code ⟨"DuesOnRungsModel", "allOf", "(I)I"⟩ prog_14_method_24_code 4 (Option.some FieldType.int) ∈ LW := lw_LW (in_t5 _ (List.mem_of_getElem? (i := 160) rfl)) rfl
set_option maxRecDepth 20000 in
theorem w_1187 : Cond.methodLink "DuesOnRungsLaw" 50 ⟨"DuesOnRungsModel", "pays", "(II)I"⟩ ∈ LW := lw_LW (in_t5 _ (List.mem_of_getElem? (i := 161) rfl)) rfl
set_option maxRecDepth 20000 in
theorem w_1188 : Cond.instanceMethod ⟨"DuesOnRungsModel", "pays", "(II)I"⟩ ∈ LW := lw_LW (in_t5 _ (List.mem_of_getElem? (i := 162) rfl)) rfl
set_option maxRecDepth 20000 in
theorem w_1189 : Cond.selects "DuesOnRungsModel" ⟨"DuesOnRungsModel", "pays", "(II)I"⟩ ⟨"DuesOnRungsModel", "pays", "(II)I"⟩ ∈ LW := lw_LW (in_t5 _ (List.mem_of_getElem? (i := 163) rfl)) rfl
set_option maxRecDepth 20000 in
theorem w_1190 : Cond.code ⟨"DuesOnRungsModel", "pays", "(II)I"⟩ prog_14_method_26_code 3 (Option.some FieldType.int) ∈ LW := lw_LW (in_t5 _ (List.mem_of_getElem? (i := 164) rfl)) rfl
set_option maxRecDepth 20000 in
theorem w_1191 : Cond.methodLink "DuesOnRungsLaw" 54 ⟨"DuesOnRungsModel", "paysAt", "(II)I"⟩ ∈ LW := lw_LW (in_t5 _ (List.mem_of_getElem? (i := 165) rfl)) rfl
set_option maxRecDepth 20000 in
theorem w_1192 : Cond.instanceMethod ⟨"DuesOnRungsModel", "paysAt", "(II)I"⟩ ∈ LW := lw_LW (in_t5 _ (List.mem_of_getElem? (i := 166) rfl)) rfl
set_option maxRecDepth 20000 in
theorem w_1193 : Cond.selects "DuesOnRungsModel" ⟨"DuesOnRungsModel", "paysAt", "(II)I"⟩ ⟨"DuesOnRungsModel", "paysAt", "(II)I"⟩ ∈ LW := lw_LW (in_t5 _ (List.mem_of_getElem? (i := 167) rfl)) rfl
set_option maxRecDepth 20000 in
theorem w_1194 : Cond.code ⟨"DuesOnRungsModel", "paysAt", "(II)I"⟩ prog_14_method_27_code 3 (Option.some FieldType.int) ∈ LW := lw_LW (in_t5 _ (List.mem_of_getElem? (i := 168) rfl)) rfl
set_option maxRecDepth 20000 in
theorem w_1195 : Cond.methodLink "DuesOnRungsLaw" 58 ⟨"DuesOnRungsModel", "taken", "(II)I"⟩ ∈ LW := lw_LW (in_t5 _ (List.mem_of_getElem? (i := 169) rfl)) rfl
set_option maxRecDepth 20000 in
theorem w_1196 : Cond.instanceMethod ⟨"DuesOnRungsModel", "taken", "(II)I"⟩ ∈ LW := lw_LW (in_t5 _ (List.mem_of_getElem? (i := 170) rfl)) rfl
set_option maxRecDepth 20000 in
theorem w_1197 : Cond.selects "DuesOnRungsModel" ⟨"DuesOnRungsModel", "taken", "(II)I"⟩ ⟨"DuesOnRungsModel", "taken", "(II)I"⟩ ∈ LW := lw_LW (in_t5 _ (List.mem_of_getElem? (i := 171) rfl)) rfl
set_option maxRecDepth 20000 in
theorem w_1198 : Cond.code ⟨"DuesOnRungsModel", "taken", "(II)I"⟩ prog_14_method_29_code 4 (Option.some FieldType.int) ∈ LW := lw_LW (in_t5 _ (List.mem_of_getElem? (i := 172) rfl)) rfl
set_option maxRecDepth 20000 in
theorem w_1199 : Cond.methodLink "DuesOnRungsModel" 140 ⟨"DuesOnRungsModel", "above", "(I)I"⟩ ∈ LW := lw_LW (in_t5 _ (List.mem_of_getElem? (i := 173) rfl)) rfl
set_option maxRecDepth 20000 in
theorem w_1200 : Cond.static ⟨"DuesOnRungsModel", "above", "(I)I"⟩ ∈ LW := lw_LW (in_t5 _ (List.mem_of_getElem? (i := 174) rfl)) rfl
set_option maxRecDepth 20000 in
theorem w_1201 : Cond.code ⟨"DuesOnRungsModel", "above", "(I)I"⟩ prog_14_method_28_code 1 (Option.some FieldType.int) ∈ LW := lw_LW (in_t5 _ (List.mem_of_getElem? (i := 175) rfl)) rfl
set_option maxRecDepth 20000 in
theorem w_1202 : Cond.methodLink "DuesOnRungsLaw" 62 ⟨"DuesOnRungsModel", "ranked", "(II)I"⟩ ∈ LW := lw_LW (in_t5 _ (List.mem_of_getElem? (i := 176) rfl)) rfl
set_option maxRecDepth 20000 in
theorem w_1203 : Cond.instanceMethod ⟨"DuesOnRungsModel", "ranked", "(II)I"⟩ ∈ LW := lw_LW (in_t5 _ (List.mem_of_getElem? (i := 177) rfl)) rfl
set_option maxRecDepth 20000 in
theorem w_1204 : Cond.selects "DuesOnRungsModel" ⟨"DuesOnRungsModel", "ranked", "(II)I"⟩ ⟨"DuesOnRungsModel", "ranked", "(II)I"⟩ ∈ LW := lw_LW (in_t5 _ (List.mem_of_getElem? (i := 178) rfl)) rfl
set_option maxRecDepth 20000 in
theorem w_1205 : Cond.code ⟨"DuesOnRungsModel", "ranked", "(II)I"⟩ prog_14_method_32_code 3 (Option.some FieldType.int) ∈ LW := lw_LW (in_t5 _ (List.mem_of_getElem? (i := 179) rfl)) rfl
set_option maxRecDepth 20000 in
theorem w_1206 : Cond.methodLink "DuesOnRungsModel" 146 ⟨"DuesOnRungsModel", "ranks", "(I)V"⟩ ∈ LW := lw_LW (in_t5 _ (List.mem_of_getElem? (i := 180) rfl)) rfl
set_option maxRecDepth 20000 in
theorem w_1208 : Cond.instanceMethod ⟨"DuesOnRungsModel", "ranks", "(I)V"⟩ ∈ LW := lw_LW (in_t5 _ (List.mem_of_getElem? (i := 182) rfl)) rfl
set_option maxRecDepth 20000 in
theorem w_1209 : Cond.code ⟨"DuesOnRungsModel", "ranks", "(I)V"⟩ prog_14_method_31_code 4 (Option.none : Option FieldType) ∈ LW := lw_LW (in_t5 _ (List.mem_of_getElem? (i := 183) rfl)) rfl
set_option maxRecDepth 20000 in
theorem w_1210 : Cond.methodLink "DuesOnRungsModel" 143 ⟨"DuesOnRungsModel", "isAhead", "(III)Z"⟩ ∈ LW := lw_LW (in_t5 _ (List.mem_of_getElem? (i := 184) rfl)) rfl
set_option maxRecDepth 20000 in
theorem w_1212 : Cond.instanceMethod ⟨"DuesOnRungsModel", "isAhead", "(III)Z"⟩ ∈ LW := lw_LW (in_t5 _ (List.mem_of_getElem? (i := 186) rfl)) rfl
set_option maxRecDepth 20000 in
theorem w_1213 : Cond.code ⟨"DuesOnRungsModel", "isAhead", "(III)Z"⟩ prog_14_method_30_code 4 (Option.some FieldType.boolean) ∈ LW := lw_LW (in_t5 _ (List.mem_of_getElem? (i := 187) rfl)) rfl
set_option maxRecDepth 20000 in
theorem w_1214 : Cond.methodLink "DuesOnRungsLaw" 67 ⟨"DuesOnRungsModel", "worth", "(II)J"⟩ ∈ LW := lw_LW (in_t5 _ (List.mem_of_getElem? (i := 188) rfl)) rfl
set_option maxRecDepth 20000 in
theorem w_1215 : Cond.instanceMethod ⟨"DuesOnRungsModel", "worth", "(II)J"⟩ ∈ LW := lw_LW (in_t5 _ (List.mem_of_getElem? (i := 189) rfl)) rfl
set_option maxRecDepth 20000 in
theorem w_1216 : Cond.selects "DuesOnRungsModel" ⟨"DuesOnRungsModel", "worth", "(II)J"⟩ ⟨"DuesOnRungsModel", "worth", "(II)J"⟩ ∈ LW := lw_LW (in_t5 _ (List.mem_of_getElem? (i := 190) rfl)) rfl
set_option maxRecDepth 20000 in
theorem w_1217 : Cond.code ⟨"DuesOnRungsModel", "worth", "(II)J"⟩ prog_14_method_48_code 3 (Option.some FieldType.long) ∈ LW := lw_LW (in_t5 _ (List.mem_of_getElem? (i := 191) rfl)) rfl
set_option maxRecDepth 20000 in
theorem w_1218 : Cond.methodLink "DuesOnRungsModel" 212 ⟨"DuesOnRungsModel", "isRow", "(I)Z"⟩ ∈ LW := lw_LW (in_t5 _ (List.mem_of_getElem? (i := 192) rfl)) rfl
set_option maxRecDepth 20000 in
theorem w_1220 : Cond.instanceMethod ⟨"DuesOnRungsModel", "isRow", "(I)Z"⟩ ∈ LW := lw_LW (in_t5 _ (List.mem_of_getElem? (i := 194) rfl)) rfl
set_option maxRecDepth 20000 in
theorem w_1221 : Cond.code ⟨"DuesOnRungsModel", "isRow", "(I)Z"⟩ prog_14_method_42_code 2 (Option.some FieldType.boolean) ∈ LW := lw_LW (in_t5 _ (List.mem_of_getElem? (i := 195) rfl)) rfl
set_option maxRecDepth 20000 in
theorem w_1222 : Cond.constantLong "DuesOnRungsModel" 150 (-9223372036854775808 : Int64) ∈ LW := lw_LW (in_t5 _ (List.mem_of_getElem? (i := 196) rfl)) rfl
set_option maxRecDepth 20000 in
theorem w_1223 : Cond.methodLink "DuesOnRungsModel" 215 ⟨"DuesOnRungsModel", "worthOf", "(I)V"⟩ ∈ LW := lw_LW (in_t5 _ (List.mem_of_getElem? (i := 197) rfl)) rfl
set_option maxRecDepth 20000 in
theorem w_1225 : Cond.instanceMethod ⟨"DuesOnRungsModel", "worthOf", "(I)V"⟩ ∈ LW := lw_LW (in_t5 _ (List.mem_of_getElem? (i := 199) rfl)) rfl
set_option maxRecDepth 20000 in
theorem w_1226 : Cond.code ⟨"DuesOnRungsModel", "worthOf", "(I)V"⟩ prog_14_method_47_code 7 (Option.none : Option FieldType) ∈ LW := lw_LW (in_t5 _ (List.mem_of_getElem? (i := 200) rfl)) rfl
set_option maxRecDepth 20000 in
theorem w_1227 : Cond.methodLink "DuesOnRungsModel" 205 ⟨"DuesOnRungsModel", "worthAt", "(II)V"⟩ ∈ LW := lw_LW (in_t5 _ (List.mem_of_getElem? (i := 201) rfl)) rfl
set_option maxRecDepth 20000 in
theorem w_1229 : Cond.instanceMethod ⟨"DuesOnRungsModel", "worthAt", "(II)V"⟩ ∈ LW := lw_LW (in_t5 _ (List.mem_of_getElem? (i := 203) rfl)) rfl
set_option maxRecDepth 20000 in
theorem w_1230 : Cond.code ⟨"DuesOnRungsModel", "worthAt", "(II)V"⟩ prog_14_method_46_code 4 (Option.none : Option FieldType) ∈ LW := lw_LW (in_t5 _ (List.mem_of_getElem? (i := 204) rfl)) rfl
set_option maxRecDepth 20000 in
theorem w_1231 : Cond.methodLink "DuesOnRungsModel" 198 ⟨"DuesOnRungsModel", "amountAt", "(II)I"⟩ ∈ LW := lw_LW (in_t5 _ (List.mem_of_getElem? (i := 205) rfl)) rfl
set_option maxRecDepth 20000 in
theorem w_1233 : Cond.instanceMethod ⟨"DuesOnRungsModel", "amountAt", "(II)I"⟩ ∈ LW := lw_LW (in_t5 _ (List.mem_of_getElem? (i := 207) rfl)) rfl
set_option maxRecDepth 20000 in
theorem w_1234 : Cond.code ⟨"DuesOnRungsModel", "amountAt", "(II)I"⟩ prog_14_method_43_code 5 (Option.some FieldType.int) ∈ LW := lw_LW (in_t5 _ (List.mem_of_getElem? (i := 208) rfl)) rfl
set_option maxRecDepth 20000 in
theorem w_1235 : Cond.methodLink "DuesOnRungsModel" 201 ⟨"DuesOnRungsModel", "byFactor", "(IZ)V"⟩ ∈ LW := lw_LW (in_t5 _ (List.mem_of_getElem? (i := 209) rfl)) rfl
set_option maxRecDepth 20000 in
theorem w_1237 : Cond.instanceMethod ⟨"DuesOnRungsModel", "byFactor", "(IZ)V"⟩ ∈ LW := lw_LW (in_t5 _ (List.mem_of_getElem? (i := 211) rfl)) rfl
set_option maxRecDepth 20000 in
theorem w_1238 : Cond.code ⟨"DuesOnRungsModel", "byFactor", "(IZ)V"⟩ prog_14_method_45_code 7 (Option.none : Option FieldType) ∈ LW := lw_LW (in_t5 _ (List.mem_of_getElem? (i := 212) rfl)) rfl
set_option maxRecDepth 20000 in
theorem w_1239 : Cond.methodLink "DuesOnRungsModel" 190 ⟨"DuesOnRungsModel", "factor", "(I)I"⟩ ∈ LW := lw_LW (in_t5 _ (List.mem_of_getElem? (i := 213) rfl)) rfl
set_option maxRecDepth 20000 in
theorem w_1241 : Cond.instanceMethod ⟨"DuesOnRungsModel", "factor", "(I)I"⟩ ∈ LW := lw_LW (in_t5 _ (List.mem_of_getElem? (i := 215) rfl)) rfl
set_option maxRecDepth 20000 in
theorem w_1242 : Cond.code ⟨"DuesOnRungsModel", "factor", "(I)I"⟩ prog_14_method_44_code 2 (Option.some FieldType.int) ∈ LW := lw_LW (in_t5 _ (List.mem_of_getElem? (i := 216) rfl)) rfl
set_option maxRecDepth 20000 in
theorem w_1243 : Cond.constantLong "DuesOnRungsModel" 193 (4 : Int64) ∈ LW := lw_LW (in_t5 _ (List.mem_of_getElem? (i := 217) rfl)) rfl
set_option maxRecDepth 20000 in
theorem w_1244 : Cond.methodLink "DuesOnRungsModel" 179 ⟨"DuesOnRungsModel", "lowest", "(JJ)V"⟩ ∈ LW := lw_LW (in_t5 _ (List.mem_of_getElem? (i := 218) rfl)) rfl
set_option maxRecDepth 20000 in
theorem w_1246 : Cond.instanceMethod ⟨"DuesOnRungsModel", "lowest", "(JJ)V"⟩ ∈ LW := lw_LW (in_t5 _ (List.mem_of_getElem? (i := 220) rfl)) rfl
set_option maxRecDepth 20000 in
theorem w_1247 : Cond.code ⟨"DuesOnRungsModel", "lowest", "(JJ)V"⟩ prog_14_method_36_code 7 (Option.none : Option FieldType) ∈ LW := lw_LW (in_t5 _ (List.mem_of_getElem? (i := 221) rfl)) rfl
set_option maxRecDepth 20000 in
theorem w_1248 : Cond.methodLink "DuesOnRungsModel" 169 ⟨"DuesOnRungsModel", "common", "(JJ)J"⟩ ∈ LW := lw_LW (in_t5 _ (List.mem_of_getElem? (i := 222) rfl)) rfl
set_option maxRecDepth 20000 in
theorem w_1249 : Cond.static ⟨"DuesOnRungsModel", "common", "(JJ)J"⟩ ∈ LW := lw_LW (in_t5 _ (List.mem_of_getElem? (i := 223) rfl)) rfl
set_option maxRecDepth 20000 in
theorem w_1250 : Cond.code ⟨"DuesOnRungsModel", "common", "(JJ)J"⟩ prog_14_method_35_code 10 (Option.some FieldType.long) ∈ LW := lw_LW (in_t5 _ (List.mem_of_getElem? (i := 224) rfl)) rfl
set_option maxRecDepth 20000 in
theorem w_1251 : Cond.methodLink "DuesOnRungsModel" 156 ⟨"java/lang/Math", "abs", "(J)J"⟩ ∈ LW := lw_LW (in_t5 _ (List.mem_of_getElem? (i := 225) rfl)) rfl
set_option maxRecDepth 20000 in
theorem w_1252 : Cond.static ⟨"java/lang/Math", "abs", "(J)J"⟩ ∈ LW := lw_LW (in_t5 _ (List.mem_of_getElem? (i := 226) rfl)) rfl
set_option maxRecDepth 20000 in
theorem w_1253 : Cond.code ⟨"java/lang/Math", "abs", "(J)J"⟩ prog_16_method_61_code 2 (Option.some FieldType.long) ∈ LW := lw_LW (in_t5 _ (List.mem_of_getElem? (i := 227) rfl)) rfl
set_option maxRecDepth 20000 in
theorem w_1254 : Cond.methodLink "DuesOnRungsModel" 195 ⟨"DuesOnRungsModel", "quotient", "(JJJJ)V"⟩ ∈ LW := lw_LW (in_t5 _ (List.mem_of_getElem? (i := 228) rfl)) rfl
set_option maxRecDepth 20000 in
theorem w_1256 : Cond.instanceMethod ⟨"DuesOnRungsModel", "quotient", "(JJJJ)V"⟩ ∈ LW := lw_LW (in_t5 _ (List.mem_of_getElem? (i := 230) rfl)) rfl
set_option maxRecDepth 20000 in
theorem w_1257 : Cond.code ⟨"DuesOnRungsModel", "quotient", "(JJJJ)V"⟩ prog_14_method_39_code 9 (Option.none : Option FieldType) ∈ LW := lw_LW (in_t5 _ (List.mem_of_getElem? (i := 231) rfl)) rfl
set_option maxRecDepth 20000 in
theorem w_1258 : Cond.methodLink "DuesOnRungsModel" 183 ⟨"DuesOnRungsModel", "product", "(JJJJ)V"⟩ ∈ LW := lw_LW (in_t5 _ (List.mem_of_getElem? (i := 232) rfl)) rfl
set_option maxRecDepth 20000 in
theorem w_1260 : Cond.instanceMethod ⟨"DuesOnRungsModel", "product", "(JJJJ)V"⟩ ∈ LW := lw_LW (in_t5 _ (List.mem_of_getElem? (i := 234) rfl)) rfl
set_option maxRecDepth 20000 in
theorem w_1261 : Cond.code ⟨"DuesOnRungsModel", "product", "(JJJJ)V"⟩ prog_14_method_38_code 9 (Option.none : Option FieldType) ∈ LW := lw_LW (in_t5 _ (List.mem_of_getElem? (i := 235) rfl)) rfl
set_option maxRecDepth 20000 in
theorem w_1262 : Cond.methodLink "DuesOnRungsModel" 173 ⟨"DuesOnRungsModel", "times", "(JJ)J"⟩ ∈ LW := lw_LW (in_t5 _ (List.mem_of_getElem? (i := 236) rfl)) rfl
set_option maxRecDepth 20000 in
theorem w_1264 : Cond.instanceMethod ⟨"DuesOnRungsModel", "times", "(JJ)J"⟩ ∈ LW := lw_LW (in_t5 _ (List.mem_of_getElem? (i := 238) rfl)) rfl
set_option maxRecDepth 20000 in
theorem w_1265 : Cond.code ⟨"DuesOnRungsModel", "times", "(JJ)J"⟩ prog_14_method_33_code 7 (Option.some FieldType.long) ∈ LW := lw_LW (in_t5 _ (List.mem_of_getElem? (i := 239) rfl)) rfl
set_option maxRecDepth 20000 in
theorem w_1266 : Cond.methodLink "DuesOnRungsModel" 209 ⟨"DuesOnRungsModel", "sum", "(JJJJ)V"⟩ ∈ LW := lw_LW (in_t6 _ (List.mem_of_getElem? (i := 0) rfl)) rfl
set_option maxRecDepth 20000 in
theorem w_1268 : Cond.instanceMethod ⟨"DuesOnRungsModel", "sum", "(JJJJ)V"⟩ ∈ LW := lw_LW (in_t6 _ (List.mem_of_getElem? (i := 2) rfl)) rfl
set_option maxRecDepth 20000 in
theorem w_1269 : Cond.code ⟨"DuesOnRungsModel", "sum", "(JJJJ)V"⟩ prog_14_method_37_code 13 (Option.none : Option FieldType) ∈ LW := lw_LW (in_t6 _ (List.mem_of_getElem? (i := 3) rfl)) rfl
set_option maxRecDepth 20000 in
theorem w_1270 : Cond.methodLink "DuesOnRungsModel" 176 ⟨"DuesOnRungsModel", "plus", "(JJ)J"⟩ ∈ LW := lw_LW (in_t6 _ (List.mem_of_getElem? (i := 4) rfl)) rfl
set_option maxRecDepth 20000 in
theorem w_1272 : Cond.instanceMethod ⟨"DuesOnRungsModel", "plus", "(JJ)J"⟩ ∈ LW := lw_LW (in_t6 _ (List.mem_of_getElem? (i := 6) rfl)) rfl
set_option maxRecDepth 20000 in
theorem w_1273 : Cond.code ⟨"DuesOnRungsModel", "plus", "(JJ)J"⟩ prog_14_method_34_code 7 (Option.some FieldType.long) ∈ LW := lw_LW (in_t6 _ (List.mem_of_getElem? (i := 7) rfl)) rfl
set_option maxRecDepth 20000 in
theorem w_1274 : Cond.methodLink "DuesOnRungsModel" 218 ⟨"DuesOnRungsModel", "part", "(I)J"⟩ ∈ LW := lw_LW (in_t6 _ (List.mem_of_getElem? (i := 8) rfl)) rfl
set_option maxRecDepth 20000 in
theorem w_1276 : Cond.instanceMethod ⟨"DuesOnRungsModel", "part", "(I)J"⟩ ∈ LW := lw_LW (in_t6 _ (List.mem_of_getElem? (i := 10) rfl)) rfl
set_option maxRecDepth 20000 in
theorem w_1277 : Cond.code ⟨"DuesOnRungsModel", "part", "(I)J"⟩ prog_14_method_41_code 2 (Option.some FieldType.long) ∈ LW := lw_LW (in_t6 _ (List.mem_of_getElem? (i := 11) rfl)) rfl
set_option maxRecDepth 20000 in
theorem w_1278 : Cond.methodLink "DuesOnRungsLaw" 72 ⟨"DuesOnRungsModel", "length", "(III)J"⟩ ∈ LW := lw_LW (in_t6 _ (List.mem_of_getElem? (i := 12) rfl)) rfl
set_option maxRecDepth 20000 in
theorem w_1279 : Cond.instanceMethod ⟨"DuesOnRungsModel", "length", "(III)J"⟩ ∈ LW := lw_LW (in_t6 _ (List.mem_of_getElem? (i := 13) rfl)) rfl
set_option maxRecDepth 20000 in
theorem w_1280 : Cond.selects "DuesOnRungsModel" ⟨"DuesOnRungsModel", "length", "(III)J"⟩ ⟨"DuesOnRungsModel", "length", "(III)J"⟩ ∈ LW := lw_LW (in_t6 _ (List.mem_of_getElem? (i := 14) rfl)) rfl
set_option maxRecDepth 20000 in
theorem w_1281 : Cond.code ⟨"DuesOnRungsModel", "length", "(III)J"⟩ prog_14_method_50_code 4 (Option.some FieldType.long) ∈ LW := lw_LW (in_t6 _ (List.mem_of_getElem? (i := 15) rfl)) rfl
set_option maxRecDepth 20000 in
theorem w_1282 : Cond.methodLink "DuesOnRungsModel" 224 ⟨"DuesOnRungsModel", "lengthOf", "(IZJJ)V"⟩ ∈ LW := lw_LW (in_t6 _ (List.mem_of_getElem? (i := 16) rfl)) rfl
set_option maxRecDepth 20000 in
theorem w_1284 : Cond.instanceMethod ⟨"DuesOnRungsModel", "lengthOf", "(IZJJ)V"⟩ ∈ LW := lw_LW (in_t6 _ (List.mem_of_getElem? (i := 18) rfl)) rfl
set_option maxRecDepth 20000 in
theorem w_1285 : Cond.code ⟨"DuesOnRungsModel", "lengthOf", "(IZJJ)V"⟩ prog_14_method_49_code 16 (Option.none : Option FieldType) ∈ LW := lw_LW (in_t6 _ (List.mem_of_getElem? (i := 19) rfl)) rfl
set_option maxRecDepth 20000 in
theorem w_1286 : Cond.constantLong "DuesOnRungsModel" 222 (-1 : Int64) ∈ LW := lw_LW (in_t6 _ (List.mem_of_getElem? (i := 20) rfl)) rfl
set_option maxRecDepth 20000 in
theorem w_1287 : Cond.methodLink "DuesOnRungsLaw" 77 ⟨"DuesOnRungsModel", "surplus", "(I)J"⟩ ∈ LW := lw_LW (in_t6 _ (List.mem_of_getElem? (i := 21) rfl)) rfl
set_option maxRecDepth 20000 in
theorem w_1288 : Cond.instanceMethod ⟨"DuesOnRungsModel", "surplus", "(I)J"⟩ ∈ LW := lw_LW (in_t6 _ (List.mem_of_getElem? (i := 22) rfl)) rfl
set_option maxRecDepth 20000 in
theorem w_1289 : Cond.selects "DuesOnRungsModel" ⟨"DuesOnRungsModel", "surplus", "(I)J"⟩ ⟨"DuesOnRungsModel", "surplus", "(I)J"⟩ ∈ LW := lw_LW (in_t6 _ (List.mem_of_getElem? (i := 23) rfl)) rfl
set_option maxRecDepth 20000 in
theorem w_1290 : Cond.code ⟨"DuesOnRungsModel", "surplus", "(I)J"⟩ prog_14_method_51_code 6 (Option.some FieldType.long) ∈ LW := lw_LW (in_t6 _ (List.mem_of_getElem? (i := 24) rfl)) rfl
set_option maxRecDepth 20000 in
theorem w_1291 : Cond.methodLink "DuesOnRungsLaw" 82 ⟨"DuesOnRungsModel", "least", "()I"⟩ ∈ LW := lw_LW (in_t6 _ (List.mem_of_getElem? (i := 25) rfl)) rfl
set_option maxRecDepth 20000 in
theorem w_1292 : Cond.instanceMethod ⟨"DuesOnRungsModel", "least", "()I"⟩ ∈ LW := lw_LW (in_t6 _ (List.mem_of_getElem? (i := 26) rfl)) rfl
set_option maxRecDepth 20000 in
theorem w_1293 : Cond.selects "DuesOnRungsModel" ⟨"DuesOnRungsModel", "least", "()I"⟩ ⟨"DuesOnRungsModel", "least", "()I"⟩ ∈ LW := lw_LW (in_t6 _ (List.mem_of_getElem? (i := 27) rfl)) rfl
set_option maxRecDepth 20000 in
theorem w_1294 : Cond.code ⟨"DuesOnRungsModel", "least", "()I"⟩ prog_14_method_60_code 1 (Option.some FieldType.int) ∈ LW := lw_LW (in_t6 _ (List.mem_of_getElem? (i := 28) rfl)) rfl
set_option maxRecDepth 20000 in
theorem w_1295 : Cond.methodLink "DuesOnRungsModel" 259 ⟨"DuesOnRungsModel", "solved", "()I"⟩ ∈ LW := lw_LW (in_t6 _ (List.mem_of_getElem? (i := 29) rfl)) rfl
set_option maxRecDepth 20000 in
theorem w_1297 : Cond.instanceMethod ⟨"DuesOnRungsModel", "solved", "()I"⟩ ∈ LW := lw_LW (in_t6 _ (List.mem_of_getElem? (i := 31) rfl)) rfl
set_option maxRecDepth 20000 in
theorem w_1298 : Cond.code ⟨"DuesOnRungsModel", "solved", "()I"⟩ prog_14_method_59_code 5 (Option.some FieldType.int) ∈ LW := lw_LW (in_t6 _ (List.mem_of_getElem? (i := 32) rfl)) rfl
set_option maxRecDepth 20000 in
theorem w_1299 : Cond.methodLink "DuesOnRungsModel" 242 ⟨"DuesOnRungsModel", "begins", "()V"⟩ ∈ LW := lw_LW (in_t6 _ (List.mem_of_getElem? (i := 33) rfl)) rfl
set_option maxRecDepth 20000 in
theorem w_1301 : Cond.instanceMethod ⟨"DuesOnRungsModel", "begins", "()V"⟩ ∈ LW := lw_LW (in_t6 _ (List.mem_of_getElem? (i := 35) rfl)) rfl
set_option maxRecDepth 20000 in
theorem w_1302 : Cond.code ⟨"DuesOnRungsModel", "begins", "()V"⟩ prog_14_method_54_code 3 (Option.none : Option FieldType) ∈ LW := lw_LW (in_t6 _ (List.mem_of_getElem? (i := 36) rfl)) rfl
set_option maxRecDepth 20000 in
theorem w_1303 : Cond.methodLink "DuesOnRungsModel" 231 ⟨"DuesOnRungsModel", "comes", "(IZJ)V"⟩ ∈ LW := lw_LW (in_t6 _ (List.mem_of_getElem? (i := 37) rfl)) rfl
set_option maxRecDepth 20000 in
theorem w_1305 : Cond.instanceMethod ⟨"DuesOnRungsModel", "comes", "(IZJ)V"⟩ ∈ LW := lw_LW (in_t6 _ (List.mem_of_getElem? (i := 39) rfl)) rfl
set_option maxRecDepth 20000 in
theorem w_1306 : Cond.code ⟨"DuesOnRungsModel", "comes", "(IZJ)V"⟩ prog_14_method_53_code 6 (Option.none : Option FieldType) ∈ LW := lw_LW (in_t6 _ (List.mem_of_getElem? (i := 40) rfl)) rfl
set_option maxRecDepth 20000 in
theorem w_1307 : Cond.methodLink "DuesOnRungsModel" 235 ⟨"DuesOnRungsModel", "isRoom", "(I)Z"⟩ ∈ LW := lw_LW (in_t6 _ (List.mem_of_getElem? (i := 41) rfl)) rfl
set_option maxRecDepth 20000 in
theorem w_1309 : Cond.instanceMethod ⟨"DuesOnRungsModel", "isRoom", "(I)Z"⟩ ∈ LW := lw_LW (in_t6 _ (List.mem_of_getElem? (i := 43) rfl)) rfl
set_option maxRecDepth 20000 in
theorem w_1310 : Cond.code ⟨"DuesOnRungsModel", "isRoom", "(I)Z"⟩ prog_14_method_52_code 2 (Option.some FieldType.boolean) ∈ LW := lw_LW (in_t6 _ (List.mem_of_getElem? (i := 44) rfl)) rfl
set_option maxRecDepth 20000 in
theorem w_1311 : Cond.methodLink "DuesOnRungsModel" 245 ⟨"DuesOnRungsModel", "leaves", "()I"⟩ ∈ LW := lw_LW (in_t6 _ (List.mem_of_getElem? (i := 45) rfl)) rfl
set_option maxRecDepth 20000 in
theorem w_1313 : Cond.instanceMethod ⟨"DuesOnRungsModel", "leaves", "()I"⟩ ∈ LW := lw_LW (in_t6 _ (List.mem_of_getElem? (i := 47) rfl)) rfl
set_option maxRecDepth 20000 in
theorem w_1314 : Cond.code ⟨"DuesOnRungsModel", "leaves", "()I"⟩ prog_14_method_55_code 3 (Option.some FieldType.int) ∈ LW := lw_LW (in_t6 _ (List.mem_of_getElem? (i := 48) rfl)) rfl
set_option maxRecDepth 20000 in
theorem w_1315 : Cond.methodLink "DuesOnRungsModel" 249 ⟨"DuesOnRungsModel", "enters", "(I)I"⟩ ∈ LW := lw_LW (in_t6 _ (List.mem_of_getElem? (i := 49) rfl)) rfl
set_option maxRecDepth 20000 in
theorem w_1317 : Cond.instanceMethod ⟨"DuesOnRungsModel", "enters", "(I)I"⟩ ∈ LW := lw_LW (in_t6 _ (List.mem_of_getElem? (i := 51) rfl)) rfl
set_option maxRecDepth 20000 in
theorem w_1318 : Cond.code ⟨"DuesOnRungsModel", "enters", "(I)I"⟩ prog_14_method_56_code 9 (Option.some FieldType.int) ∈ LW := lw_LW (in_t6 _ (List.mem_of_getElem? (i := 52) rfl)) rfl
set_option maxRecDepth 20000 in
theorem w_1319 : Cond.methodLink "DuesOnRungsModel" 238 ⟨"DuesOnRungsModel", "isLess", "(JJJJ)Z"⟩ ∈ LW := lw_LW (in_t6 _ (List.mem_of_getElem? (i := 53) rfl)) rfl
set_option maxRecDepth 20000 in
theorem w_1320 : Cond.static ⟨"DuesOnRungsModel", "isLess", "(JJJJ)Z"⟩ ∈ LW := lw_LW (in_t6 _ (List.mem_of_getElem? (i := 54) rfl)) rfl
set_option maxRecDepth 20000 in
theorem w_1321 : Cond.code ⟨"DuesOnRungsModel", "isLess", "(JJJJ)Z"⟩ prog_14_method_40_code 24 (Option.some FieldType.boolean) ∈ LW := lw_LW (in_t6 _ (List.mem_of_getElem? (i := 55) rfl)) rfl
set_option maxRecDepth 20000 in
theorem w_1322 : Cond.methodLink "DuesOnRungsModel" 187 ⟨"java/lang/Math", "floorDiv", "(JJ)J"⟩ ∈ LW := lw_LW (in_t6 _ (List.mem_of_getElem? (i := 56) rfl)) rfl
set_option maxRecDepth 20000 in
theorem w_1323 : Cond.methodLink "DuesOnRungsModel" 252 ⟨"DuesOnRungsModel", "turns", "(II)V"⟩ ∈ LW := lw_LW (in_t6 _ (List.mem_of_getElem? (i := 57) rfl)) rfl
set_option maxRecDepth 20000 in
theorem w_1325 : Cond.instanceMethod ⟨"DuesOnRungsModel", "turns", "(II)V"⟩ ∈ LW := lw_LW (in_t6 _ (List.mem_of_getElem? (i := 59) rfl)) rfl
set_option maxRecDepth 20000 in
theorem w_1326 : Cond.code ⟨"DuesOnRungsModel", "turns", "(II)V"⟩ prog_14_method_57_code 9 (Option.none : Option FieldType) ∈ LW := lw_LW (in_t6 _ (List.mem_of_getElem? (i := 60) rfl)) rfl
set_option maxRecDepth 20000 in
theorem w_1327 : Cond.methodLink "DuesOnRungsModel" 255 ⟨"DuesOnRungsModel", "fills", "(III)V"⟩ ∈ LW := lw_LW (in_t6 _ (List.mem_of_getElem? (i := 61) rfl)) rfl
set_option maxRecDepth 20000 in
theorem w_1329 : Cond.instanceMethod ⟨"DuesOnRungsModel", "fills", "(III)V"⟩ ∈ LW := lw_LW (in_t6 _ (List.mem_of_getElem? (i := 63) rfl)) rfl
set_option maxRecDepth 20000 in
theorem w_1330 : Cond.code ⟨"DuesOnRungsModel", "fills", "(III)V"⟩ prog_14_method_58_code 10 (Option.none : Option FieldType) ∈ LW := lw_LW (in_t6 _ (List.mem_of_getElem? (i := 64) rfl)) rfl
set_option maxRecDepth 20000 in
theorem w_1331 : Cond.methodLink "DuesOnRungsLaw" 86 ⟨"DuesOnRungsModel", "amount", "(II)J"⟩ ∈ LW := lw_LW (in_t6 _ (List.mem_of_getElem? (i := 65) rfl)) rfl
set_option maxRecDepth 20000 in
theorem w_1332 : Cond.instanceMethod ⟨"DuesOnRungsModel", "amount", "(II)J"⟩ ∈ LW := lw_LW (in_t6 _ (List.mem_of_getElem? (i := 66) rfl)) rfl
set_option maxRecDepth 20000 in
theorem w_1333 : Cond.selects "DuesOnRungsModel" ⟨"DuesOnRungsModel", "amount", "(II)J"⟩ ⟨"DuesOnRungsModel", "amount", "(II)J"⟩ ∈ LW := lw_LW (in_t6 _ (List.mem_of_getElem? (i := 67) rfl)) rfl
set_option maxRecDepth 20000 in
theorem w_1334 : Cond.code ⟨"DuesOnRungsModel", "amount", "(II)J"⟩ prog_14_method_63_code 3 (Option.some FieldType.long) ∈ LW := lw_LW (in_t6 _ (List.mem_of_getElem? (i := 68) rfl)) rfl
set_option maxRecDepth 20000 in
theorem w_1335 : Cond.methodLink "DuesOnRungsModel" 262 ⟨"DuesOnRungsModel", "bare", "(I)V"⟩ ∈ LW := lw_LW (in_t6 _ (List.mem_of_getElem? (i := 69) rfl)) rfl
set_option maxRecDepth 20000 in
theorem w_1337 : Cond.instanceMethod ⟨"DuesOnRungsModel", "bare", "(I)V"⟩ ∈ LW := lw_LW (in_t6 _ (List.mem_of_getElem? (i := 71) rfl)) rfl
set_option maxRecDepth 20000 in
theorem w_1338 : Cond.code ⟨"DuesOnRungsModel", "bare", "(I)V"⟩ prog_14_method_61_code 3 (Option.none : Option FieldType) ∈ LW := lw_LW (in_t6 _ (List.mem_of_getElem? (i := 72) rfl)) rfl
set_option maxRecDepth 20000 in
theorem w_1339 : Cond.methodLink "DuesOnRungsLaw" 90 ⟨"DuesOnRungsModel", "proof", "(III)J"⟩ ∈ LW := lw_LW (in_t6 _ (List.mem_of_getElem? (i := 73) rfl)) rfl
set_option maxRecDepth 20000 in
theorem w_1340 : Cond.instanceMethod ⟨"DuesOnRungsModel", "proof", "(III)J"⟩ ∈ LW := lw_LW (in_t6 _ (List.mem_of_getElem? (i := 74) rfl)) rfl
set_option maxRecDepth 20000 in
theorem w_1341 : Cond.selects "DuesOnRungsModel" ⟨"DuesOnRungsModel", "proof", "(III)J"⟩ ⟨"DuesOnRungsModel", "proof", "(III)J"⟩ ∈ LW := lw_LW (in_t6 _ (List.mem_of_getElem? (i := 75) rfl)) rfl
set_option maxRecDepth 20000 in
theorem w_1342 : Cond.code ⟨"DuesOnRungsModel", "proof", "(III)J"⟩ prog_14_method_65_code 4 (Option.some FieldType.long) ∈ LW := lw_LW (in_t6 _ (List.mem_of_getElem? (i := 76) rfl)) rfl
set_option maxRecDepth 20000 in
theorem w_1343 : Cond.methodLink "DuesOnRungsModel" 268 ⟨"DuesOnRungsModel", "proofOf", "(I)V"⟩ ∈ LW := lw_LW (in_t6 _ (List.mem_of_getElem? (i := 77) rfl)) rfl
set_option maxRecDepth 20000 in
theorem w_1345 : Cond.instanceMethod ⟨"DuesOnRungsModel", "proofOf", "(I)V"⟩ ∈ LW := lw_LW (in_t6 _ (List.mem_of_getElem? (i := 79) rfl)) rfl
set_option maxRecDepth 20000 in
theorem w_1346 : Cond.code ⟨"DuesOnRungsModel", "proofOf", "(I)V"⟩ prog_14_method_64_code 15 (Option.none : Option FieldType) ∈ LW := lw_LW (in_t6 _ (List.mem_of_getElem? (i := 80) rfl)) rfl
set_option maxRecDepth 20000 in
theorem w_1347 : Cond.methodLink "DuesOnRungsModel" 265 ⟨"DuesOnRungsModel", "price", "(I)V"⟩ ∈ LW := lw_LW (in_t6 _ (List.mem_of_getElem? (i := 81) rfl)) rfl
set_option maxRecDepth 20000 in
theorem w_1349 : Cond.instanceMethod ⟨"DuesOnRungsModel", "price", "(I)V"⟩ ∈ LW := lw_LW (in_t6 _ (List.mem_of_getElem? (i := 83) rfl)) rfl
set_option maxRecDepth 20000 in
theorem w_1350 : Cond.code ⟨"DuesOnRungsModel", "price", "(I)V"⟩ prog_14_method_62_code 3 (Option.none : Option FieldType) ∈ LW := lw_LW (in_t6 _ (List.mem_of_getElem? (i := 84) rfl)) rfl
set_option maxRecDepth 20000 in
theorem w_1351 : Cond.methodLink "DuesOnRungsLaw" 94 ⟨"DuesOnRungsModel", "ladder", "(II)I"⟩ ∈ LW := lw_LW (in_t6 _ (List.mem_of_getElem? (i := 85) rfl)) rfl
set_option maxRecDepth 20000 in
theorem w_1352 : Cond.instanceMethod ⟨"DuesOnRungsModel", "ladder", "(II)I"⟩ ∈ LW := lw_LW (in_t6 _ (List.mem_of_getElem? (i := 86) rfl)) rfl
set_option maxRecDepth 20000 in
theorem w_1353 : Cond.selects "DuesOnRungsModel" ⟨"DuesOnRungsModel", "ladder", "(II)I"⟩ ⟨"DuesOnRungsModel", "ladder", "(II)I"⟩ ∈ LW := lw_LW (in_t6 _ (List.mem_of_getElem? (i := 87) rfl)) rfl
set_option maxRecDepth 20000 in
theorem w_1354 : Cond.code ⟨"DuesOnRungsModel", "ladder", "(II)I"⟩ prog_14_method_67_code 5 (Option.some FieldType.int) ∈ LW := lw_LW (in_t6 _ (List.mem_of_getElem? (i := 88) rfl)) rfl
set_option maxRecDepth 20000 in
theorem w_1355 : Cond.methodLink "DuesOnRungsModel" 274 ⟨"DuesOnRungsModel", "climbs", "(I)V"⟩ ∈ LW := lw_LW (in_t6 _ (List.mem_of_getElem? (i := 89) rfl)) rfl
set_option maxRecDepth 20000 in
theorem w_1357 : Cond.instanceMethod ⟨"DuesOnRungsModel", "climbs", "(I)V"⟩ ∈ LW := lw_LW (in_t6 _ (List.mem_of_getElem? (i := 91) rfl)) rfl
set_option maxRecDepth 20000 in
theorem w_1358 : Cond.code ⟨"DuesOnRungsModel", "climbs", "(I)V"⟩ prog_14_method_66_code 6 (Option.none : Option FieldType) ∈ LW := lw_LW (in_t6 _ (List.mem_of_getElem? (i := 92) rfl)) rfl
set_option maxRecDepth 20000 in
theorem w_1359 : Cond.methodLink "DuesOnRungsLaw" 98 ⟨"DuesOnRungsModel", "replay", "(II)I"⟩ ∈ LW := lw_LW (in_t6 _ (List.mem_of_getElem? (i := 93) rfl)) rfl
set_option maxRecDepth 20000 in
theorem w_1360 : Cond.instanceMethod ⟨"DuesOnRungsModel", "replay", "(II)I"⟩ ∈ LW := lw_LW (in_t6 _ (List.mem_of_getElem? (i := 94) rfl)) rfl
set_option maxRecDepth 20000 in
theorem w_1361 : Cond.selects "DuesOnRungsModel" ⟨"DuesOnRungsModel", "replay", "(II)I"⟩ ⟨"DuesOnRungsModel", "replay", "(II)I"⟩ ∈ LW := lw_LW (in_t6 _ (List.mem_of_getElem? (i := 95) rfl)) rfl
set_option maxRecDepth 20000 in
theorem w_1362 : Cond.code ⟨"DuesOnRungsModel", "replay", "(II)I"⟩ prog_14_method_71_code 5 (Option.some FieldType.int) ∈ LW := lw_LW (in_t6 _ (List.mem_of_getElem? (i := 96) rfl)) rfl
set_option maxRecDepth 20000 in
theorem w_1363 : Cond.methodLink "DuesOnRungsModel" 289 ⟨"DuesOnRungsModel", "isSheet", "(I)Z"⟩ ∈ LW := lw_LW (in_t6 _ (List.mem_of_getElem? (i := 97) rfl)) rfl
set_option maxRecDepth 20000 in
theorem w_1364 : Cond.static ⟨"DuesOnRungsModel", "isSheet", "(I)Z"⟩ ∈ LW := lw_LW (in_t6 _ (List.mem_of_getElem? (i := 98) rfl)) rfl
set_option maxRecDepth 20000 in
theorem w_1365 : Cond.code ⟨"DuesOnRungsModel", "isSheet", "(I)Z"⟩ prog_14_method_69_code 1 (Option.some FieldType.boolean) ∈ LW := lw_LW (in_t6 _ (List.mem_of_getElem? (i := 99) rfl)) rfl
set_option maxRecDepth 20000 in
theorem w_1366 : Cond.methodLink "DuesOnRungsModel" 292 ⟨"DuesOnRungsModel", "plays", "()J"⟩ ∈ LW := lw_LW (in_t6 _ (List.mem_of_getElem? (i := 100) rfl)) rfl
set_option maxRecDepth 20000 in
theorem w_1368 : Cond.instanceMethod ⟨"DuesOnRungsModel", "plays", "()J"⟩ ∈ LW := lw_LW (in_t6 _ (List.mem_of_getElem? (i := 102) rfl)) rfl
set_option maxRecDepth 20000 in
theorem w_1369 : Cond.code ⟨"DuesOnRungsModel", "plays", "()J"⟩ prog_14_method_68_code 13 (Option.some FieldType.long) ∈ LW := lw_LW (in_t6 _ (List.mem_of_getElem? (i := 103) rfl)) rfl
set_option maxRecDepth 20000 in
theorem w_1370 : Cond.methodLink "DuesOnRungsModel" 286 ⟨"java/lang/Math", "max", "(JJ)J"⟩ ∈ LW := lw_LW (in_t6 _ (List.mem_of_getElem? (i := 104) rfl)) rfl
set_option maxRecDepth 20000 in
theorem w_1371 : Cond.static ⟨"java/lang/Math", "max", "(JJ)J"⟩ ∈ LW := lw_LW (in_t6 _ (List.mem_of_getElem? (i := 105) rfl)) rfl
set_option maxRecDepth 20000 in
theorem w_1372 : Cond.code ⟨"java/lang/Math", "max", "(JJ)J"⟩ prog_16_method_66_code 4 (Option.some FieldType.long) ∈ LW := lw_LW (in_t6 _ (List.mem_of_getElem? (i := 106) rfl)) rfl
set_option maxRecDepth 20000 in
theorem w_1373 : Cond.methodLink "DuesOnRungsModel" 296 ⟨"DuesOnRungsModel", "clears", "()V"⟩ ∈ LW := lw_LW (in_t6 _ (List.mem_of_getElem? (i := 107) rfl)) rfl
set_option maxRecDepth 20000 in
theorem w_1375 : Cond.instanceMethod ⟨"DuesOnRungsModel", "clears", "()V"⟩ ∈ LW := lw_LW (in_t6 _ (List.mem_of_getElem? (i := 109) rfl)) rfl
set_option maxRecDepth 20000 in
theorem w_1376 : Cond.code ⟨"DuesOnRungsModel", "clears", "()V"⟩ prog_14_method_70_code 2 (Option.none : Option FieldType) ∈ LW := lw_LW (in_t6 _ (List.mem_of_getElem? (i := 110) rfl)) rfl
set_option maxRecDepth 20000 in
theorem w_1377 : Cond.methodLink "DuesOnRungsLaw" 103 ⟨"DuesOnRungsModel", "worst", "(I)I"⟩ ∈ LW := lw_LW (in_t6 _ (List.mem_of_getElem? (i := 111) rfl)) rfl
set_option maxRecDepth 20000 in
theorem w_1378 : Cond.instanceMethod ⟨"DuesOnRungsModel", "worst", "(I)I"⟩ ∈ LW := lw_LW (in_t6 _ (List.mem_of_getElem? (i := 112) rfl)) rfl
set_option maxRecDepth 20000 in
theorem w_1379 : Cond.selects "DuesOnRungsModel" ⟨"DuesOnRungsModel", "worst", "(I)I"⟩ ⟨"DuesOnRungsModel", "worst", "(I)I"⟩ ∈ LW := lw_LW (in_t6 _ (List.mem_of_getElem? (i := 113) rfl)) rfl
set_option maxRecDepth 20000 in
theorem w_1380 : Cond.code ⟨"DuesOnRungsModel", "worst", "(I)I"⟩ prog_14_method_72_code 8 (Option.some FieldType.int) ∈ LW := lw_LW (in_t6 _ (List.mem_of_getElem? (i := 114) rfl)) rfl
set_option maxRecDepth 20000 in
theorem w_1381 : Cond.methodLink "DuesOnRungsLaw" 107 ⟨"DuesOnRungsModel", "drawn", "(I)I"⟩ ∈ LW := lw_LW (in_t6 _ (List.mem_of_getElem? (i := 115) rfl)) rfl
set_option maxRecDepth 20000 in
theorem w_1382 : Cond.instanceMethod ⟨"DuesOnRungsModel", "drawn", "(I)I"⟩ ∈ LW := lw_LW (in_t6 _ (List.mem_of_getElem? (i := 116) rfl)) rfl
set_option maxRecDepth 20000 in
theorem w_1383 : Cond.selects "DuesOnRungsModel" ⟨"DuesOnRungsModel", "drawn", "(I)I"⟩ ⟨"DuesOnRungsModel", "drawn", "(I)I"⟩ ∈ LW := lw_LW (in_t6 _ (List.mem_of_getElem? (i := 117) rfl)) rfl
set_option maxRecDepth 20000 in
theorem w_1384 : Cond.code ⟨"DuesOnRungsModel", "drawn", "(I)I"⟩ prog_14_method_74_code 2 (Option.some FieldType.int) ∈ LW := lw_LW (in_t6 _ (List.mem_of_getElem? (i := 118) rfl)) rfl
set_option maxRecDepth 20000 in
theorem w_1385 : Cond.methodLink "DuesOnRungsModel" 300 ⟨"DuesOnRungsModel", "drawnBy", "(I)I"⟩ ∈ LW := lw_LW (in_t6 _ (List.mem_of_getElem? (i := 119) rfl)) rfl
set_option maxRecDepth 20000 in
theorem w_1387 : Cond.instanceMethod ⟨"DuesOnRungsModel", "drawnBy", "(I)I"⟩ ∈ LW := lw_LW (in_t6 _ (List.mem_of_getElem? (i := 121) rfl)) rfl
set_option maxRecDepth 20000 in
theorem w_1388 : Cond.code ⟨"DuesOnRungsModel", "drawnBy", "(I)I"⟩ prog_14_method_73_code 5 (Option.some FieldType.int) ∈ LW := lw_LW (in_t6 _ (List.mem_of_getElem? (i := 122) rfl)) rfl
set_option maxRecDepth 20000 in
theorem w_1389 : Cond.constant "DuesOnRungsModel" 299 (1103515245 : Int32) ∈ LW := lw_LW (in_t6 _ (List.mem_of_getElem? (i := 123) rfl)) rfl
set_option maxRecDepth 20000 in
theorem w_1390 : Cond.methodLink "DuesOnRungsLaw" 112 ⟨"DuesOnRungsModel", "chance", "(III)I"⟩ ∈ LW := lw_LW (in_t6 _ (List.mem_of_getElem? (i := 124) rfl)) rfl
set_option maxRecDepth 20000 in
theorem w_1391 : Cond.instanceMethod ⟨"DuesOnRungsModel", "chance", "(III)I"⟩ ∈ LW := lw_LW (in_t6 _ (List.mem_of_getElem? (i := 125) rfl)) rfl
set_option maxRecDepth 20000 in
theorem w_1392 : Cond.selects "DuesOnRungsModel" ⟨"DuesOnRungsModel", "chance", "(III)I"⟩ ⟨"DuesOnRungsModel", "chance", "(III)I"⟩ ∈ LW := lw_LW (in_t6 _ (List.mem_of_getElem? (i := 126) rfl)) rfl
set_option maxRecDepth 20000 in
theorem w_1393 : Cond.code ⟨"DuesOnRungsModel", "chance", "(III)I"⟩ prog_14_method_75_code 6 (Option.some FieldType.int) ∈ LW := lw_LW (in_t6 _ (List.mem_of_getElem? (i := 127) rfl)) rfl
set_option maxRecDepth 20000 in
theorem w_1394 : Cond.methodLink "DuesOnRungsLaw" 116 ⟨"DuesOnRungsModel", "tells", "(III)I"⟩ ∈ LW := lw_LW (in_t6 _ (List.mem_of_getElem? (i := 128) rfl)) rfl
set_option maxRecDepth 20000 in
theorem w_1395 : Cond.instanceMethod ⟨"DuesOnRungsModel", "tells", "(III)I"⟩ ∈ LW := lw_LW (in_t6 _ (List.mem_of_getElem? (i := 129) rfl)) rfl
set_option maxRecDepth 20000 in
theorem w_1396 : Cond.selects "DuesOnRungsModel" ⟨"DuesOnRungsModel", "tells", "(III)I"⟩ ⟨"DuesOnRungsModel", "tells", "(III)I"⟩ ∈ LW := lw_LW (in_t6 _ (List.mem_of_getElem? (i := 130) rfl)) rfl
set_option maxRecDepth 20000 in
theorem w_1397 : Cond.code ⟨"DuesOnRungsModel", "tells", "(III)I"⟩ prog_14_method_77_code 8 (Option.some FieldType.int) ∈ LW := lw_LW (in_t6 _ (List.mem_of_getElem? (i := 131) rfl)) rfl
set_option maxRecDepth 20000 in
theorem w_1398 : Cond.methodLink "DuesOnRungsModel" 303 ⟨"DuesOnRungsModel", "unlike", "(I)I"⟩ ∈ LW := lw_LW (in_t6 _ (List.mem_of_getElem? (i := 132) rfl)) rfl
set_option maxRecDepth 20000 in
theorem w_1400 : Cond.instanceMethod ⟨"DuesOnRungsModel", "unlike", "(I)I"⟩ ∈ LW := lw_LW (in_t6 _ (List.mem_of_getElem? (i := 134) rfl)) rfl
set_option maxRecDepth 20000 in
theorem w_1401 : Cond.code ⟨"DuesOnRungsModel", "unlike", "(I)I"⟩ prog_14_method_76_code 3 (Option.some FieldType.int) ∈ LW := lw_LW (in_t6 _ (List.mem_of_getElem? (i := 135) rfl)) rfl
set_option maxRecDepth 20000 in
theorem w_1402 : Cond.methodLink "DuesOnRungsLaw" 120 ⟨"DuesOnRungsModel", "film", "(I)I"⟩ ∈ LW := lw_LW (in_t6 _ (List.mem_of_getElem? (i := 136) rfl)) rfl
set_option maxRecDepth 20000 in
theorem w_1403 : Cond.instanceMethod ⟨"DuesOnRungsModel", "film", "(I)I"⟩ ∈ LW := lw_LW (in_t6 _ (List.mem_of_getElem? (i := 137) rfl)) rfl
set_option maxRecDepth 20000 in
theorem w_1404 : Cond.selects "DuesOnRungsModel" ⟨"DuesOnRungsModel", "film", "(I)I"⟩ ⟨"DuesOnRungsModel", "film", "(I)I"⟩ ∈ LW := lw_LW (in_t6 _ (List.mem_of_getElem? (i := 138) rfl)) rfl
set_option maxRecDepth 20000 in
theorem w_1405 : Cond.code ⟨"DuesOnRungsModel", "film", "(I)I"⟩ prog_14_method_78_code 3 (Option.some FieldType.int) ∈ LW := lw_LW (in_t6 _ (List.mem_of_getElem? (i := 139) rfl)) rfl
set_option maxRecDepth 20000 in
theorem w_1406 : Cond.methodLink "DuesOnRungsLaw" 124 ⟨"DuesOnRungsModel", "image", "()I"⟩ ∈ LW := lw_LW (in_t6 _ (List.mem_of_getElem? (i := 140) rfl)) rfl
set_option maxRecDepth 20000 in
theorem w_1407 : Cond.instanceMethod ⟨"DuesOnRungsModel", "image", "()I"⟩ ∈ LW := lw_LW (in_t6 _ (List.mem_of_getElem? (i := 141) rfl)) rfl
set_option maxRecDepth 20000 in
theorem w_1408 : Cond.selects "DuesOnRungsModel" ⟨"DuesOnRungsModel", "image", "()I"⟩ ⟨"DuesOnRungsModel", "image", "()I"⟩ ∈ LW := lw_LW (in_t6 _ (List.mem_of_getElem? (i := 142) rfl)) rfl
set_option maxRecDepth 20000 in
theorem w_1409 : Cond.code ⟨"DuesOnRungsModel", "image", "()I"⟩ prog_14_method_79_code 2 (Option.some FieldType.int) ∈ LW := lw_LW (in_t6 _ (List.mem_of_getElem? (i := 143) rfl)) rfl
set_option maxRecDepth 20000 in
theorem w_1410 : Cond.methodLink "DuesOnRungsLaw" 128 ⟨"DuesOnRungsModel", "back", "()I"⟩ ∈ LW := lw_LW (in_t6 _ (List.mem_of_getElem? (i := 144) rfl)) rfl
set_option maxRecDepth 20000 in
theorem w_1411 : Cond.instanceMethod ⟨"DuesOnRungsModel", "back", "()I"⟩ ∈ LW := lw_LW (in_t6 _ (List.mem_of_getElem? (i := 145) rfl)) rfl
set_option maxRecDepth 20000 in
theorem w_1412 : Cond.selects "DuesOnRungsModel" ⟨"DuesOnRungsModel", "back", "()I"⟩ ⟨"DuesOnRungsModel", "back", "()I"⟩ ∈ LW := lw_LW (in_t6 _ (List.mem_of_getElem? (i := 146) rfl)) rfl
set_option maxRecDepth 20000 in
theorem w_1413 : Cond.code ⟨"DuesOnRungsModel", "back", "()I"⟩ prog_14_method_80_code 2 (Option.some FieldType.int) ∈ LW := lw_LW (in_t6 _ (List.mem_of_getElem? (i := 147) rfl)) rfl
set_option maxRecDepth 20000 in
theorem w_1414 : Cond.methodLink "DuesOnRungsLaw" 132 ⟨"DuesOnRungsModel", "count", "(I)I"⟩ ∈ LW := lw_LW (in_t6 _ (List.mem_of_getElem? (i := 148) rfl)) rfl
set_option maxRecDepth 20000 in
theorem w_1415 : Cond.instanceMethod ⟨"DuesOnRungsModel", "count", "(I)I"⟩ ∈ LW := lw_LW (in_t6 _ (List.mem_of_getElem? (i := 149) rfl)) rfl
set_option maxRecDepth 20000 in
theorem w_1416 : Cond.selects "DuesOnRungsModel" ⟨"DuesOnRungsModel", "count", "(I)I"⟩ ⟨"DuesOnRungsModel", "count", "(I)I"⟩ ∈ LW := lw_LW (in_t6 _ (List.mem_of_getElem? (i := 150) rfl)) rfl
set_option maxRecDepth 20000 in
theorem w_1417 : Cond.code ⟨"DuesOnRungsModel", "count", "(I)I"⟩ prog_14_method_81_code 4 (Option.some FieldType.int) ∈ LW := lw_LW (in_t6 _ (List.mem_of_getElem? (i := 151) rfl)) rfl
set_option maxRecDepth 20000 in
theorem w_1418 : Cond.methodLink "DuesOnRungsLaw" 136 ⟨"DuesOnRungsModel", "sheet", "(III)I"⟩ ∈ LW := lw_LW (in_t6 _ (List.mem_of_getElem? (i := 152) rfl)) rfl
set_option maxRecDepth 20000 in
theorem w_1419 : Cond.instanceMethod ⟨"DuesOnRungsModel", "sheet", "(III)I"⟩ ∈ LW := lw_LW (in_t6 _ (List.mem_of_getElem? (i := 153) rfl)) rfl
set_option maxRecDepth 20000 in
theorem w_1420 : Cond.selects "DuesOnRungsModel" ⟨"DuesOnRungsModel", "sheet", "(III)I"⟩ ⟨"DuesOnRungsModel", "sheet", "(III)I"⟩ ∈ LW := lw_LW (in_t6 _ (List.mem_of_getElem? (i := 154) rfl)) rfl
set_option maxRecDepth 20000 in
theorem w_1421 : Cond.code ⟨"DuesOnRungsModel", "sheet", "(III)I"⟩ prog_14_method_82_code 5 (Option.some FieldType.int) ∈ LW := lw_LW (in_t6 _ (List.mem_of_getElem? (i := 155) rfl)) rfl
set_option maxRecDepth 20000 in
theorem w_1422 : Cond.methodLink "DuesOnRungsLaw" 140 ⟨"DuesOnRungsModel", "put", "(III)I"⟩ ∈ LW := lw_LW (in_t6 _ (List.mem_of_getElem? (i := 156) rfl)) rfl
set_option maxRecDepth 20000 in
theorem w_1423 : Cond.instanceMethod ⟨"DuesOnRungsModel", "put", "(III)I"⟩ ∈ LW := lw_LW (in_t6 _ (List.mem_of_getElem? (i := 157) rfl)) rfl
set_option maxRecDepth 20000 in
theorem w_1424 : Cond.selects "DuesOnRungsModel" ⟨"DuesOnRungsModel", "put", "(III)I"⟩ ⟨"DuesOnRungsModel", "put", "(III)I"⟩ ∈ LW := lw_LW (in_t6 _ (List.mem_of_getElem? (i := 158) rfl)) rfl
set_option maxRecDepth 20000 in
theorem w_1425 : Cond.code ⟨"DuesOnRungsModel", "put", "(III)I"⟩ prog_14_method_83_code 4 (Option.some FieldType.int) ∈ LW := lw_LW (in_t6 _ (List.mem_of_getElem? (i := 159) rfl)) rfl
set_option maxRecDepth 20000 in
theorem w_1426 : Cond.methodLink "DuesOnRungsLaw" 145 ⟨"DuesOnRungsModel", "copy", "(IIIII)I"⟩ ∈ LW := lw_LW (in_t6 _ (List.mem_of_getElem? (i := 160) rfl)) rfl
set_option maxRecDepth 20000 in
theorem w_1427 : Cond.instanceMethod ⟨"DuesOnRungsModel", "copy", "(IIIII)I"⟩ ∈ LW := lw_LW (in_t6 _ (List.mem_of_getElem? (i := 161) rfl)) rfl
set_option maxRecDepth 20000 in
theorem w_1428 : Cond.selects "DuesOnRungsModel" ⟨"DuesOnRungsModel", "copy", "(IIIII)I"⟩ ⟨"DuesOnRungsModel", "copy", "(IIIII)I"⟩ ∈ LW := lw_LW (in_t6 _ (List.mem_of_getElem? (i := 162) rfl)) rfl
set_option maxRecDepth 20000 in
theorem w_1429 : Cond.code ⟨"DuesOnRungsModel", "copy", "(IIIII)I"⟩ prog_14_method_84_code 7 (Option.some FieldType.int) ∈ LW := lw_LW (in_t6 _ (List.mem_of_getElem? (i := 163) rfl)) rfl
set_option maxRecDepth 20000 in
theorem w_1430 : Cond.methodLink "DuesOnRungsLaw" 150 ⟨"DuesOnRungsModel", "load", "(IIII)I"⟩ ∈ LW := lw_LW (in_t6 _ (List.mem_of_getElem? (i := 164) rfl)) rfl
set_option maxRecDepth 20000 in
theorem w_1431 : Cond.instanceMethod ⟨"DuesOnRungsModel", "load", "(IIII)I"⟩ ∈ LW := lw_LW (in_t6 _ (List.mem_of_getElem? (i := 165) rfl)) rfl
set_option maxRecDepth 20000 in
theorem w_1432 : Cond.selects "DuesOnRungsModel" ⟨"DuesOnRungsModel", "load", "(IIII)I"⟩ ⟨"DuesOnRungsModel", "load", "(IIII)I"⟩ ∈ LW := lw_LW (in_t6 _ (List.mem_of_getElem? (i := 166) rfl)) rfl
set_option maxRecDepth 20000 in
theorem w_1433 : Cond.code ⟨"DuesOnRungsModel", "load", "(IIII)I"⟩ prog_14_method_85_code 10 (Option.some FieldType.int) ∈ LW := lw_LW (in_t6 _ (List.mem_of_getElem? (i := 167) rfl)) rfl
set_option maxRecDepth 20000 in
theorem w_1434 : Cond.constantLong "DuesOnRungsModel" 312 (2 : Int64) ∈ LW := lw_LW (in_t6 _ (List.mem_of_getElem? (i := 168) rfl)) rfl
set_option maxRecDepth 20000 in
theorem w_1435 : Cond.methodLink "DuesOnRungsModel" 314 ⟨"DuesOnRungsModel", "due", "(II)I"⟩ ∈ LW := lw_LW (in_t6 _ (List.mem_of_getElem? (i := 169) rfl)) rfl
