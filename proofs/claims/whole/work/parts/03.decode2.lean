theorem dX12_init_0 : decode cX12_init 0 = .ok (.aload_n 0, 1) := by decide +kernel
theorem dX12_init_1 : decode cX12_init 1 = .ok (.invokespecial 3, 3) := by decide +kernel
theorem dX12_init_4 : decode cX12_init 4 = .ok (.aload_n 0, 1) := by decide +kernel
theorem dX12_init_5 : decode cX12_init 5 = .ok (.bipush 61, 2) := by decide +kernel
theorem dX12_init_7 : decode cX12_init 7 = .ok (.newarray .int, 2) := by decide +kernel
theorem dX12_init_9 : decode cX12_init 9 = .ok (.putfield 9, 3) := by decide +kernel
theorem dX12_init_12 : decode cX12_init 12 = .ok (.aload_n 0, 1) := by decide +kernel
theorem dX12_init_13 : decode cX12_init 13 = .ok (.bipush 61, 2) := by decide +kernel
theorem dX12_init_15 : decode cX12_init 15 = .ok (.newarray .int, 2) := by decide +kernel
theorem dX12_init_17 : decode cX12_init 17 = .ok (.putfield 15, 3) := by decide +kernel
theorem dX12_init_20 : decode cX12_init 20 = .ok (.aload_n 0, 1) := by decide +kernel
theorem dX12_init_21 : decode cX12_init 21 = .ok (.bipush 61, 2) := by decide +kernel
theorem dX12_init_23 : decode cX12_init 23 = .ok (.newarray .int, 2) := by decide +kernel
theorem dX12_init_25 : decode cX12_init 25 = .ok (.putfield 18, 3) := by decide +kernel
theorem dX12_init_28 : decode cX12_init 28 = .ok (.aload_n 0, 1) := by decide +kernel
theorem dX12_init_29 : decode cX12_init 29 = .ok (.bipush 35, 2) := by decide +kernel
theorem dX12_init_31 : decode cX12_init 31 = .ok (.newarray .int, 2) := by decide +kernel
theorem dX12_init_33 : decode cX12_init 33 = .ok (.putfield 21, 3) := by decide +kernel
theorem dX12_init_36 : decode cX12_init 36 = .ok (.aload_n 0, 1) := by decide +kernel
theorem dX12_init_37 : decode cX12_init 37 = .ok (.iconst 5, 1) := by decide +kernel
theorem dX12_init_38 : decode cX12_init 38 = .ok (.newarray .int, 2) := by decide +kernel
theorem dX12_init_40 : decode cX12_init 40 = .ok (.putfield 24, 3) := by decide +kernel
theorem dX12_init_43 : decode cX12_init 43 = .ok (.aload_n 0, 1) := by decide +kernel
theorem dX12_init_44 : decode cX12_init 44 = .ok (.iconst 5, 1) := by decide +kernel
theorem dX12_init_45 : decode cX12_init 45 = .ok (.newarray .int, 2) := by decide +kernel
theorem dX12_init_47 : decode cX12_init 47 = .ok (.putfield 27, 3) := by decide +kernel
theorem dX12_init_50 : decode cX12_init 50 = .ok (.aload_n 0, 1) := by decide +kernel
theorem dX12_init_51 : decode cX12_init 51 = .ok (.bipush 9, 2) := by decide +kernel
theorem dX12_init_53 : decode cX12_init 53 = .ok (.newarray .int, 2) := by decide +kernel
theorem dX12_init_55 : decode cX12_init 55 = .ok (.putfield 30, 3) := by decide +kernel
theorem dX12_init_58 : decode cX12_init 58 = .ok (.aload_n 0, 1) := by decide +kernel
theorem dX12_init_59 : decode cX12_init 59 = .ok (.iconst 5, 1) := by decide +kernel
theorem dX12_init_60 : decode cX12_init 60 = .ok (.newarray .int, 2) := by decide +kernel
theorem dX12_init_62 : decode cX12_init 62 = .ok (.putfield 33, 3) := by decide +kernel
theorem dX12_init_65 : decode cX12_init 65 = .ok (.aload_n 0, 1) := by decide +kernel
theorem dX12_init_66 : decode cX12_init 66 = .ok (.bipush 10, 2) := by decide +kernel
theorem dX12_init_68 : decode cX12_init 68 = .ok (.newarray .long, 2) := by decide +kernel
theorem dX12_init_70 : decode cX12_init 70 = .ok (.putfield 36, 3) := by decide +kernel
theorem dX12_init_73 : decode cX12_init 73 = .ok (.aload_n 0, 1) := by decide +kernel
theorem dX12_init_74 : decode cX12_init 74 = .ok (.bipush 10, 2) := by decide +kernel
theorem dX12_init_76 : decode cX12_init 76 = .ok (.newarray .long, 2) := by decide +kernel
theorem dX12_init_78 : decode cX12_init 78 = .ok (.putfield 40, 3) := by decide +kernel
theorem dX12_init_81 : decode cX12_init 81 = .ok (.aload_n 0, 1) := by decide +kernel
theorem dX12_init_82 : decode cX12_init 82 = .ok (.bipush 50, 2) := by decide +kernel
theorem dX12_init_84 : decode cX12_init 84 = .ok (.newarray .long, 2) := by decide +kernel
theorem dX12_init_86 : decode cX12_init 86 = .ok (.putfield 43, 3) := by decide +kernel
theorem dX12_init_89 : decode cX12_init 89 = .ok (.aload_n 0, 1) := by decide +kernel
theorem dX12_init_90 : decode cX12_init 90 = .ok (.bipush 50, 2) := by decide +kernel
theorem dX12_init_92 : decode cX12_init 92 = .ok (.newarray .long, 2) := by decide +kernel
theorem dX12_init_94 : decode cX12_init 94 = .ok (.putfield 46, 3) := by decide +kernel
theorem dX12_init_97 : decode cX12_init 97 = .ok (.aload_n 0, 1) := by decide +kernel
theorem dX12_init_98 : decode cX12_init 98 = .ok (.bipush 6, 2) := by decide +kernel
theorem dX12_init_100 : decode cX12_init 100 = .ok (.newarray .long, 2) := by decide +kernel
theorem dX12_init_102 : decode cX12_init 102 = .ok (.putfield 49, 3) := by decide +kernel
theorem dX12_init_105 : decode cX12_init 105 = .ok (.aload_n 0, 1) := by decide +kernel
theorem dX12_init_106 : decode cX12_init 106 = .ok (.bipush 6, 2) := by decide +kernel
theorem dX12_init_108 : decode cX12_init 108 = .ok (.newarray .long, 2) := by decide +kernel
theorem dX12_init_110 : decode cX12_init 110 = .ok (.putfield 52, 3) := by decide +kernel
theorem dX12_init_113 : decode cX12_init 113 = .ok (.aload_n 0, 1) := by decide +kernel
theorem dX12_init_114 : decode cX12_init 114 = .ok (.iconst 5, 1) := by decide +kernel
theorem dX12_init_115 : decode cX12_init 115 = .ok (.newarray .int, 2) := by decide +kernel
theorem dX12_init_117 : decode cX12_init 117 = .ok (.putfield 55, 3) := by decide +kernel
theorem dX12_init_120 : decode cX12_init 120 = .ok (.aload_n 0, 1) := by decide +kernel
theorem dX12_init_121 : decode cX12_init 121 = .ok (.iconst 5, 1) := by decide +kernel
theorem dX12_init_122 : decode cX12_init 122 = .ok (.newarray .int, 2) := by decide +kernel
theorem dX12_init_124 : decode cX12_init 124 = .ok (.putfield 58, 3) := by decide +kernel
theorem dX12_init_127 : decode cX12_init 127 = .ok (.aload_n 0, 1) := by decide +kernel
theorem dX12_init_128 : decode cX12_init 128 = .ok (.iconst 5, 1) := by decide +kernel
theorem dX12_init_129 : decode cX12_init 129 = .ok (.newarray .long, 2) := by decide +kernel
theorem dX12_init_131 : decode cX12_init 131 = .ok (.putfield 61, 3) := by decide +kernel
theorem dX12_init_134 : decode cX12_init 134 = .ok (.aload_n 0, 1) := by decide +kernel
theorem dX12_init_135 : decode cX12_init 135 = .ok (.iconst 5, 1) := by decide +kernel
theorem dX12_init_136 : decode cX12_init 136 = .ok (.newarray .long, 2) := by decide +kernel
theorem dX12_init_138 : decode cX12_init 138 = .ok (.putfield 64, 3) := by decide +kernel
theorem dX12_init_141 : decode cX12_init 141 = .ok (.aload_n 0, 1) := by decide +kernel
theorem dX12_init_142 : decode cX12_init 142 = .ok (.sipush 218, 3) := by decide +kernel
theorem dX12_init_145 : decode cX12_init 145 = .ok (.newarray .int, 2) := by decide +kernel
theorem dX12_init_147 : decode cX12_init 147 = .ok (.putfield 67, 3) := by decide +kernel
theorem dX12_init_150 : decode cX12_init 150 = .ok (.aload_n 0, 1) := by decide +kernel
theorem dX12_init_151 : decode cX12_init 151 = .ok (.iconst 4, 1) := by decide +kernel
theorem dX12_init_152 : decode cX12_init 152 = .ok (.newarray .int, 2) := by decide +kernel
theorem dX12_init_154 : decode cX12_init 154 = .ok (.putfield 70, 3) := by decide +kernel
theorem dX12_init_157 : decode cX12_init 157 = .ok (.aload_n 0, 1) := by decide +kernel
theorem dX12_init_158 : decode cX12_init 158 = .ok (.iconst 4, 1) := by decide +kernel
theorem dX12_init_159 : decode cX12_init 159 = .ok (.newarray .int, 2) := by decide +kernel
theorem dX12_init_161 : decode cX12_init 161 = .ok (.putfield 73, 3) := by decide +kernel
theorem dX12_init_164 : decode cX12_init 164 = .ok (.aload_n 0, 1) := by decide +kernel
theorem dX12_init_165 : decode cX12_init 165 = .ok (.sipush 160, 3) := by decide +kernel
theorem dX12_init_168 : decode cX12_init 168 = .ok (.newarray .int, 2) := by decide +kernel
theorem dX12_init_170 : decode cX12_init 170 = .ok (.putfield 76, 3) := by decide +kernel
theorem dX12_init_173 : decode cX12_init 173 = .ok (.iconst 0, 1) := by decide +kernel
theorem dX12_init_174 : decode cX12_init 174 = .ok (.istore_n 1, 1) := by decide +kernel
theorem dX12_init_175 : decode cX12_init 175 = .ok (.iload_n 1, 1) := by decide +kernel
theorem dX12_init_176 : decode cX12_init 176 = .ok (.iconst 5, 1) := by decide +kernel
theorem dX12_init_177 : decode cX12_init 177 = .ok (.if_icmp .ge 16, 3) := by decide +kernel
theorem dX12_init_180 : decode cX12_init 180 = .ok (.aload_n 0, 1) := by decide +kernel
theorem dX12_init_181 : decode cX12_init 181 = .ok (.getfield 27, 3) := by decide +kernel
theorem dX12_init_184 : decode cX12_init 184 = .ok (.iload_n 1, 1) := by decide +kernel
theorem dX12_init_185 : decode cX12_init 185 = .ok (.iconst (-1), 1) := by decide +kernel
theorem dX12_init_186 : decode cX12_init 186 = .ok (.iastore, 1) := by decide +kernel
theorem dX12_init_187 : decode cX12_init 187 = .ok (.iinc 1 1, 3) := by decide +kernel
theorem dX12_init_190 : decode cX12_init 190 = .ok (.goto (-15), 3) := by decide +kernel
theorem dX12_init_193 : decode cX12_init 193 = .ok (.return_, 1) := by decide +kernel
theorem dX12_within_0 : decode cX12_within 0 = .ok (.iload_n 0, 1) := by decide +kernel
theorem dX12_within_1 : decode cX12_within 1 = .ok (.iload_n 1, 1) := by decide +kernel
theorem dX12_within_2 : decode cX12_within 2 = .ok (.if_icmp .lt 12, 3) := by decide +kernel
theorem dX12_within_5 : decode cX12_within 5 = .ok (.iload_n 0, 1) := by decide +kernel
theorem dX12_within_6 : decode cX12_within 6 = .ok (.iload_n 2, 1) := by decide +kernel
theorem dX12_within_7 : decode cX12_within 7 = .ok (.if_icmp .gt 7, 3) := by decide +kernel
theorem dX12_within_10 : decode cX12_within 10 = .ok (.iconst 1, 1) := by decide +kernel
theorem dX12_within_11 : decode cX12_within 11 = .ok (.goto 4, 3) := by decide +kernel
theorem dX12_within_14 : decode cX12_within 14 = .ok (.iconst 0, 1) := by decide +kernel
theorem dX12_within_15 : decode cX12_within 15 = .ok (.ireturn, 1) := by decide +kernel
theorem dX12_isDay_0 : decode cX12_isDay 0 = .ok (.iload_n 0, 1) := by decide +kernel
theorem dX12_isDay_1 : decode cX12_isDay 1 = .ok (.iconst 1, 1) := by decide +kernel
theorem dX12_isDay_2 : decode cX12_isDay 2 = .ok (.bipush 60, 2) := by decide +kernel
theorem dX12_isDay_4 : decode cX12_isDay 4 = .ok (.invokestatic 79, 3) := by decide +kernel
theorem dX12_isDay_7 : decode cX12_isDay 7 = .ok (.ireturn, 1) := by decide +kernel
theorem dX12_isRung_0 : decode cX12_isRung 0 = .ok (.iload_n 1, 1) := by decide +kernel
theorem dX12_isRung_1 : decode cX12_isRung 1 = .ok (.iconst 0, 1) := by decide +kernel
theorem dX12_isRung_2 : decode cX12_isRung 2 = .ok (.aload_n 0, 1) := by decide +kernel
theorem dX12_isRung_3 : decode cX12_isRung 3 = .ok (.getfield 83, 3) := by decide +kernel
theorem dX12_isRung_6 : decode cX12_isRung 6 = .ok (.iconst 1, 1) := by decide +kernel
theorem dX12_isRung_7 : decode cX12_isRung 7 = .ok (.isub, 1) := by decide +kernel
theorem dX12_isRung_8 : decode cX12_isRung 8 = .ok (.invokestatic 79, 3) := by decide +kernel
theorem dX12_isRung_11 : decode cX12_isRung 11 = .ok (.ireturn, 1) := by decide +kernel
theorem dX12_isBond_0 : decode cX12_isBond 0 = .ok (.iload_n 1, 1) := by decide +kernel
theorem dX12_isBond_1 : decode cX12_isBond 1 = .ok (.iconst 0, 1) := by decide +kernel
theorem dX12_isBond_2 : decode cX12_isBond 2 = .ok (.aload_n 0, 1) := by decide +kernel
theorem dX12_isBond_3 : decode cX12_isBond 3 = .ok (.getfield 87, 3) := by decide +kernel
theorem dX12_isBond_6 : decode cX12_isBond 6 = .ok (.iconst 1, 1) := by decide +kernel
theorem dX12_isBond_7 : decode cX12_isBond 7 = .ok (.isub, 1) := by decide +kernel
theorem dX12_isBond_8 : decode cX12_isBond 8 = .ok (.invokestatic 79, 3) := by decide +kernel
theorem dX12_isBond_11 : decode cX12_isBond 11 = .ok (.ireturn, 1) := by decide +kernel
theorem dX12_finds_0 : decode cX12_finds 0 = .ok (.aload_n 0, 1) := by decide +kernel
theorem dX12_finds_1 : decode cX12_finds 1 = .ok (.iconst 0, 1) := by decide +kernel
theorem dX12_finds_2 : decode cX12_finds 2 = .ok (.putfield 83, 3) := by decide +kernel
theorem dX12_finds_5 : decode cX12_finds 5 = .ok (.iconst 1, 1) := by decide +kernel
theorem dX12_finds_6 : decode cX12_finds 6 = .ok (.istore_n 1, 1) := by decide +kernel
theorem dX12_finds_7 : decode cX12_finds 7 = .ok (.iload_n 1, 1) := by decide +kernel
theorem dX12_finds_8 : decode cX12_finds 8 = .ok (.bipush 60, 2) := by decide +kernel
theorem dX12_finds_10 : decode cX12_finds 10 = .ok (.if_icmp .gt 35, 3) := by decide +kernel
theorem dX12_finds_13 : decode cX12_finds 13 = .ok (.aload_n 0, 1) := by decide +kernel
theorem dX12_finds_14 : decode cX12_finds 14 = .ok (.getfield 9, 3) := by decide +kernel
theorem dX12_finds_17 : decode cX12_finds 17 = .ok (.iload_n 1, 1) := by decide +kernel
theorem dX12_finds_18 : decode cX12_finds 18 = .ok (.iaload, 1) := by decide +kernel
theorem dX12_finds_19 : decode cX12_finds 19 = .ok (.ifCond .le 20, 3) := by decide +kernel
theorem dX12_finds_22 : decode cX12_finds 22 = .ok (.aload_n 0, 1) := by decide +kernel
theorem dX12_finds_23 : decode cX12_finds 23 = .ok (.getfield 24, 3) := by decide +kernel
theorem dX12_finds_26 : decode cX12_finds 26 = .ok (.aload_n 0, 1) := by decide +kernel
theorem dX12_finds_27 : decode cX12_finds 27 = .ok (.dup, 1) := by decide +kernel
theorem dX12_finds_28 : decode cX12_finds 28 = .ok (.getfield 83, 3) := by decide +kernel
theorem dX12_finds_31 : decode cX12_finds 31 = .ok (.dup_x1, 1) := by decide +kernel
theorem dX12_finds_32 : decode cX12_finds 32 = .ok (.iconst 1, 1) := by decide +kernel
theorem dX12_finds_33 : decode cX12_finds 33 = .ok (.iadd, 1) := by decide +kernel
theorem dX12_finds_34 : decode cX12_finds 34 = .ok (.putfield 83, 3) := by decide +kernel
theorem dX12_finds_37 : decode cX12_finds 37 = .ok (.iload_n 1, 1) := by decide +kernel
theorem dX12_finds_38 : decode cX12_finds 38 = .ok (.iastore, 1) := by decide +kernel
theorem dX12_finds_39 : decode cX12_finds 39 = .ok (.iinc 1 1, 3) := by decide +kernel
theorem dX12_finds_42 : decode cX12_finds 42 = .ok (.goto (-35), 3) := by decide +kernel
theorem dX12_finds_45 : decode cX12_finds 45 = .ok (.return_, 1) := by decide +kernel
theorem dX12_many_0 : decode cX12_many 0 = .ok (.iconst 0, 1) := by decide +kernel
theorem dX12_many_1 : decode cX12_many 1 = .ok (.istore_n 1, 1) := by decide +kernel
theorem dX12_many_2 : decode cX12_many 2 = .ok (.iconst 1, 1) := by decide +kernel
theorem dX12_many_3 : decode cX12_many 3 = .ok (.istore_n 2, 1) := by decide +kernel
theorem dX12_many_4 : decode cX12_many 4 = .ok (.iload_n 2, 1) := by decide +kernel
theorem dX12_many_5 : decode cX12_many 5 = .ok (.bipush 60, 2) := by decide +kernel
theorem dX12_many_7 : decode cX12_many 7 = .ok (.if_icmp .gt 18, 3) := by decide +kernel
theorem dX12_many_10 : decode cX12_many 10 = .ok (.aload_n 0, 1) := by decide +kernel
theorem dX12_many_11 : decode cX12_many 11 = .ok (.iload_n 2, 1) := by decide +kernel
theorem dX12_many_12 : decode cX12_many 12 = .ok (.iaload, 1) := by decide +kernel
theorem dX12_many_13 : decode cX12_many 13 = .ok (.ifCond .le 6, 3) := by decide +kernel
theorem dX12_many_16 : decode cX12_many 16 = .ok (.iinc 1 1, 3) := by decide +kernel
theorem dX12_many_19 : decode cX12_many 19 = .ok (.iinc 2 1, 3) := by decide +kernel
theorem dX12_many_22 : decode cX12_many 22 = .ok (.goto (-18), 3) := by decide +kernel
theorem dX12_many_25 : decode cX12_many 25 = .ok (.iload_n 1, 1) := by decide +kernel
theorem dX12_many_26 : decode cX12_many 26 = .ok (.ireturn, 1) := by decide +kernel
theorem dX12_becomes_0 : decode cX12_becomes 0 = .ok (.iload_n 2, 1) := by decide +kernel
theorem dX12_becomes_1 : decode cX12_becomes 1 = .ok (.ifCond .le 20, 3) := by decide +kernel
theorem dX12_becomes_4 : decode cX12_becomes 4 = .ok (.aload_n 0, 1) := by decide +kernel
theorem dX12_becomes_5 : decode cX12_becomes 5 = .ok (.iload_n 1, 1) := by decide +kernel
theorem dX12_becomes_6 : decode cX12_becomes 6 = .ok (.iaload, 1) := by decide +kernel
theorem dX12_becomes_7 : decode cX12_becomes 7 = .ok (.ifCond .ne 14, 3) := by decide +kernel
theorem dX12_becomes_10 : decode cX12_becomes 10 = .ok (.aload_n 0, 1) := by decide +kernel
theorem dX12_becomes_11 : decode cX12_becomes 11 = .ok (.invokestatic 90, 3) := by decide +kernel
theorem dX12_becomes_14 : decode cX12_becomes 14 = .ok (.iload_n 3, 1) := by decide +kernel
theorem dX12_becomes_15 : decode cX12_becomes 15 = .ok (.if_icmp .ne 6, 3) := by decide +kernel
theorem dX12_becomes_18 : decode cX12_becomes 18 = .ok (.bipush (-4), 2) := by decide +kernel
theorem dX12_becomes_20 : decode cX12_becomes 20 = .ok (.ireturn, 1) := by decide +kernel
theorem dX12_becomes_21 : decode cX12_becomes 21 = .ok (.aload_n 0, 1) := by decide +kernel
theorem dX12_becomes_22 : decode cX12_becomes 22 = .ok (.iload_n 1, 1) := by decide +kernel
theorem dX12_becomes_23 : decode cX12_becomes 23 = .ok (.iaload, 1) := by decide +kernel
theorem dX12_becomes_24 : decode cX12_becomes 24 = .ok (.istore 4, 2) := by decide +kernel
theorem dX12_becomes_26 : decode cX12_becomes 26 = .ok (.aload_n 0, 1) := by decide +kernel
theorem dX12_becomes_27 : decode cX12_becomes 27 = .ok (.iload_n 1, 1) := by decide +kernel
theorem dX12_becomes_28 : decode cX12_becomes 28 = .ok (.iload_n 2, 1) := by decide +kernel
theorem dX12_becomes_29 : decode cX12_becomes 29 = .ok (.iastore, 1) := by decide +kernel
theorem dX12_becomes_30 : decode cX12_becomes 30 = .ok (.iload 4, 2) := by decide +kernel
theorem dX12_becomes_32 : decode cX12_becomes 32 = .ok (.ireturn, 1) := by decide +kernel
theorem dX12_due_0 : decode cX12_due 0 = .ok (.iload_n 1, 1) := by decide +kernel
theorem dX12_due_1 : decode cX12_due 1 = .ok (.invokestatic 94, 3) := by decide +kernel
theorem dX12_due_4 : decode cX12_due 4 = .ok (.ifCond .eq 13, 3) := by decide +kernel
theorem dX12_due_7 : decode cX12_due 7 = .ok (.iload_n 2, 1) := by decide +kernel
theorem dX12_due_8 : decode cX12_due 8 = .ok (.iconst 0, 1) := by decide +kernel
theorem dX12_due_9 : decode cX12_due 9 = .ok (.bipush 99, 2) := by decide +kernel
theorem dX12_due_11 : decode cX12_due 11 = .ok (.invokestatic 79, 3) := by decide +kernel
theorem dX12_due_14 : decode cX12_due 14 = .ok (.ifCond .ne 6, 3) := by decide +kernel
theorem dX12_due_17 : decode cX12_due 17 = .ok (.bipush (-2), 2) := by decide +kernel
theorem dX12_due_19 : decode cX12_due 19 = .ok (.ireturn, 1) := by decide +kernel
theorem dX12_due_20 : decode cX12_due 20 = .ok (.aload_n 0, 1) := by decide +kernel
theorem dX12_due_21 : decode cX12_due 21 = .ok (.getfield 9, 3) := by decide +kernel
theorem dX12_due_24 : decode cX12_due 24 = .ok (.iload_n 1, 1) := by decide +kernel
theorem dX12_due_25 : decode cX12_due 25 = .ok (.iload_n 2, 1) := by decide +kernel
theorem dX12_due_26 : decode cX12_due 26 = .ok (.iconst 5, 1) := by decide +kernel
theorem dX12_due_27 : decode cX12_due 27 = .ok (.invokestatic 98, 3) := by decide +kernel
theorem dX12_due_30 : decode cX12_due 30 = .ok (.istore_n 3, 1) := by decide +kernel
theorem dX12_due_31 : decode cX12_due 31 = .ok (.aload_n 0, 1) := by decide +kernel
theorem dX12_due_32 : decode cX12_due 32 = .ok (.invokevirtual 102, 3) := by decide +kernel
theorem dX12_due_35 : decode cX12_due 35 = .ok (.iload_n 3, 1) := by decide +kernel
theorem dX12_due_36 : decode cX12_due 36 = .ok (.ireturn, 1) := by decide +kernel
theorem dX12_rate_0 : decode cX12_rate 0 = .ok (.iload_n 1, 1) := by decide +kernel
theorem dX12_rate_1 : decode cX12_rate 1 = .ok (.invokestatic 94, 3) := by decide +kernel
theorem dX12_rate_4 : decode cX12_rate 4 = .ok (.ifCond .eq 12, 3) := by decide +kernel
theorem dX12_rate_7 : decode cX12_rate 7 = .ok (.iload_n 2, 1) := by decide +kernel
theorem dX12_rate_8 : decode cX12_rate 8 = .ok (.iconst (-1), 1) := by decide +kernel
theorem dX12_rate_9 : decode cX12_rate 9 = .ok (.iconst 3, 1) := by decide +kernel
theorem dX12_rate_10 : decode cX12_rate 10 = .ok (.invokestatic 79, 3) := by decide +kernel
theorem dX12_rate_13 : decode cX12_rate 13 = .ok (.ifCond .ne 6, 3) := by decide +kernel
theorem dX12_rate_16 : decode cX12_rate 16 = .ok (.bipush (-2), 2) := by decide +kernel
theorem dX12_rate_18 : decode cX12_rate 18 = .ok (.ireturn, 1) := by decide +kernel
theorem dX12_rate_19 : decode cX12_rate 19 = .ok (.aload_n 0, 1) := by decide +kernel
theorem dX12_rate_20 : decode cX12_rate 20 = .ok (.getfield 15, 3) := by decide +kernel
theorem dX12_rate_23 : decode cX12_rate 23 = .ok (.iload_n 1, 1) := by decide +kernel
theorem dX12_rate_24 : decode cX12_rate 24 = .ok (.iload_n 2, 1) := by decide +kernel
theorem dX12_rate_25 : decode cX12_rate 25 = .ok (.iconst 1, 1) := by decide +kernel
theorem dX12_rate_26 : decode cX12_rate 26 = .ok (.iadd, 1) := by decide +kernel
theorem dX12_rate_27 : decode cX12_rate 27 = .ok (.bipush 6, 2) := by decide +kernel
theorem dX12_rate_29 : decode cX12_rate 29 = .ok (.invokestatic 98, 3) := by decide +kernel
theorem dX12_rate_32 : decode cX12_rate 32 = .ok (.istore_n 3, 1) := by decide +kernel
theorem dX12_rate_33 : decode cX12_rate 33 = .ok (.iload_n 3, 1) := by decide +kernel
theorem dX12_rate_34 : decode cX12_rate 34 = .ok (.bipush (-4), 2) := by decide +kernel
theorem dX12_rate_36 : decode cX12_rate 36 = .ok (.if_icmp .ne 8, 3) := by decide +kernel
theorem dX12_rate_39 : decode cX12_rate 39 = .ok (.bipush (-4), 2) := by decide +kernel
theorem dX12_rate_41 : decode cX12_rate 41 = .ok (.goto 6, 3) := by decide +kernel
theorem dX12_rate_44 : decode cX12_rate 44 = .ok (.iload_n 3, 1) := by decide +kernel
theorem dX12_rate_45 : decode cX12_rate 45 = .ok (.iconst 1, 1) := by decide +kernel
theorem dX12_rate_46 : decode cX12_rate 46 = .ok (.isub, 1) := by decide +kernel
theorem dX12_rate_47 : decode cX12_rate 47 = .ok (.ireturn, 1) := by decide +kernel
theorem dX12_limit_0 : decode cX12_limit 0 = .ok (.iload_n 1, 1) := by decide +kernel
theorem dX12_limit_1 : decode cX12_limit 1 = .ok (.invokestatic 94, 3) := by decide +kernel
theorem dX12_limit_4 : decode cX12_limit 4 = .ok (.ifCond .eq 13, 3) := by decide +kernel
theorem dX12_limit_7 : decode cX12_limit 7 = .ok (.iload_n 2, 1) := by decide +kernel
theorem dX12_limit_8 : decode cX12_limit 8 = .ok (.iconst (-1), 1) := by decide +kernel
theorem dX12_limit_9 : decode cX12_limit 9 = .ok (.bipush 99, 2) := by decide +kernel
theorem dX12_limit_11 : decode cX12_limit 11 = .ok (.invokestatic 79, 3) := by decide +kernel
theorem dX12_limit_14 : decode cX12_limit 14 = .ok (.ifCond .ne 6, 3) := by decide +kernel
theorem dX12_limit_17 : decode cX12_limit 17 = .ok (.bipush (-2), 2) := by decide +kernel
theorem dX12_limit_19 : decode cX12_limit 19 = .ok (.ireturn, 1) := by decide +kernel
theorem dX12_limit_20 : decode cX12_limit 20 = .ok (.aload_n 0, 1) := by decide +kernel
theorem dX12_limit_21 : decode cX12_limit 21 = .ok (.getfield 18, 3) := by decide +kernel
theorem dX12_limit_24 : decode cX12_limit 24 = .ok (.iload_n 1, 1) := by decide +kernel
theorem dX12_limit_25 : decode cX12_limit 25 = .ok (.iload_n 2, 1) := by decide +kernel
theorem dX12_limit_26 : decode cX12_limit 26 = .ok (.iconst 1, 1) := by decide +kernel
theorem dX12_limit_27 : decode cX12_limit 27 = .ok (.iadd, 1) := by decide +kernel
theorem dX12_limit_28 : decode cX12_limit 28 = .ok (.iconst 5, 1) := by decide +kernel
theorem dX12_limit_29 : decode cX12_limit 29 = .ok (.invokestatic 98, 3) := by decide +kernel
theorem dX12_limit_32 : decode cX12_limit 32 = .ok (.istore_n 3, 1) := by decide +kernel
theorem dX12_limit_33 : decode cX12_limit 33 = .ok (.iload_n 3, 1) := by decide +kernel
theorem dX12_limit_34 : decode cX12_limit 34 = .ok (.bipush (-4), 2) := by decide +kernel
theorem dX12_limit_36 : decode cX12_limit 36 = .ok (.if_icmp .ne 8, 3) := by decide +kernel
theorem dX12_limit_39 : decode cX12_limit 39 = .ok (.bipush (-4), 2) := by decide +kernel
theorem dX12_limit_41 : decode cX12_limit 41 = .ok (.goto 6, 3) := by decide +kernel
theorem dX12_limit_44 : decode cX12_limit 44 = .ok (.iload_n 3, 1) := by decide +kernel
theorem dX12_limit_45 : decode cX12_limit 45 = .ok (.iconst 1, 1) := by decide +kernel
theorem dX12_limit_46 : decode cX12_limit 46 = .ok (.isub, 1) := by decide +kernel
theorem dX12_limit_47 : decode cX12_limit 47 = .ok (.ireturn, 1) := by decide +kernel
theorem dX12_rateOf_0 : decode cX12_rateOf 0 = .ok (.iload_n 1, 1) := by decide +kernel
theorem dX12_rateOf_1 : decode cX12_rateOf 1 = .ok (.istore_n 2, 1) := by decide +kernel
theorem dX12_rateOf_2 : decode cX12_rateOf 2 = .ok (.iload_n 2, 1) := by decide +kernel
theorem dX12_rateOf_3 : decode cX12_rateOf 3 = .ok (.ifCond .le 18, 3) := by decide +kernel
theorem dX12_rateOf_6 : decode cX12_rateOf 6 = .ok (.aload_n 0, 1) := by decide +kernel
theorem dX12_rateOf_7 : decode cX12_rateOf 7 = .ok (.getfield 15, 3) := by decide +kernel
theorem dX12_rateOf_10 : decode cX12_rateOf 10 = .ok (.iload_n 2, 1) := by decide +kernel
theorem dX12_rateOf_11 : decode cX12_rateOf 11 = .ok (.iaload, 1) := by decide +kernel
theorem dX12_rateOf_12 : decode cX12_rateOf 12 = .ok (.ifCond .ne 9, 3) := by decide +kernel
theorem dX12_rateOf_15 : decode cX12_rateOf 15 = .ok (.iinc 2 (-1), 3) := by decide +kernel
theorem dX12_rateOf_18 : decode cX12_rateOf 18 = .ok (.goto (-16), 3) := by decide +kernel
theorem dX12_rateOf_21 : decode cX12_rateOf 21 = .ok (.iload_n 2, 1) := by decide +kernel
theorem dX12_rateOf_22 : decode cX12_rateOf 22 = .ok (.ifCond .ne 7, 3) := by decide +kernel
theorem dX12_rateOf_25 : decode cX12_rateOf 25 = .ok (.iconst 0, 1) := by decide +kernel
theorem dX12_rateOf_26 : decode cX12_rateOf 26 = .ok (.goto 11, 3) := by decide +kernel
theorem dX12_rateOf_29 : decode cX12_rateOf 29 = .ok (.aload_n 0, 1) := by decide +kernel
theorem dX12_rateOf_30 : decode cX12_rateOf 30 = .ok (.getfield 15, 3) := by decide +kernel
theorem dX12_rateOf_33 : decode cX12_rateOf 33 = .ok (.iload_n 2, 1) := by decide +kernel
theorem dX12_rateOf_34 : decode cX12_rateOf 34 = .ok (.iaload, 1) := by decide +kernel
theorem dX12_rateOf_35 : decode cX12_rateOf 35 = .ok (.iconst 1, 1) := by decide +kernel
theorem dX12_rateOf_36 : decode cX12_rateOf 36 = .ok (.isub, 1) := by decide +kernel
theorem dX12_rateOf_37 : decode cX12_rateOf 37 = .ok (.ireturn, 1) := by decide +kernel
theorem dX12_rungFor_0 : decode cX12_rungFor 0 = .ok (.iconst 0, 1) := by decide +kernel
theorem dX12_rungFor_1 : decode cX12_rungFor 1 = .ok (.istore_n 2, 1) := by decide +kernel
theorem dX12_rungFor_2 : decode cX12_rungFor 2 = .ok (.iload_n 2, 1) := by decide +kernel
theorem dX12_rungFor_3 : decode cX12_rungFor 3 = .ok (.aload_n 0, 1) := by decide +kernel
theorem dX12_rungFor_4 : decode cX12_rungFor 4 = .ok (.getfield 83, 3) := by decide +kernel
theorem dX12_rungFor_7 : decode cX12_rungFor 7 = .ok (.if_icmp .ge 21, 3) := by decide +kernel
theorem dX12_rungFor_10 : decode cX12_rungFor 10 = .ok (.aload_n 0, 1) := by decide +kernel
theorem dX12_rungFor_11 : decode cX12_rungFor 11 = .ok (.getfield 24, 3) := by decide +kernel
theorem dX12_rungFor_14 : decode cX12_rungFor 14 = .ok (.iload_n 2, 1) := by decide +kernel
theorem dX12_rungFor_15 : decode cX12_rungFor 15 = .ok (.iaload, 1) := by decide +kernel
theorem dX12_rungFor_16 : decode cX12_rungFor 16 = .ok (.iload_n 1, 1) := by decide +kernel
theorem dX12_rungFor_17 : decode cX12_rungFor 17 = .ok (.if_icmp .lt 5, 3) := by decide +kernel
theorem dX12_rungFor_20 : decode cX12_rungFor 20 = .ok (.iload_n 2, 1) := by decide +kernel
theorem dX12_rungFor_21 : decode cX12_rungFor 21 = .ok (.ireturn, 1) := by decide +kernel
theorem dX12_rungFor_22 : decode cX12_rungFor 22 = .ok (.iinc 2 1, 3) := by decide +kernel
theorem dX12_rungFor_25 : decode cX12_rungFor 25 = .ok (.goto (-23), 3) := by decide +kernel
theorem dX12_rungFor_28 : decode cX12_rungFor 28 = .ok (.iconst (-1), 1) := by decide +kernel
theorem dX12_rungFor_29 : decode cX12_rungFor 29 = .ok (.ireturn, 1) := by decide +kernel
theorem dX12_rateBy_0 : decode cX12_rateBy 0 = .ok (.aload_n 0, 1) := by decide +kernel
theorem dX12_rateBy_1 : decode cX12_rateBy 1 = .ok (.iload_n 1, 1) := by decide +kernel
theorem dX12_rateBy_2 : decode cX12_rateBy 2 = .ok (.invokevirtual 105, 3) := by decide +kernel
theorem dX12_rateBy_5 : decode cX12_rateBy 5 = .ok (.istore_n 2, 1) := by decide +kernel
theorem dX12_rateBy_6 : decode cX12_rateBy 6 = .ok (.iload_n 2, 1) := by decide +kernel
theorem dX12_rateBy_7 : decode cX12_rateBy 7 = .ok (.iconst (-1), 1) := by decide +kernel
theorem dX12_rateBy_8 : decode cX12_rateBy 8 = .ok (.if_icmp .eq 13, 3) := by decide +kernel
theorem dX12_rateBy_11 : decode cX12_rateBy 11 = .ok (.aload_n 0, 1) := by decide +kernel
theorem dX12_rateBy_12 : decode cX12_rateBy 12 = .ok (.getfield 27, 3) := by decide +kernel
theorem dX12_rateBy_15 : decode cX12_rateBy 15 = .ok (.iload_n 2, 1) := by decide +kernel
theorem dX12_rateBy_16 : decode cX12_rateBy 16 = .ok (.iaload, 1) := by decide +kernel
theorem dX12_rateBy_17 : decode cX12_rateBy 17 = .ok (.iconst (-1), 1) := by decide +kernel
theorem dX12_rateBy_18 : decode cX12_rateBy 18 = .ok (.if_icmp .ne 11, 3) := by decide +kernel
theorem dX12_rateBy_21 : decode cX12_rateBy 21 = .ok (.aload_n 0, 1) := by decide +kernel
theorem dX12_rateBy_22 : decode cX12_rateBy 22 = .ok (.iload_n 1, 1) := by decide +kernel
theorem dX12_rateBy_23 : decode cX12_rateBy 23 = .ok (.invokevirtual 109, 3) := by decide +kernel
theorem dX12_rateBy_26 : decode cX12_rateBy 26 = .ok (.goto 9, 3) := by decide +kernel
theorem dX12_rateBy_29 : decode cX12_rateBy 29 = .ok (.aload_n 0, 1) := by decide +kernel
theorem dX12_rateBy_30 : decode cX12_rateBy 30 = .ok (.getfield 27, 3) := by decide +kernel
theorem dX12_rateBy_33 : decode cX12_rateBy 33 = .ok (.iload_n 2, 1) := by decide +kernel
theorem dX12_rateBy_34 : decode cX12_rateBy 34 = .ok (.iaload, 1) := by decide +kernel
theorem dX12_rateBy_35 : decode cX12_rateBy 35 = .ok (.ireturn, 1) := by decide +kernel
theorem dX12_rung_0 : decode cX12_rung 0 = .ok (.iload_n 2, 1) := by decide +kernel
theorem dX12_rung_1 : decode cX12_rung 1 = .ok (.iconst 0, 1) := by decide +kernel
theorem dX12_rung_2 : decode cX12_rung 2 = .ok (.iconst 3, 1) := by decide +kernel
theorem dX12_rung_3 : decode cX12_rung 3 = .ok (.invokestatic 79, 3) := by decide +kernel
theorem dX12_rung_6 : decode cX12_rung 6 = .ok (.ifCond .ne 6, 3) := by decide +kernel
theorem dX12_rung_9 : decode cX12_rung 9 = .ok (.bipush (-2), 2) := by decide +kernel
theorem dX12_rung_11 : decode cX12_rung 11 = .ok (.ireturn, 1) := by decide +kernel
theorem dX12_rung_12 : decode cX12_rung 12 = .ok (.aload_n 0, 1) := by decide +kernel
theorem dX12_rung_13 : decode cX12_rung 13 = .ok (.iload_n 1, 1) := by decide +kernel
theorem dX12_rung_14 : decode cX12_rung 14 = .ok (.invokevirtual 112, 3) := by decide +kernel
theorem dX12_rung_17 : decode cX12_rung 17 = .ok (.ifCond .ne 6, 3) := by decide +kernel
theorem dX12_rung_20 : decode cX12_rung 20 = .ok (.bipush (-12), 2) := by decide +kernel
theorem dX12_rung_22 : decode cX12_rung 22 = .ok (.ireturn, 1) := by decide +kernel
theorem dX12_rung_23 : decode cX12_rung 23 = .ok (.aload_n 0, 1) := by decide +kernel
theorem dX12_rung_24 : decode cX12_rung 24 = .ok (.getfield 24, 3) := by decide +kernel
theorem dX12_rung_27 : decode cX12_rung 27 = .ok (.iload_n 1, 1) := by decide +kernel
theorem dX12_rung_28 : decode cX12_rung 28 = .ok (.iaload, 1) := by decide +kernel
theorem dX12_rung_29 : decode cX12_rung 29 = .ok (.istore_n 3, 1) := by decide +kernel
theorem dX12_rung_30 : decode cX12_rung 30 = .ok (.iload_n 2, 1) := by decide +kernel
theorem dX12_rung_31 : decode cX12_rung 31 = .ok (.ifCond .ne 7, 3) := by decide +kernel
theorem dX12_rung_34 : decode cX12_rung 34 = .ok (.iload_n 3, 1) := by decide +kernel
theorem dX12_rung_35 : decode cX12_rung 35 = .ok (.goto 38, 3) := by decide +kernel
theorem dX12_rung_38 : decode cX12_rung 38 = .ok (.iload_n 2, 1) := by decide +kernel
theorem dX12_rung_39 : decode cX12_rung 39 = .ok (.iconst 1, 1) := by decide +kernel
theorem dX12_rung_40 : decode cX12_rung 40 = .ok (.if_icmp .ne 12, 3) := by decide +kernel
theorem dX12_rung_43 : decode cX12_rung 43 = .ok (.aload_n 0, 1) := by decide +kernel
theorem dX12_rung_44 : decode cX12_rung 44 = .ok (.getfield 9, 3) := by decide +kernel
theorem dX12_rung_47 : decode cX12_rung 47 = .ok (.iload_n 3, 1) := by decide +kernel
theorem dX12_rung_48 : decode cX12_rung 48 = .ok (.iaload, 1) := by decide +kernel
theorem dX12_rung_49 : decode cX12_rung 49 = .ok (.goto 24, 3) := by decide +kernel
theorem dX12_rung_52 : decode cX12_rung 52 = .ok (.iload_n 2, 1) := by decide +kernel
theorem dX12_rung_53 : decode cX12_rung 53 = .ok (.iconst 2, 1) := by decide +kernel
theorem dX12_rung_54 : decode cX12_rung 54 = .ok (.if_icmp .ne 11, 3) := by decide +kernel
theorem dX12_rung_57 : decode cX12_rung 57 = .ok (.aload_n 0, 1) := by decide +kernel
theorem dX12_rung_58 : decode cX12_rung 58 = .ok (.iload_n 3, 1) := by decide +kernel
theorem dX12_rung_59 : decode cX12_rung 59 = .ok (.invokevirtual 109, 3) := by decide +kernel
theorem dX12_rung_62 : decode cX12_rung 62 = .ok (.goto 11, 3) := by decide +kernel
theorem dX12_rung_65 : decode cX12_rung 65 = .ok (.aload_n 0, 1) := by decide +kernel
theorem dX12_rung_66 : decode cX12_rung 66 = .ok (.getfield 18, 3) := by decide +kernel
theorem dX12_rung_69 : decode cX12_rung 69 = .ok (.iload_n 3, 1) := by decide +kernel
theorem dX12_rung_70 : decode cX12_rung 70 = .ok (.iaload, 1) := by decide +kernel
theorem dX12_rung_71 : decode cX12_rung 71 = .ok (.iconst 1, 1) := by decide +kernel
theorem dX12_rung_72 : decode cX12_rung 72 = .ok (.isub, 1) := by decide +kernel
theorem dX12_rung_73 : decode cX12_rung 73 = .ok (.ireturn, 1) := by decide +kernel
theorem dX12_day_0 : decode cX12_day 0 = .ok (.iload_n 1, 1) := by decide +kernel
theorem dX12_day_1 : decode cX12_day 1 = .ok (.invokestatic 94, 3) := by decide +kernel
theorem dX12_day_4 : decode cX12_day 4 = .ok (.ifCond .eq 12, 3) := by decide +kernel
theorem dX12_day_7 : decode cX12_day 7 = .ok (.iload_n 2, 1) := by decide +kernel
theorem dX12_day_8 : decode cX12_day 8 = .ok (.iconst 0, 1) := by decide +kernel
theorem dX12_day_9 : decode cX12_day 9 = .ok (.iconst 1, 1) := by decide +kernel
theorem dX12_day_10 : decode cX12_day 10 = .ok (.invokestatic 79, 3) := by decide +kernel
theorem dX12_day_13 : decode cX12_day 13 = .ok (.ifCond .ne 6, 3) := by decide +kernel
theorem dX12_day_16 : decode cX12_day 16 = .ok (.bipush (-2), 2) := by decide +kernel
theorem dX12_day_18 : decode cX12_day 18 = .ok (.ireturn, 1) := by decide +kernel
theorem dX12_day_19 : decode cX12_day 19 = .ok (.iload_n 2, 1) := by decide +kernel
theorem dX12_day_20 : decode cX12_day 20 = .ok (.ifCond .ne 11, 3) := by decide +kernel
theorem dX12_day_23 : decode cX12_day 23 = .ok (.aload_n 0, 1) := by decide +kernel
theorem dX12_day_24 : decode cX12_day 24 = .ok (.iload_n 1, 1) := by decide +kernel
theorem dX12_day_25 : decode cX12_day 25 = .ok (.invokevirtual 109, 3) := by decide +kernel
theorem dX12_day_28 : decode cX12_day 28 = .ok (.goto 8, 3) := by decide +kernel
theorem dX12_day_31 : decode cX12_day 31 = .ok (.aload_n 0, 1) := by decide +kernel
theorem dX12_day_32 : decode cX12_day 32 = .ok (.iload_n 1, 1) := by decide +kernel
theorem dX12_day_33 : decode cX12_day 33 = .ok (.invokevirtual 105, 3) := by decide +kernel
theorem dX12_day_36 : decode cX12_day 36 = .ok (.ireturn, 1) := by decide +kernel
theorem dX12_of_0 : decode cX12_of 0 = .ok (.aload_n 0, 1) := by decide +kernel
theorem dX12_of_1 : decode cX12_of 1 = .ok (.getfield 21, 3) := by decide +kernel
theorem dX12_of_4 : decode cX12_of 4 = .ok (.iconst 5, 1) := by decide +kernel
theorem dX12_of_5 : decode cX12_of 5 = .ok (.iload_n 2, 1) := by decide +kernel
theorem dX12_of_6 : decode cX12_of 6 = .ok (.imul, 1) := by decide +kernel
theorem dX12_of_7 : decode cX12_of 7 = .ok (.iload_n 1, 1) := by decide +kernel
theorem dX12_of_8 : decode cX12_of 8 = .ok (.iadd, 1) := by decide +kernel
theorem dX12_of_9 : decode cX12_of 9 = .ok (.iaload, 1) := by decide +kernel
theorem dX12_of_10 : decode cX12_of 10 = .ok (.ireturn, 1) := by decide +kernel
theorem dX12_bond_0 : decode cX12_bond 0 = .ok (.iload_n 1, 1) := by decide +kernel
theorem dX12_bond_1 : decode cX12_bond 1 = .ok (.iconst 0, 1) := by decide +kernel
theorem dX12_bond_2 : decode cX12_bond 2 = .ok (.iconst 5, 1) := by decide +kernel
theorem dX12_bond_3 : decode cX12_bond 3 = .ok (.invokestatic 79, 3) := by decide +kernel
theorem dX12_bond_6 : decode cX12_bond 6 = .ok (.ifCond .eq 50, 3) := by decide +kernel
theorem dX12_bond_9 : decode cX12_bond 9 = .ok (.iload_n 2, 1) := by decide +kernel
theorem dX12_bond_10 : decode cX12_bond 10 = .ok (.iconst 1, 1) := by decide +kernel
theorem dX12_bond_11 : decode cX12_bond 11 = .ok (.bipush 99, 2) := by decide +kernel
theorem dX12_bond_13 : decode cX12_bond 13 = .ok (.invokestatic 79, 3) := by decide +kernel
theorem dX12_bond_16 : decode cX12_bond 16 = .ok (.ifCond .eq 40, 3) := by decide +kernel
theorem dX12_bond_19 : decode cX12_bond 19 = .ok (.iload_n 3, 1) := by decide +kernel
theorem dX12_bond_20 : decode cX12_bond 20 = .ok (.iconst 0, 1) := by decide +kernel
theorem dX12_bond_21 : decode cX12_bond 21 = .ok (.bipush 9, 2) := by decide +kernel
theorem dX12_bond_23 : decode cX12_bond 23 = .ok (.invokestatic 79, 3) := by decide +kernel
theorem dX12_bond_26 : decode cX12_bond 26 = .ok (.ifCond .eq 30, 3) := by decide +kernel
theorem dX12_bond_29 : decode cX12_bond 29 = .ok (.iload 4, 2) := by decide +kernel
theorem dX12_bond_31 : decode cX12_bond 31 = .ok (.iconst 1, 1) := by decide +kernel
theorem dX12_bond_32 : decode cX12_bond 32 = .ok (.bipush 30, 2) := by decide +kernel
theorem dX12_bond_34 : decode cX12_bond 34 = .ok (.invokestatic 79, 3) := by decide +kernel
theorem dX12_bond_37 : decode cX12_bond 37 = .ok (.ifCond .eq 19, 3) := by decide +kernel
theorem dX12_bond_40 : decode cX12_bond 40 = .ok (.iload 5, 2) := by decide +kernel
theorem dX12_bond_42 : decode cX12_bond 42 = .ok (.invokestatic 94, 3) := by decide +kernel
theorem dX12_bond_45 : decode cX12_bond 45 = .ok (.ifCond .eq 11, 3) := by decide +kernel
theorem dX12_bond_48 : decode cX12_bond 48 = .ok (.iload 6, 2) := by decide +kernel
theorem dX12_bond_50 : decode cX12_bond 50 = .ok (.invokestatic 94, 3) := by decide +kernel
theorem dX12_bond_53 : decode cX12_bond 53 = .ok (.ifCond .ne 6, 3) := by decide +kernel
theorem dX12_bond_56 : decode cX12_bond 56 = .ok (.bipush (-2), 2) := by decide +kernel
theorem dX12_bond_58 : decode cX12_bond 58 = .ok (.ireturn, 1) := by decide +kernel
theorem dX12_bond_59 : decode cX12_bond 59 = .ok (.aload_n 0, 1) := by decide +kernel
theorem dX12_bond_60 : decode cX12_bond 60 = .ok (.getfield 87, 3) := by decide +kernel
theorem dX12_bond_63 : decode cX12_bond 63 = .ok (.iconst 5, 1) := by decide +kernel
theorem dX12_bond_64 : decode cX12_bond 64 = .ok (.if_icmp .ne 6, 3) := by decide +kernel
theorem dX12_bond_67 : decode cX12_bond 67 = .ok (.bipush (-4), 2) := by decide +kernel
theorem dX12_bond_69 : decode cX12_bond 69 = .ok (.ireturn, 1) := by decide +kernel
theorem dX12_bond_70 : decode cX12_bond 70 = .ok (.aload_n 0, 1) := by decide +kernel
theorem dX12_bond_71 : decode cX12_bond 71 = .ok (.getfield 21, 3) := by decide +kernel
theorem dX12_bond_74 : decode cX12_bond 74 = .ok (.aload_n 0, 1) := by decide +kernel
theorem dX12_bond_75 : decode cX12_bond 75 = .ok (.getfield 87, 3) := by decide +kernel
theorem dX12_bond_78 : decode cX12_bond 78 = .ok (.iload_n 1, 1) := by decide +kernel
theorem dX12_bond_79 : decode cX12_bond 79 = .ok (.iastore, 1) := by decide +kernel
theorem dX12_bond_80 : decode cX12_bond 80 = .ok (.aload_n 0, 1) := by decide +kernel
theorem dX12_bond_81 : decode cX12_bond 81 = .ok (.getfield 21, 3) := by decide +kernel
theorem dX12_bond_84 : decode cX12_bond 84 = .ok (.iconst 5, 1) := by decide +kernel
theorem dX12_bond_85 : decode cX12_bond 85 = .ok (.aload_n 0, 1) := by decide +kernel
theorem dX12_bond_86 : decode cX12_bond 86 = .ok (.getfield 87, 3) := by decide +kernel
theorem dX12_bond_89 : decode cX12_bond 89 = .ok (.iadd, 1) := by decide +kernel
theorem dX12_bond_90 : decode cX12_bond 90 = .ok (.iload_n 2, 1) := by decide +kernel
theorem dX12_bond_91 : decode cX12_bond 91 = .ok (.iastore, 1) := by decide +kernel
theorem dX12_bond_92 : decode cX12_bond 92 = .ok (.aload_n 0, 1) := by decide +kernel
theorem dX12_bond_93 : decode cX12_bond 93 = .ok (.getfield 21, 3) := by decide +kernel
theorem dX12_bond_96 : decode cX12_bond 96 = .ok (.bipush 10, 2) := by decide +kernel
theorem dX12_bond_98 : decode cX12_bond 98 = .ok (.aload_n 0, 1) := by decide +kernel
theorem dX12_bond_99 : decode cX12_bond 99 = .ok (.getfield 87, 3) := by decide +kernel
theorem dX12_bond_102 : decode cX12_bond 102 = .ok (.iadd, 1) := by decide +kernel
theorem dX12_bond_103 : decode cX12_bond 103 = .ok (.iload_n 3, 1) := by decide +kernel
theorem dX12_bond_104 : decode cX12_bond 104 = .ok (.iastore, 1) := by decide +kernel
theorem dX12_bond_105 : decode cX12_bond 105 = .ok (.aload_n 0, 1) := by decide +kernel
theorem dX12_bond_106 : decode cX12_bond 106 = .ok (.getfield 21, 3) := by decide +kernel
theorem dX12_bond_109 : decode cX12_bond 109 = .ok (.bipush 15, 2) := by decide +kernel
theorem dX12_bond_111 : decode cX12_bond 111 = .ok (.aload_n 0, 1) := by decide +kernel
theorem dX12_bond_112 : decode cX12_bond 112 = .ok (.getfield 87, 3) := by decide +kernel
theorem dX12_bond_115 : decode cX12_bond 115 = .ok (.iadd, 1) := by decide +kernel
theorem dX12_bond_116 : decode cX12_bond 116 = .ok (.iload 4, 2) := by decide +kernel
theorem dX12_bond_118 : decode cX12_bond 118 = .ok (.iastore, 1) := by decide +kernel
theorem dX12_bond_119 : decode cX12_bond 119 = .ok (.aload_n 0, 1) := by decide +kernel
theorem dX12_bond_120 : decode cX12_bond 120 = .ok (.getfield 21, 3) := by decide +kernel
theorem dX12_bond_123 : decode cX12_bond 123 = .ok (.bipush 20, 2) := by decide +kernel
theorem dX12_bond_125 : decode cX12_bond 125 = .ok (.aload_n 0, 1) := by decide +kernel
theorem dX12_bond_126 : decode cX12_bond 126 = .ok (.getfield 87, 3) := by decide +kernel
theorem dX12_bond_129 : decode cX12_bond 129 = .ok (.iadd, 1) := by decide +kernel
theorem dX12_bond_130 : decode cX12_bond 130 = .ok (.iload 5, 2) := by decide +kernel
theorem dX12_bond_132 : decode cX12_bond 132 = .ok (.iastore, 1) := by decide +kernel
theorem dX12_bond_133 : decode cX12_bond 133 = .ok (.aload_n 0, 1) := by decide +kernel
theorem dX12_bond_134 : decode cX12_bond 134 = .ok (.getfield 21, 3) := by decide +kernel
theorem dX12_bond_137 : decode cX12_bond 137 = .ok (.bipush 25, 2) := by decide +kernel
theorem dX12_bond_139 : decode cX12_bond 139 = .ok (.aload_n 0, 1) := by decide +kernel
theorem dX12_bond_140 : decode cX12_bond 140 = .ok (.getfield 87, 3) := by decide +kernel
theorem dX12_bond_143 : decode cX12_bond 143 = .ok (.iadd, 1) := by decide +kernel
theorem dX12_bond_144 : decode cX12_bond 144 = .ok (.iload 6, 2) := by decide +kernel
theorem dX12_bond_146 : decode cX12_bond 146 = .ok (.iastore, 1) := by decide +kernel
theorem dX12_bond_147 : decode cX12_bond 147 = .ok (.aload_n 0, 1) := by decide +kernel
theorem dX12_bond_148 : decode cX12_bond 148 = .ok (.getfield 21, 3) := by decide +kernel
theorem dX12_bond_151 : decode cX12_bond 151 = .ok (.bipush 30, 2) := by decide +kernel
theorem dX12_bond_153 : decode cX12_bond 153 = .ok (.aload_n 0, 1) := by decide +kernel
theorem dX12_bond_154 : decode cX12_bond 154 = .ok (.getfield 87, 3) := by decide +kernel
theorem dX12_bond_157 : decode cX12_bond 157 = .ok (.iadd, 1) := by decide +kernel
theorem dX12_bond_158 : decode cX12_bond 158 = .ok (.iconst 0, 1) := by decide +kernel
theorem dX12_bond_159 : decode cX12_bond 159 = .ok (.iastore, 1) := by decide +kernel
theorem dX12_bond_160 : decode cX12_bond 160 = .ok (.aload_n 0, 1) := by decide +kernel
theorem dX12_bond_161 : decode cX12_bond 161 = .ok (.dup, 1) := by decide +kernel
theorem dX12_bond_162 : decode cX12_bond 162 = .ok (.getfield 87, 3) := by decide +kernel
theorem dX12_bond_165 : decode cX12_bond 165 = .ok (.dup_x1, 1) := by decide +kernel
theorem dX12_bond_166 : decode cX12_bond 166 = .ok (.iconst 1, 1) := by decide +kernel
theorem dX12_bond_167 : decode cX12_bond 167 = .ok (.iadd, 1) := by decide +kernel
theorem dX12_bond_168 : decode cX12_bond 168 = .ok (.putfield 87, 3) := by decide +kernel
theorem dX12_bond_171 : decode cX12_bond 171 = .ok (.ireturn, 1) := by decide +kernel
theorem dX12_hold_0 : decode cX12_hold 0 = .ok (.aload_n 0, 1) := by decide +kernel
theorem dX12_hold_1 : decode cX12_hold 1 = .ok (.iload_n 1, 1) := by decide +kernel
theorem dX12_hold_2 : decode cX12_hold 2 = .ok (.invokevirtual 115, 3) := by decide +kernel
theorem dX12_hold_5 : decode cX12_hold 5 = .ok (.ifCond .eq 13, 3) := by decide +kernel
theorem dX12_hold_8 : decode cX12_hold 8 = .ok (.iload_n 2, 1) := by decide +kernel
theorem dX12_hold_9 : decode cX12_hold 9 = .ok (.iconst 0, 1) := by decide +kernel
theorem dX12_hold_10 : decode cX12_hold 10 = .ok (.bipush 99, 2) := by decide +kernel
theorem dX12_hold_12 : decode cX12_hold 12 = .ok (.invokestatic 79, 3) := by decide +kernel
theorem dX12_hold_15 : decode cX12_hold 15 = .ok (.ifCond .ne 6, 3) := by decide +kernel
theorem dX12_hold_18 : decode cX12_hold 18 = .ok (.bipush (-2), 2) := by decide +kernel
theorem dX12_hold_20 : decode cX12_hold 20 = .ok (.ireturn, 1) := by decide +kernel
theorem dX12_hold_21 : decode cX12_hold 21 = .ok (.aload_n 0, 1) := by decide +kernel
theorem dX12_hold_22 : decode cX12_hold 22 = .ok (.iload_n 1, 1) := by decide +kernel
theorem dX12_hold_23 : decode cX12_hold 23 = .ok (.bipush 6, 2) := by decide +kernel
theorem dX12_hold_25 : decode cX12_hold 25 = .ok (.invokevirtual 118, 3) := by decide +kernel
theorem dX12_hold_28 : decode cX12_hold 28 = .ok (.istore_n 3, 1) := by decide +kernel
theorem dX12_hold_29 : decode cX12_hold 29 = .ok (.aload_n 0, 1) := by decide +kernel
theorem dX12_hold_30 : decode cX12_hold 30 = .ok (.getfield 21, 3) := by decide +kernel
theorem dX12_hold_33 : decode cX12_hold 33 = .ok (.bipush 30, 2) := by decide +kernel
theorem dX12_hold_35 : decode cX12_hold 35 = .ok (.iload_n 1, 1) := by decide +kernel
theorem dX12_hold_36 : decode cX12_hold 36 = .ok (.iadd, 1) := by decide +kernel
theorem dX12_hold_37 : decode cX12_hold 37 = .ok (.iload_n 2, 1) := by decide +kernel
theorem dX12_hold_38 : decode cX12_hold 38 = .ok (.iastore, 1) := by decide +kernel
theorem dX12_hold_39 : decode cX12_hold 39 = .ok (.iload_n 3, 1) := by decide +kernel
theorem dX12_hold_40 : decode cX12_hold 40 = .ok (.ireturn, 1) := by decide +kernel
theorem dX12_calledOn_0 : decode cX12_calledOn 0 = .ok (.aload_n 0, 1) := by decide +kernel
theorem dX12_calledOn_1 : decode cX12_calledOn 1 = .ok (.iload_n 1, 1) := by decide +kernel
theorem dX12_calledOn_2 : decode cX12_calledOn 2 = .ok (.iconst 3, 1) := by decide +kernel
theorem dX12_calledOn_3 : decode cX12_calledOn 3 = .ok (.invokevirtual 118, 3) := by decide +kernel
theorem dX12_calledOn_6 : decode cX12_calledOn 6 = .ok (.istore_n 2, 1) := by decide +kernel
theorem dX12_calledOn_7 : decode cX12_calledOn 7 = .ok (.iload_n 2, 1) := by decide +kernel
theorem dX12_calledOn_8 : decode cX12_calledOn 8 = .ok (.aload_n 0, 1) := by decide +kernel
theorem dX12_calledOn_9 : decode cX12_calledOn 9 = .ok (.iload_n 1, 1) := by decide +kernel
theorem dX12_calledOn_10 : decode cX12_calledOn 10 = .ok (.iconst 4, 1) := by decide +kernel
theorem dX12_calledOn_11 : decode cX12_calledOn 11 = .ok (.invokevirtual 118, 3) := by decide +kernel
theorem dX12_calledOn_14 : decode cX12_calledOn 14 = .ok (.if_icmp .ge 25, 3) := by decide +kernel
theorem dX12_calledOn_17 : decode cX12_calledOn 17 = .ok (.aload_n 0, 1) := by decide +kernel
theorem dX12_calledOn_18 : decode cX12_calledOn 18 = .ok (.iload_n 2, 1) := by decide +kernel
theorem dX12_calledOn_19 : decode cX12_calledOn 19 = .ok (.invokevirtual 122, 3) := by decide +kernel
theorem dX12_calledOn_22 : decode cX12_calledOn 22 = .ok (.ifCond .ne 5, 3) := by decide +kernel
theorem dX12_calledOn_25 : decode cX12_calledOn 25 = .ok (.iload_n 2, 1) := by decide +kernel
theorem dX12_calledOn_26 : decode cX12_calledOn 26 = .ok (.ireturn, 1) := by decide +kernel
theorem dX12_calledOn_27 : decode cX12_calledOn 27 = .ok (.iload_n 2, 1) := by decide +kernel
theorem dX12_calledOn_28 : decode cX12_calledOn 28 = .ok (.aload_n 0, 1) := by decide +kernel
theorem dX12_calledOn_29 : decode cX12_calledOn 29 = .ok (.iload_n 1, 1) := by decide +kernel
theorem dX12_calledOn_30 : decode cX12_calledOn 30 = .ok (.iconst 3, 1) := by decide +kernel
theorem dX12_calledOn_31 : decode cX12_calledOn 31 = .ok (.invokevirtual 118, 3) := by decide +kernel
theorem dX12_calledOn_34 : decode cX12_calledOn 34 = .ok (.iadd, 1) := by decide +kernel
theorem dX12_calledOn_35 : decode cX12_calledOn 35 = .ok (.istore_n 2, 1) := by decide +kernel
theorem dX12_calledOn_36 : decode cX12_calledOn 36 = .ok (.goto (-29), 3) := by decide +kernel
theorem dX12_calledOn_39 : decode cX12_calledOn 39 = .ok (.aload_n 0, 1) := by decide +kernel
theorem dX12_calledOn_40 : decode cX12_calledOn 40 = .ok (.iload_n 1, 1) := by decide +kernel
theorem dX12_calledOn_41 : decode cX12_calledOn 41 = .ok (.iconst 4, 1) := by decide +kernel
theorem dX12_calledOn_42 : decode cX12_calledOn 42 = .ok (.invokevirtual 118, 3) := by decide +kernel
theorem dX12_calledOn_45 : decode cX12_calledOn 45 = .ok (.ireturn, 1) := by decide +kernel
theorem dX12_paysOn_0 : decode cX12_paysOn 0 = .ok (.aload_n 0, 1) := by decide +kernel
theorem dX12_paysOn_1 : decode cX12_paysOn 1 = .ok (.iload_n 1, 1) := by decide +kernel
theorem dX12_paysOn_2 : decode cX12_paysOn 2 = .ok (.iconst 2, 1) := by decide +kernel
theorem dX12_paysOn_3 : decode cX12_paysOn 3 = .ok (.invokevirtual 118, 3) := by decide +kernel
theorem dX12_paysOn_6 : decode cX12_paysOn 6 = .ok (.istore_n 3, 1) := by decide +kernel
theorem dX12_paysOn_7 : decode cX12_paysOn 7 = .ok (.aload_n 0, 1) := by decide +kernel
theorem dX12_paysOn_8 : decode cX12_paysOn 8 = .ok (.iload_n 1, 1) := by decide +kernel
theorem dX12_paysOn_9 : decode cX12_paysOn 9 = .ok (.iconst 4, 1) := by decide +kernel
theorem dX12_paysOn_10 : decode cX12_paysOn 10 = .ok (.invokevirtual 118, 3) := by decide +kernel
theorem dX12_paysOn_13 : decode cX12_paysOn 13 = .ok (.istore 4, 2) := by decide +kernel
theorem dX12_paysOn_15 : decode cX12_paysOn 15 = .ok (.aload_n 0, 1) := by decide +kernel
theorem dX12_paysOn_16 : decode cX12_paysOn 16 = .ok (.iload_n 1, 1) := by decide +kernel
theorem dX12_paysOn_17 : decode cX12_paysOn 17 = .ok (.iconst 5, 1) := by decide +kernel
theorem dX12_paysOn_18 : decode cX12_paysOn 18 = .ok (.invokevirtual 118, 3) := by decide +kernel
theorem dX12_paysOn_21 : decode cX12_paysOn 21 = .ok (.istore 5, 2) := by decide +kernel
theorem dX12_paysOn_23 : decode cX12_paysOn 23 = .ok (.iload_n 2, 1) := by decide +kernel
theorem dX12_paysOn_24 : decode cX12_paysOn 24 = .ok (.iload 4, 2) := by decide +kernel
theorem dX12_paysOn_26 : decode cX12_paysOn 26 = .ok (.if_icmp .gt 20, 3) := by decide +kernel
theorem dX12_paysOn_29 : decode cX12_paysOn 29 = .ok (.iload_n 2, 1) := by decide +kernel
theorem dX12_paysOn_30 : decode cX12_paysOn 30 = .ok (.iload 4, 2) := by decide +kernel
theorem dX12_paysOn_32 : decode cX12_paysOn 32 = .ok (.if_icmp .eq 16, 3) := by decide +kernel
theorem dX12_paysOn_35 : decode cX12_paysOn 35 = .ok (.iload_n 2, 1) := by decide +kernel
theorem dX12_paysOn_36 : decode cX12_paysOn 36 = .ok (.aload_n 0, 1) := by decide +kernel
theorem dX12_paysOn_37 : decode cX12_paysOn 37 = .ok (.iload_n 1, 1) := by decide +kernel
theorem dX12_paysOn_38 : decode cX12_paysOn 38 = .ok (.iconst 3, 1) := by decide +kernel
theorem dX12_paysOn_39 : decode cX12_paysOn 39 = .ok (.invokevirtual 118, 3) := by decide +kernel
theorem dX12_paysOn_42 : decode cX12_paysOn 42 = .ok (.irem, 1) := by decide +kernel
theorem dX12_paysOn_43 : decode cX12_paysOn 43 = .ok (.ifCond .eq 5, 3) := by decide +kernel
theorem dX12_paysOn_46 : decode cX12_paysOn 46 = .ok (.iconst 0, 1) := by decide +kernel
theorem dX12_paysOn_47 : decode cX12_paysOn 47 = .ok (.ireturn, 1) := by decide +kernel
theorem dX12_paysOn_48 : decode cX12_paysOn 48 = .ok (.iload_n 2, 1) := by decide +kernel
theorem dX12_paysOn_49 : decode cX12_paysOn 49 = .ok (.iload 4, 2) := by decide +kernel
theorem dX12_paysOn_51 : decode cX12_paysOn 51 = .ok (.if_icmp .ne 17, 3) := by decide +kernel
theorem dX12_paysOn_54 : decode cX12_paysOn 54 = .ok (.iload 4, 2) := by decide +kernel
theorem dX12_paysOn_56 : decode cX12_paysOn 56 = .ok (.iconst 1, 1) := by decide +kernel
theorem dX12_paysOn_57 : decode cX12_paysOn 57 = .ok (.isub, 1) := by decide +kernel
theorem dX12_paysOn_58 : decode cX12_paysOn 58 = .ok (.aload_n 0, 1) := by decide +kernel
theorem dX12_paysOn_59 : decode cX12_paysOn 59 = .ok (.iload_n 1, 1) := by decide +kernel
theorem dX12_paysOn_60 : decode cX12_paysOn 60 = .ok (.iconst 3, 1) := by decide +kernel
theorem dX12_paysOn_61 : decode cX12_paysOn 61 = .ok (.invokevirtual 118, 3) := by decide +kernel
theorem dX12_paysOn_64 : decode cX12_paysOn 64 = .ok (.idiv, 1) := by decide +kernel
theorem dX12_paysOn_65 : decode cX12_paysOn 65 = .ok (.goto 13, 3) := by decide +kernel
theorem dX12_paysOn_68 : decode cX12_paysOn 68 = .ok (.iload_n 2, 1) := by decide +kernel
theorem dX12_paysOn_69 : decode cX12_paysOn 69 = .ok (.aload_n 0, 1) := by decide +kernel
theorem dX12_paysOn_70 : decode cX12_paysOn 70 = .ok (.iload_n 1, 1) := by decide +kernel
theorem dX12_paysOn_71 : decode cX12_paysOn 71 = .ok (.iconst 3, 1) := by decide +kernel
theorem dX12_paysOn_72 : decode cX12_paysOn 72 = .ok (.invokevirtual 118, 3) := by decide +kernel
theorem dX12_paysOn_75 : decode cX12_paysOn 75 = .ok (.idiv, 1) := by decide +kernel
theorem dX12_paysOn_76 : decode cX12_paysOn 76 = .ok (.iconst 1, 1) := by decide +kernel
theorem dX12_paysOn_77 : decode cX12_paysOn 77 = .ok (.isub, 1) := by decide +kernel
theorem dX12_paysOn_78 : decode cX12_paysOn 78 = .ok (.istore 6, 2) := by decide +kernel
theorem dX12_paysOn_80 : decode cX12_paysOn 80 = .ok (.iload_n 2, 1) := by decide +kernel
theorem dX12_paysOn_81 : decode cX12_paysOn 81 = .ok (.iload 4, 2) := by decide +kernel
theorem dX12_paysOn_83 : decode cX12_paysOn 83 = .ok (.if_icmp .ne 8, 3) := by decide +kernel
theorem dX12_paysOn_86 : decode cX12_paysOn 86 = .ok (.iload 5, 2) := by decide +kernel
theorem dX12_paysOn_88 : decode cX12_paysOn 88 = .ok (.goto 4, 3) := by decide +kernel
theorem dX12_paysOn_91 : decode cX12_paysOn 91 = .ok (.iconst 0, 1) := by decide +kernel
theorem dX12_paysOn_92 : decode cX12_paysOn 92 = .ok (.istore 7, 2) := by decide +kernel
theorem dX12_paysOn_94 : decode cX12_paysOn 94 = .ok (.aload_n 0, 1) := by decide +kernel
theorem dX12_paysOn_95 : decode cX12_paysOn 95 = .ok (.iload_n 1, 1) := by decide +kernel
theorem dX12_paysOn_96 : decode cX12_paysOn 96 = .ok (.iconst 0, 1) := by decide +kernel
theorem dX12_paysOn_97 : decode cX12_paysOn 97 = .ok (.invokevirtual 118, 3) := by decide +kernel
theorem dX12_paysOn_100 : decode cX12_paysOn 100 = .ok (.tableswitch 100 0 4 #[36, 41, 44, 52, 84], 36) := by decide +kernel
theorem dX12_paysOn_136 : decode cX12_paysOn 136 = .ok (.iload_n 3, 1) := by decide +kernel
theorem dX12_paysOn_137 : decode cX12_paysOn 137 = .ok (.iload 7, 2) := by decide +kernel
theorem dX12_paysOn_139 : decode cX12_paysOn 139 = .ok (.iadd, 1) := by decide +kernel
theorem dX12_paysOn_140 : decode cX12_paysOn 140 = .ok (.ireturn, 1) := by decide +kernel
theorem dX12_paysOn_141 : decode cX12_paysOn 141 = .ok (.iload 7, 2) := by decide +kernel
theorem dX12_paysOn_143 : decode cX12_paysOn 143 = .ok (.ireturn, 1) := by decide +kernel
theorem dX12_paysOn_144 : decode cX12_paysOn 144 = .ok (.iload_n 3, 1) := by decide +kernel
theorem dX12_paysOn_145 : decode cX12_paysOn 145 = .ok (.iload 7, 2) := by decide +kernel
theorem dX12_paysOn_147 : decode cX12_paysOn 147 = .ok (.iadd, 1) := by decide +kernel
theorem dX12_paysOn_148 : decode cX12_paysOn 148 = .ok (.iload 6, 2) := by decide +kernel
theorem dX12_paysOn_150 : decode cX12_paysOn 150 = .ok (.iadd, 1) := by decide +kernel
theorem dX12_paysOn_151 : decode cX12_paysOn 151 = .ok (.ireturn, 1) := by decide +kernel
theorem dX12_paysOn_152 : decode cX12_paysOn 152 = .ok (.iload 7, 2) := by decide +kernel
theorem dX12_paysOn_154 : decode cX12_paysOn 154 = .ok (.iload 6, 2) := by decide +kernel
theorem dX12_paysOn_156 : decode cX12_paysOn 156 = .ok (.ifCond .ne 10, 3) := by decide +kernel
theorem dX12_paysOn_159 : decode cX12_paysOn 159 = .ok (.iload 5, 2) := by decide +kernel
theorem dX12_paysOn_161 : decode cX12_paysOn 161 = .ok (.iconst 2, 1) := by decide +kernel
theorem dX12_paysOn_162 : decode cX12_paysOn 162 = .ok (.idiv, 1) := by decide +kernel
theorem dX12_paysOn_163 : decode cX12_paysOn 163 = .ok (.goto 4, 3) := by decide +kernel
theorem dX12_paysOn_166 : decode cX12_paysOn 166 = .ok (.iconst 0, 1) := by decide +kernel
theorem dX12_paysOn_167 : decode cX12_paysOn 167 = .ok (.iadd, 1) := by decide +kernel
theorem dX12_paysOn_168 : decode cX12_paysOn 168 = .ok (.iload_n 2, 1) := by decide +kernel
theorem dX12_paysOn_169 : decode cX12_paysOn 169 = .ok (.iload 4, 2) := by decide +kernel
theorem dX12_paysOn_171 : decode cX12_paysOn 171 = .ok (.if_icmp .ne 10, 3) := by decide +kernel
theorem dX12_paysOn_174 : decode cX12_paysOn 174 = .ok (.iload 5, 2) := by decide +kernel
theorem dX12_paysOn_176 : decode cX12_paysOn 176 = .ok (.iconst 2, 1) := by decide +kernel
theorem dX12_paysOn_177 : decode cX12_paysOn 177 = .ok (.idiv, 1) := by decide +kernel
theorem dX12_paysOn_178 : decode cX12_paysOn 178 = .ok (.goto 4, 3) := by decide +kernel
theorem dX12_paysOn_181 : decode cX12_paysOn 181 = .ok (.iconst 0, 1) := by decide +kernel
theorem dX12_paysOn_182 : decode cX12_paysOn 182 = .ok (.isub, 1) := by decide +kernel
theorem dX12_paysOn_183 : decode cX12_paysOn 183 = .ok (.ireturn, 1) := by decide +kernel
theorem dX12_paysOn_184 : decode cX12_paysOn 184 = .ok (.iload_n 3, 1) := by decide +kernel
theorem dX12_paysOn_185 : decode cX12_paysOn 185 = .ok (.iload 7, 2) := by decide +kernel
theorem dX12_paysOn_187 : decode cX12_paysOn 187 = .ok (.iadd, 1) := by decide +kernel
theorem dX12_paysOn_188 : decode cX12_paysOn 188 = .ok (.iload 6, 2) := by decide +kernel
theorem dX12_paysOn_190 : decode cX12_paysOn 190 = .ok (.iadd, 1) := by decide +kernel
theorem dX12_paysOn_191 : decode cX12_paysOn 191 = .ok (.iload_n 3, 1) := by decide +kernel
theorem dX12_paysOn_192 : decode cX12_paysOn 192 = .ok (.aload_n 0, 1) := by decide +kernel
theorem dX12_paysOn_193 : decode cX12_paysOn 193 = .ok (.iload_n 2, 1) := by decide +kernel
theorem dX12_paysOn_194 : decode cX12_paysOn 194 = .ok (.invokevirtual 122, 3) := by decide +kernel
theorem dX12_paysOn_197 : decode cX12_paysOn 197 = .ok (.imul, 1) := by decide +kernel
theorem dX12_paysOn_198 : decode cX12_paysOn 198 = .ok (.iadd, 1) := by decide +kernel
theorem dX12_paysOn_199 : decode cX12_paysOn 199 = .ok (.ireturn, 1) := by decide +kernel
theorem dX12_paysOn_200 : decode cX12_paysOn 200 = .ok (.aload_n 0, 1) := by decide +kernel
theorem dX12_paysOn_201 : decode cX12_paysOn 201 = .ok (.iload_n 1, 1) := by decide +kernel
theorem dX12_paysOn_202 : decode cX12_paysOn 202 = .ok (.invokevirtual 125, 3) := by decide +kernel
theorem dX12_paysOn_205 : decode cX12_paysOn 205 = .ok (.istore 8, 2) := by decide +kernel
theorem dX12_paysOn_207 : decode cX12_paysOn 207 = .ok (.iload_n 2, 1) := by decide +kernel
theorem dX12_paysOn_208 : decode cX12_paysOn 208 = .ok (.iload 8, 2) := by decide +kernel
theorem dX12_paysOn_210 : decode cX12_paysOn 210 = .ok (.if_icmp .le 7, 3) := by decide +kernel
theorem dX12_paysOn_213 : decode cX12_paysOn 213 = .ok (.iconst 0, 1) := by decide +kernel
theorem dX12_paysOn_214 : decode cX12_paysOn 214 = .ok (.goto 20, 3) := by decide +kernel
theorem dX12_paysOn_217 : decode cX12_paysOn 217 = .ok (.iload_n 3, 1) := by decide +kernel
theorem dX12_paysOn_218 : decode cX12_paysOn 218 = .ok (.iload 6, 2) := by decide +kernel
theorem dX12_paysOn_220 : decode cX12_paysOn 220 = .ok (.iadd, 1) := by decide +kernel
theorem dX12_paysOn_221 : decode cX12_paysOn 221 = .ok (.iload_n 2, 1) := by decide +kernel
theorem dX12_paysOn_222 : decode cX12_paysOn 222 = .ok (.iload 8, 2) := by decide +kernel
theorem dX12_paysOn_224 : decode cX12_paysOn 224 = .ok (.if_icmp .ne 8, 3) := by decide +kernel
theorem dX12_paysOn_227 : decode cX12_paysOn 227 = .ok (.iload 5, 2) := by decide +kernel
theorem dX12_paysOn_229 : decode cX12_paysOn 229 = .ok (.goto 4, 3) := by decide +kernel
theorem dX12_paysOn_232 : decode cX12_paysOn 232 = .ok (.iconst 0, 1) := by decide +kernel
theorem dX12_paysOn_233 : decode cX12_paysOn 233 = .ok (.iadd, 1) := by decide +kernel
theorem dX12_paysOn_234 : decode cX12_paysOn 234 = .ok (.ireturn, 1) := by decide +kernel
theorem dX12_paysAtRung_0 : decode cX12_paysAtRung 0 = .ok (.iconst 0, 1) := by decide +kernel
theorem dX12_paysAtRung_1 : decode cX12_paysAtRung 1 = .ok (.istore_n 3, 1) := by decide +kernel
theorem dX12_paysAtRung_2 : decode cX12_paysAtRung 2 = .ok (.iload_n 2, 1) := by decide +kernel
theorem dX12_paysAtRung_3 : decode cX12_paysAtRung 3 = .ok (.ifCond .ne 7, 3) := by decide +kernel
theorem dX12_paysAtRung_6 : decode cX12_paysAtRung 6 = .ok (.iconst 1, 1) := by decide +kernel
theorem dX12_paysAtRung_7 : decode cX12_paysAtRung 7 = .ok (.goto 13, 3) := by decide +kernel
theorem dX12_paysAtRung_10 : decode cX12_paysAtRung 10 = .ok (.aload_n 0, 1) := by decide +kernel
theorem dX12_paysAtRung_11 : decode cX12_paysAtRung 11 = .ok (.getfield 24, 3) := by decide +kernel
theorem dX12_paysAtRung_14 : decode cX12_paysAtRung 14 = .ok (.iload_n 2, 1) := by decide +kernel
theorem dX12_paysAtRung_15 : decode cX12_paysAtRung 15 = .ok (.iconst 1, 1) := by decide +kernel
theorem dX12_paysAtRung_16 : decode cX12_paysAtRung 16 = .ok (.isub, 1) := by decide +kernel
theorem dX12_paysAtRung_17 : decode cX12_paysAtRung 17 = .ok (.iaload, 1) := by decide +kernel
theorem dX12_paysAtRung_18 : decode cX12_paysAtRung 18 = .ok (.iconst 1, 1) := by decide +kernel
theorem dX12_paysAtRung_19 : decode cX12_paysAtRung 19 = .ok (.iadd, 1) := by decide +kernel
theorem dX12_paysAtRung_20 : decode cX12_paysAtRung 20 = .ok (.istore 4, 2) := by decide +kernel
theorem dX12_paysAtRung_22 : decode cX12_paysAtRung 22 = .ok (.iload 4, 2) := by decide +kernel
theorem dX12_paysAtRung_24 : decode cX12_paysAtRung 24 = .ok (.aload_n 0, 1) := by decide +kernel
theorem dX12_paysAtRung_25 : decode cX12_paysAtRung 25 = .ok (.getfield 24, 3) := by decide +kernel
theorem dX12_paysAtRung_28 : decode cX12_paysAtRung 28 = .ok (.iload_n 2, 1) := by decide +kernel
theorem dX12_paysAtRung_29 : decode cX12_paysAtRung 29 = .ok (.iaload, 1) := by decide +kernel
theorem dX12_paysAtRung_30 : decode cX12_paysAtRung 30 = .ok (.if_icmp .gt 19, 3) := by decide +kernel
theorem dX12_paysAtRung_33 : decode cX12_paysAtRung 33 = .ok (.iload_n 3, 1) := by decide +kernel
theorem dX12_paysAtRung_34 : decode cX12_paysAtRung 34 = .ok (.aload_n 0, 1) := by decide +kernel
theorem dX12_paysAtRung_35 : decode cX12_paysAtRung 35 = .ok (.iload_n 1, 1) := by decide +kernel
theorem dX12_paysAtRung_36 : decode cX12_paysAtRung 36 = .ok (.iload 4, 2) := by decide +kernel
theorem dX12_paysAtRung_38 : decode cX12_paysAtRung 38 = .ok (.invokevirtual 128, 3) := by decide +kernel
theorem dX12_paysAtRung_41 : decode cX12_paysAtRung 41 = .ok (.iadd, 1) := by decide +kernel
theorem dX12_paysAtRung_42 : decode cX12_paysAtRung 42 = .ok (.istore_n 3, 1) := by decide +kernel
theorem dX12_paysAtRung_43 : decode cX12_paysAtRung 43 = .ok (.iinc 4 1, 3) := by decide +kernel
theorem dX12_paysAtRung_46 : decode cX12_paysAtRung 46 = .ok (.goto (-24), 3) := by decide +kernel
theorem dX12_paysAtRung_49 : decode cX12_paysAtRung 49 = .ok (.iload_n 3, 1) := by decide +kernel
theorem dX12_paysAtRung_50 : decode cX12_paysAtRung 50 = .ok (.ireturn, 1) := by decide +kernel
theorem dX12_lastOf_0 : decode cX12_lastOf 0 = .ok (.iconst (-1), 1) := by decide +kernel
theorem dX12_lastOf_1 : decode cX12_lastOf 1 = .ok (.istore_n 2, 1) := by decide +kernel
theorem dX12_lastOf_2 : decode cX12_lastOf 2 = .ok (.iconst 0, 1) := by decide +kernel
theorem dX12_lastOf_3 : decode cX12_lastOf 3 = .ok (.istore_n 3, 1) := by decide +kernel
theorem dX12_lastOf_4 : decode cX12_lastOf 4 = .ok (.iload_n 3, 1) := by decide +kernel
theorem dX12_lastOf_5 : decode cX12_lastOf 5 = .ok (.aload_n 0, 1) := by decide +kernel
theorem dX12_lastOf_6 : decode cX12_lastOf 6 = .ok (.getfield 83, 3) := by decide +kernel
theorem dX12_lastOf_9 : decode cX12_lastOf 9 = .ok (.if_icmp .ge 20, 3) := by decide +kernel
theorem dX12_lastOf_12 : decode cX12_lastOf 12 = .ok (.aload_n 0, 1) := by decide +kernel
theorem dX12_lastOf_13 : decode cX12_lastOf 13 = .ok (.iload_n 1, 1) := by decide +kernel
theorem dX12_lastOf_14 : decode cX12_lastOf 14 = .ok (.iload_n 3, 1) := by decide +kernel
theorem dX12_lastOf_15 : decode cX12_lastOf 15 = .ok (.invokevirtual 131, 3) := by decide +kernel
theorem dX12_lastOf_18 : decode cX12_lastOf 18 = .ok (.ifCond .le 5, 3) := by decide +kernel
theorem dX12_lastOf_21 : decode cX12_lastOf 21 = .ok (.iload_n 3, 1) := by decide +kernel
theorem dX12_lastOf_22 : decode cX12_lastOf 22 = .ok (.istore_n 2, 1) := by decide +kernel
theorem dX12_lastOf_23 : decode cX12_lastOf 23 = .ok (.iinc 3 1, 3) := by decide +kernel
theorem dX12_lastOf_26 : decode cX12_lastOf 26 = .ok (.goto (-22), 3) := by decide +kernel
theorem dX12_lastOf_29 : decode cX12_lastOf 29 = .ok (.iload_n 2, 1) := by decide +kernel
theorem dX12_lastOf_30 : decode cX12_lastOf 30 = .ok (.ireturn, 1) := by decide +kernel
theorem dX12_allOf_0 : decode cX12_allOf 0 = .ok (.iconst 0, 1) := by decide +kernel
theorem dX12_allOf_1 : decode cX12_allOf 1 = .ok (.istore_n 2, 1) := by decide +kernel
theorem dX12_allOf_2 : decode cX12_allOf 2 = .ok (.iconst 0, 1) := by decide +kernel
theorem dX12_allOf_3 : decode cX12_allOf 3 = .ok (.istore_n 3, 1) := by decide +kernel
theorem dX12_allOf_4 : decode cX12_allOf 4 = .ok (.iload_n 3, 1) := by decide +kernel
theorem dX12_allOf_5 : decode cX12_allOf 5 = .ok (.aload_n 0, 1) := by decide +kernel
theorem dX12_allOf_6 : decode cX12_allOf 6 = .ok (.getfield 83, 3) := by decide +kernel
theorem dX12_allOf_9 : decode cX12_allOf 9 = .ok (.if_icmp .ge 18, 3) := by decide +kernel
theorem dX12_allOf_12 : decode cX12_allOf 12 = .ok (.iload_n 2, 1) := by decide +kernel
theorem dX12_allOf_13 : decode cX12_allOf 13 = .ok (.aload_n 0, 1) := by decide +kernel
theorem dX12_allOf_14 : decode cX12_allOf 14 = .ok (.iload_n 1, 1) := by decide +kernel
theorem dX12_allOf_15 : decode cX12_allOf 15 = .ok (.iload_n 3, 1) := by decide +kernel
theorem dX12_allOf_16 : decode cX12_allOf 16 = .ok (.invokevirtual 131, 3) := by decide +kernel
theorem dX12_allOf_19 : decode cX12_allOf 19 = .ok (.iadd, 1) := by decide +kernel
theorem dX12_allOf_20 : decode cX12_allOf 20 = .ok (.istore_n 2, 1) := by decide +kernel
theorem dX12_allOf_21 : decode cX12_allOf 21 = .ok (.iinc 3 1, 3) := by decide +kernel
theorem dX12_allOf_24 : decode cX12_allOf 24 = .ok (.goto (-20), 3) := by decide +kernel
theorem dX12_allOf_27 : decode cX12_allOf 27 = .ok (.iload_n 2, 1) := by decide +kernel
theorem dX12_allOf_28 : decode cX12_allOf 28 = .ok (.ireturn, 1) := by decide +kernel
theorem dX12_told_0 : decode cX12_told 0 = .ok (.aload_n 0, 1) := by decide +kernel
theorem dX12_told_1 : decode cX12_told 1 = .ok (.iload_n 1, 1) := by decide +kernel
theorem dX12_told_2 : decode cX12_told 2 = .ok (.invokevirtual 115, 3) := by decide +kernel
theorem dX12_told_5 : decode cX12_told 5 = .ok (.ifCond .eq 13, 3) := by decide +kernel
theorem dX12_told_8 : decode cX12_told 8 = .ok (.iload_n 2, 1) := by decide +kernel
theorem dX12_told_9 : decode cX12_told 9 = .ok (.iconst 0, 1) := by decide +kernel
theorem dX12_told_10 : decode cX12_told 10 = .ok (.bipush 8, 2) := by decide +kernel
theorem dX12_told_12 : decode cX12_told 12 = .ok (.invokestatic 79, 3) := by decide +kernel
theorem dX12_told_15 : decode cX12_told 15 = .ok (.ifCond .ne 6, 3) := by decide +kernel
theorem dX12_told_18 : decode cX12_told 18 = .ok (.bipush (-2), 2) := by decide +kernel
theorem dX12_told_20 : decode cX12_told 20 = .ok (.ireturn, 1) := by decide +kernel
theorem dX12_told_21 : decode cX12_told 21 = .ok (.iload_n 2, 1) := by decide +kernel
theorem dX12_told_22 : decode cX12_told 22 = .ok (.bipush 7, 2) := by decide +kernel
theorem dX12_told_24 : decode cX12_told 24 = .ok (.if_icmp .ge 12, 3) := by decide +kernel
theorem dX12_told_27 : decode cX12_told 27 = .ok (.aload_n 0, 1) := by decide +kernel
theorem dX12_told_28 : decode cX12_told 28 = .ok (.iload_n 1, 1) := by decide +kernel
theorem dX12_told_29 : decode cX12_told 29 = .ok (.iload_n 2, 1) := by decide +kernel
theorem dX12_told_30 : decode cX12_told 30 = .ok (.invokevirtual 118, 3) := by decide +kernel
theorem dX12_told_33 : decode cX12_told 33 = .ok (.goto 22, 3) := by decide +kernel
theorem dX12_told_36 : decode cX12_told 36 = .ok (.iload_n 2, 1) := by decide +kernel
theorem dX12_told_37 : decode cX12_told 37 = .ok (.bipush 7, 2) := by decide +kernel
theorem dX12_told_39 : decode cX12_told 39 = .ok (.if_icmp .ne 11, 3) := by decide +kernel
theorem dX12_told_42 : decode cX12_told 42 = .ok (.aload_n 0, 1) := by decide +kernel
theorem dX12_told_43 : decode cX12_told 43 = .ok (.iload_n 1, 1) := by decide +kernel
theorem dX12_told_44 : decode cX12_told 44 = .ok (.invokevirtual 134, 3) := by decide +kernel
theorem dX12_told_47 : decode cX12_told 47 = .ok (.goto 8, 3) := by decide +kernel
theorem dX12_told_50 : decode cX12_told 50 = .ok (.aload_n 0, 1) := by decide +kernel
theorem dX12_told_51 : decode cX12_told 51 = .ok (.iload_n 1, 1) := by decide +kernel
theorem dX12_told_52 : decode cX12_told 52 = .ok (.invokevirtual 137, 3) := by decide +kernel
theorem dX12_told_55 : decode cX12_told 55 = .ok (.ireturn, 1) := by decide +kernel
theorem dX12_pays_0 : decode cX12_pays 0 = .ok (.aload_n 0, 1) := by decide +kernel
theorem dX12_pays_1 : decode cX12_pays 1 = .ok (.iload_n 1, 1) := by decide +kernel
theorem dX12_pays_2 : decode cX12_pays 2 = .ok (.invokevirtual 115, 3) := by decide +kernel
theorem dX12_pays_5 : decode cX12_pays 5 = .ok (.ifCond .eq 19, 3) := by decide +kernel
theorem dX12_pays_8 : decode cX12_pays 8 = .ok (.iload_n 2, 1) := by decide +kernel
theorem dX12_pays_9 : decode cX12_pays 9 = .ok (.invokestatic 94, 3) := by decide +kernel
theorem dX12_pays_12 : decode cX12_pays 12 = .ok (.ifCond .eq 12, 3) := by decide +kernel
theorem dX12_pays_15 : decode cX12_pays 15 = .ok (.aload_n 0, 1) := by decide +kernel
theorem dX12_pays_16 : decode cX12_pays 16 = .ok (.iload_n 1, 1) := by decide +kernel
theorem dX12_pays_17 : decode cX12_pays 17 = .ok (.iload_n 2, 1) := by decide +kernel
theorem dX12_pays_18 : decode cX12_pays 18 = .ok (.invokevirtual 128, 3) := by decide +kernel
theorem dX12_pays_21 : decode cX12_pays 21 = .ok (.goto 5, 3) := by decide +kernel
theorem dX12_pays_24 : decode cX12_pays 24 = .ok (.bipush (-2), 2) := by decide +kernel
theorem dX12_pays_26 : decode cX12_pays 26 = .ok (.ireturn, 1) := by decide +kernel
theorem dX12_paysAt_0 : decode cX12_paysAt 0 = .ok (.aload_n 0, 1) := by decide +kernel
theorem dX12_paysAt_1 : decode cX12_paysAt 1 = .ok (.iload_n 1, 1) := by decide +kernel
theorem dX12_paysAt_2 : decode cX12_paysAt 2 = .ok (.invokevirtual 115, 3) := by decide +kernel
theorem dX12_paysAt_5 : decode cX12_paysAt 5 = .ok (.ifCond .ne 6, 3) := by decide +kernel
theorem dX12_paysAt_8 : decode cX12_paysAt 8 = .ok (.bipush (-2), 2) := by decide +kernel
theorem dX12_paysAt_10 : decode cX12_paysAt 10 = .ok (.ireturn, 1) := by decide +kernel
theorem dX12_paysAt_11 : decode cX12_paysAt 11 = .ok (.aload_n 0, 1) := by decide +kernel
theorem dX12_paysAt_12 : decode cX12_paysAt 12 = .ok (.iload_n 2, 1) := by decide +kernel
theorem dX12_paysAt_13 : decode cX12_paysAt 13 = .ok (.invokevirtual 112, 3) := by decide +kernel
theorem dX12_paysAt_16 : decode cX12_paysAt 16 = .ok (.ifCond .eq 12, 3) := by decide +kernel
theorem dX12_paysAt_19 : decode cX12_paysAt 19 = .ok (.aload_n 0, 1) := by decide +kernel
theorem dX12_paysAt_20 : decode cX12_paysAt 20 = .ok (.iload_n 1, 1) := by decide +kernel
theorem dX12_paysAt_21 : decode cX12_paysAt 21 = .ok (.iload_n 2, 1) := by decide +kernel
theorem dX12_paysAt_22 : decode cX12_paysAt 22 = .ok (.invokevirtual 131, 3) := by decide +kernel
theorem dX12_paysAt_25 : decode cX12_paysAt 25 = .ok (.goto 5, 3) := by decide +kernel
theorem dX12_paysAt_28 : decode cX12_paysAt 28 = .ok (.bipush (-12), 2) := by decide +kernel
theorem dX12_paysAt_30 : decode cX12_paysAt 30 = .ok (.ireturn, 1) := by decide +kernel
theorem dX12_above_0 : decode cX12_above 0 = .ok (.iload_n 0, 1) := by decide +kernel
theorem dX12_above_1 : decode cX12_above 1 = .ok (.iconst 3, 1) := by decide +kernel
theorem dX12_above_2 : decode cX12_above 2 = .ok (.if_icmp .ne 7, 3) := by decide +kernel
theorem dX12_above_5 : decode cX12_above 5 = .ok (.iconst 1, 1) := by decide +kernel
theorem dX12_above_6 : decode cX12_above 6 = .ok (.goto 13, 3) := by decide +kernel
theorem dX12_above_9 : decode cX12_above 9 = .ok (.iload_n 0, 1) := by decide +kernel
theorem dX12_above_10 : decode cX12_above 10 = .ok (.iconst 3, 1) := by decide +kernel
theorem dX12_above_11 : decode cX12_above 11 = .ok (.if_icmp .le 7, 3) := by decide +kernel
theorem dX12_above_14 : decode cX12_above 14 = .ok (.iconst 2, 1) := by decide +kernel
theorem dX12_above_15 : decode cX12_above 15 = .ok (.goto 4, 3) := by decide +kernel
theorem dX12_above_18 : decode cX12_above 18 = .ok (.iconst 0, 1) := by decide +kernel
theorem dX12_above_19 : decode cX12_above 19 = .ok (.ireturn, 1) := by decide +kernel
theorem dX12_taken_0 : decode cX12_taken 0 = .ok (.aload_n 0, 1) := by decide +kernel
theorem dX12_taken_1 : decode cX12_taken 1 = .ok (.iload_n 1, 1) := by decide +kernel
theorem dX12_taken_2 : decode cX12_taken 2 = .ok (.invokevirtual 115, 3) := by decide +kernel
theorem dX12_taken_5 : decode cX12_taken 5 = .ok (.ifCond .eq 12, 3) := by decide +kernel
theorem dX12_taken_8 : decode cX12_taken 8 = .ok (.iload_n 2, 1) := by decide +kernel
theorem dX12_taken_9 : decode cX12_taken 9 = .ok (.iconst 0, 1) := by decide +kernel
theorem dX12_taken_10 : decode cX12_taken 10 = .ok (.iconst 5, 1) := by decide +kernel
theorem dX12_taken_11 : decode cX12_taken 11 = .ok (.invokestatic 79, 3) := by decide +kernel
theorem dX12_taken_14 : decode cX12_taken 14 = .ok (.ifCond .ne 6, 3) := by decide +kernel
theorem dX12_taken_17 : decode cX12_taken 17 = .ok (.bipush (-2), 2) := by decide +kernel
theorem dX12_taken_19 : decode cX12_taken 19 = .ok (.ireturn, 1) := by decide +kernel
theorem dX12_taken_20 : decode cX12_taken 20 = .ok (.aload_n 0, 1) := by decide +kernel
theorem dX12_taken_21 : decode cX12_taken 21 = .ok (.iload_n 1, 1) := by decide +kernel
theorem dX12_taken_22 : decode cX12_taken 22 = .ok (.iconst 0, 1) := by decide +kernel
theorem dX12_taken_23 : decode cX12_taken 23 = .ok (.invokevirtual 118, 3) := by decide +kernel
theorem dX12_taken_26 : decode cX12_taken 26 = .ok (.istore_n 3, 1) := by decide +kernel
theorem dX12_taken_27 : decode cX12_taken 27 = .ok (.iload_n 3, 1) := by decide +kernel
theorem dX12_taken_28 : decode cX12_taken 28 = .ok (.iload_n 2, 1) := by decide +kernel
theorem dX12_taken_29 : decode cX12_taken 29 = .ok (.if_icmp .eq 15, 3) := by decide +kernel
theorem dX12_taken_32 : decode cX12_taken 32 = .ok (.iload_n 3, 1) := by decide +kernel
theorem dX12_taken_33 : decode cX12_taken 33 = .ok (.ifCond .eq 11, 3) := by decide +kernel
theorem dX12_taken_36 : decode cX12_taken 36 = .ok (.iload_n 3, 1) := by decide +kernel
theorem dX12_taken_37 : decode cX12_taken 37 = .ok (.invokestatic 140, 3) := by decide +kernel
theorem dX12_taken_40 : decode cX12_taken 40 = .ok (.istore_n 3, 1) := by decide +kernel
theorem dX12_taken_41 : decode cX12_taken 41 = .ok (.goto (-14), 3) := by decide +kernel
theorem dX12_taken_44 : decode cX12_taken 44 = .ok (.iload_n 3, 1) := by decide +kernel
theorem dX12_taken_45 : decode cX12_taken 45 = .ok (.iload_n 2, 1) := by decide +kernel
theorem dX12_taken_46 : decode cX12_taken 46 = .ok (.if_icmp .ne 12, 3) := by decide +kernel
theorem dX12_taken_49 : decode cX12_taken 49 = .ok (.aload_n 0, 1) := by decide +kernel
theorem dX12_taken_50 : decode cX12_taken 50 = .ok (.iload_n 1, 1) := by decide +kernel
theorem dX12_taken_51 : decode cX12_taken 51 = .ok (.iconst 1, 1) := by decide +kernel
theorem dX12_taken_52 : decode cX12_taken 52 = .ok (.invokevirtual 118, 3) := by decide +kernel
theorem dX12_taken_55 : decode cX12_taken 55 = .ok (.goto 5, 3) := by decide +kernel
theorem dX12_taken_58 : decode cX12_taken 58 = .ok (.bipush (-13), 2) := by decide +kernel
theorem dX12_taken_60 : decode cX12_taken 60 = .ok (.ireturn, 1) := by decide +kernel
theorem dX12_isAhead_0 : decode cX12_isAhead 0 = .ok (.iload_n 1, 1) := by decide +kernel
theorem dX12_isAhead_1 : decode cX12_isAhead 1 = .ok (.tableswitch 118 0 2 #[27, 48, 97], 27) := by decide +kernel
theorem dX12_isAhead_28 : decode cX12_isAhead 28 = .ok (.aload_n 0, 1) := by decide +kernel
theorem dX12_isAhead_29 : decode cX12_isAhead 29 = .ok (.iload_n 2, 1) := by decide +kernel
theorem dX12_isAhead_30 : decode cX12_isAhead 30 = .ok (.iconst 1, 1) := by decide +kernel
theorem dX12_isAhead_31 : decode cX12_isAhead 31 = .ok (.invokevirtual 118, 3) := by decide +kernel
theorem dX12_isAhead_34 : decode cX12_isAhead 34 = .ok (.aload_n 0, 1) := by decide +kernel
theorem dX12_isAhead_35 : decode cX12_isAhead 35 = .ok (.iload_n 3, 1) := by decide +kernel
theorem dX12_isAhead_36 : decode cX12_isAhead 36 = .ok (.iconst 1, 1) := by decide +kernel
theorem dX12_isAhead_37 : decode cX12_isAhead 37 = .ok (.invokevirtual 118, 3) := by decide +kernel
theorem dX12_isAhead_40 : decode cX12_isAhead 40 = .ok (.if_icmp .ge 7, 3) := by decide +kernel
theorem dX12_isAhead_43 : decode cX12_isAhead 43 = .ok (.iconst 1, 1) := by decide +kernel
theorem dX12_isAhead_44 : decode cX12_isAhead 44 = .ok (.goto 4, 3) := by decide +kernel
theorem dX12_isAhead_47 : decode cX12_isAhead 47 = .ok (.iconst 0, 1) := by decide +kernel
theorem dX12_isAhead_48 : decode cX12_isAhead 48 = .ok (.ireturn, 1) := by decide +kernel
theorem dX12_isAhead_49 : decode cX12_isAhead 49 = .ok (.aload_n 0, 1) := by decide +kernel
theorem dX12_isAhead_50 : decode cX12_isAhead 50 = .ok (.iload_n 2, 1) := by decide +kernel
theorem dX12_isAhead_51 : decode cX12_isAhead 51 = .ok (.invokevirtual 137, 3) := by decide +kernel
theorem dX12_isAhead_54 : decode cX12_isAhead 54 = .ok (.ifCond .le 42, 3) := by decide +kernel
theorem dX12_isAhead_57 : decode cX12_isAhead 57 = .ok (.aload_n 0, 1) := by decide +kernel
theorem dX12_isAhead_58 : decode cX12_isAhead 58 = .ok (.iload_n 3, 1) := by decide +kernel
theorem dX12_isAhead_59 : decode cX12_isAhead 59 = .ok (.invokevirtual 137, 3) := by decide +kernel
theorem dX12_isAhead_62 : decode cX12_isAhead 62 = .ok (.ifCond .eq 30, 3) := by decide +kernel
theorem dX12_isAhead_65 : decode cX12_isAhead 65 = .ok (.aload_n 0, 1) := by decide +kernel
theorem dX12_isAhead_66 : decode cX12_isAhead 66 = .ok (.iload_n 2, 1) := by decide +kernel
theorem dX12_isAhead_67 : decode cX12_isAhead 67 = .ok (.iconst 1, 1) := by decide +kernel
theorem dX12_isAhead_68 : decode cX12_isAhead 68 = .ok (.invokevirtual 118, 3) := by decide +kernel
theorem dX12_isAhead_71 : decode cX12_isAhead 71 = .ok (.aload_n 0, 1) := by decide +kernel
theorem dX12_isAhead_72 : decode cX12_isAhead 72 = .ok (.iload_n 3, 1) := by decide +kernel
theorem dX12_isAhead_73 : decode cX12_isAhead 73 = .ok (.invokevirtual 137, 3) := by decide +kernel
theorem dX12_isAhead_76 : decode cX12_isAhead 76 = .ok (.imul, 1) := by decide +kernel
theorem dX12_isAhead_77 : decode cX12_isAhead 77 = .ok (.aload_n 0, 1) := by decide +kernel
theorem dX12_isAhead_78 : decode cX12_isAhead 78 = .ok (.iload_n 3, 1) := by decide +kernel
theorem dX12_isAhead_79 : decode cX12_isAhead 79 = .ok (.iconst 1, 1) := by decide +kernel
theorem dX12_isAhead_80 : decode cX12_isAhead 80 = .ok (.invokevirtual 118, 3) := by decide +kernel
theorem dX12_isAhead_83 : decode cX12_isAhead 83 = .ok (.aload_n 0, 1) := by decide +kernel
theorem dX12_isAhead_84 : decode cX12_isAhead 84 = .ok (.iload_n 2, 1) := by decide +kernel
theorem dX12_isAhead_85 : decode cX12_isAhead 85 = .ok (.invokevirtual 137, 3) := by decide +kernel
theorem dX12_isAhead_88 : decode cX12_isAhead 88 = .ok (.imul, 1) := by decide +kernel
theorem dX12_isAhead_89 : decode cX12_isAhead 89 = .ok (.if_icmp .ge 7, 3) := by decide +kernel
theorem dX12_isAhead_92 : decode cX12_isAhead 92 = .ok (.iconst 1, 1) := by decide +kernel
theorem dX12_isAhead_93 : decode cX12_isAhead 93 = .ok (.goto 4, 3) := by decide +kernel
theorem dX12_isAhead_96 : decode cX12_isAhead 96 = .ok (.iconst 0, 1) := by decide +kernel
theorem dX12_isAhead_97 : decode cX12_isAhead 97 = .ok (.ireturn, 1) := by decide +kernel
theorem dX12_isAhead_98 : decode cX12_isAhead 98 = .ok (.aload_n 0, 1) := by decide +kernel
theorem dX12_isAhead_99 : decode cX12_isAhead 99 = .ok (.iload_n 2, 1) := by decide +kernel
theorem dX12_isAhead_100 : decode cX12_isAhead 100 = .ok (.iconst 4, 1) := by decide +kernel
theorem dX12_isAhead_101 : decode cX12_isAhead 101 = .ok (.invokevirtual 118, 3) := by decide +kernel
theorem dX12_isAhead_104 : decode cX12_isAhead 104 = .ok (.aload_n 0, 1) := by decide +kernel
theorem dX12_isAhead_105 : decode cX12_isAhead 105 = .ok (.iload_n 3, 1) := by decide +kernel
theorem dX12_isAhead_106 : decode cX12_isAhead 106 = .ok (.iconst 4, 1) := by decide +kernel
theorem dX12_isAhead_107 : decode cX12_isAhead 107 = .ok (.invokevirtual 118, 3) := by decide +kernel
theorem dX12_isAhead_110 : decode cX12_isAhead 110 = .ok (.if_icmp .le 7, 3) := by decide +kernel
theorem dX12_isAhead_113 : decode cX12_isAhead 113 = .ok (.iconst 1, 1) := by decide +kernel
theorem dX12_isAhead_114 : decode cX12_isAhead 114 = .ok (.goto 4, 3) := by decide +kernel
theorem dX12_isAhead_117 : decode cX12_isAhead 117 = .ok (.iconst 0, 1) := by decide +kernel
theorem dX12_isAhead_118 : decode cX12_isAhead 118 = .ok (.ireturn, 1) := by decide +kernel
theorem dX12_isAhead_119 : decode cX12_isAhead 119 = .ok (.aload_n 0, 1) := by decide +kernel
theorem dX12_isAhead_120 : decode cX12_isAhead 120 = .ok (.iload_n 2, 1) := by decide +kernel
theorem dX12_isAhead_121 : decode cX12_isAhead 121 = .ok (.iconst 2, 1) := by decide +kernel
theorem dX12_isAhead_122 : decode cX12_isAhead 122 = .ok (.invokevirtual 118, 3) := by decide +kernel
theorem dX12_isAhead_125 : decode cX12_isAhead 125 = .ok (.aload_n 0, 1) := by decide +kernel
theorem dX12_isAhead_126 : decode cX12_isAhead 126 = .ok (.iload_n 3, 1) := by decide +kernel
theorem dX12_isAhead_127 : decode cX12_isAhead 127 = .ok (.iconst 2, 1) := by decide +kernel
theorem dX12_isAhead_128 : decode cX12_isAhead 128 = .ok (.invokevirtual 118, 3) := by decide +kernel
theorem dX12_isAhead_131 : decode cX12_isAhead 131 = .ok (.if_icmp .le 7, 3) := by decide +kernel
theorem dX12_isAhead_134 : decode cX12_isAhead 134 = .ok (.iconst 1, 1) := by decide +kernel
theorem dX12_isAhead_135 : decode cX12_isAhead 135 = .ok (.goto 4, 3) := by decide +kernel
theorem dX12_isAhead_138 : decode cX12_isAhead 138 = .ok (.iconst 0, 1) := by decide +kernel
theorem dX12_isAhead_139 : decode cX12_isAhead 139 = .ok (.ireturn, 1) := by decide +kernel
theorem dX12_ranks_0 : decode cX12_ranks 0 = .ok (.iconst 0, 1) := by decide +kernel
theorem dX12_ranks_1 : decode cX12_ranks 1 = .ok (.istore_n 2, 1) := by decide +kernel
theorem dX12_ranks_2 : decode cX12_ranks 2 = .ok (.iload_n 2, 1) := by decide +kernel
theorem dX12_ranks_3 : decode cX12_ranks 3 = .ok (.aload_n 0, 1) := by decide +kernel
theorem dX12_ranks_4 : decode cX12_ranks 4 = .ok (.getfield 87, 3) := by decide +kernel
theorem dX12_ranks_7 : decode cX12_ranks 7 = .ok (.if_icmp .ge 59, 3) := by decide +kernel
theorem dX12_ranks_10 : decode cX12_ranks 10 = .ok (.iload_n 2, 1) := by decide +kernel
theorem dX12_ranks_11 : decode cX12_ranks 11 = .ok (.istore_n 3, 1) := by decide +kernel
theorem dX12_ranks_12 : decode cX12_ranks 12 = .ok (.iload_n 3, 1) := by decide +kernel
theorem dX12_ranks_13 : decode cX12_ranks 13 = .ok (.ifCond .le 40, 3) := by decide +kernel
theorem dX12_ranks_16 : decode cX12_ranks 16 = .ok (.aload_n 0, 1) := by decide +kernel
theorem dX12_ranks_17 : decode cX12_ranks 17 = .ok (.iload_n 1, 1) := by decide +kernel
theorem dX12_ranks_18 : decode cX12_ranks 18 = .ok (.iload_n 2, 1) := by decide +kernel
theorem dX12_ranks_19 : decode cX12_ranks 19 = .ok (.aload_n 0, 1) := by decide +kernel
theorem dX12_ranks_20 : decode cX12_ranks 20 = .ok (.getfield 58, 3) := by decide +kernel
theorem dX12_ranks_23 : decode cX12_ranks 23 = .ok (.iload_n 3, 1) := by decide +kernel
theorem dX12_ranks_24 : decode cX12_ranks 24 = .ok (.iconst 1, 1) := by decide +kernel
theorem dX12_ranks_25 : decode cX12_ranks 25 = .ok (.isub, 1) := by decide +kernel
theorem dX12_ranks_26 : decode cX12_ranks 26 = .ok (.iaload, 1) := by decide +kernel
theorem dX12_ranks_27 : decode cX12_ranks 27 = .ok (.invokevirtual 143, 3) := by decide +kernel
theorem dX12_ranks_30 : decode cX12_ranks 30 = .ok (.ifCond .eq 23, 3) := by decide +kernel
theorem dX12_ranks_33 : decode cX12_ranks 33 = .ok (.aload_n 0, 1) := by decide +kernel
theorem dX12_ranks_34 : decode cX12_ranks 34 = .ok (.getfield 58, 3) := by decide +kernel
theorem dX12_ranks_37 : decode cX12_ranks 37 = .ok (.iload_n 3, 1) := by decide +kernel
theorem dX12_ranks_38 : decode cX12_ranks 38 = .ok (.aload_n 0, 1) := by decide +kernel
theorem dX12_ranks_39 : decode cX12_ranks 39 = .ok (.getfield 58, 3) := by decide +kernel
theorem dX12_ranks_42 : decode cX12_ranks 42 = .ok (.iload_n 3, 1) := by decide +kernel
theorem dX12_ranks_43 : decode cX12_ranks 43 = .ok (.iconst 1, 1) := by decide +kernel
theorem dX12_ranks_44 : decode cX12_ranks 44 = .ok (.isub, 1) := by decide +kernel
theorem dX12_ranks_45 : decode cX12_ranks 45 = .ok (.iaload, 1) := by decide +kernel
theorem dX12_ranks_46 : decode cX12_ranks 46 = .ok (.iastore, 1) := by decide +kernel
theorem dX12_ranks_47 : decode cX12_ranks 47 = .ok (.iinc 3 (-1), 3) := by decide +kernel
theorem dX12_ranks_50 : decode cX12_ranks 50 = .ok (.goto (-38), 3) := by decide +kernel
theorem dX12_ranks_53 : decode cX12_ranks 53 = .ok (.aload_n 0, 1) := by decide +kernel
theorem dX12_ranks_54 : decode cX12_ranks 54 = .ok (.getfield 58, 3) := by decide +kernel
theorem dX12_ranks_57 : decode cX12_ranks 57 = .ok (.iload_n 3, 1) := by decide +kernel
theorem dX12_ranks_58 : decode cX12_ranks 58 = .ok (.iload_n 2, 1) := by decide +kernel
theorem dX12_ranks_59 : decode cX12_ranks 59 = .ok (.iastore, 1) := by decide +kernel
theorem dX12_ranks_60 : decode cX12_ranks 60 = .ok (.iinc 2 1, 3) := by decide +kernel
theorem dX12_ranks_63 : decode cX12_ranks 63 = .ok (.goto (-61), 3) := by decide +kernel
theorem dX12_ranks_66 : decode cX12_ranks 66 = .ok (.return_, 1) := by decide +kernel
theorem dX12_ranked_0 : decode cX12_ranked 0 = .ok (.iload_n 1, 1) := by decide +kernel
theorem dX12_ranked_1 : decode cX12_ranked 1 = .ok (.iconst 0, 1) := by decide +kernel
theorem dX12_ranked_2 : decode cX12_ranked 2 = .ok (.iconst 3, 1) := by decide +kernel
theorem dX12_ranked_3 : decode cX12_ranked 3 = .ok (.invokestatic 79, 3) := by decide +kernel
theorem dX12_ranked_6 : decode cX12_ranked 6 = .ok (.ifCond .ne 6, 3) := by decide +kernel
theorem dX12_ranked_9 : decode cX12_ranked 9 = .ok (.bipush (-2), 2) := by decide +kernel
theorem dX12_ranked_11 : decode cX12_ranked 11 = .ok (.ireturn, 1) := by decide +kernel
theorem dX12_ranked_12 : decode cX12_ranked 12 = .ok (.aload_n 0, 1) := by decide +kernel
theorem dX12_ranked_13 : decode cX12_ranked 13 = .ok (.iload_n 2, 1) := by decide +kernel
theorem dX12_ranked_14 : decode cX12_ranked 14 = .ok (.invokevirtual 115, 3) := by decide +kernel
theorem dX12_ranked_17 : decode cX12_ranked 17 = .ok (.ifCond .ne 6, 3) := by decide +kernel
theorem dX12_ranked_20 : decode cX12_ranked 20 = .ok (.bipush (-12), 2) := by decide +kernel
theorem dX12_ranked_22 : decode cX12_ranked 22 = .ok (.ireturn, 1) := by decide +kernel
theorem dX12_ranked_23 : decode cX12_ranked 23 = .ok (.aload_n 0, 1) := by decide +kernel
theorem dX12_ranked_24 : decode cX12_ranked 24 = .ok (.iload_n 1, 1) := by decide +kernel
theorem dX12_ranked_25 : decode cX12_ranked 25 = .ok (.invokevirtual 146, 3) := by decide +kernel
theorem dX12_ranked_28 : decode cX12_ranked 28 = .ok (.aload_n 0, 1) := by decide +kernel
theorem dX12_ranked_29 : decode cX12_ranked 29 = .ok (.getfield 58, 3) := by decide +kernel
theorem dX12_ranked_32 : decode cX12_ranked 32 = .ok (.iload_n 2, 1) := by decide +kernel
theorem dX12_ranked_33 : decode cX12_ranked 33 = .ok (.iaload, 1) := by decide +kernel
theorem dX12_ranked_34 : decode cX12_ranked 34 = .ok (.ireturn, 1) := by decide +kernel
theorem dX12_times_0 : decode cX12_times 0 = .ok (.lload_n 1, 1) := by decide +kernel
theorem dX12_times_1 : decode cX12_times 1 = .ok (.lload_n 3, 1) := by decide +kernel
theorem dX12_times_2 : decode cX12_times 2 = .ok (.lmul, 1) := by decide +kernel
theorem dX12_times_3 : decode cX12_times 3 = .ok (.lstore 5, 2) := by decide +kernel
theorem dX12_times_5 : decode cX12_times 5 = .ok (.lload_n 1, 1) := by decide +kernel
theorem dX12_times_6 : decode cX12_times 6 = .ok (.lconst 0, 1) := by decide +kernel
theorem dX12_times_7 : decode cX12_times 7 = .ok (.lcmp, 1) := by decide +kernel
theorem dX12_times_8 : decode cX12_times 8 = .ok (.ifCond .eq 12, 3) := by decide +kernel
theorem dX12_times_11 : decode cX12_times 11 = .ok (.lload 5, 2) := by decide +kernel
theorem dX12_times_13 : decode cX12_times 13 = .ok (.lload_n 1, 1) := by decide +kernel
theorem dX12_times_14 : decode cX12_times 14 = .ok (.ldiv, 1) := by decide +kernel
theorem dX12_times_15 : decode cX12_times 15 = .ok (.lload_n 3, 1) := by decide +kernel
theorem dX12_times_16 : decode cX12_times 16 = .ok (.lcmp, 1) := by decide +kernel
theorem dX12_times_17 : decode cX12_times 17 = .ok (.ifCond .ne 12, 3) := by decide +kernel
theorem dX12_times_20 : decode cX12_times 20 = .ok (.lload 5, 2) := by decide +kernel
theorem dX12_times_22 : decode cX12_times 22 = .ok (.ldc2_w 150, 3) := by decide +kernel
theorem dX12_times_25 : decode cX12_times 25 = .ok (.lcmp, 1) := by decide +kernel
theorem dX12_times_26 : decode cX12_times 26 = .ok (.ifCond .ne 8, 3) := by decide +kernel
theorem dX12_times_29 : decode cX12_times 29 = .ok (.aload_n 0, 1) := by decide +kernel
theorem dX12_times_30 : decode cX12_times 30 = .ok (.iconst 1, 1) := by decide +kernel
theorem dX12_times_31 : decode cX12_times 31 = .ok (.putfield 152, 3) := by decide +kernel
theorem dX12_times_34 : decode cX12_times 34 = .ok (.lload 5, 2) := by decide +kernel
theorem dX12_times_36 : decode cX12_times 36 = .ok (.lreturn, 1) := by decide +kernel
theorem dX12_plus_0 : decode cX12_plus 0 = .ok (.lload_n 1, 1) := by decide +kernel
theorem dX12_plus_1 : decode cX12_plus 1 = .ok (.lload_n 3, 1) := by decide +kernel
theorem dX12_plus_2 : decode cX12_plus 2 = .ok (.ladd, 1) := by decide +kernel
theorem dX12_plus_3 : decode cX12_plus 3 = .ok (.lstore 5, 2) := by decide +kernel
theorem dX12_plus_5 : decode cX12_plus 5 = .ok (.lload_n 1, 1) := by decide +kernel
theorem dX12_plus_6 : decode cX12_plus 6 = .ok (.lload 5, 2) := by decide +kernel
theorem dX12_plus_8 : decode cX12_plus 8 = .ok (.lxor, 1) := by decide +kernel
theorem dX12_plus_9 : decode cX12_plus 9 = .ok (.lload_n 3, 1) := by decide +kernel
theorem dX12_plus_10 : decode cX12_plus 10 = .ok (.lload 5, 2) := by decide +kernel
theorem dX12_plus_12 : decode cX12_plus 12 = .ok (.lxor, 1) := by decide +kernel
theorem dX12_plus_13 : decode cX12_plus 13 = .ok (.land, 1) := by decide +kernel
theorem dX12_plus_14 : decode cX12_plus 14 = .ok (.lconst 0, 1) := by decide +kernel
theorem dX12_plus_15 : decode cX12_plus 15 = .ok (.lcmp, 1) := by decide +kernel
theorem dX12_plus_16 : decode cX12_plus 16 = .ok (.ifCond .lt 12, 3) := by decide +kernel
theorem dX12_plus_19 : decode cX12_plus 19 = .ok (.lload 5, 2) := by decide +kernel
theorem dX12_plus_21 : decode cX12_plus 21 = .ok (.ldc2_w 150, 3) := by decide +kernel
theorem dX12_plus_24 : decode cX12_plus 24 = .ok (.lcmp, 1) := by decide +kernel
theorem dX12_plus_25 : decode cX12_plus 25 = .ok (.ifCond .ne 8, 3) := by decide +kernel
theorem dX12_plus_28 : decode cX12_plus 28 = .ok (.aload_n 0, 1) := by decide +kernel
theorem dX12_plus_29 : decode cX12_plus 29 = .ok (.iconst 1, 1) := by decide +kernel
theorem dX12_plus_30 : decode cX12_plus 30 = .ok (.putfield 152, 3) := by decide +kernel
theorem dX12_plus_33 : decode cX12_plus 33 = .ok (.lload 5, 2) := by decide +kernel
theorem dX12_plus_35 : decode cX12_plus 35 = .ok (.lreturn, 1) := by decide +kernel
theorem dX12_common_0 : decode cX12_common 0 = .ok (.lload_n 0, 1) := by decide +kernel
theorem dX12_common_1 : decode cX12_common 1 = .ok (.invokestatic 156, 3) := by decide +kernel
theorem dX12_common_4 : decode cX12_common 4 = .ok (.lstore 4, 2) := by decide +kernel
theorem dX12_common_6 : decode cX12_common 6 = .ok (.lload_n 2, 1) := by decide +kernel
theorem dX12_common_7 : decode cX12_common 7 = .ok (.lstore 6, 2) := by decide +kernel
theorem dX12_common_9 : decode cX12_common 9 = .ok (.lload 6, 2) := by decide +kernel
theorem dX12_common_11 : decode cX12_common 11 = .ok (.lconst 0, 1) := by decide +kernel
theorem dX12_common_12 : decode cX12_common 12 = .ok (.lcmp, 1) := by decide +kernel
theorem dX12_common_13 : decode cX12_common 13 = .ok (.ifCond .eq 21, 3) := by decide +kernel
theorem dX12_common_16 : decode cX12_common 16 = .ok (.lload 4, 2) := by decide +kernel
theorem dX12_common_18 : decode cX12_common 18 = .ok (.lload 6, 2) := by decide +kernel
theorem dX12_common_20 : decode cX12_common 20 = .ok (.lrem, 1) := by decide +kernel
theorem dX12_common_21 : decode cX12_common 21 = .ok (.lstore 8, 2) := by decide +kernel
theorem dX12_common_23 : decode cX12_common 23 = .ok (.lload 6, 2) := by decide +kernel
theorem dX12_common_25 : decode cX12_common 25 = .ok (.lstore 4, 2) := by decide +kernel
theorem dX12_common_27 : decode cX12_common 27 = .ok (.lload 8, 2) := by decide +kernel
theorem dX12_common_29 : decode cX12_common 29 = .ok (.lstore 6, 2) := by decide +kernel
theorem dX12_common_31 : decode cX12_common 31 = .ok (.goto (-22), 3) := by decide +kernel
theorem dX12_common_34 : decode cX12_common 34 = .ok (.lload 4, 2) := by decide +kernel
theorem dX12_common_36 : decode cX12_common 36 = .ok (.lreturn, 1) := by decide +kernel
theorem dX12_lowest_0 : decode cX12_lowest 0 = .ok (.aload_n 0, 1) := by decide +kernel
theorem dX12_lowest_1 : decode cX12_lowest 1 = .ok (.lconst 0, 1) := by decide +kernel
theorem dX12_lowest_2 : decode cX12_lowest 2 = .ok (.putfield 162, 3) := by decide +kernel
theorem dX12_lowest_5 : decode cX12_lowest 5 = .ok (.aload_n 0, 1) := by decide +kernel
theorem dX12_lowest_6 : decode cX12_lowest 6 = .ok (.lconst 1, 1) := by decide +kernel
theorem dX12_lowest_7 : decode cX12_lowest 7 = .ok (.putfield 166, 3) := by decide +kernel
theorem dX12_lowest_10 : decode cX12_lowest 10 = .ok (.aload_n 0, 1) := by decide +kernel
theorem dX12_lowest_11 : decode cX12_lowest 11 = .ok (.getfield 152, 3) := by decide +kernel
theorem dX12_lowest_14 : decode cX12_lowest 14 = .ok (.ifCond .eq 4, 3) := by decide +kernel
theorem dX12_lowest_17 : decode cX12_lowest 17 = .ok (.return_, 1) := by decide +kernel
theorem dX12_lowest_18 : decode cX12_lowest 18 = .ok (.lload_n 1, 1) := by decide +kernel
theorem dX12_lowest_19 : decode cX12_lowest 19 = .ok (.lload_n 3, 1) := by decide +kernel
theorem dX12_lowest_20 : decode cX12_lowest 20 = .ok (.invokestatic 169, 3) := by decide +kernel
theorem dX12_lowest_23 : decode cX12_lowest 23 = .ok (.lstore 5, 2) := by decide +kernel
theorem dX12_lowest_25 : decode cX12_lowest 25 = .ok (.aload_n 0, 1) := by decide +kernel
theorem dX12_lowest_26 : decode cX12_lowest 26 = .ok (.lload_n 1, 1) := by decide +kernel
theorem dX12_lowest_27 : decode cX12_lowest 27 = .ok (.lload 5, 2) := by decide +kernel
theorem dX12_lowest_29 : decode cX12_lowest 29 = .ok (.ldiv, 1) := by decide +kernel
theorem dX12_lowest_30 : decode cX12_lowest 30 = .ok (.putfield 162, 3) := by decide +kernel
theorem dX12_lowest_33 : decode cX12_lowest 33 = .ok (.aload_n 0, 1) := by decide +kernel
theorem dX12_lowest_34 : decode cX12_lowest 34 = .ok (.lload_n 3, 1) := by decide +kernel
theorem dX12_lowest_35 : decode cX12_lowest 35 = .ok (.lload 5, 2) := by decide +kernel
theorem dX12_lowest_37 : decode cX12_lowest 37 = .ok (.ldiv, 1) := by decide +kernel
theorem dX12_lowest_38 : decode cX12_lowest 38 = .ok (.putfield 166, 3) := by decide +kernel
theorem dX12_lowest_41 : decode cX12_lowest 41 = .ok (.return_, 1) := by decide +kernel
theorem dX12_sum_0 : decode cX12_sum 0 = .ok (.aload_n 0, 1) := by decide +kernel
theorem dX12_sum_1 : decode cX12_sum 1 = .ok (.lload_n 1, 1) := by decide +kernel
theorem dX12_sum_2 : decode cX12_sum 2 = .ok (.lload 7, 2) := by decide +kernel
theorem dX12_sum_4 : decode cX12_sum 4 = .ok (.invokevirtual 173, 3) := by decide +kernel
theorem dX12_sum_7 : decode cX12_sum 7 = .ok (.lstore 9, 2) := by decide +kernel
theorem dX12_sum_9 : decode cX12_sum 9 = .ok (.aload_n 0, 1) := by decide +kernel
theorem dX12_sum_10 : decode cX12_sum 10 = .ok (.lload 5, 2) := by decide +kernel
theorem dX12_sum_12 : decode cX12_sum 12 = .ok (.lload_n 3, 1) := by decide +kernel
theorem dX12_sum_13 : decode cX12_sum 13 = .ok (.invokevirtual 173, 3) := by decide +kernel
theorem dX12_sum_16 : decode cX12_sum 16 = .ok (.lstore 11, 2) := by decide +kernel
theorem dX12_sum_18 : decode cX12_sum 18 = .ok (.aload_n 0, 1) := by decide +kernel
theorem dX12_sum_19 : decode cX12_sum 19 = .ok (.aload_n 0, 1) := by decide +kernel
theorem dX12_sum_20 : decode cX12_sum 20 = .ok (.lload 9, 2) := by decide +kernel
theorem dX12_sum_22 : decode cX12_sum 22 = .ok (.lload 11, 2) := by decide +kernel
theorem dX12_sum_24 : decode cX12_sum 24 = .ok (.invokevirtual 176, 3) := by decide +kernel
theorem dX12_sum_27 : decode cX12_sum 27 = .ok (.aload_n 0, 1) := by decide +kernel
theorem dX12_sum_28 : decode cX12_sum 28 = .ok (.lload_n 3, 1) := by decide +kernel
theorem dX12_sum_29 : decode cX12_sum 29 = .ok (.lload 7, 2) := by decide +kernel
theorem dX12_sum_31 : decode cX12_sum 31 = .ok (.invokevirtual 173, 3) := by decide +kernel
theorem dX12_sum_34 : decode cX12_sum 34 = .ok (.invokevirtual 179, 3) := by decide +kernel
theorem dX12_sum_37 : decode cX12_sum 37 = .ok (.return_, 1) := by decide +kernel
theorem dX12_product_0 : decode cX12_product 0 = .ok (.aload_n 0, 1) := by decide +kernel
theorem dX12_product_1 : decode cX12_product 1 = .ok (.aload_n 0, 1) := by decide +kernel
theorem dX12_product_2 : decode cX12_product 2 = .ok (.lload_n 1, 1) := by decide +kernel
theorem dX12_product_3 : decode cX12_product 3 = .ok (.lload 5, 2) := by decide +kernel
theorem dX12_product_5 : decode cX12_product 5 = .ok (.invokevirtual 173, 3) := by decide +kernel
theorem dX12_product_8 : decode cX12_product 8 = .ok (.aload_n 0, 1) := by decide +kernel
theorem dX12_product_9 : decode cX12_product 9 = .ok (.lload_n 3, 1) := by decide +kernel
theorem dX12_product_10 : decode cX12_product 10 = .ok (.lload 7, 2) := by decide +kernel
theorem dX12_product_12 : decode cX12_product 12 = .ok (.invokevirtual 173, 3) := by decide +kernel
theorem dX12_product_15 : decode cX12_product 15 = .ok (.invokevirtual 179, 3) := by decide +kernel
theorem dX12_product_18 : decode cX12_product 18 = .ok (.return_, 1) := by decide +kernel
theorem dX12_quotient_0 : decode cX12_quotient 0 = .ok (.lload 5, 2) := by decide +kernel
theorem dX12_quotient_2 : decode cX12_quotient 2 = .ok (.lconst 0, 1) := by decide +kernel
theorem dX12_quotient_3 : decode cX12_quotient 3 = .ok (.lcmp, 1) := by decide +kernel
theorem dX12_quotient_4 : decode cX12_quotient 4 = .ok (.ifCond .ge 18, 3) := by decide +kernel
theorem dX12_quotient_7 : decode cX12_quotient 7 = .ok (.aload_n 0, 1) := by decide +kernel
theorem dX12_quotient_8 : decode cX12_quotient 8 = .ok (.lload_n 1, 1) := by decide +kernel
theorem dX12_quotient_9 : decode cX12_quotient 9 = .ok (.lload_n 3, 1) := by decide +kernel
theorem dX12_quotient_10 : decode cX12_quotient 10 = .ok (.lload 7, 2) := by decide +kernel
theorem dX12_quotient_12 : decode cX12_quotient 12 = .ok (.lneg, 1) := by decide +kernel
theorem dX12_quotient_13 : decode cX12_quotient 13 = .ok (.lload 5, 2) := by decide +kernel
theorem dX12_quotient_15 : decode cX12_quotient 15 = .ok (.lneg, 1) := by decide +kernel
theorem dX12_quotient_16 : decode cX12_quotient 16 = .ok (.invokevirtual 183, 3) := by decide +kernel
theorem dX12_quotient_19 : decode cX12_quotient 19 = .ok (.goto 13, 3) := by decide +kernel
theorem dX12_quotient_22 : decode cX12_quotient 22 = .ok (.aload_n 0, 1) := by decide +kernel
theorem dX12_quotient_23 : decode cX12_quotient 23 = .ok (.lload_n 1, 1) := by decide +kernel
theorem dX12_quotient_24 : decode cX12_quotient 24 = .ok (.lload_n 3, 1) := by decide +kernel
theorem dX12_quotient_25 : decode cX12_quotient 25 = .ok (.lload 7, 2) := by decide +kernel
theorem dX12_quotient_27 : decode cX12_quotient 27 = .ok (.lload 5, 2) := by decide +kernel
theorem dX12_quotient_29 : decode cX12_quotient 29 = .ok (.invokevirtual 183, 3) := by decide +kernel
theorem dX12_quotient_32 : decode cX12_quotient 32 = .ok (.return_, 1) := by decide +kernel
theorem dX12_isLess_0 : decode cX12_isLess 0 = .ok (.lload_n 0, 1) := by decide +kernel
theorem dX12_isLess_1 : decode cX12_isLess 1 = .ok (.lstore 8, 2) := by decide +kernel
theorem dX12_isLess_3 : decode cX12_isLess 3 = .ok (.lload_n 2, 1) := by decide +kernel
theorem dX12_isLess_4 : decode cX12_isLess 4 = .ok (.lstore 10, 2) := by decide +kernel
theorem dX12_isLess_6 : decode cX12_isLess 6 = .ok (.lload 4, 2) := by decide +kernel
theorem dX12_isLess_8 : decode cX12_isLess 8 = .ok (.lstore 12, 2) := by decide +kernel
theorem dX12_isLess_10 : decode cX12_isLess 10 = .ok (.lload 6, 2) := by decide +kernel
theorem dX12_isLess_12 : decode cX12_isLess 12 = .ok (.lstore 14, 2) := by decide +kernel
theorem dX12_isLess_14 : decode cX12_isLess 14 = .ok (.lload 8, 2) := by decide +kernel
theorem dX12_isLess_16 : decode cX12_isLess 16 = .ok (.lload 10, 2) := by decide +kernel
theorem dX12_isLess_18 : decode cX12_isLess 18 = .ok (.invokestatic 187, 3) := by decide +kernel
theorem dX12_isLess_21 : decode cX12_isLess 21 = .ok (.lstore 16, 2) := by decide +kernel
theorem dX12_isLess_23 : decode cX12_isLess 23 = .ok (.lload 12, 2) := by decide +kernel
theorem dX12_isLess_25 : decode cX12_isLess 25 = .ok (.lload 14, 2) := by decide +kernel
theorem dX12_isLess_27 : decode cX12_isLess 27 = .ok (.invokestatic 187, 3) := by decide +kernel
theorem dX12_isLess_30 : decode cX12_isLess 30 = .ok (.lstore 18, 2) := by decide +kernel
theorem dX12_isLess_32 : decode cX12_isLess 32 = .ok (.lload 16, 2) := by decide +kernel
theorem dX12_isLess_34 : decode cX12_isLess 34 = .ok (.lload 18, 2) := by decide +kernel
theorem dX12_isLess_36 : decode cX12_isLess 36 = .ok (.lcmp, 1) := by decide +kernel
theorem dX12_isLess_37 : decode cX12_isLess 37 = .ok (.ifCond .eq 17, 3) := by decide +kernel
theorem dX12_isLess_40 : decode cX12_isLess 40 = .ok (.lload 16, 2) := by decide +kernel
theorem dX12_isLess_42 : decode cX12_isLess 42 = .ok (.lload 18, 2) := by decide +kernel
theorem dX12_isLess_44 : decode cX12_isLess 44 = .ok (.lcmp, 1) := by decide +kernel
theorem dX12_isLess_45 : decode cX12_isLess 45 = .ok (.ifCond .ge 7, 3) := by decide +kernel
theorem dX12_isLess_48 : decode cX12_isLess 48 = .ok (.iconst 1, 1) := by decide +kernel
theorem dX12_isLess_49 : decode cX12_isLess 49 = .ok (.goto 4, 3) := by decide +kernel
theorem dX12_isLess_52 : decode cX12_isLess 52 = .ok (.iconst 0, 1) := by decide +kernel
theorem dX12_isLess_53 : decode cX12_isLess 53 = .ok (.ireturn, 1) := by decide +kernel
theorem dX12_isLess_54 : decode cX12_isLess 54 = .ok (.lload 8, 2) := by decide +kernel
theorem dX12_isLess_56 : decode cX12_isLess 56 = .ok (.lload 16, 2) := by decide +kernel
theorem dX12_isLess_58 : decode cX12_isLess 58 = .ok (.lload 10, 2) := by decide +kernel
theorem dX12_isLess_60 : decode cX12_isLess 60 = .ok (.lmul, 1) := by decide +kernel
theorem dX12_isLess_61 : decode cX12_isLess 61 = .ok (.lsub, 1) := by decide +kernel
theorem dX12_isLess_62 : decode cX12_isLess 62 = .ok (.lstore 20, 2) := by decide +kernel
theorem dX12_isLess_64 : decode cX12_isLess 64 = .ok (.lload 12, 2) := by decide +kernel
theorem dX12_isLess_66 : decode cX12_isLess 66 = .ok (.lload 18, 2) := by decide +kernel
theorem dX12_isLess_68 : decode cX12_isLess 68 = .ok (.lload 14, 2) := by decide +kernel
theorem dX12_isLess_70 : decode cX12_isLess 70 = .ok (.lmul, 1) := by decide +kernel
theorem dX12_isLess_71 : decode cX12_isLess 71 = .ok (.lsub, 1) := by decide +kernel
theorem dX12_isLess_72 : decode cX12_isLess 72 = .ok (.lstore 22, 2) := by decide +kernel
theorem dX12_isLess_74 : decode cX12_isLess 74 = .ok (.lload 22, 2) := by decide +kernel
theorem dX12_isLess_76 : decode cX12_isLess 76 = .ok (.lconst 0, 1) := by decide +kernel
theorem dX12_isLess_77 : decode cX12_isLess 77 = .ok (.lcmp, 1) := by decide +kernel
theorem dX12_isLess_78 : decode cX12_isLess 78 = .ok (.ifCond .ne 5, 3) := by decide +kernel
theorem dX12_isLess_81 : decode cX12_isLess 81 = .ok (.iconst 0, 1) := by decide +kernel
theorem dX12_isLess_82 : decode cX12_isLess 82 = .ok (.ireturn, 1) := by decide +kernel
theorem dX12_isLess_83 : decode cX12_isLess 83 = .ok (.lload 20, 2) := by decide +kernel
theorem dX12_isLess_85 : decode cX12_isLess 85 = .ok (.lconst 0, 1) := by decide +kernel
theorem dX12_isLess_86 : decode cX12_isLess 86 = .ok (.lcmp, 1) := by decide +kernel
theorem dX12_isLess_87 : decode cX12_isLess 87 = .ok (.ifCond .ne 5, 3) := by decide +kernel
theorem dX12_isLess_90 : decode cX12_isLess 90 = .ok (.iconst 1, 1) := by decide +kernel
theorem dX12_isLess_91 : decode cX12_isLess 91 = .ok (.ireturn, 1) := by decide +kernel
theorem dX12_isLess_92 : decode cX12_isLess 92 = .ok (.lload 14, 2) := by decide +kernel
theorem dX12_isLess_94 : decode cX12_isLess 94 = .ok (.lstore 8, 2) := by decide +kernel
theorem dX12_isLess_96 : decode cX12_isLess 96 = .ok (.lload 10, 2) := by decide +kernel
theorem dX12_isLess_98 : decode cX12_isLess 98 = .ok (.lstore 12, 2) := by decide +kernel
theorem dX12_isLess_100 : decode cX12_isLess 100 = .ok (.lload 22, 2) := by decide +kernel
theorem dX12_isLess_102 : decode cX12_isLess 102 = .ok (.lstore 10, 2) := by decide +kernel
theorem dX12_isLess_104 : decode cX12_isLess 104 = .ok (.lload 20, 2) := by decide +kernel
theorem dX12_isLess_106 : decode cX12_isLess 106 = .ok (.lstore 14, 2) := by decide +kernel
theorem dX12_isLess_108 : decode cX12_isLess 108 = .ok (.goto (-94), 3) := by decide +kernel
theorem dX12_part_0 : decode cX12_part 0 = .ok (.aload_n 0, 1) := by decide +kernel
theorem dX12_part_1 : decode cX12_part 1 = .ok (.getfield 152, 3) := by decide +kernel
theorem dX12_part_4 : decode cX12_part 4 = .ok (.ifCond .eq 9, 3) := by decide +kernel
theorem dX12_part_7 : decode cX12_part 7 = .ok (.ldc2_w 150, 3) := by decide +kernel
theorem dX12_part_10 : decode cX12_part 10 = .ok (.goto 18, 3) := by decide +kernel
theorem dX12_part_13 : decode cX12_part 13 = .ok (.iload_n 1, 1) := by decide +kernel
theorem dX12_part_14 : decode cX12_part 14 = .ok (.ifCond .ne 10, 3) := by decide +kernel
theorem dX12_part_17 : decode cX12_part 17 = .ok (.aload_n 0, 1) := by decide +kernel
theorem dX12_part_18 : decode cX12_part 18 = .ok (.getfield 162, 3) := by decide +kernel
theorem dX12_part_21 : decode cX12_part 21 = .ok (.goto 7, 3) := by decide +kernel
theorem dX12_part_24 : decode cX12_part 24 = .ok (.aload_n 0, 1) := by decide +kernel
theorem dX12_part_25 : decode cX12_part 25 = .ok (.getfield 166, 3) := by decide +kernel
theorem dX12_part_28 : decode cX12_part 28 = .ok (.lreturn, 1) := by decide +kernel
theorem dX12_isRow_0 : decode cX12_isRow 0 = .ok (.iload_n 1, 1) := by decide +kernel
theorem dX12_isRow_1 : decode cX12_isRow 1 = .ok (.bipush (-2), 2) := by decide +kernel
theorem dX12_isRow_3 : decode cX12_isRow 3 = .ok (.aload_n 0, 1) := by decide +kernel
theorem dX12_isRow_4 : decode cX12_isRow 4 = .ok (.getfield 87, 3) := by decide +kernel
theorem dX12_isRow_7 : decode cX12_isRow 7 = .ok (.iconst 1, 1) := by decide +kernel
theorem dX12_isRow_8 : decode cX12_isRow 8 = .ok (.isub, 1) := by decide +kernel
theorem dX12_isRow_9 : decode cX12_isRow 9 = .ok (.invokestatic 79, 3) := by decide +kernel
theorem dX12_isRow_12 : decode cX12_isRow 12 = .ok (.ireturn, 1) := by decide +kernel
theorem dX12_amountAt_0 : decode cX12_amountAt 0 = .ok (.iload_n 1, 1) := by decide +kernel
theorem dX12_amountAt_1 : decode cX12_amountAt 1 = .ok (.ifCond .lt 10, 3) := by decide +kernel
theorem dX12_amountAt_4 : decode cX12_amountAt 4 = .ok (.aload_n 0, 1) := by decide +kernel
theorem dX12_amountAt_5 : decode cX12_amountAt 5 = .ok (.iload_n 1, 1) := by decide +kernel
theorem dX12_amountAt_6 : decode cX12_amountAt 6 = .ok (.iload_n 2, 1) := by decide +kernel
theorem dX12_amountAt_7 : decode cX12_amountAt 7 = .ok (.invokevirtual 131, 3) := by decide +kernel
theorem dX12_amountAt_10 : decode cX12_amountAt 10 = .ok (.ireturn, 1) := by decide +kernel
theorem dX12_amountAt_11 : decode cX12_amountAt 11 = .ok (.iload_n 1, 1) := by decide +kernel
theorem dX12_amountAt_12 : decode cX12_amountAt 12 = .ok (.iconst (-1), 1) := by decide +kernel
theorem dX12_amountAt_13 : decode cX12_amountAt 13 = .ok (.if_icmp .ne 15, 3) := by decide +kernel
theorem dX12_amountAt_16 : decode cX12_amountAt 16 = .ok (.aload_n 0, 1) := by decide +kernel
theorem dX12_amountAt_17 : decode cX12_amountAt 17 = .ok (.getfield 9, 3) := by decide +kernel
theorem dX12_amountAt_20 : decode cX12_amountAt 20 = .ok (.aload_n 0, 1) := by decide +kernel
theorem dX12_amountAt_21 : decode cX12_amountAt 21 = .ok (.getfield 24, 3) := by decide +kernel
theorem dX12_amountAt_24 : decode cX12_amountAt 24 = .ok (.iload_n 2, 1) := by decide +kernel
theorem dX12_amountAt_25 : decode cX12_amountAt 25 = .ok (.iaload, 1) := by decide +kernel
theorem dX12_amountAt_26 : decode cX12_amountAt 26 = .ok (.iaload, 1) := by decide +kernel
theorem dX12_amountAt_27 : decode cX12_amountAt 27 = .ok (.ireturn, 1) := by decide +kernel
theorem dX12_amountAt_28 : decode cX12_amountAt 28 = .ok (.iconst 0, 1) := by decide +kernel
theorem dX12_amountAt_29 : decode cX12_amountAt 29 = .ok (.istore_n 3, 1) := by decide +kernel
theorem dX12_amountAt_30 : decode cX12_amountAt 30 = .ok (.iconst 0, 1) := by decide +kernel
theorem dX12_amountAt_31 : decode cX12_amountAt 31 = .ok (.istore 4, 2) := by decide +kernel
theorem dX12_amountAt_33 : decode cX12_amountAt 33 = .ok (.iload 4, 2) := by decide +kernel
theorem dX12_amountAt_35 : decode cX12_amountAt 35 = .ok (.aload_n 0, 1) := by decide +kernel
theorem dX12_amountAt_36 : decode cX12_amountAt 36 = .ok (.getfield 87, 3) := by decide +kernel
theorem dX12_amountAt_39 : decode cX12_amountAt 39 = .ok (.if_icmp .ge 28, 3) := by decide +kernel
theorem dX12_amountAt_42 : decode cX12_amountAt 42 = .ok (.iload_n 3, 1) := by decide +kernel
theorem dX12_amountAt_43 : decode cX12_amountAt 43 = .ok (.aload_n 0, 1) := by decide +kernel
theorem dX12_amountAt_44 : decode cX12_amountAt 44 = .ok (.iload 4, 2) := by decide +kernel
theorem dX12_amountAt_46 : decode cX12_amountAt 46 = .ok (.bipush 6, 2) := by decide +kernel
theorem dX12_amountAt_48 : decode cX12_amountAt 48 = .ok (.invokevirtual 118, 3) := by decide +kernel
theorem dX12_amountAt_51 : decode cX12_amountAt 51 = .ok (.aload_n 0, 1) := by decide +kernel
theorem dX12_amountAt_52 : decode cX12_amountAt 52 = .ok (.iload 4, 2) := by decide +kernel
theorem dX12_amountAt_54 : decode cX12_amountAt 54 = .ok (.iload_n 2, 1) := by decide +kernel
theorem dX12_amountAt_55 : decode cX12_amountAt 55 = .ok (.invokevirtual 131, 3) := by decide +kernel
theorem dX12_amountAt_58 : decode cX12_amountAt 58 = .ok (.imul, 1) := by decide +kernel
theorem dX12_amountAt_59 : decode cX12_amountAt 59 = .ok (.iadd, 1) := by decide +kernel
theorem dX12_amountAt_60 : decode cX12_amountAt 60 = .ok (.istore_n 3, 1) := by decide +kernel
theorem dX12_amountAt_61 : decode cX12_amountAt 61 = .ok (.iinc 4 1, 3) := by decide +kernel
theorem dX12_amountAt_64 : decode cX12_amountAt 64 = .ok (.goto (-31), 3) := by decide +kernel
theorem dX12_amountAt_67 : decode cX12_amountAt 67 = .ok (.iload_n 3, 1) := by decide +kernel
theorem dX12_amountAt_68 : decode cX12_amountAt 68 = .ok (.ireturn, 1) := by decide +kernel
theorem dX12_factor_0 : decode cX12_factor 0 = .ok (.iconst 4, 1) := by decide +kernel
theorem dX12_factor_1 : decode cX12_factor 1 = .ok (.aload_n 0, 1) := by decide +kernel
theorem dX12_factor_2 : decode cX12_factor 2 = .ok (.aload_n 0, 1) := by decide +kernel
theorem dX12_factor_3 : decode cX12_factor 3 = .ok (.getfield 24, 3) := by decide +kernel
theorem dX12_factor_6 : decode cX12_factor 6 = .ok (.iload_n 1, 1) := by decide +kernel
theorem dX12_factor_7 : decode cX12_factor 7 = .ok (.iaload, 1) := by decide +kernel
theorem dX12_factor_8 : decode cX12_factor 8 = .ok (.invokevirtual 109, 3) := by decide +kernel
theorem dX12_factor_11 : decode cX12_factor 11 = .ok (.iadd, 1) := by decide +kernel
theorem dX12_factor_12 : decode cX12_factor 12 = .ok (.ireturn, 1) := by decide +kernel
theorem dX12_byFactor_0 : decode cX12_byFactor 0 = .ok (.aload_n 0, 1) := by decide +kernel
theorem dX12_byFactor_1 : decode cX12_byFactor 1 = .ok (.getfield 162, 3) := by decide +kernel
theorem dX12_byFactor_4 : decode cX12_byFactor 4 = .ok (.lstore_n 3, 1) := by decide +kernel
theorem dX12_byFactor_5 : decode cX12_byFactor 5 = .ok (.aload_n 0, 1) := by decide +kernel
theorem dX12_byFactor_6 : decode cX12_byFactor 6 = .ok (.getfield 166, 3) := by decide +kernel
theorem dX12_byFactor_9 : decode cX12_byFactor 9 = .ok (.lstore 5, 2) := by decide +kernel
theorem dX12_byFactor_11 : decode cX12_byFactor 11 = .ok (.aload_n 0, 1) := by decide +kernel
theorem dX12_byFactor_12 : decode cX12_byFactor 12 = .ok (.aload_n 0, 1) := by decide +kernel
theorem dX12_byFactor_13 : decode cX12_byFactor 13 = .ok (.iload_n 1, 1) := by decide +kernel
theorem dX12_byFactor_14 : decode cX12_byFactor 14 = .ok (.invokevirtual 190, 3) := by decide +kernel
theorem dX12_byFactor_17 : decode cX12_byFactor 17 = .ok (.i2l, 1) := by decide +kernel
theorem dX12_byFactor_18 : decode cX12_byFactor 18 = .ok (.ldc2_w 193, 3) := by decide +kernel
theorem dX12_byFactor_21 : decode cX12_byFactor 21 = .ok (.invokevirtual 179, 3) := by decide +kernel
theorem dX12_byFactor_24 : decode cX12_byFactor 24 = .ok (.iload_n 2, 1) := by decide +kernel
theorem dX12_byFactor_25 : decode cX12_byFactor 25 = .ok (.ifCond .eq 21, 3) := by decide +kernel
theorem dX12_byFactor_28 : decode cX12_byFactor 28 = .ok (.aload_n 0, 1) := by decide +kernel
theorem dX12_byFactor_29 : decode cX12_byFactor 29 = .ok (.lload_n 3, 1) := by decide +kernel
theorem dX12_byFactor_30 : decode cX12_byFactor 30 = .ok (.lload 5, 2) := by decide +kernel
theorem dX12_byFactor_32 : decode cX12_byFactor 32 = .ok (.aload_n 0, 1) := by decide +kernel
theorem dX12_byFactor_33 : decode cX12_byFactor 33 = .ok (.getfield 162, 3) := by decide +kernel
theorem dX12_byFactor_36 : decode cX12_byFactor 36 = .ok (.aload_n 0, 1) := by decide +kernel
theorem dX12_byFactor_37 : decode cX12_byFactor 37 = .ok (.getfield 166, 3) := by decide +kernel
theorem dX12_byFactor_40 : decode cX12_byFactor 40 = .ok (.invokevirtual 195, 3) := by decide +kernel
theorem dX12_byFactor_43 : decode cX12_byFactor 43 = .ok (.goto 18, 3) := by decide +kernel
theorem dX12_byFactor_46 : decode cX12_byFactor 46 = .ok (.aload_n 0, 1) := by decide +kernel
theorem dX12_byFactor_47 : decode cX12_byFactor 47 = .ok (.lload_n 3, 1) := by decide +kernel
theorem dX12_byFactor_48 : decode cX12_byFactor 48 = .ok (.lload 5, 2) := by decide +kernel
theorem dX12_byFactor_50 : decode cX12_byFactor 50 = .ok (.aload_n 0, 1) := by decide +kernel
theorem dX12_byFactor_51 : decode cX12_byFactor 51 = .ok (.getfield 162, 3) := by decide +kernel
theorem dX12_byFactor_54 : decode cX12_byFactor 54 = .ok (.aload_n 0, 1) := by decide +kernel
theorem dX12_byFactor_55 : decode cX12_byFactor 55 = .ok (.getfield 166, 3) := by decide +kernel
theorem dX12_byFactor_58 : decode cX12_byFactor 58 = .ok (.invokevirtual 183, 3) := by decide +kernel
theorem dX12_byFactor_61 : decode cX12_byFactor 61 = .ok (.return_, 1) := by decide +kernel
theorem dX12_worthAt_0 : decode cX12_worthAt 0 = .ok (.aload_n 0, 1) := by decide +kernel
theorem dX12_worthAt_1 : decode cX12_worthAt 1 = .ok (.aload_n 0, 1) := by decide +kernel
theorem dX12_worthAt_2 : decode cX12_worthAt 2 = .ok (.iload_n 1, 1) := by decide +kernel
theorem dX12_worthAt_3 : decode cX12_worthAt 3 = .ok (.iload_n 2, 1) := by decide +kernel
theorem dX12_worthAt_4 : decode cX12_worthAt 4 = .ok (.invokevirtual 198, 3) := by decide +kernel
theorem dX12_worthAt_7 : decode cX12_worthAt 7 = .ok (.i2l, 1) := by decide +kernel
theorem dX12_worthAt_8 : decode cX12_worthAt 8 = .ok (.putfield 162, 3) := by decide +kernel
theorem dX12_worthAt_11 : decode cX12_worthAt 11 = .ok (.aload_n 0, 1) := by decide +kernel
theorem dX12_worthAt_12 : decode cX12_worthAt 12 = .ok (.lconst 1, 1) := by decide +kernel
theorem dX12_worthAt_13 : decode cX12_worthAt 13 = .ok (.putfield 166, 3) := by decide +kernel
theorem dX12_worthAt_16 : decode cX12_worthAt 16 = .ok (.iconst 0, 1) := by decide +kernel
theorem dX12_worthAt_17 : decode cX12_worthAt 17 = .ok (.istore_n 3, 1) := by decide +kernel
theorem dX12_worthAt_18 : decode cX12_worthAt 18 = .ok (.iload_n 3, 1) := by decide +kernel
theorem dX12_worthAt_19 : decode cX12_worthAt 19 = .ok (.iload_n 2, 1) := by decide +kernel
theorem dX12_worthAt_20 : decode cX12_worthAt 20 = .ok (.if_icmp .gt 15, 3) := by decide +kernel
theorem dX12_worthAt_23 : decode cX12_worthAt 23 = .ok (.aload_n 0, 1) := by decide +kernel
theorem dX12_worthAt_24 : decode cX12_worthAt 24 = .ok (.iload_n 3, 1) := by decide +kernel
theorem dX12_worthAt_25 : decode cX12_worthAt 25 = .ok (.iconst 1, 1) := by decide +kernel
theorem dX12_worthAt_26 : decode cX12_worthAt 26 = .ok (.invokevirtual 201, 3) := by decide +kernel
theorem dX12_worthAt_29 : decode cX12_worthAt 29 = .ok (.iinc 3 1, 3) := by decide +kernel
theorem dX12_worthAt_32 : decode cX12_worthAt 32 = .ok (.goto (-14), 3) := by decide +kernel
theorem dX12_worthAt_35 : decode cX12_worthAt 35 = .ok (.return_, 1) := by decide +kernel
theorem dX12_worthOf_0 : decode cX12_worthOf 0 = .ok (.lconst 0, 1) := by decide +kernel
theorem dX12_worthOf_1 : decode cX12_worthOf 1 = .ok (.lstore_n 2, 1) := by decide +kernel
theorem dX12_worthOf_2 : decode cX12_worthOf 2 = .ok (.lconst 1, 1) := by decide +kernel
theorem dX12_worthOf_3 : decode cX12_worthOf 3 = .ok (.lstore 4, 2) := by decide +kernel
theorem dX12_worthOf_5 : decode cX12_worthOf 5 = .ok (.iconst 0, 1) := by decide +kernel
theorem dX12_worthOf_6 : decode cX12_worthOf 6 = .ok (.istore 6, 2) := by decide +kernel
theorem dX12_worthOf_8 : decode cX12_worthOf 8 = .ok (.iload 6, 2) := by decide +kernel
theorem dX12_worthOf_10 : decode cX12_worthOf 10 = .ok (.aload_n 0, 1) := by decide +kernel
theorem dX12_worthOf_11 : decode cX12_worthOf 11 = .ok (.getfield 83, 3) := by decide +kernel
theorem dX12_worthOf_14 : decode cX12_worthOf 14 = .ok (.if_icmp .ge 42, 3) := by decide +kernel
theorem dX12_worthOf_17 : decode cX12_worthOf 17 = .ok (.aload_n 0, 1) := by decide +kernel
theorem dX12_worthOf_18 : decode cX12_worthOf 18 = .ok (.iload_n 1, 1) := by decide +kernel
theorem dX12_worthOf_19 : decode cX12_worthOf 19 = .ok (.iload 6, 2) := by decide +kernel
theorem dX12_worthOf_21 : decode cX12_worthOf 21 = .ok (.invokevirtual 205, 3) := by decide +kernel
theorem dX12_worthOf_24 : decode cX12_worthOf 24 = .ok (.aload_n 0, 1) := by decide +kernel
theorem dX12_worthOf_25 : decode cX12_worthOf 25 = .ok (.lload_n 2, 1) := by decide +kernel
theorem dX12_worthOf_26 : decode cX12_worthOf 26 = .ok (.lload 4, 2) := by decide +kernel
theorem dX12_worthOf_28 : decode cX12_worthOf 28 = .ok (.aload_n 0, 1) := by decide +kernel
theorem dX12_worthOf_29 : decode cX12_worthOf 29 = .ok (.getfield 162, 3) := by decide +kernel
theorem dX12_worthOf_32 : decode cX12_worthOf 32 = .ok (.aload_n 0, 1) := by decide +kernel
theorem dX12_worthOf_33 : decode cX12_worthOf 33 = .ok (.getfield 166, 3) := by decide +kernel
theorem dX12_worthOf_36 : decode cX12_worthOf 36 = .ok (.invokevirtual 209, 3) := by decide +kernel
theorem dX12_worthOf_39 : decode cX12_worthOf 39 = .ok (.aload_n 0, 1) := by decide +kernel
theorem dX12_worthOf_40 : decode cX12_worthOf 40 = .ok (.getfield 162, 3) := by decide +kernel
theorem dX12_worthOf_43 : decode cX12_worthOf 43 = .ok (.lstore_n 2, 1) := by decide +kernel
theorem dX12_worthOf_44 : decode cX12_worthOf 44 = .ok (.aload_n 0, 1) := by decide +kernel
theorem dX12_worthOf_45 : decode cX12_worthOf 45 = .ok (.getfield 166, 3) := by decide +kernel
theorem dX12_worthOf_48 : decode cX12_worthOf 48 = .ok (.lstore 4, 2) := by decide +kernel
theorem dX12_worthOf_50 : decode cX12_worthOf 50 = .ok (.iinc 6 1, 3) := by decide +kernel
theorem dX12_worthOf_53 : decode cX12_worthOf 53 = .ok (.goto (-45), 3) := by decide +kernel
theorem dX12_worthOf_56 : decode cX12_worthOf 56 = .ok (.aload_n 0, 1) := by decide +kernel
theorem dX12_worthOf_57 : decode cX12_worthOf 57 = .ok (.lload_n 2, 1) := by decide +kernel
theorem dX12_worthOf_58 : decode cX12_worthOf 58 = .ok (.putfield 162, 3) := by decide +kernel
theorem dX12_worthOf_61 : decode cX12_worthOf 61 = .ok (.aload_n 0, 1) := by decide +kernel
theorem dX12_worthOf_62 : decode cX12_worthOf 62 = .ok (.lload 4, 2) := by decide +kernel
theorem dX12_worthOf_64 : decode cX12_worthOf 64 = .ok (.putfield 166, 3) := by decide +kernel
theorem dX12_worthOf_67 : decode cX12_worthOf 67 = .ok (.return_, 1) := by decide +kernel
theorem dX12_worth_0 : decode cX12_worth 0 = .ok (.aload_n 0, 1) := by decide +kernel
theorem dX12_worth_1 : decode cX12_worth 1 = .ok (.iload_n 1, 1) := by decide +kernel
theorem dX12_worth_2 : decode cX12_worth 2 = .ok (.invokevirtual 212, 3) := by decide +kernel
theorem dX12_worth_5 : decode cX12_worth 5 = .ok (.ifCond .eq 12, 3) := by decide +kernel
theorem dX12_worth_8 : decode cX12_worth 8 = .ok (.iload_n 2, 1) := by decide +kernel
theorem dX12_worth_9 : decode cX12_worth 9 = .ok (.iconst 0, 1) := by decide +kernel
theorem dX12_worth_10 : decode cX12_worth 10 = .ok (.iconst 1, 1) := by decide +kernel
theorem dX12_worth_11 : decode cX12_worth 11 = .ok (.invokestatic 79, 3) := by decide +kernel
theorem dX12_worth_14 : decode cX12_worth 14 = .ok (.ifCond .ne 7, 3) := by decide +kernel
theorem dX12_worth_17 : decode cX12_worth 17 = .ok (.ldc2_w 150, 3) := by decide +kernel
theorem dX12_worth_20 : decode cX12_worth 20 = .ok (.lreturn, 1) := by decide +kernel
theorem dX12_worth_21 : decode cX12_worth 21 = .ok (.aload_n 0, 1) := by decide +kernel
theorem dX12_worth_22 : decode cX12_worth 22 = .ok (.iconst 0, 1) := by decide +kernel
theorem dX12_worth_23 : decode cX12_worth 23 = .ok (.putfield 152, 3) := by decide +kernel
theorem dX12_worth_26 : decode cX12_worth 26 = .ok (.aload_n 0, 1) := by decide +kernel
theorem dX12_worth_27 : decode cX12_worth 27 = .ok (.iload_n 1, 1) := by decide +kernel
theorem dX12_worth_28 : decode cX12_worth 28 = .ok (.invokevirtual 215, 3) := by decide +kernel
theorem dX12_worth_31 : decode cX12_worth 31 = .ok (.aload_n 0, 1) := by decide +kernel
theorem dX12_worth_32 : decode cX12_worth 32 = .ok (.iload_n 2, 1) := by decide +kernel
theorem dX12_worth_33 : decode cX12_worth 33 = .ok (.invokevirtual 218, 3) := by decide +kernel
theorem dX12_worth_36 : decode cX12_worth 36 = .ok (.lreturn, 1) := by decide +kernel
theorem dX12_lengthOf_0 : decode cX12_lengthOf 0 = .ok (.lconst 0, 1) := by decide +kernel
theorem dX12_lengthOf_1 : decode cX12_lengthOf 1 = .ok (.lstore 7, 2) := by decide +kernel
theorem dX12_lengthOf_3 : decode cX12_lengthOf 3 = .ok (.lconst 1, 1) := by decide +kernel
theorem dX12_lengthOf_4 : decode cX12_lengthOf 4 = .ok (.lstore 9, 2) := by decide +kernel
theorem dX12_lengthOf_6 : decode cX12_lengthOf 6 = .ok (.iconst 0, 1) := by decide +kernel
theorem dX12_lengthOf_7 : decode cX12_lengthOf 7 = .ok (.istore 11, 2) := by decide +kernel
theorem dX12_lengthOf_9 : decode cX12_lengthOf 9 = .ok (.iload 11, 2) := by decide +kernel
theorem dX12_lengthOf_11 : decode cX12_lengthOf 11 = .ok (.aload_n 0, 1) := by decide +kernel
theorem dX12_lengthOf_12 : decode cX12_lengthOf 12 = .ok (.getfield 83, 3) := by decide +kernel
theorem dX12_lengthOf_15 : decode cX12_lengthOf 15 = .ok (.if_icmp .ge 133, 3) := by decide +kernel
theorem dX12_lengthOf_18 : decode cX12_lengthOf 18 = .ok (.iload 11, 2) := by decide +kernel
theorem dX12_lengthOf_20 : decode cX12_lengthOf 20 = .ok (.i2l, 1) := by decide +kernel
theorem dX12_lengthOf_21 : decode cX12_lengthOf 21 = .ok (.lconst 1, 1) := by decide +kernel
theorem dX12_lengthOf_22 : decode cX12_lengthOf 22 = .ok (.ladd, 1) := by decide +kernel
theorem dX12_lengthOf_23 : decode cX12_lengthOf 23 = .ok (.lstore 12, 2) := by decide +kernel
theorem dX12_lengthOf_25 : decode cX12_lengthOf 25 = .ok (.lconst 1, 1) := by decide +kernel
theorem dX12_lengthOf_26 : decode cX12_lengthOf 26 = .ok (.lstore 14, 2) := by decide +kernel
theorem dX12_lengthOf_28 : decode cX12_lengthOf 28 = .ok (.iload_n 2, 1) := by decide +kernel
theorem dX12_lengthOf_29 : decode cX12_lengthOf 29 = .ok (.ifCond .eq 62, 3) := by decide +kernel
theorem dX12_lengthOf_32 : decode cX12_lengthOf 32 = .ok (.aload_n 0, 1) := by decide +kernel
theorem dX12_lengthOf_33 : decode cX12_lengthOf 33 = .ok (.lload_n 3, 1) := by decide +kernel
theorem dX12_lengthOf_34 : decode cX12_lengthOf 34 = .ok (.lload 5, 2) := by decide +kernel
theorem dX12_lengthOf_36 : decode cX12_lengthOf 36 = .ok (.ldc2_w 222, 3) := by decide +kernel
theorem dX12_lengthOf_39 : decode cX12_lengthOf 39 = .ok (.lconst 1, 1) := by decide +kernel
theorem dX12_lengthOf_40 : decode cX12_lengthOf 40 = .ok (.invokevirtual 183, 3) := by decide +kernel
theorem dX12_lengthOf_43 : decode cX12_lengthOf 43 = .ok (.aload_n 0, 1) := by decide +kernel
theorem dX12_lengthOf_44 : decode cX12_lengthOf 44 = .ok (.lload 12, 2) := by decide +kernel
theorem dX12_lengthOf_46 : decode cX12_lengthOf 46 = .ok (.lload 14, 2) := by decide +kernel
theorem dX12_lengthOf_48 : decode cX12_lengthOf 48 = .ok (.aload_n 0, 1) := by decide +kernel
theorem dX12_lengthOf_49 : decode cX12_lengthOf 49 = .ok (.getfield 162, 3) := by decide +kernel
theorem dX12_lengthOf_52 : decode cX12_lengthOf 52 = .ok (.aload_n 0, 1) := by decide +kernel
theorem dX12_lengthOf_53 : decode cX12_lengthOf 53 = .ok (.getfield 166, 3) := by decide +kernel
theorem dX12_lengthOf_56 : decode cX12_lengthOf 56 = .ok (.invokevirtual 209, 3) := by decide +kernel
theorem dX12_lengthOf_59 : decode cX12_lengthOf 59 = .ok (.aload_n 0, 1) := by decide +kernel
theorem dX12_lengthOf_60 : decode cX12_lengthOf 60 = .ok (.aload_n 0, 1) := by decide +kernel
theorem dX12_lengthOf_61 : decode cX12_lengthOf 61 = .ok (.getfield 162, 3) := by decide +kernel
theorem dX12_lengthOf_64 : decode cX12_lengthOf 64 = .ok (.aload_n 0, 1) := by decide +kernel
theorem dX12_lengthOf_65 : decode cX12_lengthOf 65 = .ok (.getfield 166, 3) := by decide +kernel
theorem dX12_lengthOf_68 : decode cX12_lengthOf 68 = .ok (.aload_n 0, 1) := by decide +kernel
theorem dX12_lengthOf_69 : decode cX12_lengthOf 69 = .ok (.getfield 162, 3) := by decide +kernel
theorem dX12_lengthOf_72 : decode cX12_lengthOf 72 = .ok (.aload_n 0, 1) := by decide +kernel
theorem dX12_lengthOf_73 : decode cX12_lengthOf 73 = .ok (.getfield 166, 3) := by decide +kernel
theorem dX12_lengthOf_76 : decode cX12_lengthOf 76 = .ok (.invokevirtual 183, 3) := by decide +kernel
theorem dX12_lengthOf_79 : decode cX12_lengthOf 79 = .ok (.aload_n 0, 1) := by decide +kernel
theorem dX12_lengthOf_80 : decode cX12_lengthOf 80 = .ok (.getfield 162, 3) := by decide +kernel
theorem dX12_lengthOf_83 : decode cX12_lengthOf 83 = .ok (.lstore 12, 2) := by decide +kernel
theorem dX12_lengthOf_85 : decode cX12_lengthOf 85 = .ok (.aload_n 0, 1) := by decide +kernel
theorem dX12_lengthOf_86 : decode cX12_lengthOf 86 = .ok (.getfield 166, 3) := by decide +kernel
theorem dX12_lengthOf_89 : decode cX12_lengthOf 89 = .ok (.lstore 14, 2) := by decide +kernel
theorem dX12_lengthOf_91 : decode cX12_lengthOf 91 = .ok (.aload_n 0, 1) := by decide +kernel
theorem dX12_lengthOf_92 : decode cX12_lengthOf 92 = .ok (.iload_n 1, 1) := by decide +kernel
theorem dX12_lengthOf_93 : decode cX12_lengthOf 93 = .ok (.iload 11, 2) := by decide +kernel
theorem dX12_lengthOf_95 : decode cX12_lengthOf 95 = .ok (.invokevirtual 205, 3) := by decide +kernel
theorem dX12_lengthOf_98 : decode cX12_lengthOf 98 = .ok (.aload_n 0, 1) := by decide +kernel
theorem dX12_lengthOf_99 : decode cX12_lengthOf 99 = .ok (.lload 12, 2) := by decide +kernel
theorem dX12_lengthOf_101 : decode cX12_lengthOf 101 = .ok (.lload 14, 2) := by decide +kernel
theorem dX12_lengthOf_103 : decode cX12_lengthOf 103 = .ok (.aload_n 0, 1) := by decide +kernel
theorem dX12_lengthOf_104 : decode cX12_lengthOf 104 = .ok (.getfield 162, 3) := by decide +kernel
theorem dX12_lengthOf_107 : decode cX12_lengthOf 107 = .ok (.aload_n 0, 1) := by decide +kernel
theorem dX12_lengthOf_108 : decode cX12_lengthOf 108 = .ok (.getfield 166, 3) := by decide +kernel
theorem dX12_lengthOf_111 : decode cX12_lengthOf 111 = .ok (.invokevirtual 183, 3) := by decide +kernel
theorem dX12_lengthOf_114 : decode cX12_lengthOf 114 = .ok (.aload_n 0, 1) := by decide +kernel
theorem dX12_lengthOf_115 : decode cX12_lengthOf 115 = .ok (.lload 7, 2) := by decide +kernel
theorem dX12_lengthOf_117 : decode cX12_lengthOf 117 = .ok (.lload 9, 2) := by decide +kernel
theorem dX12_lengthOf_119 : decode cX12_lengthOf 119 = .ok (.aload_n 0, 1) := by decide +kernel
theorem dX12_lengthOf_120 : decode cX12_lengthOf 120 = .ok (.getfield 162, 3) := by decide +kernel
theorem dX12_lengthOf_123 : decode cX12_lengthOf 123 = .ok (.aload_n 0, 1) := by decide +kernel
theorem dX12_lengthOf_124 : decode cX12_lengthOf 124 = .ok (.getfield 166, 3) := by decide +kernel
theorem dX12_lengthOf_127 : decode cX12_lengthOf 127 = .ok (.invokevirtual 209, 3) := by decide +kernel
theorem dX12_lengthOf_130 : decode cX12_lengthOf 130 = .ok (.aload_n 0, 1) := by decide +kernel
theorem dX12_lengthOf_131 : decode cX12_lengthOf 131 = .ok (.getfield 162, 3) := by decide +kernel
theorem dX12_lengthOf_134 : decode cX12_lengthOf 134 = .ok (.lstore 7, 2) := by decide +kernel
theorem dX12_lengthOf_136 : decode cX12_lengthOf 136 = .ok (.aload_n 0, 1) := by decide +kernel
theorem dX12_lengthOf_137 : decode cX12_lengthOf 137 = .ok (.getfield 166, 3) := by decide +kernel
theorem dX12_lengthOf_140 : decode cX12_lengthOf 140 = .ok (.lstore 9, 2) := by decide +kernel
theorem dX12_lengthOf_142 : decode cX12_lengthOf 142 = .ok (.iinc 11 1, 3) := by decide +kernel
theorem dX12_lengthOf_145 : decode cX12_lengthOf 145 = .ok (.goto (-136), 3) := by decide +kernel
theorem dX12_lengthOf_148 : decode cX12_lengthOf 148 = .ok (.aload_n 0, 1) := by decide +kernel
theorem dX12_lengthOf_149 : decode cX12_lengthOf 149 = .ok (.iload_n 1, 1) := by decide +kernel
theorem dX12_lengthOf_150 : decode cX12_lengthOf 150 = .ok (.invokevirtual 215, 3) := by decide +kernel
theorem dX12_lengthOf_153 : decode cX12_lengthOf 153 = .ok (.aload_n 0, 1) := by decide +kernel
theorem dX12_lengthOf_154 : decode cX12_lengthOf 154 = .ok (.lload 7, 2) := by decide +kernel
theorem dX12_lengthOf_156 : decode cX12_lengthOf 156 = .ok (.lload 9, 2) := by decide +kernel
theorem dX12_lengthOf_158 : decode cX12_lengthOf 158 = .ok (.aload_n 0, 1) := by decide +kernel
theorem dX12_lengthOf_159 : decode cX12_lengthOf 159 = .ok (.getfield 162, 3) := by decide +kernel
theorem dX12_lengthOf_162 : decode cX12_lengthOf 162 = .ok (.aload_n 0, 1) := by decide +kernel
theorem dX12_lengthOf_163 : decode cX12_lengthOf 163 = .ok (.getfield 166, 3) := by decide +kernel
theorem dX12_lengthOf_166 : decode cX12_lengthOf 166 = .ok (.invokevirtual 195, 3) := by decide +kernel
theorem dX12_lengthOf_169 : decode cX12_lengthOf 169 = .ok (.return_, 1) := by decide +kernel
theorem dX12_length_0 : decode cX12_length 0 = .ok (.aload_n 0, 1) := by decide +kernel
theorem dX12_length_1 : decode cX12_length 1 = .ok (.iload_n 1, 1) := by decide +kernel
theorem dX12_length_2 : decode cX12_length 2 = .ok (.invokevirtual 212, 3) := by decide +kernel
theorem dX12_length_5 : decode cX12_length 5 = .ok (.ifCond .eq 21, 3) := by decide +kernel
theorem dX12_length_8 : decode cX12_length 8 = .ok (.iload_n 2, 1) := by decide +kernel
theorem dX12_length_9 : decode cX12_length 9 = .ok (.iconst 0, 1) := by decide +kernel
theorem dX12_length_10 : decode cX12_length 10 = .ok (.iconst 1, 1) := by decide +kernel
theorem dX12_length_11 : decode cX12_length 11 = .ok (.invokestatic 79, 3) := by decide +kernel
theorem dX12_length_14 : decode cX12_length 14 = .ok (.ifCond .eq 12, 3) := by decide +kernel
theorem dX12_length_17 : decode cX12_length 17 = .ok (.iload_n 3, 1) := by decide +kernel
theorem dX12_length_18 : decode cX12_length 18 = .ok (.iconst 0, 1) := by decide +kernel
theorem dX12_length_19 : decode cX12_length 19 = .ok (.iconst 1, 1) := by decide +kernel
theorem dX12_length_20 : decode cX12_length 20 = .ok (.invokestatic 79, 3) := by decide +kernel
theorem dX12_length_23 : decode cX12_length 23 = .ok (.ifCond .ne 7, 3) := by decide +kernel
theorem dX12_length_26 : decode cX12_length 26 = .ok (.ldc2_w 150, 3) := by decide +kernel
theorem dX12_length_29 : decode cX12_length 29 = .ok (.lreturn, 1) := by decide +kernel
theorem dX12_length_30 : decode cX12_length 30 = .ok (.aload_n 0, 1) := by decide +kernel
theorem dX12_length_31 : decode cX12_length 31 = .ok (.iconst 0, 1) := by decide +kernel
theorem dX12_length_32 : decode cX12_length 32 = .ok (.putfield 152, 3) := by decide +kernel
theorem dX12_length_35 : decode cX12_length 35 = .ok (.aload_n 0, 1) := by decide +kernel
theorem dX12_length_36 : decode cX12_length 36 = .ok (.iload_n 1, 1) := by decide +kernel
theorem dX12_length_37 : decode cX12_length 37 = .ok (.invokevirtual 215, 3) := by decide +kernel
theorem dX12_length_40 : decode cX12_length 40 = .ok (.aload_n 0, 1) := by decide +kernel
theorem dX12_length_41 : decode cX12_length 41 = .ok (.getfield 152, 3) := by decide +kernel
theorem dX12_length_44 : decode cX12_length 44 = .ok (.ifCond .ne 12, 3) := by decide +kernel
theorem dX12_length_47 : decode cX12_length 47 = .ok (.aload_n 0, 1) := by decide +kernel
theorem dX12_length_48 : decode cX12_length 48 = .ok (.getfield 162, 3) := by decide +kernel
theorem dX12_length_51 : decode cX12_length 51 = .ok (.lconst 0, 1) := by decide +kernel
theorem dX12_length_52 : decode cX12_length 52 = .ok (.lcmp, 1) := by decide +kernel
theorem dX12_length_53 : decode cX12_length 53 = .ok (.ifCond .ne 7, 3) := by decide +kernel
theorem dX12_length_56 : decode cX12_length 56 = .ok (.ldc2_w 150, 3) := by decide +kernel
theorem dX12_length_59 : decode cX12_length 59 = .ok (.lreturn, 1) := by decide +kernel
theorem dX12_length_60 : decode cX12_length 60 = .ok (.aload_n 0, 1) := by decide +kernel
theorem dX12_length_61 : decode cX12_length 61 = .ok (.iload_n 1, 1) := by decide +kernel
theorem dX12_length_62 : decode cX12_length 62 = .ok (.iconst 0, 1) := by decide +kernel
theorem dX12_length_63 : decode cX12_length 63 = .ok (.lconst 0, 1) := by decide +kernel
theorem dX12_length_64 : decode cX12_length 64 = .ok (.lconst 1, 1) := by decide +kernel
theorem dX12_length_65 : decode cX12_length 65 = .ok (.invokevirtual 224, 3) := by decide +kernel
theorem dX12_length_68 : decode cX12_length 68 = .ok (.iload_n 2, 1) := by decide +kernel
theorem dX12_length_69 : decode cX12_length 69 = .ok (.iconst 1, 1) := by decide +kernel
theorem dX12_length_70 : decode cX12_length 70 = .ok (.if_icmp .ne 17, 3) := by decide +kernel
theorem dX12_length_73 : decode cX12_length 73 = .ok (.aload_n 0, 1) := by decide +kernel
theorem dX12_length_74 : decode cX12_length 74 = .ok (.iload_n 1, 1) := by decide +kernel
theorem dX12_length_75 : decode cX12_length 75 = .ok (.iconst 1, 1) := by decide +kernel
theorem dX12_length_76 : decode cX12_length 76 = .ok (.aload_n 0, 1) := by decide +kernel
theorem dX12_length_77 : decode cX12_length 77 = .ok (.getfield 162, 3) := by decide +kernel
theorem dX12_length_80 : decode cX12_length 80 = .ok (.aload_n 0, 1) := by decide +kernel
theorem dX12_length_81 : decode cX12_length 81 = .ok (.getfield 166, 3) := by decide +kernel
theorem dX12_length_84 : decode cX12_length 84 = .ok (.invokevirtual 224, 3) := by decide +kernel
theorem dX12_length_87 : decode cX12_length 87 = .ok (.aload_n 0, 1) := by decide +kernel
theorem dX12_length_88 : decode cX12_length 88 = .ok (.iload_n 3, 1) := by decide +kernel
theorem dX12_length_89 : decode cX12_length 89 = .ok (.invokevirtual 218, 3) := by decide +kernel
theorem dX12_length_92 : decode cX12_length 92 = .ok (.lreturn, 1) := by decide +kernel
theorem dX12_surplus_0 : decode cX12_surplus 0 = .ok (.iload_n 1, 1) := by decide +kernel
theorem dX12_surplus_1 : decode cX12_surplus 1 = .ok (.iconst 0, 1) := by decide +kernel
theorem dX12_surplus_2 : decode cX12_surplus 2 = .ok (.iconst 1, 1) := by decide +kernel
theorem dX12_surplus_3 : decode cX12_surplus 3 = .ok (.invokestatic 79, 3) := by decide +kernel
theorem dX12_surplus_6 : decode cX12_surplus 6 = .ok (.ifCond .ne 7, 3) := by decide +kernel
theorem dX12_surplus_9 : decode cX12_surplus 9 = .ok (.ldc2_w 150, 3) := by decide +kernel
theorem dX12_surplus_12 : decode cX12_surplus 12 = .ok (.lreturn, 1) := by decide +kernel
theorem dX12_surplus_13 : decode cX12_surplus 13 = .ok (.aload_n 0, 1) := by decide +kernel
theorem dX12_surplus_14 : decode cX12_surplus 14 = .ok (.iconst 0, 1) := by decide +kernel
theorem dX12_surplus_15 : decode cX12_surplus 15 = .ok (.putfield 152, 3) := by decide +kernel
theorem dX12_surplus_18 : decode cX12_surplus 18 = .ok (.aload_n 0, 1) := by decide +kernel
theorem dX12_surplus_19 : decode cX12_surplus 19 = .ok (.iconst (-1), 1) := by decide +kernel
theorem dX12_surplus_20 : decode cX12_surplus 20 = .ok (.invokevirtual 215, 3) := by decide +kernel
theorem dX12_surplus_23 : decode cX12_surplus 23 = .ok (.aload_n 0, 1) := by decide +kernel
theorem dX12_surplus_24 : decode cX12_surplus 24 = .ok (.aload_n 0, 1) := by decide +kernel
theorem dX12_surplus_25 : decode cX12_surplus 25 = .ok (.getfield 162, 3) := by decide +kernel
theorem dX12_surplus_28 : decode cX12_surplus 28 = .ok (.aload_n 0, 1) := by decide +kernel
theorem dX12_surplus_29 : decode cX12_surplus 29 = .ok (.getfield 166, 3) := by decide +kernel
theorem dX12_surplus_32 : decode cX12_surplus 32 = .ok (.ldc2_w 222, 3) := by decide +kernel
theorem dX12_surplus_35 : decode cX12_surplus 35 = .ok (.lconst 1, 1) := by decide +kernel
theorem dX12_surplus_36 : decode cX12_surplus 36 = .ok (.invokevirtual 183, 3) := by decide +kernel
theorem dX12_surplus_39 : decode cX12_surplus 39 = .ok (.aload_n 0, 1) := by decide +kernel
theorem dX12_surplus_40 : decode cX12_surplus 40 = .ok (.getfield 162, 3) := by decide +kernel
theorem dX12_surplus_43 : decode cX12_surplus 43 = .ok (.lstore_n 2, 1) := by decide +kernel
theorem dX12_surplus_44 : decode cX12_surplus 44 = .ok (.aload_n 0, 1) := by decide +kernel
theorem dX12_surplus_45 : decode cX12_surplus 45 = .ok (.getfield 166, 3) := by decide +kernel
theorem dX12_surplus_48 : decode cX12_surplus 48 = .ok (.lstore 4, 2) := by decide +kernel
theorem dX12_surplus_50 : decode cX12_surplus 50 = .ok (.aload_n 0, 1) := by decide +kernel
theorem dX12_surplus_51 : decode cX12_surplus 51 = .ok (.bipush (-2), 2) := by decide +kernel
theorem dX12_surplus_53 : decode cX12_surplus 53 = .ok (.invokevirtual 215, 3) := by decide +kernel
theorem dX12_surplus_56 : decode cX12_surplus 56 = .ok (.aload_n 0, 1) := by decide +kernel
theorem dX12_surplus_57 : decode cX12_surplus 57 = .ok (.aload_n 0, 1) := by decide +kernel
theorem dX12_surplus_58 : decode cX12_surplus 58 = .ok (.getfield 162, 3) := by decide +kernel
theorem dX12_surplus_61 : decode cX12_surplus 61 = .ok (.aload_n 0, 1) := by decide +kernel
theorem dX12_surplus_62 : decode cX12_surplus 62 = .ok (.getfield 166, 3) := by decide +kernel
theorem dX12_surplus_65 : decode cX12_surplus 65 = .ok (.lload_n 2, 1) := by decide +kernel
theorem dX12_surplus_66 : decode cX12_surplus 66 = .ok (.lload 4, 2) := by decide +kernel
theorem dX12_surplus_68 : decode cX12_surplus 68 = .ok (.invokevirtual 209, 3) := by decide +kernel
theorem dX12_surplus_71 : decode cX12_surplus 71 = .ok (.aload_n 0, 1) := by decide +kernel
theorem dX12_surplus_72 : decode cX12_surplus 72 = .ok (.iload_n 1, 1) := by decide +kernel
theorem dX12_surplus_73 : decode cX12_surplus 73 = .ok (.invokevirtual 218, 3) := by decide +kernel
theorem dX12_surplus_76 : decode cX12_surplus 76 = .ok (.lreturn, 1) := by decide +kernel
theorem dX12_isRoom_0 : decode cX12_isRoom 0 = .ok (.iload_n 1, 1) := by decide +kernel
theorem dX12_isRoom_1 : decode cX12_isRoom 1 = .ok (.aload_n 0, 1) := by decide +kernel
theorem dX12_isRoom_2 : decode cX12_isRoom 2 = .ok (.getfield 83, 3) := by decide +kernel
theorem dX12_isRoom_5 : decode cX12_isRoom 5 = .ok (.iconst 1, 1) := by decide +kernel
theorem dX12_isRoom_6 : decode cX12_isRoom 6 = .ok (.isub, 1) := by decide +kernel
theorem dX12_isRoom_7 : decode cX12_isRoom 7 = .ok (.if_icmp .ge 21, 3) := by decide +kernel
theorem dX12_isRoom_10 : decode cX12_isRoom 10 = .ok (.aload_n 0, 1) := by decide +kernel
theorem dX12_isRoom_11 : decode cX12_isRoom 11 = .ok (.getfield 18, 3) := by decide +kernel
theorem dX12_isRoom_14 : decode cX12_isRoom 14 = .ok (.aload_n 0, 1) := by decide +kernel
theorem dX12_isRoom_15 : decode cX12_isRoom 15 = .ok (.getfield 24, 3) := by decide +kernel
theorem dX12_isRoom_18 : decode cX12_isRoom 18 = .ok (.iload_n 1, 1) := by decide +kernel
theorem dX12_isRoom_19 : decode cX12_isRoom 19 = .ok (.iaload, 1) := by decide +kernel
theorem dX12_isRoom_20 : decode cX12_isRoom 20 = .ok (.iaload, 1) := by decide +kernel
theorem dX12_isRoom_21 : decode cX12_isRoom 21 = .ok (.ifCond .le 7, 3) := by decide +kernel
theorem dX12_isRoom_24 : decode cX12_isRoom 24 = .ok (.iconst 1, 1) := by decide +kernel
theorem dX12_isRoom_25 : decode cX12_isRoom 25 = .ok (.goto 4, 3) := by decide +kernel
theorem dX12_isRoom_28 : decode cX12_isRoom 28 = .ok (.iconst 0, 1) := by decide +kernel
theorem dX12_isRoom_29 : decode cX12_isRoom 29 = .ok (.ireturn, 1) := by decide +kernel
theorem dX12_comes_0 : decode cX12_comes 0 = .ok (.aload_n 0, 1) := by decide +kernel
theorem dX12_comes_1 : decode cX12_comes 1 = .ok (.getfield 30, 3) := by decide +kernel
theorem dX12_comes_4 : decode cX12_comes 4 = .ok (.aload_n 0, 1) := by decide +kernel
theorem dX12_comes_5 : decode cX12_comes 5 = .ok (.getfield 228, 3) := by decide +kernel
theorem dX12_comes_8 : decode cX12_comes 8 = .ok (.iload_n 1, 1) := by decide +kernel
theorem dX12_comes_9 : decode cX12_comes 9 = .ok (.iastore, 1) := by decide +kernel
theorem dX12_comes_10 : decode cX12_comes 10 = .ok (.iconst 0, 1) := by decide +kernel
theorem dX12_comes_11 : decode cX12_comes 11 = .ok (.istore 5, 2) := by decide +kernel
theorem dX12_comes_13 : decode cX12_comes 13 = .ok (.iload 5, 2) := by decide +kernel
theorem dX12_comes_15 : decode cX12_comes 15 = .ok (.aload_n 0, 1) := by decide +kernel
theorem dX12_comes_16 : decode cX12_comes 16 = .ok (.getfield 87, 3) := by decide +kernel
theorem dX12_comes_19 : decode cX12_comes 19 = .ok (.if_icmp .gt 152, 3) := by decide +kernel
theorem dX12_comes_22 : decode cX12_comes 22 = .ok (.aload_n 0, 1) := by decide +kernel
theorem dX12_comes_23 : decode cX12_comes 23 = .ok (.aload_n 0, 1) := by decide +kernel
theorem dX12_comes_24 : decode cX12_comes 24 = .ok (.getfield 49, 3) := by decide +kernel
theorem dX12_comes_27 : decode cX12_comes 27 = .ok (.iload 5, 2) := by decide +kernel
theorem dX12_comes_29 : decode cX12_comes 29 = .ok (.laload, 1) := by decide +kernel
theorem dX12_comes_30 : decode cX12_comes 30 = .ok (.putfield 162, 3) := by decide +kernel
theorem dX12_comes_33 : decode cX12_comes 33 = .ok (.aload_n 0, 1) := by decide +kernel
theorem dX12_comes_34 : decode cX12_comes 34 = .ok (.aload_n 0, 1) := by decide +kernel
theorem dX12_comes_35 : decode cX12_comes 35 = .ok (.getfield 52, 3) := by decide +kernel
theorem dX12_comes_38 : decode cX12_comes 38 = .ok (.iload 5, 2) := by decide +kernel
theorem dX12_comes_40 : decode cX12_comes 40 = .ok (.laload, 1) := by decide +kernel
theorem dX12_comes_41 : decode cX12_comes 41 = .ok (.putfield 166, 3) := by decide +kernel
theorem dX12_comes_44 : decode cX12_comes 44 = .ok (.iload_n 2, 1) := by decide +kernel
theorem dX12_comes_45 : decode cX12_comes 45 = .ok (.ifCond .eq 19, 3) := by decide +kernel
theorem dX12_comes_48 : decode cX12_comes 48 = .ok (.aload_n 0, 1) := by decide +kernel
theorem dX12_comes_49 : decode cX12_comes 49 = .ok (.aload_n 0, 1) := by decide +kernel
theorem dX12_comes_50 : decode cX12_comes 50 = .ok (.getfield 162, 3) := by decide +kernel
theorem dX12_comes_53 : decode cX12_comes 53 = .ok (.aload_n 0, 1) := by decide +kernel
theorem dX12_comes_54 : decode cX12_comes 54 = .ok (.getfield 166, 3) := by decide +kernel
theorem dX12_comes_57 : decode cX12_comes 57 = .ok (.ldc2_w 222, 3) := by decide +kernel
theorem dX12_comes_60 : decode cX12_comes 60 = .ok (.lconst 1, 1) := by decide +kernel
theorem dX12_comes_61 : decode cX12_comes 61 = .ok (.invokevirtual 183, 3) := by decide +kernel
theorem dX12_comes_64 : decode cX12_comes 64 = .ok (.iload_n 2, 1) := by decide +kernel
theorem dX12_comes_65 : decode cX12_comes 65 = .ok (.ifCond .eq 26, 3) := by decide +kernel
theorem dX12_comes_68 : decode cX12_comes 68 = .ok (.iload 5, 2) := by decide +kernel
theorem dX12_comes_70 : decode cX12_comes 70 = .ok (.aload_n 0, 1) := by decide +kernel
theorem dX12_comes_71 : decode cX12_comes 71 = .ok (.getfield 87, 3) := by decide +kernel
theorem dX12_comes_74 : decode cX12_comes 74 = .ok (.if_icmp .ne 17, 3) := by decide +kernel
theorem dX12_comes_77 : decode cX12_comes 77 = .ok (.aload_n 0, 1) := by decide +kernel
theorem dX12_comes_78 : decode cX12_comes 78 = .ok (.lload_n 3, 1) := by decide +kernel
theorem dX12_comes_79 : decode cX12_comes 79 = .ok (.lconst 1, 1) := by decide +kernel
theorem dX12_comes_80 : decode cX12_comes 80 = .ok (.aload_n 0, 1) := by decide +kernel
theorem dX12_comes_81 : decode cX12_comes 81 = .ok (.getfield 162, 3) := by decide +kernel
theorem dX12_comes_84 : decode cX12_comes 84 = .ok (.aload_n 0, 1) := by decide +kernel
theorem dX12_comes_85 : decode cX12_comes 85 = .ok (.getfield 166, 3) := by decide +kernel
theorem dX12_comes_88 : decode cX12_comes 88 = .ok (.invokevirtual 209, 3) := by decide +kernel
theorem dX12_comes_91 : decode cX12_comes 91 = .ok (.iload 5, 2) := by decide +kernel
theorem dX12_comes_93 : decode cX12_comes 93 = .ok (.aload_n 0, 1) := by decide +kernel
theorem dX12_comes_94 : decode cX12_comes 94 = .ok (.getfield 87, 3) := by decide +kernel
theorem dX12_comes_97 : decode cX12_comes 97 = .ok (.if_icmp .ne 32, 3) := by decide +kernel
theorem dX12_comes_100 : decode cX12_comes 100 = .ok (.aload_n 0, 1) := by decide +kernel
theorem dX12_comes_101 : decode cX12_comes 101 = .ok (.getfield 36, 3) := by decide +kernel
theorem dX12_comes_104 : decode cX12_comes 104 = .ok (.aload_n 0, 1) := by decide +kernel
theorem dX12_comes_105 : decode cX12_comes 105 = .ok (.getfield 228, 3) := by decide +kernel
theorem dX12_comes_108 : decode cX12_comes 108 = .ok (.aload_n 0, 1) := by decide +kernel
theorem dX12_comes_109 : decode cX12_comes 109 = .ok (.getfield 162, 3) := by decide +kernel
theorem dX12_comes_112 : decode cX12_comes 112 = .ok (.lastore, 1) := by decide +kernel
theorem dX12_comes_113 : decode cX12_comes 113 = .ok (.aload_n 0, 1) := by decide +kernel
theorem dX12_comes_114 : decode cX12_comes 114 = .ok (.getfield 40, 3) := by decide +kernel
theorem dX12_comes_117 : decode cX12_comes 117 = .ok (.aload_n 0, 1) := by decide +kernel
theorem dX12_comes_118 : decode cX12_comes 118 = .ok (.getfield 228, 3) := by decide +kernel
theorem dX12_comes_121 : decode cX12_comes 121 = .ok (.aload_n 0, 1) := by decide +kernel
theorem dX12_comes_122 : decode cX12_comes 122 = .ok (.getfield 166, 3) := by decide +kernel
theorem dX12_comes_125 : decode cX12_comes 125 = .ok (.lastore, 1) := by decide +kernel
theorem dX12_comes_126 : decode cX12_comes 126 = .ok (.goto 39, 3) := by decide +kernel
theorem dX12_comes_129 : decode cX12_comes 129 = .ok (.aload_n 0, 1) := by decide +kernel
theorem dX12_comes_130 : decode cX12_comes 130 = .ok (.getfield 43, 3) := by decide +kernel
theorem dX12_comes_133 : decode cX12_comes 133 = .ok (.iconst 5, 1) := by decide +kernel
theorem dX12_comes_134 : decode cX12_comes 134 = .ok (.aload_n 0, 1) := by decide +kernel
theorem dX12_comes_135 : decode cX12_comes 135 = .ok (.getfield 228, 3) := by decide +kernel
theorem dX12_comes_138 : decode cX12_comes 138 = .ok (.imul, 1) := by decide +kernel
theorem dX12_comes_139 : decode cX12_comes 139 = .ok (.iload 5, 2) := by decide +kernel
theorem dX12_comes_141 : decode cX12_comes 141 = .ok (.iadd, 1) := by decide +kernel
theorem dX12_comes_142 : decode cX12_comes 142 = .ok (.aload_n 0, 1) := by decide +kernel
theorem dX12_comes_143 : decode cX12_comes 143 = .ok (.getfield 162, 3) := by decide +kernel
theorem dX12_comes_146 : decode cX12_comes 146 = .ok (.lastore, 1) := by decide +kernel
theorem dX12_comes_147 : decode cX12_comes 147 = .ok (.aload_n 0, 1) := by decide +kernel
theorem dX12_comes_148 : decode cX12_comes 148 = .ok (.getfield 46, 3) := by decide +kernel
theorem dX12_comes_151 : decode cX12_comes 151 = .ok (.iconst 5, 1) := by decide +kernel
theorem dX12_comes_152 : decode cX12_comes 152 = .ok (.aload_n 0, 1) := by decide +kernel
theorem dX12_comes_153 : decode cX12_comes 153 = .ok (.getfield 228, 3) := by decide +kernel
theorem dX12_comes_156 : decode cX12_comes 156 = .ok (.imul, 1) := by decide +kernel
theorem dX12_comes_157 : decode cX12_comes 157 = .ok (.iload 5, 2) := by decide +kernel
theorem dX12_comes_159 : decode cX12_comes 159 = .ok (.iadd, 1) := by decide +kernel
theorem dX12_comes_160 : decode cX12_comes 160 = .ok (.aload_n 0, 1) := by decide +kernel
theorem dX12_comes_161 : decode cX12_comes 161 = .ok (.getfield 166, 3) := by decide +kernel
theorem dX12_comes_164 : decode cX12_comes 164 = .ok (.lastore, 1) := by decide +kernel
theorem dX12_comes_165 : decode cX12_comes 165 = .ok (.iinc 5 1, 3) := by decide +kernel
theorem dX12_comes_168 : decode cX12_comes 168 = .ok (.goto (-155), 3) := by decide +kernel
theorem dX12_comes_171 : decode cX12_comes 171 = .ok (.aload_n 0, 1) := by decide +kernel
theorem dX12_comes_172 : decode cX12_comes 172 = .ok (.dup, 1) := by decide +kernel
theorem dX12_comes_173 : decode cX12_comes 173 = .ok (.getfield 228, 3) := by decide +kernel
theorem dX12_comes_176 : decode cX12_comes 176 = .ok (.iconst 1, 1) := by decide +kernel
theorem dX12_comes_177 : decode cX12_comes 177 = .ok (.iadd, 1) := by decide +kernel
theorem dX12_comes_178 : decode cX12_comes 178 = .ok (.putfield 228, 3) := by decide +kernel
theorem dX12_comes_181 : decode cX12_comes 181 = .ok (.return_, 1) := by decide +kernel
theorem dX12_begins_0 : decode cX12_begins 0 = .ok (.aload_n 0, 1) := by decide +kernel
theorem dX12_begins_1 : decode cX12_begins 1 = .ok (.iconst 0, 1) := by decide +kernel
theorem dX12_begins_2 : decode cX12_begins 2 = .ok (.putfield 228, 3) := by decide +kernel
theorem dX12_begins_5 : decode cX12_begins 5 = .ok (.iconst 0, 1) := by decide +kernel
theorem dX12_begins_6 : decode cX12_begins 6 = .ok (.istore_n 1, 1) := by decide +kernel
theorem dX12_begins_7 : decode cX12_begins 7 = .ok (.iload_n 1, 1) := by decide +kernel
theorem dX12_begins_8 : decode cX12_begins 8 = .ok (.aload_n 0, 1) := by decide +kernel
theorem dX12_begins_9 : decode cX12_begins 9 = .ok (.getfield 87, 3) := by decide +kernel
theorem dX12_begins_12 : decode cX12_begins 12 = .ok (.if_icmp .gt 23, 3) := by decide +kernel
theorem dX12_begins_15 : decode cX12_begins 15 = .ok (.aload_n 0, 1) := by decide +kernel
theorem dX12_begins_16 : decode cX12_begins 16 = .ok (.getfield 49, 3) := by decide +kernel
theorem dX12_begins_19 : decode cX12_begins 19 = .ok (.iload_n 1, 1) := by decide +kernel
theorem dX12_begins_20 : decode cX12_begins 20 = .ok (.lconst 0, 1) := by decide +kernel
theorem dX12_begins_21 : decode cX12_begins 21 = .ok (.lastore, 1) := by decide +kernel
theorem dX12_begins_22 : decode cX12_begins 22 = .ok (.aload_n 0, 1) := by decide +kernel
theorem dX12_begins_23 : decode cX12_begins 23 = .ok (.getfield 52, 3) := by decide +kernel
theorem dX12_begins_26 : decode cX12_begins 26 = .ok (.iload_n 1, 1) := by decide +kernel
theorem dX12_begins_27 : decode cX12_begins 27 = .ok (.lconst 1, 1) := by decide +kernel
theorem dX12_begins_28 : decode cX12_begins 28 = .ok (.lastore, 1) := by decide +kernel
theorem dX12_begins_29 : decode cX12_begins 29 = .ok (.iinc 1 1, 3) := by decide +kernel
theorem dX12_begins_32 : decode cX12_begins 32 = .ok (.goto (-25), 3) := by decide +kernel
theorem dX12_begins_35 : decode cX12_begins 35 = .ok (.iconst 0, 1) := by decide +kernel
theorem dX12_begins_36 : decode cX12_begins 36 = .ok (.istore_n 1, 1) := by decide +kernel
theorem dX12_begins_37 : decode cX12_begins 37 = .ok (.iload_n 1, 1) := by decide +kernel
theorem dX12_begins_38 : decode cX12_begins 38 = .ok (.aload_n 0, 1) := by decide +kernel
theorem dX12_begins_39 : decode cX12_begins 39 = .ok (.getfield 83, 3) := by decide +kernel
theorem dX12_begins_42 : decode cX12_begins 42 = .ok (.if_icmp .ge 160, 3) := by decide +kernel
theorem dX12_begins_45 : decode cX12_begins 45 = .ok (.iconst 0, 1) := by decide +kernel
theorem dX12_begins_46 : decode cX12_begins 46 = .ok (.istore_n 2, 1) := by decide +kernel
theorem dX12_begins_47 : decode cX12_begins 47 = .ok (.iload_n 2, 1) := by decide +kernel
theorem dX12_begins_48 : decode cX12_begins 48 = .ok (.aload_n 0, 1) := by decide +kernel
theorem dX12_begins_49 : decode cX12_begins 49 = .ok (.getfield 87, 3) := by decide +kernel
theorem dX12_begins_52 : decode cX12_begins 52 = .ok (.if_icmp .gt 103, 3) := by decide +kernel
theorem dX12_begins_55 : decode cX12_begins 55 = .ok (.aload_n 0, 1) := by decide +kernel
theorem dX12_begins_56 : decode cX12_begins 56 = .ok (.aload_n 0, 1) := by decide +kernel
theorem dX12_begins_57 : decode cX12_begins 57 = .ok (.getfield 49, 3) := by decide +kernel
theorem dX12_begins_60 : decode cX12_begins 60 = .ok (.iload_n 2, 1) := by decide +kernel
theorem dX12_begins_61 : decode cX12_begins 61 = .ok (.laload, 1) := by decide +kernel
theorem dX12_begins_62 : decode cX12_begins 62 = .ok (.putfield 162, 3) := by decide +kernel
theorem dX12_begins_65 : decode cX12_begins 65 = .ok (.aload_n 0, 1) := by decide +kernel
theorem dX12_begins_66 : decode cX12_begins 66 = .ok (.aload_n 0, 1) := by decide +kernel
theorem dX12_begins_67 : decode cX12_begins 67 = .ok (.getfield 52, 3) := by decide +kernel
theorem dX12_begins_70 : decode cX12_begins 70 = .ok (.iload_n 2, 1) := by decide +kernel
theorem dX12_begins_71 : decode cX12_begins 71 = .ok (.laload, 1) := by decide +kernel
theorem dX12_begins_72 : decode cX12_begins 72 = .ok (.putfield 166, 3) := by decide +kernel
theorem dX12_begins_75 : decode cX12_begins 75 = .ok (.iload_n 1, 1) := by decide +kernel
theorem dX12_begins_76 : decode cX12_begins 76 = .ok (.ifCond .le 9, 3) := by decide +kernel
theorem dX12_begins_79 : decode cX12_begins 79 = .ok (.aload_n 0, 1) := by decide +kernel
theorem dX12_begins_80 : decode cX12_begins 80 = .ok (.iload_n 1, 1) := by decide +kernel
theorem dX12_begins_81 : decode cX12_begins 81 = .ok (.iconst 0, 1) := by decide +kernel
theorem dX12_begins_82 : decode cX12_begins 82 = .ok (.invokevirtual 201, 3) := by decide +kernel
theorem dX12_begins_85 : decode cX12_begins 85 = .ok (.aload_n 0, 1) := by decide +kernel
theorem dX12_begins_86 : decode cX12_begins 86 = .ok (.aload_n 0, 1) := by decide +kernel
theorem dX12_begins_87 : decode cX12_begins 87 = .ok (.getfield 162, 3) := by decide +kernel
theorem dX12_begins_90 : decode cX12_begins 90 = .ok (.aload_n 0, 1) := by decide +kernel
theorem dX12_begins_91 : decode cX12_begins 91 = .ok (.getfield 166, 3) := by decide +kernel
theorem dX12_begins_94 : decode cX12_begins 94 = .ok (.iload_n 2, 1) := by decide +kernel
theorem dX12_begins_95 : decode cX12_begins 95 = .ok (.aload_n 0, 1) := by decide +kernel
theorem dX12_begins_96 : decode cX12_begins 96 = .ok (.getfield 87, 3) := by decide +kernel
theorem dX12_begins_99 : decode cX12_begins 99 = .ok (.if_icmp .ne 19, 3) := by decide +kernel
theorem dX12_begins_102 : decode cX12_begins 102 = .ok (.aload_n 0, 1) := by decide +kernel
theorem dX12_begins_103 : decode cX12_begins 103 = .ok (.getfield 9, 3) := by decide +kernel
theorem dX12_begins_106 : decode cX12_begins 106 = .ok (.aload_n 0, 1) := by decide +kernel
theorem dX12_begins_107 : decode cX12_begins 107 = .ok (.getfield 24, 3) := by decide +kernel
theorem dX12_begins_110 : decode cX12_begins 110 = .ok (.iload_n 1, 1) := by decide +kernel
theorem dX12_begins_111 : decode cX12_begins 111 = .ok (.iaload, 1) := by decide +kernel
theorem dX12_begins_112 : decode cX12_begins 112 = .ok (.iaload, 1) := by decide +kernel
theorem dX12_begins_113 : decode cX12_begins 113 = .ok (.ineg, 1) := by decide +kernel
theorem dX12_begins_114 : decode cX12_begins 114 = .ok (.i2l, 1) := by decide +kernel
theorem dX12_begins_115 : decode cX12_begins 115 = .ok (.goto 10, 3) := by decide +kernel
theorem dX12_begins_118 : decode cX12_begins 118 = .ok (.aload_n 0, 1) := by decide +kernel
theorem dX12_begins_119 : decode cX12_begins 119 = .ok (.iload_n 2, 1) := by decide +kernel
theorem dX12_begins_120 : decode cX12_begins 120 = .ok (.iload_n 1, 1) := by decide +kernel
theorem dX12_begins_121 : decode cX12_begins 121 = .ok (.invokevirtual 131, 3) := by decide +kernel
theorem dX12_begins_124 : decode cX12_begins 124 = .ok (.i2l, 1) := by decide +kernel
theorem dX12_begins_125 : decode cX12_begins 125 = .ok (.lconst 1, 1) := by decide +kernel
theorem dX12_begins_126 : decode cX12_begins 126 = .ok (.invokevirtual 209, 3) := by decide +kernel
theorem dX12_begins_129 : decode cX12_begins 129 = .ok (.aload_n 0, 1) := by decide +kernel
theorem dX12_begins_130 : decode cX12_begins 130 = .ok (.getfield 49, 3) := by decide +kernel
theorem dX12_begins_133 : decode cX12_begins 133 = .ok (.iload_n 2, 1) := by decide +kernel
theorem dX12_begins_134 : decode cX12_begins 134 = .ok (.aload_n 0, 1) := by decide +kernel
theorem dX12_begins_135 : decode cX12_begins 135 = .ok (.getfield 162, 3) := by decide +kernel
theorem dX12_begins_138 : decode cX12_begins 138 = .ok (.lastore, 1) := by decide +kernel
theorem dX12_begins_139 : decode cX12_begins 139 = .ok (.aload_n 0, 1) := by decide +kernel
theorem dX12_begins_140 : decode cX12_begins 140 = .ok (.getfield 52, 3) := by decide +kernel
theorem dX12_begins_143 : decode cX12_begins 143 = .ok (.iload_n 2, 1) := by decide +kernel
theorem dX12_begins_144 : decode cX12_begins 144 = .ok (.aload_n 0, 1) := by decide +kernel
theorem dX12_begins_145 : decode cX12_begins 145 = .ok (.getfield 166, 3) := by decide +kernel
theorem dX12_begins_148 : decode cX12_begins 148 = .ok (.lastore, 1) := by decide +kernel
theorem dX12_begins_149 : decode cX12_begins 149 = .ok (.iinc 2 1, 3) := by decide +kernel
theorem dX12_begins_152 : decode cX12_begins 152 = .ok (.goto (-105), 3) := by decide +kernel
theorem dX12_begins_155 : decode cX12_begins 155 = .ok (.aload_n 0, 1) := by decide +kernel
theorem dX12_begins_156 : decode cX12_begins 156 = .ok (.bipush 10, 2) := by decide +kernel
theorem dX12_begins_158 : decode cX12_begins 158 = .ok (.iload_n 1, 1) := by decide +kernel
theorem dX12_begins_159 : decode cX12_begins 159 = .ok (.iadd, 1) := by decide +kernel
theorem dX12_begins_160 : decode cX12_begins 160 = .ok (.iconst 0, 1) := by decide +kernel
theorem dX12_begins_161 : decode cX12_begins 161 = .ok (.lconst 0, 1) := by decide +kernel
theorem dX12_begins_162 : decode cX12_begins 162 = .ok (.invokevirtual 231, 3) := by decide +kernel
theorem dX12_begins_165 : decode cX12_begins 165 = .ok (.aload_n 0, 1) := by decide +kernel
theorem dX12_begins_166 : decode cX12_begins 166 = .ok (.iload_n 1, 1) := by decide +kernel
theorem dX12_begins_167 : decode cX12_begins 167 = .ok (.invokevirtual 235, 3) := by decide +kernel
theorem dX12_begins_170 : decode cX12_begins 170 = .ok (.ifCond .eq 26, 3) := by decide +kernel
theorem dX12_begins_173 : decode cX12_begins 173 = .ok (.aload_n 0, 1) := by decide +kernel
theorem dX12_begins_174 : decode cX12_begins 174 = .ok (.bipush 20, 2) := by decide +kernel
theorem dX12_begins_176 : decode cX12_begins 176 = .ok (.iload_n 1, 1) := by decide +kernel
theorem dX12_begins_177 : decode cX12_begins 177 = .ok (.iadd, 1) := by decide +kernel
theorem dX12_begins_178 : decode cX12_begins 178 = .ok (.iconst 1, 1) := by decide +kernel
theorem dX12_begins_179 : decode cX12_begins 179 = .ok (.aload_n 0, 1) := by decide +kernel
theorem dX12_begins_180 : decode cX12_begins 180 = .ok (.getfield 18, 3) := by decide +kernel
theorem dX12_begins_183 : decode cX12_begins 183 = .ok (.aload_n 0, 1) := by decide +kernel
theorem dX12_begins_184 : decode cX12_begins 184 = .ok (.getfield 24, 3) := by decide +kernel
theorem dX12_begins_187 : decode cX12_begins 187 = .ok (.iload_n 1, 1) := by decide +kernel
theorem dX12_begins_188 : decode cX12_begins 188 = .ok (.iaload, 1) := by decide +kernel
theorem dX12_begins_189 : decode cX12_begins 189 = .ok (.iaload, 1) := by decide +kernel
theorem dX12_begins_190 : decode cX12_begins 190 = .ok (.i2l, 1) := by decide +kernel
theorem dX12_begins_191 : decode cX12_begins 191 = .ok (.lconst 1, 1) := by decide +kernel
theorem dX12_begins_192 : decode cX12_begins 192 = .ok (.lsub, 1) := by decide +kernel
theorem dX12_begins_193 : decode cX12_begins 193 = .ok (.invokevirtual 231, 3) := by decide +kernel
theorem dX12_begins_196 : decode cX12_begins 196 = .ok (.iinc 1 1, 3) := by decide +kernel
theorem dX12_begins_199 : decode cX12_begins 199 = .ok (.goto (-162), 3) := by decide +kernel
theorem dX12_begins_202 : decode cX12_begins 202 = .ok (.aload_n 0, 1) := by decide +kernel
theorem dX12_begins_203 : decode cX12_begins 203 = .ok (.getfield 36, 3) := by decide +kernel
theorem dX12_begins_206 : decode cX12_begins 206 = .ok (.bipush 9, 2) := by decide +kernel
theorem dX12_begins_208 : decode cX12_begins 208 = .ok (.lconst 0, 1) := by decide +kernel
theorem dX12_begins_209 : decode cX12_begins 209 = .ok (.lastore, 1) := by decide +kernel
theorem dX12_begins_210 : decode cX12_begins 210 = .ok (.aload_n 0, 1) := by decide +kernel
theorem dX12_begins_211 : decode cX12_begins 211 = .ok (.getfield 40, 3) := by decide +kernel
theorem dX12_begins_214 : decode cX12_begins 214 = .ok (.bipush 9, 2) := by decide +kernel
theorem dX12_begins_216 : decode cX12_begins 216 = .ok (.lconst 1, 1) := by decide +kernel
theorem dX12_begins_217 : decode cX12_begins 217 = .ok (.lastore, 1) := by decide +kernel
theorem dX12_begins_218 : decode cX12_begins 218 = .ok (.iconst 0, 1) := by decide +kernel
theorem dX12_begins_219 : decode cX12_begins 219 = .ok (.istore_n 1, 1) := by decide +kernel
theorem dX12_begins_220 : decode cX12_begins 220 = .ok (.iload_n 1, 1) := by decide +kernel
theorem dX12_begins_221 : decode cX12_begins 221 = .ok (.aload_n 0, 1) := by decide +kernel
theorem dX12_begins_222 : decode cX12_begins 222 = .ok (.getfield 87, 3) := by decide +kernel
theorem dX12_begins_225 : decode cX12_begins 225 = .ok (.if_icmp .ge 42, 3) := by decide +kernel
theorem dX12_begins_228 : decode cX12_begins 228 = .ok (.aload_n 0, 1) := by decide +kernel
theorem dX12_begins_229 : decode cX12_begins 229 = .ok (.getfield 33, 3) := by decide +kernel
theorem dX12_begins_232 : decode cX12_begins 232 = .ok (.iload_n 1, 1) := by decide +kernel
theorem dX12_begins_233 : decode cX12_begins 233 = .ok (.iload_n 1, 1) := by decide +kernel
theorem dX12_begins_234 : decode cX12_begins 234 = .ok (.iastore, 1) := by decide +kernel
theorem dX12_begins_235 : decode cX12_begins 235 = .ok (.aload_n 0, 1) := by decide +kernel
theorem dX12_begins_236 : decode cX12_begins 236 = .ok (.getfield 43, 3) := by decide +kernel
theorem dX12_begins_239 : decode cX12_begins 239 = .ok (.bipush 45, 2) := by decide +kernel
theorem dX12_begins_241 : decode cX12_begins 241 = .ok (.iload_n 1, 1) := by decide +kernel
theorem dX12_begins_242 : decode cX12_begins 242 = .ok (.iadd, 1) := by decide +kernel
theorem dX12_begins_243 : decode cX12_begins 243 = .ok (.aload_n 0, 1) := by decide +kernel
theorem dX12_begins_244 : decode cX12_begins 244 = .ok (.iload_n 1, 1) := by decide +kernel
theorem dX12_begins_245 : decode cX12_begins 245 = .ok (.iconst 1, 1) := by decide +kernel
theorem dX12_begins_246 : decode cX12_begins 246 = .ok (.invokevirtual 118, 3) := by decide +kernel
theorem dX12_begins_249 : decode cX12_begins 249 = .ok (.i2l, 1) := by decide +kernel
theorem dX12_begins_250 : decode cX12_begins 250 = .ok (.lastore, 1) := by decide +kernel
theorem dX12_begins_251 : decode cX12_begins 251 = .ok (.aload_n 0, 1) := by decide +kernel
theorem dX12_begins_252 : decode cX12_begins 252 = .ok (.getfield 46, 3) := by decide +kernel
theorem dX12_begins_255 : decode cX12_begins 255 = .ok (.bipush 45, 2) := by decide +kernel
theorem dX12_begins_257 : decode cX12_begins 257 = .ok (.iload_n 1, 1) := by decide +kernel
theorem dX12_begins_258 : decode cX12_begins 258 = .ok (.iadd, 1) := by decide +kernel
theorem dX12_begins_259 : decode cX12_begins 259 = .ok (.lconst 1, 1) := by decide +kernel
theorem dX12_begins_260 : decode cX12_begins 260 = .ok (.lastore, 1) := by decide +kernel
theorem dX12_begins_261 : decode cX12_begins 261 = .ok (.iinc 1 1, 3) := by decide +kernel
theorem dX12_begins_264 : decode cX12_begins 264 = .ok (.goto (-44), 3) := by decide +kernel
theorem dX12_begins_267 : decode cX12_begins 267 = .ok (.return_, 1) := by decide +kernel
theorem dX12_leaves_0 : decode cX12_leaves 0 = .ok (.iconst (-1), 1) := by decide +kernel
theorem dX12_leaves_1 : decode cX12_leaves 1 = .ok (.istore_n 1, 1) := by decide +kernel
theorem dX12_leaves_2 : decode cX12_leaves 2 = .ok (.iconst 0, 1) := by decide +kernel
theorem dX12_leaves_3 : decode cX12_leaves 3 = .ok (.istore_n 2, 1) := by decide +kernel
theorem dX12_leaves_4 : decode cX12_leaves 4 = .ok (.iload_n 2, 1) := by decide +kernel
theorem dX12_leaves_5 : decode cX12_leaves 5 = .ok (.aload_n 0, 1) := by decide +kernel
theorem dX12_leaves_6 : decode cX12_leaves 6 = .ok (.getfield 228, 3) := by decide +kernel
theorem dX12_leaves_9 : decode cX12_leaves 9 = .ok (.if_icmp .ge 42, 3) := by decide +kernel
theorem dX12_leaves_12 : decode cX12_leaves 12 = .ok (.aload_n 0, 1) := by decide +kernel
theorem dX12_leaves_13 : decode cX12_leaves 13 = .ok (.getfield 36, 3) := by decide +kernel
theorem dX12_leaves_16 : decode cX12_leaves 16 = .ok (.iload_n 2, 1) := by decide +kernel
theorem dX12_leaves_17 : decode cX12_leaves 17 = .ok (.laload, 1) := by decide +kernel
theorem dX12_leaves_18 : decode cX12_leaves 18 = .ok (.lconst 0, 1) := by decide +kernel
theorem dX12_leaves_19 : decode cX12_leaves 19 = .ok (.lcmp, 1) := by decide +kernel
theorem dX12_leaves_20 : decode cX12_leaves 20 = .ok (.ifCond .ge 25, 3) := by decide +kernel
theorem dX12_leaves_23 : decode cX12_leaves 23 = .ok (.iload_n 1, 1) := by decide +kernel
theorem dX12_leaves_24 : decode cX12_leaves 24 = .ok (.iconst (-1), 1) := by decide +kernel
theorem dX12_leaves_25 : decode cX12_leaves 25 = .ok (.if_icmp .eq 18, 3) := by decide +kernel
theorem dX12_leaves_28 : decode cX12_leaves 28 = .ok (.aload_n 0, 1) := by decide +kernel
theorem dX12_leaves_29 : decode cX12_leaves 29 = .ok (.getfield 30, 3) := by decide +kernel
theorem dX12_leaves_32 : decode cX12_leaves 32 = .ok (.iload_n 2, 1) := by decide +kernel
theorem dX12_leaves_33 : decode cX12_leaves 33 = .ok (.iaload, 1) := by decide +kernel
theorem dX12_leaves_34 : decode cX12_leaves 34 = .ok (.aload_n 0, 1) := by decide +kernel
theorem dX12_leaves_35 : decode cX12_leaves 35 = .ok (.getfield 30, 3) := by decide +kernel
theorem dX12_leaves_38 : decode cX12_leaves 38 = .ok (.iload_n 1, 1) := by decide +kernel
theorem dX12_leaves_39 : decode cX12_leaves 39 = .ok (.iaload, 1) := by decide +kernel
theorem dX12_leaves_40 : decode cX12_leaves 40 = .ok (.if_icmp .ge 5, 3) := by decide +kernel
theorem dX12_leaves_43 : decode cX12_leaves 43 = .ok (.iload_n 2, 1) := by decide +kernel
theorem dX12_leaves_44 : decode cX12_leaves 44 = .ok (.istore_n 1, 1) := by decide +kernel
theorem dX12_leaves_45 : decode cX12_leaves 45 = .ok (.iinc 2 1, 3) := by decide +kernel
theorem dX12_leaves_48 : decode cX12_leaves 48 = .ok (.goto (-44), 3) := by decide +kernel
theorem dX12_leaves_51 : decode cX12_leaves 51 = .ok (.iload_n 1, 1) := by decide +kernel
theorem dX12_leaves_52 : decode cX12_leaves 52 = .ok (.ireturn, 1) := by decide +kernel
theorem dX12_enters_0 : decode cX12_enters 0 = .ok (.iconst (-1), 1) := by decide +kernel
theorem dX12_enters_1 : decode cX12_enters 1 = .ok (.istore_n 2, 1) := by decide +kernel
theorem dX12_enters_2 : decode cX12_enters 2 = .ok (.lconst 0, 1) := by decide +kernel
theorem dX12_enters_3 : decode cX12_enters 3 = .ok (.lstore_n 3, 1) := by decide +kernel
theorem dX12_enters_4 : decode cX12_enters 4 = .ok (.lconst 1, 1) := by decide +kernel
theorem dX12_enters_5 : decode cX12_enters 5 = .ok (.lstore 5, 2) := by decide +kernel
theorem dX12_enters_7 : decode cX12_enters 7 = .ok (.iconst 0, 1) := by decide +kernel
theorem dX12_enters_8 : decode cX12_enters 8 = .ok (.istore 7, 2) := by decide +kernel
theorem dX12_enters_10 : decode cX12_enters 10 = .ok (.iload 7, 2) := by decide +kernel
theorem dX12_enters_12 : decode cX12_enters 12 = .ok (.aload_n 0, 1) := by decide +kernel
theorem dX12_enters_13 : decode cX12_enters 13 = .ok (.getfield 87, 3) := by decide +kernel
theorem dX12_enters_16 : decode cX12_enters 16 = .ok (.if_icmp .ge 142, 3) := by decide +kernel
theorem dX12_enters_19 : decode cX12_enters 19 = .ok (.iconst 5, 1) := by decide +kernel
theorem dX12_enters_20 : decode cX12_enters 20 = .ok (.iload_n 1, 1) := by decide +kernel
theorem dX12_enters_21 : decode cX12_enters 21 = .ok (.imul, 1) := by decide +kernel
theorem dX12_enters_22 : decode cX12_enters 22 = .ok (.iload 7, 2) := by decide +kernel
theorem dX12_enters_24 : decode cX12_enters 24 = .ok (.iadd, 1) := by decide +kernel
theorem dX12_enters_25 : decode cX12_enters 25 = .ok (.istore 8, 2) := by decide +kernel
theorem dX12_enters_27 : decode cX12_enters 27 = .ok (.aload_n 0, 1) := by decide +kernel
theorem dX12_enters_28 : decode cX12_enters 28 = .ok (.getfield 43, 3) := by decide +kernel
theorem dX12_enters_31 : decode cX12_enters 31 = .ok (.iload 8, 2) := by decide +kernel
theorem dX12_enters_33 : decode cX12_enters 33 = .ok (.laload, 1) := by decide +kernel
theorem dX12_enters_34 : decode cX12_enters 34 = .ok (.lconst 0, 1) := by decide +kernel
theorem dX12_enters_35 : decode cX12_enters 35 = .ok (.lcmp, 1) := by decide +kernel
theorem dX12_enters_36 : decode cX12_enters 36 = .ok (.ifCond .gt 6, 3) := by decide +kernel
theorem dX12_enters_39 : decode cX12_enters 39 = .ok (.goto 113, 3) := by decide +kernel
theorem dX12_enters_42 : decode cX12_enters 42 = .ok (.aload_n 0, 1) := by decide +kernel
theorem dX12_enters_43 : decode cX12_enters 43 = .ok (.aload_n 0, 1) := by decide +kernel
theorem dX12_enters_44 : decode cX12_enters 44 = .ok (.getfield 43, 3) := by decide +kernel
theorem dX12_enters_47 : decode cX12_enters 47 = .ok (.bipush 45, 2) := by decide +kernel
theorem dX12_enters_49 : decode cX12_enters 49 = .ok (.iload 7, 2) := by decide +kernel
theorem dX12_enters_51 : decode cX12_enters 51 = .ok (.iadd, 1) := by decide +kernel
theorem dX12_enters_52 : decode cX12_enters 52 = .ok (.laload, 1) := by decide +kernel
theorem dX12_enters_53 : decode cX12_enters 53 = .ok (.aload_n 0, 1) := by decide +kernel
theorem dX12_enters_54 : decode cX12_enters 54 = .ok (.getfield 46, 3) := by decide +kernel
theorem dX12_enters_57 : decode cX12_enters 57 = .ok (.bipush 45, 2) := by decide +kernel
theorem dX12_enters_59 : decode cX12_enters 59 = .ok (.iload 7, 2) := by decide +kernel
theorem dX12_enters_61 : decode cX12_enters 61 = .ok (.iadd, 1) := by decide +kernel
theorem dX12_enters_62 : decode cX12_enters 62 = .ok (.laload, 1) := by decide +kernel
theorem dX12_enters_63 : decode cX12_enters 63 = .ok (.aload_n 0, 1) := by decide +kernel
theorem dX12_enters_64 : decode cX12_enters 64 = .ok (.getfield 43, 3) := by decide +kernel
theorem dX12_enters_67 : decode cX12_enters 67 = .ok (.iload 8, 2) := by decide +kernel
theorem dX12_enters_69 : decode cX12_enters 69 = .ok (.laload, 1) := by decide +kernel
theorem dX12_enters_70 : decode cX12_enters 70 = .ok (.aload_n 0, 1) := by decide +kernel
theorem dX12_enters_71 : decode cX12_enters 71 = .ok (.getfield 46, 3) := by decide +kernel
theorem dX12_enters_74 : decode cX12_enters 74 = .ok (.iload 8, 2) := by decide +kernel
theorem dX12_enters_76 : decode cX12_enters 76 = .ok (.laload, 1) := by decide +kernel
theorem dX12_enters_77 : decode cX12_enters 77 = .ok (.invokevirtual 195, 3) := by decide +kernel
theorem dX12_enters_80 : decode cX12_enters 80 = .ok (.iload_n 2, 1) := by decide +kernel
theorem dX12_enters_81 : decode cX12_enters 81 = .ok (.iconst (-1), 1) := by decide +kernel
theorem dX12_enters_82 : decode cX12_enters 82 = .ok (.if_icmp .eq 56, 3) := by decide +kernel
theorem dX12_enters_85 : decode cX12_enters 85 = .ok (.aload_n 0, 1) := by decide +kernel
theorem dX12_enters_86 : decode cX12_enters 86 = .ok (.getfield 162, 3) := by decide +kernel
theorem dX12_enters_89 : decode cX12_enters 89 = .ok (.aload_n 0, 1) := by decide +kernel
theorem dX12_enters_90 : decode cX12_enters 90 = .ok (.getfield 166, 3) := by decide +kernel
theorem dX12_enters_93 : decode cX12_enters 93 = .ok (.lload_n 3, 1) := by decide +kernel
theorem dX12_enters_94 : decode cX12_enters 94 = .ok (.lload 5, 2) := by decide +kernel
theorem dX12_enters_96 : decode cX12_enters 96 = .ok (.invokestatic 238, 3) := by decide +kernel
theorem dX12_enters_99 : decode cX12_enters 99 = .ok (.ifCond .ne 39, 3) := by decide +kernel
theorem dX12_enters_102 : decode cX12_enters 102 = .ok (.lload_n 3, 1) := by decide +kernel
theorem dX12_enters_103 : decode cX12_enters 103 = .ok (.lload 5, 2) := by decide +kernel
theorem dX12_enters_105 : decode cX12_enters 105 = .ok (.aload_n 0, 1) := by decide +kernel
theorem dX12_enters_106 : decode cX12_enters 106 = .ok (.getfield 162, 3) := by decide +kernel
theorem dX12_enters_109 : decode cX12_enters 109 = .ok (.aload_n 0, 1) := by decide +kernel
theorem dX12_enters_110 : decode cX12_enters 110 = .ok (.getfield 166, 3) := by decide +kernel
theorem dX12_enters_113 : decode cX12_enters 113 = .ok (.invokestatic 238, 3) := by decide +kernel
theorem dX12_enters_116 : decode cX12_enters 116 = .ok (.ifCond .ne 36, 3) := by decide +kernel
theorem dX12_enters_119 : decode cX12_enters 119 = .ok (.aload_n 0, 1) := by decide +kernel
theorem dX12_enters_120 : decode cX12_enters 120 = .ok (.getfield 33, 3) := by decide +kernel
theorem dX12_enters_123 : decode cX12_enters 123 = .ok (.iload 7, 2) := by decide +kernel
theorem dX12_enters_125 : decode cX12_enters 125 = .ok (.iaload, 1) := by decide +kernel
theorem dX12_enters_126 : decode cX12_enters 126 = .ok (.aload_n 0, 1) := by decide +kernel
theorem dX12_enters_127 : decode cX12_enters 127 = .ok (.getfield 33, 3) := by decide +kernel
theorem dX12_enters_130 : decode cX12_enters 130 = .ok (.iload_n 2, 1) := by decide +kernel
theorem dX12_enters_131 : decode cX12_enters 131 = .ok (.iaload, 1) := by decide +kernel
theorem dX12_enters_132 : decode cX12_enters 132 = .ok (.if_icmp .le 6, 3) := by decide +kernel
theorem dX12_enters_135 : decode cX12_enters 135 = .ok (.goto 17, 3) := by decide +kernel
theorem dX12_enters_138 : decode cX12_enters 138 = .ok (.iload 7, 2) := by decide +kernel
theorem dX12_enters_140 : decode cX12_enters 140 = .ok (.istore_n 2, 1) := by decide +kernel
theorem dX12_enters_141 : decode cX12_enters 141 = .ok (.aload_n 0, 1) := by decide +kernel
theorem dX12_enters_142 : decode cX12_enters 142 = .ok (.getfield 162, 3) := by decide +kernel
theorem dX12_enters_145 : decode cX12_enters 145 = .ok (.lstore_n 3, 1) := by decide +kernel
theorem dX12_enters_146 : decode cX12_enters 146 = .ok (.aload_n 0, 1) := by decide +kernel
theorem dX12_enters_147 : decode cX12_enters 147 = .ok (.getfield 166, 3) := by decide +kernel
theorem dX12_enters_150 : decode cX12_enters 150 = .ok (.lstore 5, 2) := by decide +kernel
theorem dX12_enters_152 : decode cX12_enters 152 = .ok (.iinc 7 1, 3) := by decide +kernel
theorem dX12_enters_155 : decode cX12_enters 155 = .ok (.goto (-145), 3) := by decide +kernel
theorem dX12_enters_158 : decode cX12_enters 158 = .ok (.iload_n 2, 1) := by decide +kernel
theorem dX12_enters_159 : decode cX12_enters 159 = .ok (.ireturn, 1) := by decide +kernel
theorem dX12_turns_0 : decode cX12_turns 0 = .ok (.aload_n 0, 1) := by decide +kernel
theorem dX12_turns_1 : decode cX12_turns 1 = .ok (.getfield 43, 3) := by decide +kernel
theorem dX12_turns_4 : decode cX12_turns 4 = .ok (.iconst 5, 1) := by decide +kernel
theorem dX12_turns_5 : decode cX12_turns 5 = .ok (.iload_n 1, 1) := by decide +kernel
theorem dX12_turns_6 : decode cX12_turns 6 = .ok (.imul, 1) := by decide +kernel
theorem dX12_turns_7 : decode cX12_turns 7 = .ok (.iload_n 2, 1) := by decide +kernel
theorem dX12_turns_8 : decode cX12_turns 8 = .ok (.iadd, 1) := by decide +kernel
theorem dX12_turns_9 : decode cX12_turns 9 = .ok (.laload, 1) := by decide +kernel
theorem dX12_turns_10 : decode cX12_turns 10 = .ok (.lstore_n 3, 1) := by decide +kernel
theorem dX12_turns_11 : decode cX12_turns 11 = .ok (.aload_n 0, 1) := by decide +kernel
theorem dX12_turns_12 : decode cX12_turns 12 = .ok (.getfield 46, 3) := by decide +kernel
theorem dX12_turns_15 : decode cX12_turns 15 = .ok (.iconst 5, 1) := by decide +kernel
theorem dX12_turns_16 : decode cX12_turns 16 = .ok (.iload_n 1, 1) := by decide +kernel
theorem dX12_turns_17 : decode cX12_turns 17 = .ok (.imul, 1) := by decide +kernel
theorem dX12_turns_18 : decode cX12_turns 18 = .ok (.iload_n 2, 1) := by decide +kernel
theorem dX12_turns_19 : decode cX12_turns 19 = .ok (.iadd, 1) := by decide +kernel
theorem dX12_turns_20 : decode cX12_turns 20 = .ok (.laload, 1) := by decide +kernel
theorem dX12_turns_21 : decode cX12_turns 21 = .ok (.lstore 5, 2) := by decide +kernel
theorem dX12_turns_23 : decode cX12_turns 23 = .ok (.aload_n 0, 1) := by decide +kernel
theorem dX12_turns_24 : decode cX12_turns 24 = .ok (.aload_n 0, 1) := by decide +kernel
theorem dX12_turns_25 : decode cX12_turns 25 = .ok (.getfield 36, 3) := by decide +kernel
theorem dX12_turns_28 : decode cX12_turns 28 = .ok (.iload_n 1, 1) := by decide +kernel
theorem dX12_turns_29 : decode cX12_turns 29 = .ok (.laload, 1) := by decide +kernel
theorem dX12_turns_30 : decode cX12_turns 30 = .ok (.aload_n 0, 1) := by decide +kernel
theorem dX12_turns_31 : decode cX12_turns 31 = .ok (.getfield 40, 3) := by decide +kernel
theorem dX12_turns_34 : decode cX12_turns 34 = .ok (.iload_n 1, 1) := by decide +kernel
theorem dX12_turns_35 : decode cX12_turns 35 = .ok (.laload, 1) := by decide +kernel
theorem dX12_turns_36 : decode cX12_turns 36 = .ok (.lload_n 3, 1) := by decide +kernel
theorem dX12_turns_37 : decode cX12_turns 37 = .ok (.lload 5, 2) := by decide +kernel
theorem dX12_turns_39 : decode cX12_turns 39 = .ok (.invokevirtual 195, 3) := by decide +kernel
theorem dX12_turns_42 : decode cX12_turns 42 = .ok (.aload_n 0, 1) := by decide +kernel
theorem dX12_turns_43 : decode cX12_turns 43 = .ok (.aload_n 0, 1) := by decide +kernel
theorem dX12_turns_44 : decode cX12_turns 44 = .ok (.getfield 162, 3) := by decide +kernel
theorem dX12_turns_47 : decode cX12_turns 47 = .ok (.aload_n 0, 1) := by decide +kernel
theorem dX12_turns_48 : decode cX12_turns 48 = .ok (.getfield 166, 3) := by decide +kernel
theorem dX12_turns_51 : decode cX12_turns 51 = .ok (.ldc2_w 222, 3) := by decide +kernel
theorem dX12_turns_54 : decode cX12_turns 54 = .ok (.lconst 1, 1) := by decide +kernel
theorem dX12_turns_55 : decode cX12_turns 55 = .ok (.invokevirtual 183, 3) := by decide +kernel
theorem dX12_turns_58 : decode cX12_turns 58 = .ok (.aload_n 0, 1) := by decide +kernel
theorem dX12_turns_59 : decode cX12_turns 59 = .ok (.getfield 36, 3) := by decide +kernel
theorem dX12_turns_62 : decode cX12_turns 62 = .ok (.iload_n 1, 1) := by decide +kernel
theorem dX12_turns_63 : decode cX12_turns 63 = .ok (.aload_n 0, 1) := by decide +kernel
theorem dX12_turns_64 : decode cX12_turns 64 = .ok (.getfield 162, 3) := by decide +kernel
theorem dX12_turns_67 : decode cX12_turns 67 = .ok (.lastore, 1) := by decide +kernel
theorem dX12_turns_68 : decode cX12_turns 68 = .ok (.aload_n 0, 1) := by decide +kernel
theorem dX12_turns_69 : decode cX12_turns 69 = .ok (.getfield 40, 3) := by decide +kernel
theorem dX12_turns_72 : decode cX12_turns 72 = .ok (.iload_n 1, 1) := by decide +kernel
theorem dX12_turns_73 : decode cX12_turns 73 = .ok (.aload_n 0, 1) := by decide +kernel
theorem dX12_turns_74 : decode cX12_turns 74 = .ok (.getfield 166, 3) := by decide +kernel
theorem dX12_turns_77 : decode cX12_turns 77 = .ok (.lastore, 1) := by decide +kernel
theorem dX12_turns_78 : decode cX12_turns 78 = .ok (.iconst 0, 1) := by decide +kernel
theorem dX12_turns_79 : decode cX12_turns 79 = .ok (.istore 7, 2) := by decide +kernel
theorem dX12_turns_81 : decode cX12_turns 81 = .ok (.iload 7, 2) := by decide +kernel
theorem dX12_turns_83 : decode cX12_turns 83 = .ok (.aload_n 0, 1) := by decide +kernel
theorem dX12_turns_84 : decode cX12_turns 84 = .ok (.getfield 87, 3) := by decide +kernel
theorem dX12_turns_87 : decode cX12_turns 87 = .ok (.if_icmp .ge 94, 3) := by decide +kernel
theorem dX12_turns_90 : decode cX12_turns 90 = .ok (.iconst 5, 1) := by decide +kernel
theorem dX12_turns_91 : decode cX12_turns 91 = .ok (.iload_n 1, 1) := by decide +kernel
theorem dX12_turns_92 : decode cX12_turns 92 = .ok (.imul, 1) := by decide +kernel
theorem dX12_turns_93 : decode cX12_turns 93 = .ok (.iload 7, 2) := by decide +kernel
theorem dX12_turns_95 : decode cX12_turns 95 = .ok (.iadd, 1) := by decide +kernel
theorem dX12_turns_96 : decode cX12_turns 96 = .ok (.istore 8, 2) := by decide +kernel
theorem dX12_turns_98 : decode cX12_turns 98 = .ok (.iload 7, 2) := by decide +kernel
theorem dX12_turns_100 : decode cX12_turns 100 = .ok (.iload_n 2, 1) := by decide +kernel
theorem dX12_turns_101 : decode cX12_turns 101 = .ok (.if_icmp .ne 15, 3) := by decide +kernel
theorem dX12_turns_104 : decode cX12_turns 104 = .ok (.aload_n 0, 1) := by decide +kernel
theorem dX12_turns_105 : decode cX12_turns 105 = .ok (.lconst 1, 1) := by decide +kernel
theorem dX12_turns_106 : decode cX12_turns 106 = .ok (.lconst 1, 1) := by decide +kernel
theorem dX12_turns_107 : decode cX12_turns 107 = .ok (.lload_n 3, 1) := by decide +kernel
theorem dX12_turns_108 : decode cX12_turns 108 = .ok (.lload 5, 2) := by decide +kernel
theorem dX12_turns_110 : decode cX12_turns 110 = .ok (.invokevirtual 195, 3) := by decide +kernel
theorem dX12_turns_113 : decode cX12_turns 113 = .ok (.goto 40, 3) := by decide +kernel
theorem dX12_turns_116 : decode cX12_turns 116 = .ok (.aload_n 0, 1) := by decide +kernel
theorem dX12_turns_117 : decode cX12_turns 117 = .ok (.aload_n 0, 1) := by decide +kernel
theorem dX12_turns_118 : decode cX12_turns 118 = .ok (.getfield 43, 3) := by decide +kernel
theorem dX12_turns_121 : decode cX12_turns 121 = .ok (.iload 8, 2) := by decide +kernel
theorem dX12_turns_123 : decode cX12_turns 123 = .ok (.laload, 1) := by decide +kernel
theorem dX12_turns_124 : decode cX12_turns 124 = .ok (.aload_n 0, 1) := by decide +kernel
theorem dX12_turns_125 : decode cX12_turns 125 = .ok (.getfield 46, 3) := by decide +kernel
theorem dX12_turns_128 : decode cX12_turns 128 = .ok (.iload 8, 2) := by decide +kernel
theorem dX12_turns_130 : decode cX12_turns 130 = .ok (.laload, 1) := by decide +kernel
theorem dX12_turns_131 : decode cX12_turns 131 = .ok (.lload_n 3, 1) := by decide +kernel
theorem dX12_turns_132 : decode cX12_turns 132 = .ok (.lload 5, 2) := by decide +kernel
theorem dX12_turns_134 : decode cX12_turns 134 = .ok (.invokevirtual 195, 3) := by decide +kernel
theorem dX12_turns_137 : decode cX12_turns 137 = .ok (.aload_n 0, 1) := by decide +kernel
theorem dX12_turns_138 : decode cX12_turns 138 = .ok (.aload_n 0, 1) := by decide +kernel
theorem dX12_turns_139 : decode cX12_turns 139 = .ok (.getfield 162, 3) := by decide +kernel
theorem dX12_turns_142 : decode cX12_turns 142 = .ok (.aload_n 0, 1) := by decide +kernel
theorem dX12_turns_143 : decode cX12_turns 143 = .ok (.getfield 166, 3) := by decide +kernel
theorem dX12_turns_146 : decode cX12_turns 146 = .ok (.ldc2_w 222, 3) := by decide +kernel
theorem dX12_turns_149 : decode cX12_turns 149 = .ok (.lconst 1, 1) := by decide +kernel
theorem dX12_turns_150 : decode cX12_turns 150 = .ok (.invokevirtual 183, 3) := by decide +kernel
theorem dX12_turns_153 : decode cX12_turns 153 = .ok (.aload_n 0, 1) := by decide +kernel
theorem dX12_turns_154 : decode cX12_turns 154 = .ok (.getfield 49, 3) := by decide +kernel
theorem dX12_turns_157 : decode cX12_turns 157 = .ok (.iload 7, 2) := by decide +kernel
theorem dX12_turns_159 : decode cX12_turns 159 = .ok (.aload_n 0, 1) := by decide +kernel
theorem dX12_turns_160 : decode cX12_turns 160 = .ok (.getfield 162, 3) := by decide +kernel
theorem dX12_turns_163 : decode cX12_turns 163 = .ok (.lastore, 1) := by decide +kernel
theorem dX12_turns_164 : decode cX12_turns 164 = .ok (.aload_n 0, 1) := by decide +kernel
theorem dX12_turns_165 : decode cX12_turns 165 = .ok (.getfield 52, 3) := by decide +kernel
theorem dX12_turns_168 : decode cX12_turns 168 = .ok (.iload 7, 2) := by decide +kernel
theorem dX12_turns_170 : decode cX12_turns 170 = .ok (.aload_n 0, 1) := by decide +kernel
theorem dX12_turns_171 : decode cX12_turns 171 = .ok (.getfield 166, 3) := by decide +kernel
theorem dX12_turns_174 : decode cX12_turns 174 = .ok (.lastore, 1) := by decide +kernel
theorem dX12_turns_175 : decode cX12_turns 175 = .ok (.iinc 7 1, 3) := by decide +kernel
theorem dX12_turns_178 : decode cX12_turns 178 = .ok (.goto (-97), 3) := by decide +kernel
theorem dX12_turns_181 : decode cX12_turns 181 = .ok (.iconst 0, 1) := by decide +kernel
theorem dX12_turns_182 : decode cX12_turns 182 = .ok (.istore 7, 2) := by decide +kernel
theorem dX12_turns_184 : decode cX12_turns 184 = .ok (.iload 7, 2) := by decide +kernel
theorem dX12_turns_186 : decode cX12_turns 186 = .ok (.aload_n 0, 1) := by decide +kernel
theorem dX12_turns_187 : decode cX12_turns 187 = .ok (.getfield 87, 3) := by decide +kernel
theorem dX12_turns_190 : decode cX12_turns 190 = .ok (.if_icmp .ge 45, 3) := by decide +kernel
theorem dX12_turns_193 : decode cX12_turns 193 = .ok (.aload_n 0, 1) := by decide +kernel
theorem dX12_turns_194 : decode cX12_turns 194 = .ok (.getfield 43, 3) := by decide +kernel
theorem dX12_turns_197 : decode cX12_turns 197 = .ok (.iconst 5, 1) := by decide +kernel
theorem dX12_turns_198 : decode cX12_turns 198 = .ok (.iload_n 1, 1) := by decide +kernel
theorem dX12_turns_199 : decode cX12_turns 199 = .ok (.imul, 1) := by decide +kernel
theorem dX12_turns_200 : decode cX12_turns 200 = .ok (.iload 7, 2) := by decide +kernel
theorem dX12_turns_202 : decode cX12_turns 202 = .ok (.iadd, 1) := by decide +kernel
theorem dX12_turns_203 : decode cX12_turns 203 = .ok (.aload_n 0, 1) := by decide +kernel
theorem dX12_turns_204 : decode cX12_turns 204 = .ok (.getfield 49, 3) := by decide +kernel
theorem dX12_turns_207 : decode cX12_turns 207 = .ok (.iload 7, 2) := by decide +kernel
theorem dX12_turns_209 : decode cX12_turns 209 = .ok (.laload, 1) := by decide +kernel
theorem dX12_turns_210 : decode cX12_turns 210 = .ok (.lastore, 1) := by decide +kernel
theorem dX12_turns_211 : decode cX12_turns 211 = .ok (.aload_n 0, 1) := by decide +kernel
theorem dX12_turns_212 : decode cX12_turns 212 = .ok (.getfield 46, 3) := by decide +kernel
theorem dX12_turns_215 : decode cX12_turns 215 = .ok (.iconst 5, 1) := by decide +kernel
theorem dX12_turns_216 : decode cX12_turns 216 = .ok (.iload_n 1, 1) := by decide +kernel
theorem dX12_turns_217 : decode cX12_turns 217 = .ok (.imul, 1) := by decide +kernel
theorem dX12_turns_218 : decode cX12_turns 218 = .ok (.iload 7, 2) := by decide +kernel
theorem dX12_turns_220 : decode cX12_turns 220 = .ok (.iadd, 1) := by decide +kernel
theorem dX12_turns_221 : decode cX12_turns 221 = .ok (.aload_n 0, 1) := by decide +kernel
theorem dX12_turns_222 : decode cX12_turns 222 = .ok (.getfield 52, 3) := by decide +kernel
theorem dX12_turns_225 : decode cX12_turns 225 = .ok (.iload 7, 2) := by decide +kernel
theorem dX12_turns_227 : decode cX12_turns 227 = .ok (.laload, 1) := by decide +kernel
theorem dX12_turns_228 : decode cX12_turns 228 = .ok (.lastore, 1) := by decide +kernel
theorem dX12_turns_229 : decode cX12_turns 229 = .ok (.iinc 7 1, 3) := by decide +kernel
theorem dX12_turns_232 : decode cX12_turns 232 = .ok (.goto (-48), 3) := by decide +kernel
theorem dX12_turns_235 : decode cX12_turns 235 = .ok (.aload_n 0, 1) := by decide +kernel
theorem dX12_turns_236 : decode cX12_turns 236 = .ok (.getfield 30, 3) := by decide +kernel
theorem dX12_turns_239 : decode cX12_turns 239 = .ok (.iload_n 1, 1) := by decide +kernel
theorem dX12_turns_240 : decode cX12_turns 240 = .ok (.iaload, 1) := by decide +kernel
theorem dX12_turns_241 : decode cX12_turns 241 = .ok (.istore 7, 2) := by decide +kernel
theorem dX12_turns_243 : decode cX12_turns 243 = .ok (.aload_n 0, 1) := by decide +kernel
theorem dX12_turns_244 : decode cX12_turns 244 = .ok (.getfield 30, 3) := by decide +kernel
theorem dX12_turns_247 : decode cX12_turns 247 = .ok (.iload_n 1, 1) := by decide +kernel
theorem dX12_turns_248 : decode cX12_turns 248 = .ok (.aload_n 0, 1) := by decide +kernel
theorem dX12_turns_249 : decode cX12_turns 249 = .ok (.getfield 33, 3) := by decide +kernel
theorem dX12_turns_252 : decode cX12_turns 252 = .ok (.iload_n 2, 1) := by decide +kernel
theorem dX12_turns_253 : decode cX12_turns 253 = .ok (.iaload, 1) := by decide +kernel
theorem dX12_turns_254 : decode cX12_turns 254 = .ok (.iastore, 1) := by decide +kernel
theorem dX12_turns_255 : decode cX12_turns 255 = .ok (.aload_n 0, 1) := by decide +kernel
theorem dX12_turns_256 : decode cX12_turns 256 = .ok (.getfield 33, 3) := by decide +kernel
theorem dX12_turns_259 : decode cX12_turns 259 = .ok (.iload_n 2, 1) := by decide +kernel
theorem dX12_turns_260 : decode cX12_turns 260 = .ok (.iload 7, 2) := by decide +kernel
theorem dX12_turns_262 : decode cX12_turns 262 = .ok (.iastore, 1) := by decide +kernel
theorem dX12_turns_263 : decode cX12_turns 263 = .ok (.return_, 1) := by decide +kernel
theorem dX12_fills_0 : decode cX12_fills 0 = .ok (.aload_n 0, 1) := by decide +kernel
theorem dX12_fills_1 : decode cX12_fills 1 = .ok (.getfield 43, 3) := by decide +kernel
theorem dX12_fills_4 : decode cX12_fills 4 = .ok (.iconst 5, 1) := by decide +kernel
theorem dX12_fills_5 : decode cX12_fills 5 = .ok (.iload_n 1, 1) := by decide +kernel
theorem dX12_fills_6 : decode cX12_fills 6 = .ok (.imul, 1) := by decide +kernel
theorem dX12_fills_7 : decode cX12_fills 7 = .ok (.iload_n 3, 1) := by decide +kernel
theorem dX12_fills_8 : decode cX12_fills 8 = .ok (.iadd, 1) := by decide +kernel
theorem dX12_fills_9 : decode cX12_fills 9 = .ok (.laload, 1) := by decide +kernel
theorem dX12_fills_10 : decode cX12_fills 10 = .ok (.lstore 4, 2) := by decide +kernel
theorem dX12_fills_12 : decode cX12_fills 12 = .ok (.aload_n 0, 1) := by decide +kernel
theorem dX12_fills_13 : decode cX12_fills 13 = .ok (.getfield 46, 3) := by decide +kernel
theorem dX12_fills_16 : decode cX12_fills 16 = .ok (.iconst 5, 1) := by decide +kernel
theorem dX12_fills_17 : decode cX12_fills 17 = .ok (.iload_n 1, 1) := by decide +kernel
theorem dX12_fills_18 : decode cX12_fills 18 = .ok (.imul, 1) := by decide +kernel
theorem dX12_fills_19 : decode cX12_fills 19 = .ok (.iload_n 3, 1) := by decide +kernel
theorem dX12_fills_20 : decode cX12_fills 20 = .ok (.iadd, 1) := by decide +kernel
theorem dX12_fills_21 : decode cX12_fills 21 = .ok (.laload, 1) := by decide +kernel
theorem dX12_fills_22 : decode cX12_fills 22 = .ok (.lstore 6, 2) := by decide +kernel
theorem dX12_fills_24 : decode cX12_fills 24 = .ok (.aload_n 0, 1) := by decide +kernel
theorem dX12_fills_25 : decode cX12_fills 25 = .ok (.lload 4, 2) := by decide +kernel
theorem dX12_fills_27 : decode cX12_fills 27 = .ok (.lload 6, 2) := by decide +kernel
theorem dX12_fills_29 : decode cX12_fills 29 = .ok (.aload_n 0, 1) := by decide +kernel
theorem dX12_fills_30 : decode cX12_fills 30 = .ok (.getfield 36, 3) := by decide +kernel
theorem dX12_fills_33 : decode cX12_fills 33 = .ok (.iload_n 2, 1) := by decide +kernel
theorem dX12_fills_34 : decode cX12_fills 34 = .ok (.laload, 1) := by decide +kernel
theorem dX12_fills_35 : decode cX12_fills 35 = .ok (.aload_n 0, 1) := by decide +kernel
theorem dX12_fills_36 : decode cX12_fills 36 = .ok (.getfield 40, 3) := by decide +kernel
theorem dX12_fills_39 : decode cX12_fills 39 = .ok (.iload_n 2, 1) := by decide +kernel
theorem dX12_fills_40 : decode cX12_fills 40 = .ok (.laload, 1) := by decide +kernel
theorem dX12_fills_41 : decode cX12_fills 41 = .ok (.invokevirtual 183, 3) := by decide +kernel
theorem dX12_fills_44 : decode cX12_fills 44 = .ok (.aload_n 0, 1) := by decide +kernel
theorem dX12_fills_45 : decode cX12_fills 45 = .ok (.aload_n 0, 1) := by decide +kernel
theorem dX12_fills_46 : decode cX12_fills 46 = .ok (.getfield 36, 3) := by decide +kernel
theorem dX12_fills_49 : decode cX12_fills 49 = .ok (.iload_n 1, 1) := by decide +kernel
theorem dX12_fills_50 : decode cX12_fills 50 = .ok (.laload, 1) := by decide +kernel
theorem dX12_fills_51 : decode cX12_fills 51 = .ok (.aload_n 0, 1) := by decide +kernel
theorem dX12_fills_52 : decode cX12_fills 52 = .ok (.getfield 40, 3) := by decide +kernel
theorem dX12_fills_55 : decode cX12_fills 55 = .ok (.iload_n 1, 1) := by decide +kernel
theorem dX12_fills_56 : decode cX12_fills 56 = .ok (.laload, 1) := by decide +kernel
theorem dX12_fills_57 : decode cX12_fills 57 = .ok (.aload_n 0, 1) := by decide +kernel
theorem dX12_fills_58 : decode cX12_fills 58 = .ok (.getfield 162, 3) := by decide +kernel
theorem dX12_fills_61 : decode cX12_fills 61 = .ok (.aload_n 0, 1) := by decide +kernel
theorem dX12_fills_62 : decode cX12_fills 62 = .ok (.getfield 166, 3) := by decide +kernel
theorem dX12_fills_65 : decode cX12_fills 65 = .ok (.invokevirtual 209, 3) := by decide +kernel
theorem dX12_fills_68 : decode cX12_fills 68 = .ok (.aload_n 0, 1) := by decide +kernel
theorem dX12_fills_69 : decode cX12_fills 69 = .ok (.getfield 36, 3) := by decide +kernel
theorem dX12_fills_72 : decode cX12_fills 72 = .ok (.iload_n 1, 1) := by decide +kernel
theorem dX12_fills_73 : decode cX12_fills 73 = .ok (.aload_n 0, 1) := by decide +kernel
theorem dX12_fills_74 : decode cX12_fills 74 = .ok (.getfield 162, 3) := by decide +kernel
theorem dX12_fills_77 : decode cX12_fills 77 = .ok (.lastore, 1) := by decide +kernel
theorem dX12_fills_78 : decode cX12_fills 78 = .ok (.aload_n 0, 1) := by decide +kernel
theorem dX12_fills_79 : decode cX12_fills 79 = .ok (.getfield 40, 3) := by decide +kernel
theorem dX12_fills_82 : decode cX12_fills 82 = .ok (.iload_n 1, 1) := by decide +kernel
theorem dX12_fills_83 : decode cX12_fills 83 = .ok (.aload_n 0, 1) := by decide +kernel
theorem dX12_fills_84 : decode cX12_fills 84 = .ok (.getfield 166, 3) := by decide +kernel
theorem dX12_fills_87 : decode cX12_fills 87 = .ok (.lastore, 1) := by decide +kernel
theorem dX12_fills_88 : decode cX12_fills 88 = .ok (.iconst 0, 1) := by decide +kernel
theorem dX12_fills_89 : decode cX12_fills 89 = .ok (.istore 8, 2) := by decide +kernel
theorem dX12_fills_91 : decode cX12_fills 91 = .ok (.iload 8, 2) := by decide +kernel
theorem dX12_fills_93 : decode cX12_fills 93 = .ok (.aload_n 0, 1) := by decide +kernel
theorem dX12_fills_94 : decode cX12_fills 94 = .ok (.getfield 87, 3) := by decide +kernel
theorem dX12_fills_97 : decode cX12_fills 97 = .ok (.if_icmp .ge 101, 3) := by decide +kernel
theorem dX12_fills_100 : decode cX12_fills 100 = .ok (.iconst 5, 1) := by decide +kernel
theorem dX12_fills_101 : decode cX12_fills 101 = .ok (.iload_n 1, 1) := by decide +kernel
theorem dX12_fills_102 : decode cX12_fills 102 = .ok (.imul, 1) := by decide +kernel
theorem dX12_fills_103 : decode cX12_fills 103 = .ok (.iload 8, 2) := by decide +kernel
theorem dX12_fills_105 : decode cX12_fills 105 = .ok (.iadd, 1) := by decide +kernel
theorem dX12_fills_106 : decode cX12_fills 106 = .ok (.istore 9, 2) := by decide +kernel
theorem dX12_fills_108 : decode cX12_fills 108 = .ok (.aload_n 0, 1) := by decide +kernel
theorem dX12_fills_109 : decode cX12_fills 109 = .ok (.lload 4, 2) := by decide +kernel
theorem dX12_fills_111 : decode cX12_fills 111 = .ok (.lload 6, 2) := by decide +kernel
theorem dX12_fills_113 : decode cX12_fills 113 = .ok (.aload_n 0, 1) := by decide +kernel
theorem dX12_fills_114 : decode cX12_fills 114 = .ok (.getfield 43, 3) := by decide +kernel
theorem dX12_fills_117 : decode cX12_fills 117 = .ok (.iconst 5, 1) := by decide +kernel
theorem dX12_fills_118 : decode cX12_fills 118 = .ok (.iload_n 2, 1) := by decide +kernel
theorem dX12_fills_119 : decode cX12_fills 119 = .ok (.imul, 1) := by decide +kernel
theorem dX12_fills_120 : decode cX12_fills 120 = .ok (.iload 8, 2) := by decide +kernel
theorem dX12_fills_122 : decode cX12_fills 122 = .ok (.iadd, 1) := by decide +kernel
theorem dX12_fills_123 : decode cX12_fills 123 = .ok (.laload, 1) := by decide +kernel
theorem dX12_fills_124 : decode cX12_fills 124 = .ok (.aload_n 0, 1) := by decide +kernel
theorem dX12_fills_125 : decode cX12_fills 125 = .ok (.getfield 46, 3) := by decide +kernel
theorem dX12_fills_128 : decode cX12_fills 128 = .ok (.iconst 5, 1) := by decide +kernel
theorem dX12_fills_129 : decode cX12_fills 129 = .ok (.iload_n 2, 1) := by decide +kernel
theorem dX12_fills_130 : decode cX12_fills 130 = .ok (.imul, 1) := by decide +kernel
theorem dX12_fills_131 : decode cX12_fills 131 = .ok (.iload 8, 2) := by decide +kernel
theorem dX12_fills_133 : decode cX12_fills 133 = .ok (.iadd, 1) := by decide +kernel
theorem dX12_fills_134 : decode cX12_fills 134 = .ok (.laload, 1) := by decide +kernel
theorem dX12_fills_135 : decode cX12_fills 135 = .ok (.invokevirtual 183, 3) := by decide +kernel
theorem dX12_fills_138 : decode cX12_fills 138 = .ok (.iload 8, 2) := by decide +kernel
theorem dX12_fills_140 : decode cX12_fills 140 = .ok (.iload_n 3, 1) := by decide +kernel
theorem dX12_fills_141 : decode cX12_fills 141 = .ok (.if_icmp .eq 29, 3) := by decide +kernel
theorem dX12_fills_144 : decode cX12_fills 144 = .ok (.aload_n 0, 1) := by decide +kernel
theorem dX12_fills_145 : decode cX12_fills 145 = .ok (.aload_n 0, 1) := by decide +kernel
theorem dX12_fills_146 : decode cX12_fills 146 = .ok (.getfield 43, 3) := by decide +kernel
theorem dX12_fills_149 : decode cX12_fills 149 = .ok (.iload 9, 2) := by decide +kernel
theorem dX12_fills_151 : decode cX12_fills 151 = .ok (.laload, 1) := by decide +kernel
theorem dX12_fills_152 : decode cX12_fills 152 = .ok (.aload_n 0, 1) := by decide +kernel
theorem dX12_fills_153 : decode cX12_fills 153 = .ok (.getfield 46, 3) := by decide +kernel
theorem dX12_fills_156 : decode cX12_fills 156 = .ok (.iload 9, 2) := by decide +kernel
theorem dX12_fills_158 : decode cX12_fills 158 = .ok (.laload, 1) := by decide +kernel
theorem dX12_fills_159 : decode cX12_fills 159 = .ok (.aload_n 0, 1) := by decide +kernel
theorem dX12_fills_160 : decode cX12_fills 160 = .ok (.getfield 162, 3) := by decide +kernel
theorem dX12_fills_163 : decode cX12_fills 163 = .ok (.aload_n 0, 1) := by decide +kernel
theorem dX12_fills_164 : decode cX12_fills 164 = .ok (.getfield 166, 3) := by decide +kernel
theorem dX12_fills_167 : decode cX12_fills 167 = .ok (.invokevirtual 209, 3) := by decide +kernel
theorem dX12_fills_170 : decode cX12_fills 170 = .ok (.aload_n 0, 1) := by decide +kernel
theorem dX12_fills_171 : decode cX12_fills 171 = .ok (.getfield 43, 3) := by decide +kernel
theorem dX12_fills_174 : decode cX12_fills 174 = .ok (.iload 9, 2) := by decide +kernel
theorem dX12_fills_176 : decode cX12_fills 176 = .ok (.aload_n 0, 1) := by decide +kernel
theorem dX12_fills_177 : decode cX12_fills 177 = .ok (.getfield 162, 3) := by decide +kernel
theorem dX12_fills_180 : decode cX12_fills 180 = .ok (.lastore, 1) := by decide +kernel
theorem dX12_fills_181 : decode cX12_fills 181 = .ok (.aload_n 0, 1) := by decide +kernel
theorem dX12_fills_182 : decode cX12_fills 182 = .ok (.getfield 46, 3) := by decide +kernel
theorem dX12_fills_185 : decode cX12_fills 185 = .ok (.iload 9, 2) := by decide +kernel
theorem dX12_fills_187 : decode cX12_fills 187 = .ok (.aload_n 0, 1) := by decide +kernel
theorem dX12_fills_188 : decode cX12_fills 188 = .ok (.getfield 166, 3) := by decide +kernel
theorem dX12_fills_191 : decode cX12_fills 191 = .ok (.lastore, 1) := by decide +kernel
theorem dX12_fills_192 : decode cX12_fills 192 = .ok (.iinc 8 1, 3) := by decide +kernel
theorem dX12_fills_195 : decode cX12_fills 195 = .ok (.goto (-104), 3) := by decide +kernel
theorem dX12_fills_198 : decode cX12_fills 198 = .ok (.return_, 1) := by decide +kernel
theorem dX12_solved_0 : decode cX12_solved 0 = .ok (.aload_n 0, 1) := by decide +kernel
theorem dX12_solved_1 : decode cX12_solved 1 = .ok (.iconst 0, 1) := by decide +kernel
theorem dX12_solved_2 : decode cX12_solved 2 = .ok (.putfield 152, 3) := by decide +kernel
theorem dX12_solved_5 : decode cX12_solved 5 = .ok (.aload_n 0, 1) := by decide +kernel
theorem dX12_solved_6 : decode cX12_solved 6 = .ok (.invokevirtual 242, 3) := by decide +kernel
theorem dX12_solved_9 : decode cX12_solved 9 = .ok (.iconst 0, 1) := by decide +kernel
theorem dX12_solved_10 : decode cX12_solved 10 = .ok (.istore_n 1, 1) := by decide +kernel
theorem dX12_solved_11 : decode cX12_solved 11 = .ok (.aload_n 0, 1) := by decide +kernel
theorem dX12_solved_12 : decode cX12_solved 12 = .ok (.getfield 152, 3) := by decide +kernel
theorem dX12_solved_15 : decode cX12_solved 15 = .ok (.ifCond .ne 91, 3) := by decide +kernel
theorem dX12_solved_18 : decode cX12_solved 18 = .ok (.aload_n 0, 1) := by decide +kernel
theorem dX12_solved_19 : decode cX12_solved 19 = .ok (.invokevirtual 245, 3) := by decide +kernel
theorem dX12_solved_22 : decode cX12_solved 22 = .ok (.istore_n 2, 1) := by decide +kernel
theorem dX12_solved_23 : decode cX12_solved 23 = .ok (.iload_n 2, 1) := by decide +kernel
theorem dX12_solved_24 : decode cX12_solved 24 = .ok (.iconst (-1), 1) := by decide +kernel
theorem dX12_solved_25 : decode cX12_solved 25 = .ok (.if_icmp .ne 5, 3) := by decide +kernel
theorem dX12_solved_28 : decode cX12_solved 28 = .ok (.iload_n 1, 1) := by decide +kernel
theorem dX12_solved_29 : decode cX12_solved 29 = .ok (.ireturn, 1) := by decide +kernel
theorem dX12_solved_30 : decode cX12_solved 30 = .ok (.aload_n 0, 1) := by decide +kernel
theorem dX12_solved_31 : decode cX12_solved 31 = .ok (.iload_n 2, 1) := by decide +kernel
theorem dX12_solved_32 : decode cX12_solved 32 = .ok (.invokevirtual 249, 3) := by decide +kernel
theorem dX12_solved_35 : decode cX12_solved 35 = .ok (.istore_n 3, 1) := by decide +kernel
theorem dX12_solved_36 : decode cX12_solved 36 = .ok (.aload_n 0, 1) := by decide +kernel
theorem dX12_solved_37 : decode cX12_solved 37 = .ok (.getfield 152, 3) := by decide +kernel
theorem dX12_solved_40 : decode cX12_solved 40 = .ok (.ifCond .eq 6, 3) := by decide +kernel
theorem dX12_solved_43 : decode cX12_solved 43 = .ok (.bipush (-7), 2) := by decide +kernel
theorem dX12_solved_45 : decode cX12_solved 45 = .ok (.ireturn, 1) := by decide +kernel
theorem dX12_solved_46 : decode cX12_solved 46 = .ok (.iload_n 3, 1) := by decide +kernel
theorem dX12_solved_47 : decode cX12_solved 47 = .ok (.iconst (-1), 1) := by decide +kernel
theorem dX12_solved_48 : decode cX12_solved 48 = .ok (.if_icmp .ne 6, 3) := by decide +kernel
theorem dX12_solved_51 : decode cX12_solved 51 = .ok (.bipush (-8), 2) := by decide +kernel
theorem dX12_solved_53 : decode cX12_solved 53 = .ok (.ireturn, 1) := by decide +kernel
theorem dX12_solved_54 : decode cX12_solved 54 = .ok (.aload_n 0, 1) := by decide +kernel
theorem dX12_solved_55 : decode cX12_solved 55 = .ok (.iload_n 2, 1) := by decide +kernel
theorem dX12_solved_56 : decode cX12_solved 56 = .ok (.iload_n 3, 1) := by decide +kernel
theorem dX12_solved_57 : decode cX12_solved 57 = .ok (.invokevirtual 252, 3) := by decide +kernel
theorem dX12_solved_60 : decode cX12_solved 60 = .ok (.iconst 0, 1) := by decide +kernel
theorem dX12_solved_61 : decode cX12_solved 61 = .ok (.istore 4, 2) := by decide +kernel
theorem dX12_solved_63 : decode cX12_solved 63 = .ok (.iload 4, 2) := by decide +kernel
theorem dX12_solved_65 : decode cX12_solved 65 = .ok (.aload_n 0, 1) := by decide +kernel
theorem dX12_solved_66 : decode cX12_solved 66 = .ok (.getfield 228, 3) := by decide +kernel
theorem dX12_solved_69 : decode cX12_solved 69 = .ok (.if_icmp .ge 23, 3) := by decide +kernel
theorem dX12_solved_72 : decode cX12_solved 72 = .ok (.iload 4, 2) := by decide +kernel
theorem dX12_solved_74 : decode cX12_solved 74 = .ok (.iload_n 2, 1) := by decide +kernel
theorem dX12_solved_75 : decode cX12_solved 75 = .ok (.if_icmp .eq 11, 3) := by decide +kernel
theorem dX12_solved_78 : decode cX12_solved 78 = .ok (.aload_n 0, 1) := by decide +kernel
theorem dX12_solved_79 : decode cX12_solved 79 = .ok (.iload 4, 2) := by decide +kernel
theorem dX12_solved_81 : decode cX12_solved 81 = .ok (.iload_n 2, 1) := by decide +kernel
theorem dX12_solved_82 : decode cX12_solved 82 = .ok (.iload_n 3, 1) := by decide +kernel
theorem dX12_solved_83 : decode cX12_solved 83 = .ok (.invokevirtual 255, 3) := by decide +kernel
theorem dX12_solved_86 : decode cX12_solved 86 = .ok (.iinc 4 1, 3) := by decide +kernel
theorem dX12_solved_89 : decode cX12_solved 89 = .ok (.goto (-26), 3) := by decide +kernel
theorem dX12_solved_92 : decode cX12_solved 92 = .ok (.aload_n 0, 1) := by decide +kernel
theorem dX12_solved_93 : decode cX12_solved 93 = .ok (.bipush 9, 2) := by decide +kernel
theorem dX12_solved_95 : decode cX12_solved 95 = .ok (.iload_n 2, 1) := by decide +kernel
theorem dX12_solved_96 : decode cX12_solved 96 = .ok (.iload_n 3, 1) := by decide +kernel
theorem dX12_solved_97 : decode cX12_solved 97 = .ok (.invokevirtual 255, 3) := by decide +kernel
theorem dX12_solved_100 : decode cX12_solved 100 = .ok (.iinc 1 1, 3) := by decide +kernel
theorem dX12_solved_103 : decode cX12_solved 103 = .ok (.goto (-92), 3) := by decide +kernel
theorem dX12_solved_106 : decode cX12_solved 106 = .ok (.bipush (-7), 2) := by decide +kernel
theorem dX12_solved_108 : decode cX12_solved 108 = .ok (.ireturn, 1) := by decide +kernel
theorem dX12_least_0 : decode cX12_least 0 = .ok (.aload_n 0, 1) := by decide +kernel
theorem dX12_least_1 : decode cX12_least 1 = .ok (.invokevirtual 259, 3) := by decide +kernel
theorem dX12_least_4 : decode cX12_least 4 = .ok (.ireturn, 1) := by decide +kernel
theorem dX12_bare_0 : decode cX12_bare 0 = .ok (.aload_n 0, 1) := by decide +kernel
theorem dX12_bare_1 : decode cX12_bare 1 = .ok (.lconst 0, 1) := by decide +kernel
theorem dX12_bare_2 : decode cX12_bare 2 = .ok (.putfield 162, 3) := by decide +kernel
theorem dX12_bare_5 : decode cX12_bare 5 = .ok (.aload_n 0, 1) := by decide +kernel
theorem dX12_bare_6 : decode cX12_bare 6 = .ok (.lconst 1, 1) := by decide +kernel
theorem dX12_bare_7 : decode cX12_bare 7 = .ok (.putfield 166, 3) := by decide +kernel
theorem dX12_bare_10 : decode cX12_bare 10 = .ok (.iconst 0, 1) := by decide +kernel
theorem dX12_bare_11 : decode cX12_bare 11 = .ok (.istore_n 2, 1) := by decide +kernel
theorem dX12_bare_12 : decode cX12_bare 12 = .ok (.iload_n 2, 1) := by decide +kernel
theorem dX12_bare_13 : decode cX12_bare 13 = .ok (.aload_n 0, 1) := by decide +kernel
theorem dX12_bare_14 : decode cX12_bare 14 = .ok (.getfield 228, 3) := by decide +kernel
theorem dX12_bare_17 : decode cX12_bare 17 = .ok (.if_icmp .ge 39, 3) := by decide +kernel
theorem dX12_bare_20 : decode cX12_bare 20 = .ok (.aload_n 0, 1) := by decide +kernel
theorem dX12_bare_21 : decode cX12_bare 21 = .ok (.getfield 30, 3) := by decide +kernel
theorem dX12_bare_24 : decode cX12_bare 24 = .ok (.iload_n 2, 1) := by decide +kernel
theorem dX12_bare_25 : decode cX12_bare 25 = .ok (.iaload, 1) := by decide +kernel
theorem dX12_bare_26 : decode cX12_bare 26 = .ok (.iload_n 1, 1) := by decide +kernel
theorem dX12_bare_27 : decode cX12_bare 27 = .ok (.if_icmp .ne 23, 3) := by decide +kernel
theorem dX12_bare_30 : decode cX12_bare 30 = .ok (.aload_n 0, 1) := by decide +kernel
theorem dX12_bare_31 : decode cX12_bare 31 = .ok (.aload_n 0, 1) := by decide +kernel
theorem dX12_bare_32 : decode cX12_bare 32 = .ok (.getfield 36, 3) := by decide +kernel
theorem dX12_bare_35 : decode cX12_bare 35 = .ok (.iload_n 2, 1) := by decide +kernel
theorem dX12_bare_36 : decode cX12_bare 36 = .ok (.laload, 1) := by decide +kernel
theorem dX12_bare_37 : decode cX12_bare 37 = .ok (.putfield 162, 3) := by decide +kernel
theorem dX12_bare_40 : decode cX12_bare 40 = .ok (.aload_n 0, 1) := by decide +kernel
theorem dX12_bare_41 : decode cX12_bare 41 = .ok (.aload_n 0, 1) := by decide +kernel
theorem dX12_bare_42 : decode cX12_bare 42 = .ok (.getfield 40, 3) := by decide +kernel
theorem dX12_bare_45 : decode cX12_bare 45 = .ok (.iload_n 2, 1) := by decide +kernel
theorem dX12_bare_46 : decode cX12_bare 46 = .ok (.laload, 1) := by decide +kernel
theorem dX12_bare_47 : decode cX12_bare 47 = .ok (.putfield 166, 3) := by decide +kernel
theorem dX12_bare_50 : decode cX12_bare 50 = .ok (.iinc 2 1, 3) := by decide +kernel
theorem dX12_bare_53 : decode cX12_bare 53 = .ok (.goto (-41), 3) := by decide +kernel
theorem dX12_bare_56 : decode cX12_bare 56 = .ok (.return_, 1) := by decide +kernel
theorem dX12_price_0 : decode cX12_price 0 = .ok (.aload_n 0, 1) := by decide +kernel
theorem dX12_price_1 : decode cX12_price 1 = .ok (.lconst 0, 1) := by decide +kernel
theorem dX12_price_2 : decode cX12_price 2 = .ok (.putfield 162, 3) := by decide +kernel
theorem dX12_price_5 : decode cX12_price 5 = .ok (.aload_n 0, 1) := by decide +kernel
theorem dX12_price_6 : decode cX12_price 6 = .ok (.lconst 1, 1) := by decide +kernel
theorem dX12_price_7 : decode cX12_price 7 = .ok (.putfield 166, 3) := by decide +kernel
theorem dX12_price_10 : decode cX12_price 10 = .ok (.iconst 0, 1) := by decide +kernel
theorem dX12_price_11 : decode cX12_price 11 = .ok (.istore_n 2, 1) := by decide +kernel
theorem dX12_price_12 : decode cX12_price 12 = .ok (.iload_n 2, 1) := by decide +kernel
theorem dX12_price_13 : decode cX12_price 13 = .ok (.aload_n 0, 1) := by decide +kernel
theorem dX12_price_14 : decode cX12_price 14 = .ok (.getfield 87, 3) := by decide +kernel
theorem dX12_price_17 : decode cX12_price 17 = .ok (.if_icmp .ge 45, 3) := by decide +kernel
theorem dX12_price_20 : decode cX12_price 20 = .ok (.aload_n 0, 1) := by decide +kernel
theorem dX12_price_21 : decode cX12_price 21 = .ok (.getfield 33, 3) := by decide +kernel
theorem dX12_price_24 : decode cX12_price 24 = .ok (.iload_n 2, 1) := by decide +kernel
theorem dX12_price_25 : decode cX12_price 25 = .ok (.iaload, 1) := by decide +kernel
theorem dX12_price_26 : decode cX12_price 26 = .ok (.iload_n 1, 1) := by decide +kernel
theorem dX12_price_27 : decode cX12_price 27 = .ok (.if_icmp .ne 29, 3) := by decide +kernel
theorem dX12_price_30 : decode cX12_price 30 = .ok (.aload_n 0, 1) := by decide +kernel
theorem dX12_price_31 : decode cX12_price 31 = .ok (.aload_n 0, 1) := by decide +kernel
theorem dX12_price_32 : decode cX12_price 32 = .ok (.getfield 43, 3) := by decide +kernel
theorem dX12_price_35 : decode cX12_price 35 = .ok (.bipush 45, 2) := by decide +kernel
theorem dX12_price_37 : decode cX12_price 37 = .ok (.iload_n 2, 1) := by decide +kernel
theorem dX12_price_38 : decode cX12_price 38 = .ok (.iadd, 1) := by decide +kernel
theorem dX12_price_39 : decode cX12_price 39 = .ok (.laload, 1) := by decide +kernel
theorem dX12_price_40 : decode cX12_price 40 = .ok (.putfield 162, 3) := by decide +kernel
theorem dX12_price_43 : decode cX12_price 43 = .ok (.aload_n 0, 1) := by decide +kernel
theorem dX12_price_44 : decode cX12_price 44 = .ok (.aload_n 0, 1) := by decide +kernel
theorem dX12_price_45 : decode cX12_price 45 = .ok (.getfield 46, 3) := by decide +kernel
theorem dX12_price_48 : decode cX12_price 48 = .ok (.bipush 45, 2) := by decide +kernel
theorem dX12_price_50 : decode cX12_price 50 = .ok (.iload_n 2, 1) := by decide +kernel
theorem dX12_price_51 : decode cX12_price 51 = .ok (.iadd, 1) := by decide +kernel
theorem dX12_price_52 : decode cX12_price 52 = .ok (.laload, 1) := by decide +kernel
theorem dX12_price_53 : decode cX12_price 53 = .ok (.putfield 166, 3) := by decide +kernel
theorem dX12_price_56 : decode cX12_price 56 = .ok (.iinc 2 1, 3) := by decide +kernel
theorem dX12_price_59 : decode cX12_price 59 = .ok (.goto (-47), 3) := by decide +kernel
theorem dX12_price_62 : decode cX12_price 62 = .ok (.return_, 1) := by decide +kernel
theorem dX12_amount_0 : decode cX12_amount 0 = .ok (.iload_n 1, 1) := by decide +kernel
theorem dX12_amount_1 : decode cX12_amount 1 = .ok (.iconst (-1), 1) := by decide +kernel
theorem dX12_amount_2 : decode cX12_amount 2 = .ok (.if_icmp .eq 11, 3) := by decide +kernel
theorem dX12_amount_5 : decode cX12_amount 5 = .ok (.aload_n 0, 1) := by decide +kernel
theorem dX12_amount_6 : decode cX12_amount 6 = .ok (.iload_n 1, 1) := by decide +kernel
theorem dX12_amount_7 : decode cX12_amount 7 = .ok (.invokevirtual 115, 3) := by decide +kernel
theorem dX12_amount_10 : decode cX12_amount 10 = .ok (.ifCond .eq 19, 3) := by decide +kernel
theorem dX12_amount_13 : decode cX12_amount 13 = .ok (.iload_n 2, 1) := by decide +kernel
theorem dX12_amount_14 : decode cX12_amount 14 = .ok (.iconst 0, 1) := by decide +kernel
theorem dX12_amount_15 : decode cX12_amount 15 = .ok (.iconst 1, 1) := by decide +kernel
theorem dX12_amount_16 : decode cX12_amount 16 = .ok (.invokestatic 79, 3) := by decide +kernel
theorem dX12_amount_19 : decode cX12_amount 19 = .ok (.ifCond .eq 10, 3) := by decide +kernel
theorem dX12_amount_22 : decode cX12_amount 22 = .ok (.aload_n 0, 1) := by decide +kernel
theorem dX12_amount_23 : decode cX12_amount 23 = .ok (.invokevirtual 259, 3) := by decide +kernel
theorem dX12_amount_26 : decode cX12_amount 26 = .ok (.ifCond .ge 7, 3) := by decide +kernel
theorem dX12_amount_29 : decode cX12_amount 29 = .ok (.ldc2_w 150, 3) := by decide +kernel
theorem dX12_amount_32 : decode cX12_amount 32 = .ok (.lreturn, 1) := by decide +kernel
theorem dX12_amount_33 : decode cX12_amount 33 = .ok (.aload_n 0, 1) := by decide +kernel
theorem dX12_amount_34 : decode cX12_amount 34 = .ok (.iload_n 1, 1) := by decide +kernel
theorem dX12_amount_35 : decode cX12_amount 35 = .ok (.invokevirtual 262, 3) := by decide +kernel
theorem dX12_amount_38 : decode cX12_amount 38 = .ok (.iload_n 1, 1) := by decide +kernel
theorem dX12_amount_39 : decode cX12_amount 39 = .ok (.iconst (-1), 1) := by decide +kernel
theorem dX12_amount_40 : decode cX12_amount 40 = .ok (.if_icmp .ne 25, 3) := by decide +kernel
theorem dX12_amount_43 : decode cX12_amount 43 = .ok (.aload_n 0, 1) := by decide +kernel
theorem dX12_amount_44 : decode cX12_amount 44 = .ok (.aload_n 0, 1) := by decide +kernel
theorem dX12_amount_45 : decode cX12_amount 45 = .ok (.getfield 36, 3) := by decide +kernel
theorem dX12_amount_48 : decode cX12_amount 48 = .ok (.bipush 9, 2) := by decide +kernel
theorem dX12_amount_50 : decode cX12_amount 50 = .ok (.laload, 1) := by decide +kernel
theorem dX12_amount_51 : decode cX12_amount 51 = .ok (.putfield 162, 3) := by decide +kernel
theorem dX12_amount_54 : decode cX12_amount 54 = .ok (.aload_n 0, 1) := by decide +kernel
theorem dX12_amount_55 : decode cX12_amount 55 = .ok (.aload_n 0, 1) := by decide +kernel
theorem dX12_amount_56 : decode cX12_amount 56 = .ok (.getfield 40, 3) := by decide +kernel
theorem dX12_amount_59 : decode cX12_amount 59 = .ok (.bipush 9, 2) := by decide +kernel
theorem dX12_amount_61 : decode cX12_amount 61 = .ok (.laload, 1) := by decide +kernel
theorem dX12_amount_62 : decode cX12_amount 62 = .ok (.putfield 166, 3) := by decide +kernel
theorem dX12_amount_65 : decode cX12_amount 65 = .ok (.aload_n 0, 1) := by decide +kernel
theorem dX12_amount_66 : decode cX12_amount 66 = .ok (.iload_n 2, 1) := by decide +kernel
theorem dX12_amount_67 : decode cX12_amount 67 = .ok (.invokevirtual 218, 3) := by decide +kernel
theorem dX12_amount_70 : decode cX12_amount 70 = .ok (.lreturn, 1) := by decide +kernel
theorem dX12_proofOf_0 : decode cX12_proofOf 0 = .ok (.lconst 0, 1) := by decide +kernel
theorem dX12_proofOf_1 : decode cX12_proofOf 1 = .ok (.lstore_n 2, 1) := by decide +kernel
theorem dX12_proofOf_2 : decode cX12_proofOf 2 = .ok (.lconst 1, 1) := by decide +kernel
theorem dX12_proofOf_3 : decode cX12_proofOf 3 = .ok (.lstore 4, 2) := by decide +kernel
theorem dX12_proofOf_5 : decode cX12_proofOf 5 = .ok (.aload_n 0, 1) := by decide +kernel
theorem dX12_proofOf_6 : decode cX12_proofOf 6 = .ok (.getfield 83, 3) := by decide +kernel
theorem dX12_proofOf_9 : decode cX12_proofOf 9 = .ok (.iconst 1, 1) := by decide +kernel
theorem dX12_proofOf_10 : decode cX12_proofOf 10 = .ok (.isub, 1) := by decide +kernel
theorem dX12_proofOf_11 : decode cX12_proofOf 11 = .ok (.istore 6, 2) := by decide +kernel
theorem dX12_proofOf_13 : decode cX12_proofOf 13 = .ok (.iload 6, 2) := by decide +kernel
theorem dX12_proofOf_15 : decode cX12_proofOf 15 = .ok (.iload_n 1, 1) := by decide +kernel
theorem dX12_proofOf_16 : decode cX12_proofOf 16 = .ok (.if_icmp .lt 152, 3) := by decide +kernel
theorem dX12_proofOf_19 : decode cX12_proofOf 19 = .ok (.aload_n 0, 1) := by decide +kernel
theorem dX12_proofOf_20 : decode cX12_proofOf 20 = .ok (.lload_n 2, 1) := by decide +kernel
theorem dX12_proofOf_21 : decode cX12_proofOf 21 = .ok (.putfield 162, 3) := by decide +kernel
theorem dX12_proofOf_24 : decode cX12_proofOf 24 = .ok (.aload_n 0, 1) := by decide +kernel
theorem dX12_proofOf_25 : decode cX12_proofOf 25 = .ok (.lload 4, 2) := by decide +kernel
theorem dX12_proofOf_27 : decode cX12_proofOf 27 = .ok (.putfield 166, 3) := by decide +kernel
theorem dX12_proofOf_30 : decode cX12_proofOf 30 = .ok (.iload 6, 2) := by decide +kernel
theorem dX12_proofOf_32 : decode cX12_proofOf 32 = .ok (.aload_n 0, 1) := by decide +kernel
theorem dX12_proofOf_33 : decode cX12_proofOf 33 = .ok (.getfield 83, 3) := by decide +kernel
theorem dX12_proofOf_36 : decode cX12_proofOf 36 = .ok (.iconst 1, 1) := by decide +kernel
theorem dX12_proofOf_37 : decode cX12_proofOf 37 = .ok (.isub, 1) := by decide +kernel
theorem dX12_proofOf_38 : decode cX12_proofOf 38 = .ok (.if_icmp .ge 12, 3) := by decide +kernel
theorem dX12_proofOf_41 : decode cX12_proofOf 41 = .ok (.aload_n 0, 1) := by decide +kernel
theorem dX12_proofOf_42 : decode cX12_proofOf 42 = .ok (.iload 6, 2) := by decide +kernel
theorem dX12_proofOf_44 : decode cX12_proofOf 44 = .ok (.iconst 1, 1) := by decide +kernel
theorem dX12_proofOf_45 : decode cX12_proofOf 45 = .ok (.iadd, 1) := by decide +kernel
theorem dX12_proofOf_46 : decode cX12_proofOf 46 = .ok (.iconst 0, 1) := by decide +kernel
theorem dX12_proofOf_47 : decode cX12_proofOf 47 = .ok (.invokevirtual 201, 3) := by decide +kernel
theorem dX12_proofOf_50 : decode cX12_proofOf 50 = .ok (.aload_n 0, 1) := by decide +kernel
theorem dX12_proofOf_51 : decode cX12_proofOf 51 = .ok (.getfield 162, 3) := by decide +kernel
theorem dX12_proofOf_54 : decode cX12_proofOf 54 = .ok (.lstore 7, 2) := by decide +kernel
theorem dX12_proofOf_56 : decode cX12_proofOf 56 = .ok (.aload_n 0, 1) := by decide +kernel
theorem dX12_proofOf_57 : decode cX12_proofOf 57 = .ok (.getfield 166, 3) := by decide +kernel
theorem dX12_proofOf_60 : decode cX12_proofOf 60 = .ok (.lstore 9, 2) := by decide +kernel
theorem dX12_proofOf_62 : decode cX12_proofOf 62 = .ok (.aload_n 0, 1) := by decide +kernel
theorem dX12_proofOf_63 : decode cX12_proofOf 63 = .ok (.bipush 20, 2) := by decide +kernel
theorem dX12_proofOf_65 : decode cX12_proofOf 65 = .ok (.iload 6, 2) := by decide +kernel
theorem dX12_proofOf_67 : decode cX12_proofOf 67 = .ok (.iadd, 1) := by decide +kernel
theorem dX12_proofOf_68 : decode cX12_proofOf 68 = .ok (.invokevirtual 265, 3) := by decide +kernel
theorem dX12_proofOf_71 : decode cX12_proofOf 71 = .ok (.aload_n 0, 1) := by decide +kernel
theorem dX12_proofOf_72 : decode cX12_proofOf 72 = .ok (.aload_n 0, 1) := by decide +kernel
theorem dX12_proofOf_73 : decode cX12_proofOf 73 = .ok (.getfield 162, 3) := by decide +kernel
theorem dX12_proofOf_76 : decode cX12_proofOf 76 = .ok (.aload_n 0, 1) := by decide +kernel
theorem dX12_proofOf_77 : decode cX12_proofOf 77 = .ok (.getfield 166, 3) := by decide +kernel
theorem dX12_proofOf_80 : decode cX12_proofOf 80 = .ok (.ldc2_w 222, 3) := by decide +kernel
theorem dX12_proofOf_83 : decode cX12_proofOf 83 = .ok (.lconst 1, 1) := by decide +kernel
theorem dX12_proofOf_84 : decode cX12_proofOf 84 = .ok (.invokevirtual 183, 3) := by decide +kernel
theorem dX12_proofOf_87 : decode cX12_proofOf 87 = .ok (.aload_n 0, 1) := by decide +kernel
theorem dX12_proofOf_88 : decode cX12_proofOf 88 = .ok (.getfield 162, 3) := by decide +kernel
theorem dX12_proofOf_91 : decode cX12_proofOf 91 = .ok (.lstore 11, 2) := by decide +kernel
theorem dX12_proofOf_93 : decode cX12_proofOf 93 = .ok (.aload_n 0, 1) := by decide +kernel
theorem dX12_proofOf_94 : decode cX12_proofOf 94 = .ok (.getfield 166, 3) := by decide +kernel
theorem dX12_proofOf_97 : decode cX12_proofOf 97 = .ok (.lstore 13, 2) := by decide +kernel
theorem dX12_proofOf_99 : decode cX12_proofOf 99 = .ok (.aload_n 0, 1) := by decide +kernel
theorem dX12_proofOf_100 : decode cX12_proofOf 100 = .ok (.bipush 10, 2) := by decide +kernel
theorem dX12_proofOf_102 : decode cX12_proofOf 102 = .ok (.iload 6, 2) := by decide +kernel
theorem dX12_proofOf_104 : decode cX12_proofOf 104 = .ok (.iadd, 1) := by decide +kernel
theorem dX12_proofOf_105 : decode cX12_proofOf 105 = .ok (.invokevirtual 265, 3) := by decide +kernel
theorem dX12_proofOf_108 : decode cX12_proofOf 108 = .ok (.aload_n 0, 1) := by decide +kernel
theorem dX12_proofOf_109 : decode cX12_proofOf 109 = .ok (.aload_n 0, 1) := by decide +kernel
theorem dX12_proofOf_110 : decode cX12_proofOf 110 = .ok (.getfield 162, 3) := by decide +kernel
theorem dX12_proofOf_113 : decode cX12_proofOf 113 = .ok (.aload_n 0, 1) := by decide +kernel
theorem dX12_proofOf_114 : decode cX12_proofOf 114 = .ok (.getfield 166, 3) := by decide +kernel
theorem dX12_proofOf_117 : decode cX12_proofOf 117 = .ok (.lload 11, 2) := by decide +kernel
theorem dX12_proofOf_119 : decode cX12_proofOf 119 = .ok (.lload 13, 2) := by decide +kernel
theorem dX12_proofOf_121 : decode cX12_proofOf 121 = .ok (.invokevirtual 209, 3) := by decide +kernel
theorem dX12_proofOf_124 : decode cX12_proofOf 124 = .ok (.iload 6, 2) := by decide +kernel
theorem dX12_proofOf_126 : decode cX12_proofOf 126 = .ok (.aload_n 0, 1) := by decide +kernel
theorem dX12_proofOf_127 : decode cX12_proofOf 127 = .ok (.getfield 83, 3) := by decide +kernel
theorem dX12_proofOf_130 : decode cX12_proofOf 130 = .ok (.iconst 1, 1) := by decide +kernel
theorem dX12_proofOf_131 : decode cX12_proofOf 131 = .ok (.isub, 1) := by decide +kernel
theorem dX12_proofOf_132 : decode cX12_proofOf 132 = .ok (.if_icmp .ge 19, 3) := by decide +kernel
theorem dX12_proofOf_135 : decode cX12_proofOf 135 = .ok (.aload_n 0, 1) := by decide +kernel
theorem dX12_proofOf_136 : decode cX12_proofOf 136 = .ok (.aload_n 0, 1) := by decide +kernel
theorem dX12_proofOf_137 : decode cX12_proofOf 137 = .ok (.getfield 162, 3) := by decide +kernel
theorem dX12_proofOf_140 : decode cX12_proofOf 140 = .ok (.aload_n 0, 1) := by decide +kernel
theorem dX12_proofOf_141 : decode cX12_proofOf 141 = .ok (.getfield 166, 3) := by decide +kernel
theorem dX12_proofOf_144 : decode cX12_proofOf 144 = .ok (.lload 7, 2) := by decide +kernel
theorem dX12_proofOf_146 : decode cX12_proofOf 146 = .ok (.lload 9, 2) := by decide +kernel
theorem dX12_proofOf_148 : decode cX12_proofOf 148 = .ok (.invokevirtual 209, 3) := by decide +kernel
theorem dX12_proofOf_151 : decode cX12_proofOf 151 = .ok (.aload_n 0, 1) := by decide +kernel
theorem dX12_proofOf_152 : decode cX12_proofOf 152 = .ok (.getfield 162, 3) := by decide +kernel
theorem dX12_proofOf_155 : decode cX12_proofOf 155 = .ok (.lstore_n 2, 1) := by decide +kernel
theorem dX12_proofOf_156 : decode cX12_proofOf 156 = .ok (.aload_n 0, 1) := by decide +kernel
theorem dX12_proofOf_157 : decode cX12_proofOf 157 = .ok (.getfield 166, 3) := by decide +kernel
theorem dX12_proofOf_160 : decode cX12_proofOf 160 = .ok (.lstore 4, 2) := by decide +kernel
theorem dX12_proofOf_162 : decode cX12_proofOf 162 = .ok (.iinc 6 (-1), 3) := by decide +kernel
theorem dX12_proofOf_165 : decode cX12_proofOf 165 = .ok (.goto (-152), 3) := by decide +kernel
theorem dX12_proofOf_168 : decode cX12_proofOf 168 = .ok (.aload_n 0, 1) := by decide +kernel
theorem dX12_proofOf_169 : decode cX12_proofOf 169 = .ok (.lload_n 2, 1) := by decide +kernel
theorem dX12_proofOf_170 : decode cX12_proofOf 170 = .ok (.putfield 162, 3) := by decide +kernel
theorem dX12_proofOf_173 : decode cX12_proofOf 173 = .ok (.aload_n 0, 1) := by decide +kernel
theorem dX12_proofOf_174 : decode cX12_proofOf 174 = .ok (.lload 4, 2) := by decide +kernel
theorem dX12_proofOf_176 : decode cX12_proofOf 176 = .ok (.putfield 166, 3) := by decide +kernel
theorem dX12_proofOf_179 : decode cX12_proofOf 179 = .ok (.return_, 1) := by decide +kernel
theorem dX12_proof_0 : decode cX12_proof 0 = .ok (.aload_n 0, 1) := by decide +kernel
theorem dX12_proof_1 : decode cX12_proof 1 = .ok (.iload_n 1, 1) := by decide +kernel
theorem dX12_proof_2 : decode cX12_proof 2 = .ok (.invokevirtual 112, 3) := by decide +kernel
theorem dX12_proof_5 : decode cX12_proof 5 = .ok (.ifCond .eq 28, 3) := by decide +kernel
theorem dX12_proof_8 : decode cX12_proof 8 = .ok (.iload_n 2, 1) := by decide +kernel
theorem dX12_proof_9 : decode cX12_proof 9 = .ok (.iconst 0, 1) := by decide +kernel
theorem dX12_proof_10 : decode cX12_proof 10 = .ok (.iconst 3, 1) := by decide +kernel
theorem dX12_proof_11 : decode cX12_proof 11 = .ok (.invokestatic 79, 3) := by decide +kernel
theorem dX12_proof_14 : decode cX12_proof 14 = .ok (.ifCond .eq 19, 3) := by decide +kernel
theorem dX12_proof_17 : decode cX12_proof 17 = .ok (.iload_n 3, 1) := by decide +kernel
theorem dX12_proof_18 : decode cX12_proof 18 = .ok (.iconst 0, 1) := by decide +kernel
theorem dX12_proof_19 : decode cX12_proof 19 = .ok (.iconst 1, 1) := by decide +kernel
theorem dX12_proof_20 : decode cX12_proof 20 = .ok (.invokestatic 79, 3) := by decide +kernel
theorem dX12_proof_23 : decode cX12_proof 23 = .ok (.ifCond .eq 10, 3) := by decide +kernel
theorem dX12_proof_26 : decode cX12_proof 26 = .ok (.aload_n 0, 1) := by decide +kernel
theorem dX12_proof_27 : decode cX12_proof 27 = .ok (.invokevirtual 259, 3) := by decide +kernel
theorem dX12_proof_30 : decode cX12_proof 30 = .ok (.ifCond .ge 7, 3) := by decide +kernel
theorem dX12_proof_33 : decode cX12_proof 33 = .ok (.ldc2_w 150, 3) := by decide +kernel
theorem dX12_proof_36 : decode cX12_proof 36 = .ok (.lreturn, 1) := by decide +kernel
theorem dX12_proof_37 : decode cX12_proof 37 = .ok (.iload_n 2, 1) := by decide +kernel
theorem dX12_proof_38 : decode cX12_proof 38 = .ok (.ifCond .ne 14, 3) := by decide +kernel
theorem dX12_proof_41 : decode cX12_proof 41 = .ok (.aload_n 0, 1) := by decide +kernel
theorem dX12_proof_42 : decode cX12_proof 42 = .ok (.bipush 10, 2) := by decide +kernel
theorem dX12_proof_44 : decode cX12_proof 44 = .ok (.iload_n 1, 1) := by decide +kernel
theorem dX12_proof_45 : decode cX12_proof 45 = .ok (.iadd, 1) := by decide +kernel
theorem dX12_proof_46 : decode cX12_proof 46 = .ok (.invokevirtual 262, 3) := by decide +kernel
theorem dX12_proof_49 : decode cX12_proof 49 = .ok (.goto 26, 3) := by decide +kernel
theorem dX12_proof_52 : decode cX12_proof 52 = .ok (.iload_n 2, 1) := by decide +kernel
theorem dX12_proof_53 : decode cX12_proof 53 = .ok (.iconst 3, 1) := by decide +kernel
theorem dX12_proof_54 : decode cX12_proof 54 = .ok (.if_icmp .ne 11, 3) := by decide +kernel
theorem dX12_proof_57 : decode cX12_proof 57 = .ok (.aload_n 0, 1) := by decide +kernel
theorem dX12_proof_58 : decode cX12_proof 58 = .ok (.iload_n 1, 1) := by decide +kernel
theorem dX12_proof_59 : decode cX12_proof 59 = .ok (.invokevirtual 268, 3) := by decide +kernel
theorem dX12_proof_62 : decode cX12_proof 62 = .ok (.goto 13, 3) := by decide +kernel
theorem dX12_proof_65 : decode cX12_proof 65 = .ok (.aload_n 0, 1) := by decide +kernel
theorem dX12_proof_66 : decode cX12_proof 66 = .ok (.bipush 10, 2) := by decide +kernel
theorem dX12_proof_68 : decode cX12_proof 68 = .ok (.iload_n 2, 1) := by decide +kernel
theorem dX12_proof_69 : decode cX12_proof 69 = .ok (.imul, 1) := by decide +kernel
theorem dX12_proof_70 : decode cX12_proof 70 = .ok (.iload_n 1, 1) := by decide +kernel
theorem dX12_proof_71 : decode cX12_proof 71 = .ok (.iadd, 1) := by decide +kernel
theorem dX12_proof_72 : decode cX12_proof 72 = .ok (.invokevirtual 265, 3) := by decide +kernel
theorem dX12_proof_75 : decode cX12_proof 75 = .ok (.aload_n 0, 1) := by decide +kernel
theorem dX12_proof_76 : decode cX12_proof 76 = .ok (.iload_n 3, 1) := by decide +kernel
theorem dX12_proof_77 : decode cX12_proof 77 = .ok (.invokevirtual 218, 3) := by decide +kernel
theorem dX12_proof_80 : decode cX12_proof 80 = .ok (.lreturn, 1) := by decide +kernel
theorem dX12_climbs_0 : decode cX12_climbs 0 = .ok (.aload_n 0, 1) := by decide +kernel
theorem dX12_climbs_1 : decode cX12_climbs 1 = .ok (.iload_n 1, 1) := by decide +kernel
theorem dX12_climbs_2 : decode cX12_climbs 2 = .ok (.invokevirtual 146, 3) := by decide +kernel
theorem dX12_climbs_5 : decode cX12_climbs 5 = .ok (.aload_n 0, 1) := by decide +kernel
theorem dX12_climbs_6 : decode cX12_climbs 6 = .ok (.iconst 0, 1) := by decide +kernel
theorem dX12_climbs_7 : decode cX12_climbs 7 = .ok (.putfield 271, 3) := by decide +kernel
theorem dX12_climbs_10 : decode cX12_climbs 10 = .ok (.iconst 0, 1) := by decide +kernel
theorem dX12_climbs_11 : decode cX12_climbs 11 = .ok (.istore_n 2, 1) := by decide +kernel
theorem dX12_climbs_12 : decode cX12_climbs 12 = .ok (.iload_n 2, 1) := by decide +kernel
theorem dX12_climbs_13 : decode cX12_climbs 13 = .ok (.aload_n 0, 1) := by decide +kernel
theorem dX12_climbs_14 : decode cX12_climbs 14 = .ok (.getfield 87, 3) := by decide +kernel
theorem dX12_climbs_17 : decode cX12_climbs 17 = .ok (.if_icmp .ge 16, 3) := by decide +kernel
theorem dX12_climbs_20 : decode cX12_climbs 20 = .ok (.aload_n 0, 1) := by decide +kernel
theorem dX12_climbs_21 : decode cX12_climbs 21 = .ok (.getfield 55, 3) := by decide +kernel
theorem dX12_climbs_24 : decode cX12_climbs 24 = .ok (.iload_n 2, 1) := by decide +kernel
theorem dX12_climbs_25 : decode cX12_climbs 25 = .ok (.iconst 0, 1) := by decide +kernel
theorem dX12_climbs_26 : decode cX12_climbs 26 = .ok (.iastore, 1) := by decide +kernel
theorem dX12_climbs_27 : decode cX12_climbs 27 = .ok (.iinc 2 1, 3) := by decide +kernel
theorem dX12_climbs_30 : decode cX12_climbs 30 = .ok (.goto (-18), 3) := by decide +kernel
theorem dX12_climbs_33 : decode cX12_climbs 33 = .ok (.aload_n 0, 1) := by decide +kernel
theorem dX12_climbs_34 : decode cX12_climbs 34 = .ok (.getfield 83, 3) := by decide +kernel
theorem dX12_climbs_37 : decode cX12_climbs 37 = .ok (.iconst 1, 1) := by decide +kernel
theorem dX12_climbs_38 : decode cX12_climbs 38 = .ok (.isub, 1) := by decide +kernel
theorem dX12_climbs_39 : decode cX12_climbs 39 = .ok (.istore_n 2, 1) := by decide +kernel
theorem dX12_climbs_40 : decode cX12_climbs 40 = .ok (.iload_n 2, 1) := by decide +kernel
theorem dX12_climbs_41 : decode cX12_climbs 41 = .ok (.ifCond .lt 157, 3) := by decide +kernel
theorem dX12_climbs_44 : decode cX12_climbs 44 = .ok (.aload_n 0, 1) := by decide +kernel
theorem dX12_climbs_45 : decode cX12_climbs 45 = .ok (.getfield 9, 3) := by decide +kernel
theorem dX12_climbs_48 : decode cX12_climbs 48 = .ok (.aload_n 0, 1) := by decide +kernel
theorem dX12_climbs_49 : decode cX12_climbs 49 = .ok (.getfield 24, 3) := by decide +kernel
theorem dX12_climbs_52 : decode cX12_climbs 52 = .ok (.iload_n 2, 1) := by decide +kernel
theorem dX12_climbs_53 : decode cX12_climbs 53 = .ok (.iaload, 1) := by decide +kernel
theorem dX12_climbs_54 : decode cX12_climbs 54 = .ok (.iaload, 1) := by decide +kernel
theorem dX12_climbs_55 : decode cX12_climbs 55 = .ok (.istore_n 3, 1) := by decide +kernel
theorem dX12_climbs_56 : decode cX12_climbs 56 = .ok (.iconst 0, 1) := by decide +kernel
theorem dX12_climbs_57 : decode cX12_climbs 57 = .ok (.istore 4, 2) := by decide +kernel
theorem dX12_climbs_59 : decode cX12_climbs 59 = .ok (.iload 4, 2) := by decide +kernel
theorem dX12_climbs_61 : decode cX12_climbs 61 = .ok (.aload_n 0, 1) := by decide +kernel
theorem dX12_climbs_62 : decode cX12_climbs 62 = .ok (.getfield 87, 3) := by decide +kernel
theorem dX12_climbs_65 : decode cX12_climbs 65 = .ok (.if_icmp .ge 27, 3) := by decide +kernel
theorem dX12_climbs_68 : decode cX12_climbs 68 = .ok (.iload_n 3, 1) := by decide +kernel
theorem dX12_climbs_69 : decode cX12_climbs 69 = .ok (.aload_n 0, 1) := by decide +kernel
theorem dX12_climbs_70 : decode cX12_climbs 70 = .ok (.getfield 55, 3) := by decide +kernel
theorem dX12_climbs_73 : decode cX12_climbs 73 = .ok (.iload 4, 2) := by decide +kernel
theorem dX12_climbs_75 : decode cX12_climbs 75 = .ok (.iaload, 1) := by decide +kernel
theorem dX12_climbs_76 : decode cX12_climbs 76 = .ok (.aload_n 0, 1) := by decide +kernel
theorem dX12_climbs_77 : decode cX12_climbs 77 = .ok (.iload 4, 2) := by decide +kernel
theorem dX12_climbs_79 : decode cX12_climbs 79 = .ok (.iload_n 2, 1) := by decide +kernel
theorem dX12_climbs_80 : decode cX12_climbs 80 = .ok (.invokevirtual 131, 3) := by decide +kernel
theorem dX12_climbs_83 : decode cX12_climbs 83 = .ok (.imul, 1) := by decide +kernel
theorem dX12_climbs_84 : decode cX12_climbs 84 = .ok (.isub, 1) := by decide +kernel
theorem dX12_climbs_85 : decode cX12_climbs 85 = .ok (.istore_n 3, 1) := by decide +kernel
theorem dX12_climbs_86 : decode cX12_climbs 86 = .ok (.iinc 4 1, 3) := by decide +kernel
theorem dX12_climbs_89 : decode cX12_climbs 89 = .ok (.goto (-30), 3) := by decide +kernel
theorem dX12_climbs_92 : decode cX12_climbs 92 = .ok (.iconst (-1), 1) := by decide +kernel
theorem dX12_climbs_93 : decode cX12_climbs 93 = .ok (.istore 4, 2) := by decide +kernel
theorem dX12_climbs_95 : decode cX12_climbs 95 = .ok (.aload_n 0, 1) := by decide +kernel
theorem dX12_climbs_96 : decode cX12_climbs 96 = .ok (.getfield 87, 3) := by decide +kernel
theorem dX12_climbs_99 : decode cX12_climbs 99 = .ok (.iconst 1, 1) := by decide +kernel
theorem dX12_climbs_100 : decode cX12_climbs 100 = .ok (.isub, 1) := by decide +kernel
theorem dX12_climbs_101 : decode cX12_climbs 101 = .ok (.istore 5, 2) := by decide +kernel
theorem dX12_climbs_103 : decode cX12_climbs 103 = .ok (.iload 5, 2) := by decide +kernel
theorem dX12_climbs_105 : decode cX12_climbs 105 = .ok (.ifCond .lt 33, 3) := by decide +kernel
theorem dX12_climbs_108 : decode cX12_climbs 108 = .ok (.aload_n 0, 1) := by decide +kernel
theorem dX12_climbs_109 : decode cX12_climbs 109 = .ok (.aload_n 0, 1) := by decide +kernel
theorem dX12_climbs_110 : decode cX12_climbs 110 = .ok (.getfield 58, 3) := by decide +kernel
theorem dX12_climbs_113 : decode cX12_climbs 113 = .ok (.iload 5, 2) := by decide +kernel
theorem dX12_climbs_115 : decode cX12_climbs 115 = .ok (.iaload, 1) := by decide +kernel
theorem dX12_climbs_116 : decode cX12_climbs 116 = .ok (.invokevirtual 134, 3) := by decide +kernel
theorem dX12_climbs_119 : decode cX12_climbs 119 = .ok (.iload_n 2, 1) := by decide +kernel
theorem dX12_climbs_120 : decode cX12_climbs 120 = .ok (.if_icmp .ne 12, 3) := by decide +kernel
theorem dX12_climbs_123 : decode cX12_climbs 123 = .ok (.aload_n 0, 1) := by decide +kernel
theorem dX12_climbs_124 : decode cX12_climbs 124 = .ok (.getfield 58, 3) := by decide +kernel
theorem dX12_climbs_127 : decode cX12_climbs 127 = .ok (.iload 5, 2) := by decide +kernel
theorem dX12_climbs_129 : decode cX12_climbs 129 = .ok (.iaload, 1) := by decide +kernel
theorem dX12_climbs_130 : decode cX12_climbs 130 = .ok (.istore 4, 2) := by decide +kernel
theorem dX12_climbs_132 : decode cX12_climbs 132 = .ok (.iinc 5 (-1), 3) := by decide +kernel
theorem dX12_climbs_135 : decode cX12_climbs 135 = .ok (.goto (-32), 3) := by decide +kernel
theorem dX12_climbs_138 : decode cX12_climbs 138 = .ok (.iload_n 3, 1) := by decide +kernel
theorem dX12_climbs_139 : decode cX12_climbs 139 = .ok (.ifCond .gt 6, 3) := by decide +kernel
theorem dX12_climbs_142 : decode cX12_climbs 142 = .ok (.goto 50, 3) := by decide +kernel
theorem dX12_climbs_145 : decode cX12_climbs 145 = .ok (.iload 4, 2) := by decide +kernel
theorem dX12_climbs_147 : decode cX12_climbs 147 = .ok (.iconst (-1), 1) := by decide +kernel
theorem dX12_climbs_148 : decode cX12_climbs 148 = .ok (.if_icmp .ne 16, 3) := by decide +kernel
theorem dX12_climbs_151 : decode cX12_climbs 151 = .ok (.aload_n 0, 1) := by decide +kernel
theorem dX12_climbs_152 : decode cX12_climbs 152 = .ok (.dup, 1) := by decide +kernel
theorem dX12_climbs_153 : decode cX12_climbs 153 = .ok (.getfield 271, 3) := by decide +kernel
theorem dX12_climbs_156 : decode cX12_climbs 156 = .ok (.iload_n 3, 1) := by decide +kernel
theorem dX12_climbs_157 : decode cX12_climbs 157 = .ok (.iadd, 1) := by decide +kernel
theorem dX12_climbs_158 : decode cX12_climbs 158 = .ok (.putfield 271, 3) := by decide +kernel
theorem dX12_climbs_161 : decode cX12_climbs 161 = .ok (.goto 31, 3) := by decide +kernel
theorem dX12_climbs_164 : decode cX12_climbs 164 = .ok (.aload_n 0, 1) := by decide +kernel
theorem dX12_climbs_165 : decode cX12_climbs 165 = .ok (.iload 4, 2) := by decide +kernel
theorem dX12_climbs_167 : decode cX12_climbs 167 = .ok (.iload_n 2, 1) := by decide +kernel
theorem dX12_climbs_168 : decode cX12_climbs 168 = .ok (.invokevirtual 131, 3) := by decide +kernel
theorem dX12_climbs_171 : decode cX12_climbs 171 = .ok (.istore 5, 2) := by decide +kernel
theorem dX12_climbs_173 : decode cX12_climbs 173 = .ok (.aload_n 0, 1) := by decide +kernel
theorem dX12_climbs_174 : decode cX12_climbs 174 = .ok (.getfield 55, 3) := by decide +kernel
theorem dX12_climbs_177 : decode cX12_climbs 177 = .ok (.iload 4, 2) := by decide +kernel
theorem dX12_climbs_179 : decode cX12_climbs 179 = .ok (.dup2, 1) := by decide +kernel
theorem dX12_climbs_180 : decode cX12_climbs 180 = .ok (.iaload, 1) := by decide +kernel
theorem dX12_climbs_181 : decode cX12_climbs 181 = .ok (.iload_n 3, 1) := by decide +kernel
theorem dX12_climbs_182 : decode cX12_climbs 182 = .ok (.iload 5, 2) := by decide +kernel
theorem dX12_climbs_184 : decode cX12_climbs 184 = .ok (.iadd, 1) := by decide +kernel
theorem dX12_climbs_185 : decode cX12_climbs 185 = .ok (.iconst 1, 1) := by decide +kernel
theorem dX12_climbs_186 : decode cX12_climbs 186 = .ok (.isub, 1) := by decide +kernel
theorem dX12_climbs_187 : decode cX12_climbs 187 = .ok (.iload 5, 2) := by decide +kernel
theorem dX12_climbs_189 : decode cX12_climbs 189 = .ok (.idiv, 1) := by decide +kernel
theorem dX12_climbs_190 : decode cX12_climbs 190 = .ok (.iadd, 1) := by decide +kernel
theorem dX12_climbs_191 : decode cX12_climbs 191 = .ok (.iastore, 1) := by decide +kernel
theorem dX12_climbs_192 : decode cX12_climbs 192 = .ok (.iinc 2 (-1), 3) := by decide +kernel
theorem dX12_climbs_195 : decode cX12_climbs 195 = .ok (.goto (-155), 3) := by decide +kernel
theorem dX12_climbs_198 : decode cX12_climbs 198 = .ok (.return_, 1) := by decide +kernel
theorem dX12_ladder_0 : decode cX12_ladder 0 = .ok (.iload_n 1, 1) := by decide +kernel
theorem dX12_ladder_1 : decode cX12_ladder 1 = .ok (.iconst 0, 1) := by decide +kernel
theorem dX12_ladder_2 : decode cX12_ladder 2 = .ok (.iconst 3, 1) := by decide +kernel
theorem dX12_ladder_3 : decode cX12_ladder 3 = .ok (.invokestatic 79, 3) := by decide +kernel
theorem dX12_ladder_6 : decode cX12_ladder 6 = .ok (.ifCond .eq 22, 3) := by decide +kernel
theorem dX12_ladder_9 : decode cX12_ladder 9 = .ok (.aload_n 0, 1) := by decide +kernel
theorem dX12_ladder_10 : decode cX12_ladder 10 = .ok (.iload_n 2, 1) := by decide +kernel
theorem dX12_ladder_11 : decode cX12_ladder 11 = .ok (.invokevirtual 115, 3) := by decide +kernel
theorem dX12_ladder_14 : decode cX12_ladder 14 = .ok (.ifCond .ne 17, 3) := by decide +kernel
theorem dX12_ladder_17 : decode cX12_ladder 17 = .ok (.iload_n 2, 1) := by decide +kernel
theorem dX12_ladder_18 : decode cX12_ladder 18 = .ok (.bipush 10, 2) := by decide +kernel
theorem dX12_ladder_20 : decode cX12_ladder 20 = .ok (.bipush 11, 2) := by decide +kernel
theorem dX12_ladder_22 : decode cX12_ladder 22 = .ok (.invokestatic 79, 3) := by decide +kernel
theorem dX12_ladder_25 : decode cX12_ladder 25 = .ok (.ifCond .ne 6, 3) := by decide +kernel
theorem dX12_ladder_28 : decode cX12_ladder 28 = .ok (.bipush (-2), 2) := by decide +kernel
theorem dX12_ladder_30 : decode cX12_ladder 30 = .ok (.ireturn, 1) := by decide +kernel
theorem dX12_ladder_31 : decode cX12_ladder 31 = .ok (.aload_n 0, 1) := by decide +kernel
theorem dX12_ladder_32 : decode cX12_ladder 32 = .ok (.iload_n 1, 1) := by decide +kernel
theorem dX12_ladder_33 : decode cX12_ladder 33 = .ok (.invokevirtual 274, 3) := by decide +kernel
theorem dX12_ladder_36 : decode cX12_ladder 36 = .ok (.iload_n 2, 1) := by decide +kernel
theorem dX12_ladder_37 : decode cX12_ladder 37 = .ok (.bipush 10, 2) := by decide +kernel
theorem dX12_ladder_39 : decode cX12_ladder 39 = .ok (.if_icmp .ge 10, 3) := by decide +kernel
theorem dX12_ladder_42 : decode cX12_ladder 42 = .ok (.aload_n 0, 1) := by decide +kernel
theorem dX12_ladder_43 : decode cX12_ladder 43 = .ok (.getfield 55, 3) := by decide +kernel
theorem dX12_ladder_46 : decode cX12_ladder 46 = .ok (.iload_n 2, 1) := by decide +kernel
theorem dX12_ladder_47 : decode cX12_ladder 47 = .ok (.iaload, 1) := by decide +kernel
theorem dX12_ladder_48 : decode cX12_ladder 48 = .ok (.ireturn, 1) := by decide +kernel
theorem dX12_ladder_49 : decode cX12_ladder 49 = .ok (.iload_n 2, 1) := by decide +kernel
theorem dX12_ladder_50 : decode cX12_ladder 50 = .ok (.bipush 11, 2) := by decide +kernel
theorem dX12_ladder_52 : decode cX12_ladder 52 = .ok (.if_icmp .ne 8, 3) := by decide +kernel
theorem dX12_ladder_55 : decode cX12_ladder 55 = .ok (.aload_n 0, 1) := by decide +kernel
theorem dX12_ladder_56 : decode cX12_ladder 56 = .ok (.getfield 271, 3) := by decide +kernel
theorem dX12_ladder_59 : decode cX12_ladder 59 = .ok (.ireturn, 1) := by decide +kernel
theorem dX12_ladder_60 : decode cX12_ladder 60 = .ok (.iconst 0, 1) := by decide +kernel
theorem dX12_ladder_61 : decode cX12_ladder 61 = .ok (.istore_n 3, 1) := by decide +kernel
theorem dX12_ladder_62 : decode cX12_ladder 62 = .ok (.iconst 0, 1) := by decide +kernel
theorem dX12_ladder_63 : decode cX12_ladder 63 = .ok (.istore 4, 2) := by decide +kernel
theorem dX12_ladder_65 : decode cX12_ladder 65 = .ok (.iload 4, 2) := by decide +kernel
theorem dX12_ladder_67 : decode cX12_ladder 67 = .ok (.aload_n 0, 1) := by decide +kernel
theorem dX12_ladder_68 : decode cX12_ladder 68 = .ok (.getfield 87, 3) := by decide +kernel
theorem dX12_ladder_71 : decode cX12_ladder 71 = .ok (.if_icmp .ge 27, 3) := by decide +kernel
theorem dX12_ladder_74 : decode cX12_ladder 74 = .ok (.iload_n 3, 1) := by decide +kernel
theorem dX12_ladder_75 : decode cX12_ladder 75 = .ok (.aload_n 0, 1) := by decide +kernel
theorem dX12_ladder_76 : decode cX12_ladder 76 = .ok (.getfield 55, 3) := by decide +kernel
theorem dX12_ladder_79 : decode cX12_ladder 79 = .ok (.iload 4, 2) := by decide +kernel
theorem dX12_ladder_81 : decode cX12_ladder 81 = .ok (.iaload, 1) := by decide +kernel
theorem dX12_ladder_82 : decode cX12_ladder 82 = .ok (.aload_n 0, 1) := by decide +kernel
theorem dX12_ladder_83 : decode cX12_ladder 83 = .ok (.iload 4, 2) := by decide +kernel
theorem dX12_ladder_85 : decode cX12_ladder 85 = .ok (.iconst 1, 1) := by decide +kernel
theorem dX12_ladder_86 : decode cX12_ladder 86 = .ok (.invokevirtual 118, 3) := by decide +kernel
theorem dX12_ladder_89 : decode cX12_ladder 89 = .ok (.imul, 1) := by decide +kernel
theorem dX12_ladder_90 : decode cX12_ladder 90 = .ok (.iadd, 1) := by decide +kernel
theorem dX12_ladder_91 : decode cX12_ladder 91 = .ok (.istore_n 3, 1) := by decide +kernel
theorem dX12_ladder_92 : decode cX12_ladder 92 = .ok (.iinc 4 1, 3) := by decide +kernel
theorem dX12_ladder_95 : decode cX12_ladder 95 = .ok (.goto (-30), 3) := by decide +kernel
theorem dX12_ladder_98 : decode cX12_ladder 98 = .ok (.iload_n 3, 1) := by decide +kernel
theorem dX12_ladder_99 : decode cX12_ladder 99 = .ok (.ireturn, 1) := by decide +kernel
theorem dX12_plays_0 : decode cX12_plays 0 = .ok (.aload_n 0, 1) := by decide +kernel
theorem dX12_plays_1 : decode cX12_plays 1 = .ok (.lconst 0, 1) := by decide +kernel
theorem dX12_plays_2 : decode cX12_plays 2 = .ok (.putfield 277, 3) := by decide +kernel
theorem dX12_plays_5 : decode cX12_plays 5 = .ok (.aload_n 0, 1) := by decide +kernel
theorem dX12_plays_6 : decode cX12_plays 6 = .ok (.lconst 0, 1) := by decide +kernel
theorem dX12_plays_7 : decode cX12_plays 7 = .ok (.putfield 280, 3) := by decide +kernel
theorem dX12_plays_10 : decode cX12_plays 10 = .ok (.aload_n 0, 1) := by decide +kernel
theorem dX12_plays_11 : decode cX12_plays 11 = .ok (.lconst 0, 1) := by decide +kernel
theorem dX12_plays_12 : decode cX12_plays 12 = .ok (.putfield 283, 3) := by decide +kernel
theorem dX12_plays_15 : decode cX12_plays 15 = .ok (.lconst 0, 1) := by decide +kernel
theorem dX12_plays_16 : decode cX12_plays 16 = .ok (.lstore_n 1, 1) := by decide +kernel
theorem dX12_plays_17 : decode cX12_plays 17 = .ok (.lconst 0, 1) := by decide +kernel
theorem dX12_plays_18 : decode cX12_plays 18 = .ok (.lstore_n 3, 1) := by decide +kernel
theorem dX12_plays_19 : decode cX12_plays 19 = .ok (.lconst 0, 1) := by decide +kernel
theorem dX12_plays_20 : decode cX12_plays 20 = .ok (.lstore 5, 2) := by decide +kernel
theorem dX12_plays_22 : decode cX12_plays 22 = .ok (.iconst 0, 1) := by decide +kernel
theorem dX12_plays_23 : decode cX12_plays 23 = .ok (.istore 7, 2) := by decide +kernel
theorem dX12_plays_25 : decode cX12_plays 25 = .ok (.iconst 1, 1) := by decide +kernel
theorem dX12_plays_26 : decode cX12_plays 26 = .ok (.istore 8, 2) := by decide +kernel
theorem dX12_plays_28 : decode cX12_plays 28 = .ok (.iload 7, 2) := by decide +kernel
theorem dX12_plays_30 : decode cX12_plays 30 = .ok (.aload_n 0, 1) := by decide +kernel
theorem dX12_plays_31 : decode cX12_plays 31 = .ok (.getfield 83, 3) := by decide +kernel
theorem dX12_plays_34 : decode cX12_plays 34 = .ok (.if_icmp .ge 231, 3) := by decide +kernel
theorem dX12_plays_37 : decode cX12_plays 37 = .ok (.iconst 0, 1) := by decide +kernel
theorem dX12_plays_38 : decode cX12_plays 38 = .ok (.istore 9, 2) := by decide +kernel
theorem dX12_plays_40 : decode cX12_plays 40 = .ok (.iload 9, 2) := by decide +kernel
theorem dX12_plays_42 : decode cX12_plays 42 = .ok (.aload_n 0, 1) := by decide +kernel
theorem dX12_plays_43 : decode cX12_plays 43 = .ok (.getfield 87, 3) := by decide +kernel
theorem dX12_plays_46 : decode cX12_plays 46 = .ok (.if_icmp .ge 31, 3) := by decide +kernel
theorem dX12_plays_49 : decode cX12_plays 49 = .ok (.lload_n 3, 1) := by decide +kernel
theorem dX12_plays_50 : decode cX12_plays 50 = .ok (.aload_n 0, 1) := by decide +kernel
theorem dX12_plays_51 : decode cX12_plays 51 = .ok (.iload 9, 2) := by decide +kernel
theorem dX12_plays_53 : decode cX12_plays 53 = .ok (.bipush 6, 2) := by decide +kernel
theorem dX12_plays_55 : decode cX12_plays 55 = .ok (.invokevirtual 118, 3) := by decide +kernel
theorem dX12_plays_58 : decode cX12_plays 58 = .ok (.i2l, 1) := by decide +kernel
theorem dX12_plays_59 : decode cX12_plays 59 = .ok (.aload_n 0, 1) := by decide +kernel
theorem dX12_plays_60 : decode cX12_plays 60 = .ok (.iload 9, 2) := by decide +kernel
theorem dX12_plays_62 : decode cX12_plays 62 = .ok (.iload 8, 2) := by decide +kernel
theorem dX12_plays_64 : decode cX12_plays 64 = .ok (.invokevirtual 128, 3) := by decide +kernel
theorem dX12_plays_67 : decode cX12_plays 67 = .ok (.i2l, 1) := by decide +kernel
theorem dX12_plays_68 : decode cX12_plays 68 = .ok (.lmul, 1) := by decide +kernel
theorem dX12_plays_69 : decode cX12_plays 69 = .ok (.ladd, 1) := by decide +kernel
theorem dX12_plays_70 : decode cX12_plays 70 = .ok (.lstore_n 3, 1) := by decide +kernel
theorem dX12_plays_71 : decode cX12_plays 71 = .ok (.iinc 9 1, 3) := by decide +kernel
theorem dX12_plays_74 : decode cX12_plays 74 = .ok (.goto (-34), 3) := by decide +kernel
theorem dX12_plays_77 : decode cX12_plays 77 = .ok (.iload 8, 2) := by decide +kernel
theorem dX12_plays_79 : decode cX12_plays 79 = .ok (.aload_n 0, 1) := by decide +kernel
theorem dX12_plays_80 : decode cX12_plays 80 = .ok (.getfield 24, 3) := by decide +kernel
theorem dX12_plays_83 : decode cX12_plays 83 = .ok (.iload 7, 2) := by decide +kernel
theorem dX12_plays_85 : decode cX12_plays 85 = .ok (.iaload, 1) := by decide +kernel
theorem dX12_plays_86 : decode cX12_plays 86 = .ok (.if_icmp .eq 6, 3) := by decide +kernel
theorem dX12_plays_89 : decode cX12_plays 89 = .ok (.goto 170, 3) := by decide +kernel
theorem dX12_plays_92 : decode cX12_plays 92 = .ok (.lload_n 1, 1) := by decide +kernel
theorem dX12_plays_93 : decode cX12_plays 93 = .ok (.iconst 4, 1) := by decide +kernel
theorem dX12_plays_94 : decode cX12_plays 94 = .ok (.aload_n 0, 1) := by decide +kernel
theorem dX12_plays_95 : decode cX12_plays 95 = .ok (.iload 8, 2) := by decide +kernel
theorem dX12_plays_97 : decode cX12_plays 97 = .ok (.invokevirtual 122, 3) := by decide +kernel
theorem dX12_plays_100 : decode cX12_plays 100 = .ok (.iadd, 1) := by decide +kernel
theorem dX12_plays_101 : decode cX12_plays 101 = .ok (.i2l, 1) := by decide +kernel
theorem dX12_plays_102 : decode cX12_plays 102 = .ok (.lmul, 1) := by decide +kernel
theorem dX12_plays_103 : decode cX12_plays 103 = .ok (.ldc2_w 193, 3) := by decide +kernel
theorem dX12_plays_106 : decode cX12_plays 106 = .ok (.ldiv, 1) := by decide +kernel
theorem dX12_plays_107 : decode cX12_plays 107 = .ok (.lload_n 1, 1) := by decide +kernel
theorem dX12_plays_108 : decode cX12_plays 108 = .ok (.lsub, 1) := by decide +kernel
theorem dX12_plays_109 : decode cX12_plays 109 = .ok (.lstore 9, 2) := by decide +kernel
theorem dX12_plays_111 : decode cX12_plays 111 = .ok (.aload_n 0, 1) := by decide +kernel
theorem dX12_plays_112 : decode cX12_plays 112 = .ok (.dup, 1) := by decide +kernel
theorem dX12_plays_113 : decode cX12_plays 113 = .ok (.getfield 280, 3) := by decide +kernel
theorem dX12_plays_116 : decode cX12_plays 116 = .ok (.lload 9, 2) := by decide +kernel
theorem dX12_plays_118 : decode cX12_plays 118 = .ok (.ladd, 1) := by decide +kernel
theorem dX12_plays_119 : decode cX12_plays 119 = .ok (.putfield 280, 3) := by decide +kernel
theorem dX12_plays_122 : decode cX12_plays 122 = .ok (.aload_n 0, 1) := by decide +kernel
theorem dX12_plays_123 : decode cX12_plays 123 = .ok (.dup, 1) := by decide +kernel
theorem dX12_plays_124 : decode cX12_plays 124 = .ok (.getfield 283, 3) := by decide +kernel
theorem dX12_plays_127 : decode cX12_plays 127 = .ok (.lload_n 3, 1) := by decide +kernel
theorem dX12_plays_128 : decode cX12_plays 128 = .ok (.ladd, 1) := by decide +kernel
theorem dX12_plays_129 : decode cX12_plays 129 = .ok (.putfield 283, 3) := by decide +kernel
theorem dX12_plays_132 : decode cX12_plays 132 = .ok (.lload_n 1, 1) := by decide +kernel
theorem dX12_plays_133 : decode cX12_plays 133 = .ok (.lload 9, 2) := by decide +kernel
theorem dX12_plays_135 : decode cX12_plays 135 = .ok (.lload_n 3, 1) := by decide +kernel
theorem dX12_plays_136 : decode cX12_plays 136 = .ok (.ladd, 1) := by decide +kernel
theorem dX12_plays_137 : decode cX12_plays 137 = .ok (.ladd, 1) := by decide +kernel
theorem dX12_plays_138 : decode cX12_plays 138 = .ok (.lstore_n 1, 1) := by decide +kernel
theorem dX12_plays_139 : decode cX12_plays 139 = .ok (.lconst 0, 1) := by decide +kernel
theorem dX12_plays_140 : decode cX12_plays 140 = .ok (.lstore_n 3, 1) := by decide +kernel
theorem dX12_plays_141 : decode cX12_plays 141 = .ok (.aload_n 0, 1) := by decide +kernel
theorem dX12_plays_142 : decode cX12_plays 142 = .ok (.getfield 64, 3) := by decide +kernel
theorem dX12_plays_145 : decode cX12_plays 145 = .ok (.iload 7, 2) := by decide +kernel
theorem dX12_plays_147 : decode cX12_plays 147 = .ok (.lconst 0, 1) := by decide +kernel
theorem dX12_plays_148 : decode cX12_plays 148 = .ok (.aload_n 0, 1) := by decide +kernel
theorem dX12_plays_149 : decode cX12_plays 149 = .ok (.getfield 9, 3) := by decide +kernel
theorem dX12_plays_152 : decode cX12_plays 152 = .ok (.iload 8, 2) := by decide +kernel
theorem dX12_plays_154 : decode cX12_plays 154 = .ok (.iaload, 1) := by decide +kernel
theorem dX12_plays_155 : decode cX12_plays 155 = .ok (.i2l, 1) := by decide +kernel
theorem dX12_plays_156 : decode cX12_plays 156 = .ok (.lload_n 1, 1) := by decide +kernel
theorem dX12_plays_157 : decode cX12_plays 157 = .ok (.lsub, 1) := by decide +kernel
theorem dX12_plays_158 : decode cX12_plays 158 = .ok (.invokestatic 286, 3) := by decide +kernel
theorem dX12_plays_161 : decode cX12_plays 161 = .ok (.lastore, 1) := by decide +kernel
theorem dX12_plays_162 : decode cX12_plays 162 = .ok (.lconst 0, 1) := by decide +kernel
theorem dX12_plays_163 : decode cX12_plays 163 = .ok (.lload_n 1, 1) := by decide +kernel
theorem dX12_plays_164 : decode cX12_plays 164 = .ok (.aload_n 0, 1) := by decide +kernel
theorem dX12_plays_165 : decode cX12_plays 165 = .ok (.getfield 9, 3) := by decide +kernel
theorem dX12_plays_168 : decode cX12_plays 168 = .ok (.iload 8, 2) := by decide +kernel
theorem dX12_plays_170 : decode cX12_plays 170 = .ok (.iaload, 1) := by decide +kernel
theorem dX12_plays_171 : decode cX12_plays 171 = .ok (.i2l, 1) := by decide +kernel
theorem dX12_plays_172 : decode cX12_plays 172 = .ok (.lsub, 1) := by decide +kernel
theorem dX12_plays_173 : decode cX12_plays 173 = .ok (.invokestatic 286, 3) := by decide +kernel
theorem dX12_plays_176 : decode cX12_plays 176 = .ok (.lstore_n 1, 1) := by decide +kernel
theorem dX12_plays_177 : decode cX12_plays 177 = .ok (.lload 5, 2) := by decide +kernel
theorem dX12_plays_179 : decode cX12_plays 179 = .ok (.aload_n 0, 1) := by decide +kernel
theorem dX12_plays_180 : decode cX12_plays 180 = .ok (.getfield 64, 3) := by decide +kernel
theorem dX12_plays_183 : decode cX12_plays 183 = .ok (.iload 7, 2) := by decide +kernel
theorem dX12_plays_185 : decode cX12_plays 185 = .ok (.laload, 1) := by decide +kernel
theorem dX12_plays_186 : decode cX12_plays 186 = .ok (.ladd, 1) := by decide +kernel
theorem dX12_plays_187 : decode cX12_plays 187 = .ok (.lstore 5, 2) := by decide +kernel
theorem dX12_plays_189 : decode cX12_plays 189 = .ok (.iload 7, 2) := by decide +kernel
theorem dX12_plays_191 : decode cX12_plays 191 = .ok (.aload_n 0, 1) := by decide +kernel
theorem dX12_plays_192 : decode cX12_plays 192 = .ok (.getfield 83, 3) := by decide +kernel
theorem dX12_plays_195 : decode cX12_plays 195 = .ok (.iconst 1, 1) := by decide +kernel
theorem dX12_plays_196 : decode cX12_plays 196 = .ok (.isub, 1) := by decide +kernel
theorem dX12_plays_197 : decode cX12_plays 197 = .ok (.if_icmp .ge 32, 3) := by decide +kernel
theorem dX12_plays_200 : decode cX12_plays 200 = .ok (.aload_n 0, 1) := by decide +kernel
theorem dX12_plays_201 : decode cX12_plays 201 = .ok (.getfield 18, 3) := by decide +kernel
theorem dX12_plays_204 : decode cX12_plays 204 = .ok (.iload 8, 2) := by decide +kernel
theorem dX12_plays_206 : decode cX12_plays 206 = .ok (.iaload, 1) := by decide +kernel
theorem dX12_plays_207 : decode cX12_plays 207 = .ok (.ifCond .le 22, 3) := by decide +kernel
theorem dX12_plays_210 : decode cX12_plays 210 = .ok (.lconst 0, 1) := by decide +kernel
theorem dX12_plays_211 : decode cX12_plays 211 = .ok (.lload_n 1, 1) := by decide +kernel
theorem dX12_plays_212 : decode cX12_plays 212 = .ok (.aload_n 0, 1) := by decide +kernel
theorem dX12_plays_213 : decode cX12_plays 213 = .ok (.getfield 18, 3) := by decide +kernel
theorem dX12_plays_216 : decode cX12_plays 216 = .ok (.iload 8, 2) := by decide +kernel
theorem dX12_plays_218 : decode cX12_plays 218 = .ok (.iaload, 1) := by decide +kernel
theorem dX12_plays_219 : decode cX12_plays 219 = .ok (.iconst 1, 1) := by decide +kernel
theorem dX12_plays_220 : decode cX12_plays 220 = .ok (.isub, 1) := by decide +kernel
theorem dX12_plays_221 : decode cX12_plays 221 = .ok (.i2l, 1) := by decide +kernel
theorem dX12_plays_222 : decode cX12_plays 222 = .ok (.lsub, 1) := by decide +kernel
theorem dX12_plays_223 : decode cX12_plays 223 = .ok (.invokestatic 286, 3) := by decide +kernel
theorem dX12_plays_226 : decode cX12_plays 226 = .ok (.goto 4, 3) := by decide +kernel
theorem dX12_plays_229 : decode cX12_plays 229 = .ok (.lconst 0, 1) := by decide +kernel
theorem dX12_plays_230 : decode cX12_plays 230 = .ok (.lstore 11, 2) := by decide +kernel
theorem dX12_plays_232 : decode cX12_plays 232 = .ok (.lload_n 1, 1) := by decide +kernel
theorem dX12_plays_233 : decode cX12_plays 233 = .ok (.lload 11, 2) := by decide +kernel
theorem dX12_plays_235 : decode cX12_plays 235 = .ok (.lsub, 1) := by decide +kernel
theorem dX12_plays_236 : decode cX12_plays 236 = .ok (.lstore_n 1, 1) := by decide +kernel
theorem dX12_plays_237 : decode cX12_plays 237 = .ok (.aload_n 0, 1) := by decide +kernel
theorem dX12_plays_238 : decode cX12_plays 238 = .ok (.dup, 1) := by decide +kernel
theorem dX12_plays_239 : decode cX12_plays 239 = .ok (.getfield 277, 3) := by decide +kernel
theorem dX12_plays_242 : decode cX12_plays 242 = .ok (.lload 11, 2) := by decide +kernel
theorem dX12_plays_244 : decode cX12_plays 244 = .ok (.ladd, 1) := by decide +kernel
theorem dX12_plays_245 : decode cX12_plays 245 = .ok (.putfield 277, 3) := by decide +kernel
theorem dX12_plays_248 : decode cX12_plays 248 = .ok (.aload_n 0, 1) := by decide +kernel
theorem dX12_plays_249 : decode cX12_plays 249 = .ok (.getfield 61, 3) := by decide +kernel
theorem dX12_plays_252 : decode cX12_plays 252 = .ok (.iload 7, 2) := by decide +kernel
theorem dX12_plays_254 : decode cX12_plays 254 = .ok (.lload_n 1, 1) := by decide +kernel
theorem dX12_plays_255 : decode cX12_plays 255 = .ok (.lastore, 1) := by decide +kernel
theorem dX12_plays_256 : decode cX12_plays 256 = .ok (.iinc 7 1, 3) := by decide +kernel
theorem dX12_plays_259 : decode cX12_plays 259 = .ok (.iinc 8 1, 3) := by decide +kernel
theorem dX12_plays_262 : decode cX12_plays 262 = .ok (.goto (-234), 3) := by decide +kernel
theorem dX12_plays_265 : decode cX12_plays 265 = .ok (.lload 5, 2) := by decide +kernel
theorem dX12_plays_267 : decode cX12_plays 267 = .ok (.lreturn, 1) := by decide +kernel
theorem dX12_isSheet_0 : decode cX12_isSheet 0 = .ok (.iload_n 0, 1) := by decide +kernel
theorem dX12_isSheet_1 : decode cX12_isSheet 1 = .ok (.iconst 0, 1) := by decide +kernel
theorem dX12_isSheet_2 : decode cX12_isSheet 2 = .ok (.iconst 3, 1) := by decide +kernel
theorem dX12_isSheet_3 : decode cX12_isSheet 3 = .ok (.invokestatic 79, 3) := by decide +kernel
theorem dX12_isSheet_6 : decode cX12_isSheet 6 = .ok (.ireturn, 1) := by decide +kernel
theorem dX12_clears_0 : decode cX12_clears 0 = .ok (.iconst 0, 1) := by decide +kernel
theorem dX12_clears_1 : decode cX12_clears 1 = .ok (.istore_n 1, 1) := by decide +kernel
theorem dX12_clears_2 : decode cX12_clears 2 = .ok (.iload_n 1, 1) := by decide +kernel
theorem dX12_clears_3 : decode cX12_clears 3 = .ok (.iconst 5, 1) := by decide +kernel
theorem dX12_clears_4 : decode cX12_clears 4 = .ok (.if_icmp .ge 16, 3) := by decide +kernel
theorem dX12_clears_7 : decode cX12_clears 7 = .ok (.aload_n 0, 1) := by decide +kernel
theorem dX12_clears_8 : decode cX12_clears 8 = .ok (.getfield 27, 3) := by decide +kernel
theorem dX12_clears_11 : decode cX12_clears 11 = .ok (.iload_n 1, 1) := by decide +kernel
theorem dX12_clears_12 : decode cX12_clears 12 = .ok (.iconst (-1), 1) := by decide +kernel
theorem dX12_clears_13 : decode cX12_clears 13 = .ok (.iastore, 1) := by decide +kernel
theorem dX12_clears_14 : decode cX12_clears 14 = .ok (.iinc 1 1, 3) := by decide +kernel
theorem dX12_clears_17 : decode cX12_clears 17 = .ok (.goto (-15), 3) := by decide +kernel
theorem dX12_clears_20 : decode cX12_clears 20 = .ok (.return_, 1) := by decide +kernel
theorem dX12_replay_0 : decode cX12_replay 0 = .ok (.iload_n 1, 1) := by decide +kernel
theorem dX12_replay_1 : decode cX12_replay 1 = .ok (.iconst (-1), 1) := by decide +kernel
theorem dX12_replay_2 : decode cX12_replay 2 = .ok (.if_icmp .eq 10, 3) := by decide +kernel
theorem dX12_replay_5 : decode cX12_replay 5 = .ok (.iload_n 1, 1) := by decide +kernel
theorem dX12_replay_6 : decode cX12_replay 6 = .ok (.invokestatic 289, 3) := by decide +kernel
theorem dX12_replay_9 : decode cX12_replay 9 = .ok (.ifCond .eq 34, 3) := by decide +kernel
theorem dX12_replay_12 : decode cX12_replay 12 = .ok (.iload_n 2, 1) := by decide +kernel
theorem dX12_replay_13 : decode cX12_replay 13 = .ok (.iconst 0, 1) := by decide +kernel
theorem dX12_replay_14 : decode cX12_replay 14 = .ok (.iconst 4, 1) := by decide +kernel
theorem dX12_replay_15 : decode cX12_replay 15 = .ok (.invokestatic 79, 3) := by decide +kernel
theorem dX12_replay_18 : decode cX12_replay 18 = .ok (.ifCond .ne 28, 3) := by decide +kernel
theorem dX12_replay_21 : decode cX12_replay 21 = .ok (.iload_n 2, 1) := by decide +kernel
theorem dX12_replay_22 : decode cX12_replay 22 = .ok (.bipush 10, 2) := by decide +kernel
theorem dX12_replay_24 : decode cX12_replay 24 = .ok (.bipush 14, 2) := by decide +kernel
theorem dX12_replay_26 : decode cX12_replay 26 = .ok (.invokestatic 79, 3) := by decide +kernel
theorem dX12_replay_29 : decode cX12_replay 29 = .ok (.ifCond .ne 17, 3) := by decide +kernel
theorem dX12_replay_32 : decode cX12_replay 32 = .ok (.iload_n 2, 1) := by decide +kernel
theorem dX12_replay_33 : decode cX12_replay 33 = .ok (.bipush 20, 2) := by decide +kernel
theorem dX12_replay_35 : decode cX12_replay 35 = .ok (.bipush 23, 2) := by decide +kernel
theorem dX12_replay_37 : decode cX12_replay 37 = .ok (.invokestatic 79, 3) := by decide +kernel
theorem dX12_replay_40 : decode cX12_replay 40 = .ok (.ifCond .ne 6, 3) := by decide +kernel
theorem dX12_replay_43 : decode cX12_replay 43 = .ok (.bipush (-2), 2) := by decide +kernel
theorem dX12_replay_45 : decode cX12_replay 45 = .ok (.ireturn, 1) := by decide +kernel
theorem dX12_replay_46 : decode cX12_replay 46 = .ok (.iload_n 1, 1) := by decide +kernel
theorem dX12_replay_47 : decode cX12_replay 47 = .ok (.iconst (-1), 1) := by decide +kernel
theorem dX12_replay_48 : decode cX12_replay 48 = .ok (.if_icmp .eq 15, 3) := by decide +kernel
theorem dX12_replay_51 : decode cX12_replay 51 = .ok (.aload_n 0, 1) := by decide +kernel
theorem dX12_replay_52 : decode cX12_replay 52 = .ok (.getfield 70, 3) := by decide +kernel
theorem dX12_replay_55 : decode cX12_replay 55 = .ok (.iload_n 1, 1) := by decide +kernel
theorem dX12_replay_56 : decode cX12_replay 56 = .ok (.iaload, 1) := by decide +kernel
theorem dX12_replay_57 : decode cX12_replay 57 = .ok (.ifCond .ne 6, 3) := by decide +kernel
theorem dX12_replay_60 : decode cX12_replay 60 = .ok (.bipush (-11), 2) := by decide +kernel
theorem dX12_replay_62 : decode cX12_replay 62 = .ok (.ireturn, 1) := by decide +kernel
theorem dX12_replay_63 : decode cX12_replay 63 = .ok (.iconst 0, 1) := by decide +kernel
theorem dX12_replay_64 : decode cX12_replay 64 = .ok (.istore_n 3, 1) := by decide +kernel
theorem dX12_replay_65 : decode cX12_replay 65 = .ok (.iload_n 1, 1) := by decide +kernel
theorem dX12_replay_66 : decode cX12_replay 66 = .ok (.iconst (-1), 1) := by decide +kernel
theorem dX12_replay_67 : decode cX12_replay 67 = .ok (.if_icmp .eq 52, 3) := by decide +kernel
theorem dX12_replay_70 : decode cX12_replay 70 = .ok (.iload_n 3, 1) := by decide +kernel
theorem dX12_replay_71 : decode cX12_replay 71 = .ok (.aload_n 0, 1) := by decide +kernel
theorem dX12_replay_72 : decode cX12_replay 72 = .ok (.getfield 73, 3) := by decide +kernel
theorem dX12_replay_75 : decode cX12_replay 75 = .ok (.iload_n 1, 1) := by decide +kernel
theorem dX12_replay_76 : decode cX12_replay 76 = .ok (.iaload, 1) := by decide +kernel
theorem dX12_replay_77 : decode cX12_replay 77 = .ok (.if_icmp .ge 42, 3) := by decide +kernel
theorem dX12_replay_80 : decode cX12_replay 80 = .ok (.aload_n 0, 1) := by decide +kernel
theorem dX12_replay_81 : decode cX12_replay 81 = .ok (.getfield 73, 3) := by decide +kernel
theorem dX12_replay_84 : decode cX12_replay 84 = .ok (.iload_n 1, 1) := by decide +kernel
theorem dX12_replay_85 : decode cX12_replay 85 = .ok (.iaload, 1) := by decide +kernel
theorem dX12_replay_86 : decode cX12_replay 86 = .ok (.iconst 5, 1) := by decide +kernel
theorem dX12_replay_87 : decode cX12_replay 87 = .ok (.if_icmp .gt 23, 3) := by decide +kernel
theorem dX12_replay_90 : decode cX12_replay 90 = .ok (.aload_n 0, 1) := by decide +kernel
theorem dX12_replay_91 : decode cX12_replay 91 = .ok (.getfield 76, 3) := by decide +kernel
theorem dX12_replay_94 : decode cX12_replay 94 = .ok (.bipush 40, 2) := by decide +kernel
theorem dX12_replay_96 : decode cX12_replay 96 = .ok (.iload_n 1, 1) := by decide +kernel
theorem dX12_replay_97 : decode cX12_replay 97 = .ok (.imul, 1) := by decide +kernel
theorem dX12_replay_98 : decode cX12_replay 98 = .ok (.iload_n 3, 1) := by decide +kernel
theorem dX12_replay_99 : decode cX12_replay 99 = .ok (.iadd, 1) := by decide +kernel
theorem dX12_replay_100 : decode cX12_replay 100 = .ok (.iaload, 1) := by decide +kernel
theorem dX12_replay_101 : decode cX12_replay 101 = .ok (.iconst 0, 1) := by decide +kernel
theorem dX12_replay_102 : decode cX12_replay 102 = .ok (.bipush 9, 2) := by decide +kernel
theorem dX12_replay_104 : decode cX12_replay 104 = .ok (.invokestatic 79, 3) := by decide +kernel
theorem dX12_replay_107 : decode cX12_replay 107 = .ok (.ifCond .ne 6, 3) := by decide +kernel
theorem dX12_replay_110 : decode cX12_replay 110 = .ok (.bipush (-2), 2) := by decide +kernel
theorem dX12_replay_112 : decode cX12_replay 112 = .ok (.ireturn, 1) := by decide +kernel
theorem dX12_replay_113 : decode cX12_replay 113 = .ok (.iinc 3 1, 3) := by decide +kernel
theorem dX12_replay_116 : decode cX12_replay 116 = .ok (.goto (-51), 3) := by decide +kernel
theorem dX12_replay_119 : decode cX12_replay 119 = .ok (.iload_n 2, 1) := by decide +kernel
theorem dX12_replay_120 : decode cX12_replay 120 = .ok (.bipush 20, 2) := by decide +kernel
theorem dX12_replay_122 : decode cX12_replay 122 = .ok (.if_icmp .ge 17, 3) := by decide +kernel
theorem dX12_replay_125 : decode cX12_replay 125 = .ok (.aload_n 0, 1) := by decide +kernel
theorem dX12_replay_126 : decode cX12_replay 126 = .ok (.iload_n 2, 1) := by decide +kernel
theorem dX12_replay_127 : decode cX12_replay 127 = .ok (.bipush 10, 2) := by decide +kernel
theorem dX12_replay_129 : decode cX12_replay 129 = .ok (.irem, 1) := by decide +kernel
theorem dX12_replay_130 : decode cX12_replay 130 = .ok (.invokevirtual 112, 3) := by decide +kernel
theorem dX12_replay_133 : decode cX12_replay 133 = .ok (.ifCond .ne 6, 3) := by decide +kernel
theorem dX12_replay_136 : decode cX12_replay 136 = .ok (.bipush (-12), 2) := by decide +kernel
theorem dX12_replay_138 : decode cX12_replay 138 = .ok (.ireturn, 1) := by decide +kernel
theorem dX12_replay_139 : decode cX12_replay 139 = .ok (.iconst 0, 1) := by decide +kernel
theorem dX12_replay_140 : decode cX12_replay 140 = .ok (.istore_n 3, 1) := by decide +kernel
theorem dX12_replay_141 : decode cX12_replay 141 = .ok (.iload_n 1, 1) := by decide +kernel
theorem dX12_replay_142 : decode cX12_replay 142 = .ok (.iconst (-1), 1) := by decide +kernel
theorem dX12_replay_143 : decode cX12_replay 143 = .ok (.if_icmp .eq 36, 3) := by decide +kernel
theorem dX12_replay_146 : decode cX12_replay 146 = .ok (.iload_n 3, 1) := by decide +kernel
theorem dX12_replay_147 : decode cX12_replay 147 = .ok (.aload_n 0, 1) := by decide +kernel
theorem dX12_replay_148 : decode cX12_replay 148 = .ok (.getfield 73, 3) := by decide +kernel
theorem dX12_replay_151 : decode cX12_replay 151 = .ok (.iload_n 1, 1) := by decide +kernel
theorem dX12_replay_152 : decode cX12_replay 152 = .ok (.iaload, 1) := by decide +kernel
theorem dX12_replay_153 : decode cX12_replay 153 = .ok (.if_icmp .ge 26, 3) := by decide +kernel
theorem dX12_replay_156 : decode cX12_replay 156 = .ok (.aload_n 0, 1) := by decide +kernel
theorem dX12_replay_157 : decode cX12_replay 157 = .ok (.getfield 27, 3) := by decide +kernel
theorem dX12_replay_160 : decode cX12_replay 160 = .ok (.iload_n 3, 1) := by decide +kernel
theorem dX12_replay_161 : decode cX12_replay 161 = .ok (.aload_n 0, 1) := by decide +kernel
theorem dX12_replay_162 : decode cX12_replay 162 = .ok (.getfield 76, 3) := by decide +kernel
theorem dX12_replay_165 : decode cX12_replay 165 = .ok (.bipush 40, 2) := by decide +kernel
theorem dX12_replay_167 : decode cX12_replay 167 = .ok (.iload_n 1, 1) := by decide +kernel
theorem dX12_replay_168 : decode cX12_replay 168 = .ok (.imul, 1) := by decide +kernel
theorem dX12_replay_169 : decode cX12_replay 169 = .ok (.iload_n 3, 1) := by decide +kernel
theorem dX12_replay_170 : decode cX12_replay 170 = .ok (.iadd, 1) := by decide +kernel
theorem dX12_replay_171 : decode cX12_replay 171 = .ok (.iaload, 1) := by decide +kernel
theorem dX12_replay_172 : decode cX12_replay 172 = .ok (.iastore, 1) := by decide +kernel
theorem dX12_replay_173 : decode cX12_replay 173 = .ok (.iinc 3 1, 3) := by decide +kernel
theorem dX12_replay_176 : decode cX12_replay 176 = .ok (.goto (-35), 3) := by decide +kernel
theorem dX12_replay_179 : decode cX12_replay 179 = .ok (.aload_n 0, 1) := by decide +kernel
theorem dX12_replay_180 : decode cX12_replay 180 = .ok (.invokevirtual 292, 3) := by decide +kernel
theorem dX12_replay_183 : decode cX12_replay 183 = .ok (.lstore_n 3, 1) := by decide +kernel
theorem dX12_replay_184 : decode cX12_replay 184 = .ok (.aload_n 0, 1) := by decide +kernel
theorem dX12_replay_185 : decode cX12_replay 185 = .ok (.invokevirtual 296, 3) := by decide +kernel
theorem dX12_replay_188 : decode cX12_replay 188 = .ok (.iload_n 2, 1) := by decide +kernel
theorem dX12_replay_189 : decode cX12_replay 189 = .ok (.iconst 5, 1) := by decide +kernel
theorem dX12_replay_190 : decode cX12_replay 190 = .ok (.if_icmp .ge 11, 3) := by decide +kernel
theorem dX12_replay_193 : decode cX12_replay 193 = .ok (.aload_n 0, 1) := by decide +kernel
theorem dX12_replay_194 : decode cX12_replay 194 = .ok (.getfield 61, 3) := by decide +kernel
theorem dX12_replay_197 : decode cX12_replay 197 = .ok (.iload_n 2, 1) := by decide +kernel
theorem dX12_replay_198 : decode cX12_replay 198 = .ok (.laload, 1) := by decide +kernel
theorem dX12_replay_199 : decode cX12_replay 199 = .ok (.l2i, 1) := by decide +kernel
theorem dX12_replay_200 : decode cX12_replay 200 = .ok (.ireturn, 1) := by decide +kernel
theorem dX12_replay_201 : decode cX12_replay 201 = .ok (.iload_n 2, 1) := by decide +kernel
theorem dX12_replay_202 : decode cX12_replay 202 = .ok (.bipush 20, 2) := by decide +kernel
theorem dX12_replay_204 : decode cX12_replay 204 = .ok (.if_icmp .ge 14, 3) := by decide +kernel
theorem dX12_replay_207 : decode cX12_replay 207 = .ok (.aload_n 0, 1) := by decide +kernel
theorem dX12_replay_208 : decode cX12_replay 208 = .ok (.getfield 64, 3) := by decide +kernel
theorem dX12_replay_211 : decode cX12_replay 211 = .ok (.iload_n 2, 1) := by decide +kernel
theorem dX12_replay_212 : decode cX12_replay 212 = .ok (.bipush 10, 2) := by decide +kernel
theorem dX12_replay_214 : decode cX12_replay 214 = .ok (.isub, 1) := by decide +kernel
theorem dX12_replay_215 : decode cX12_replay 215 = .ok (.laload, 1) := by decide +kernel
theorem dX12_replay_216 : decode cX12_replay 216 = .ok (.l2i, 1) := by decide +kernel
theorem dX12_replay_217 : decode cX12_replay 217 = .ok (.ireturn, 1) := by decide +kernel
theorem dX12_replay_218 : decode cX12_replay 218 = .ok (.iload_n 2, 1) := by decide +kernel
theorem dX12_replay_219 : decode cX12_replay 219 = .ok (.bipush 20, 2) := by decide +kernel
theorem dX12_replay_221 : decode cX12_replay 221 = .ok (.if_icmp .ne 7, 3) := by decide +kernel
theorem dX12_replay_224 : decode cX12_replay 224 = .ok (.lload_n 3, 1) := by decide +kernel
theorem dX12_replay_225 : decode cX12_replay 225 = .ok (.goto 33, 3) := by decide +kernel
theorem dX12_replay_228 : decode cX12_replay 228 = .ok (.iload_n 2, 1) := by decide +kernel
theorem dX12_replay_229 : decode cX12_replay 229 = .ok (.bipush 21, 2) := by decide +kernel
theorem dX12_replay_231 : decode cX12_replay 231 = .ok (.if_icmp .ne 10, 3) := by decide +kernel
theorem dX12_replay_234 : decode cX12_replay 234 = .ok (.aload_n 0, 1) := by decide +kernel
theorem dX12_replay_235 : decode cX12_replay 235 = .ok (.getfield 277, 3) := by decide +kernel
theorem dX12_replay_238 : decode cX12_replay 238 = .ok (.goto 20, 3) := by decide +kernel
theorem dX12_replay_241 : decode cX12_replay 241 = .ok (.iload_n 2, 1) := by decide +kernel
theorem dX12_replay_242 : decode cX12_replay 242 = .ok (.bipush 22, 2) := by decide +kernel
theorem dX12_replay_244 : decode cX12_replay 244 = .ok (.if_icmp .ne 10, 3) := by decide +kernel
theorem dX12_replay_247 : decode cX12_replay 247 = .ok (.aload_n 0, 1) := by decide +kernel
theorem dX12_replay_248 : decode cX12_replay 248 = .ok (.getfield 280, 3) := by decide +kernel
theorem dX12_replay_251 : decode cX12_replay 251 = .ok (.goto 7, 3) := by decide +kernel
theorem dX12_replay_254 : decode cX12_replay 254 = .ok (.aload_n 0, 1) := by decide +kernel
theorem dX12_replay_255 : decode cX12_replay 255 = .ok (.getfield 283, 3) := by decide +kernel
theorem dX12_replay_258 : decode cX12_replay 258 = .ok (.l2i, 1) := by decide +kernel
theorem dX12_replay_259 : decode cX12_replay 259 = .ok (.ireturn, 1) := by decide +kernel
theorem dX12_worst_0 : decode cX12_worst 0 = .ok (.iload_n 1, 1) := by decide +kernel
theorem dX12_worst_1 : decode cX12_worst 1 = .ok (.iconst 0, 1) := by decide +kernel
theorem dX12_worst_2 : decode cX12_worst 2 = .ok (.iconst 1, 1) := by decide +kernel
theorem dX12_worst_3 : decode cX12_worst 3 = .ok (.invokestatic 79, 3) := by decide +kernel
theorem dX12_worst_6 : decode cX12_worst 6 = .ok (.ifCond .ne 6, 3) := by decide +kernel
theorem dX12_worst_9 : decode cX12_worst 9 = .ok (.bipush (-2), 2) := by decide +kernel
theorem dX12_worst_11 : decode cX12_worst 11 = .ok (.ireturn, 1) := by decide +kernel
theorem dX12_worst_12 : decode cX12_worst 12 = .ok (.iconst (-1), 1) := by decide +kernel
theorem dX12_worst_13 : decode cX12_worst 13 = .ok (.istore_n 2, 1) := by decide +kernel
theorem dX12_worst_14 : decode cX12_worst 14 = .ok (.lconst 0, 1) := by decide +kernel
theorem dX12_worst_15 : decode cX12_worst 15 = .ok (.lstore_n 3, 1) := by decide +kernel
theorem dX12_worst_16 : decode cX12_worst 16 = .ok (.iconst 0, 1) := by decide +kernel
theorem dX12_worst_17 : decode cX12_worst 17 = .ok (.istore 5, 2) := by decide +kernel
theorem dX12_worst_19 : decode cX12_worst 19 = .ok (.iload 5, 2) := by decide +kernel
theorem dX12_worst_21 : decode cX12_worst 21 = .ok (.aload_n 0, 1) := by decide +kernel
theorem dX12_worst_22 : decode cX12_worst 22 = .ok (.getfield 83, 3) := by decide +kernel
theorem dX12_worst_25 : decode cX12_worst 25 = .ok (.if_icmp .ge 53, 3) := by decide +kernel
theorem dX12_worst_28 : decode cX12_worst 28 = .ok (.aload_n 0, 1) := by decide +kernel
theorem dX12_worst_29 : decode cX12_worst 29 = .ok (.getfield 27, 3) := by decide +kernel
theorem dX12_worst_32 : decode cX12_worst 32 = .ok (.iload 5, 2) := by decide +kernel
theorem dX12_worst_34 : decode cX12_worst 34 = .ok (.bipush 9, 2) := by decide +kernel
theorem dX12_worst_36 : decode cX12_worst 36 = .ok (.iastore, 1) := by decide +kernel
theorem dX12_worst_37 : decode cX12_worst 37 = .ok (.aload_n 0, 1) := by decide +kernel
theorem dX12_worst_38 : decode cX12_worst 38 = .ok (.invokevirtual 292, 3) := by decide +kernel
theorem dX12_worst_41 : decode cX12_worst 41 = .ok (.lstore 6, 2) := by decide +kernel
theorem dX12_worst_43 : decode cX12_worst 43 = .ok (.aload_n 0, 1) := by decide +kernel
theorem dX12_worst_44 : decode cX12_worst 44 = .ok (.getfield 27, 3) := by decide +kernel
theorem dX12_worst_47 : decode cX12_worst 47 = .ok (.iload 5, 2) := by decide +kernel
theorem dX12_worst_49 : decode cX12_worst 49 = .ok (.iconst (-1), 1) := by decide +kernel
theorem dX12_worst_50 : decode cX12_worst 50 = .ok (.iastore, 1) := by decide +kernel
theorem dX12_worst_51 : decode cX12_worst 51 = .ok (.iload_n 2, 1) := by decide +kernel
theorem dX12_worst_52 : decode cX12_worst 52 = .ok (.iconst (-1), 1) := by decide +kernel
theorem dX12_worst_53 : decode cX12_worst 53 = .ok (.if_icmp .eq 13, 3) := by decide +kernel
theorem dX12_worst_56 : decode cX12_worst 56 = .ok (.lload 6, 2) := by decide +kernel
theorem dX12_worst_58 : decode cX12_worst 58 = .ok (.lload_n 3, 1) := by decide +kernel
theorem dX12_worst_59 : decode cX12_worst 59 = .ok (.lcmp, 1) := by decide +kernel
theorem dX12_worst_60 : decode cX12_worst 60 = .ok (.ifCond .gt 6, 3) := by decide +kernel
theorem dX12_worst_63 : decode cX12_worst 63 = .ok (.goto 9, 3) := by decide +kernel
theorem dX12_worst_66 : decode cX12_worst 66 = .ok (.iload 5, 2) := by decide +kernel
theorem dX12_worst_68 : decode cX12_worst 68 = .ok (.istore_n 2, 1) := by decide +kernel
theorem dX12_worst_69 : decode cX12_worst 69 = .ok (.lload 6, 2) := by decide +kernel
theorem dX12_worst_71 : decode cX12_worst 71 = .ok (.lstore_n 3, 1) := by decide +kernel
theorem dX12_worst_72 : decode cX12_worst 72 = .ok (.iinc 5 1, 3) := by decide +kernel
theorem dX12_worst_75 : decode cX12_worst 75 = .ok (.goto (-56), 3) := by decide +kernel
theorem dX12_worst_78 : decode cX12_worst 78 = .ok (.iload_n 1, 1) := by decide +kernel
theorem dX12_worst_79 : decode cX12_worst 79 = .ok (.ifCond .ne 7, 3) := by decide +kernel
theorem dX12_worst_82 : decode cX12_worst 82 = .ok (.iload_n 2, 1) := by decide +kernel
theorem dX12_worst_83 : decode cX12_worst 83 = .ok (.goto 5, 3) := by decide +kernel
theorem dX12_worst_86 : decode cX12_worst 86 = .ok (.lload_n 3, 1) := by decide +kernel
theorem dX12_worst_87 : decode cX12_worst 87 = .ok (.l2i, 1) := by decide +kernel
theorem dX12_worst_88 : decode cX12_worst 88 = .ok (.ireturn, 1) := by decide +kernel
theorem dX12_drawnBy_0 : decode cX12_drawnBy 0 = .ok (.iload_n 1, 1) := by decide +kernel
theorem dX12_drawnBy_1 : decode cX12_drawnBy 1 = .ok (.istore_n 2, 1) := by decide +kernel
theorem dX12_drawnBy_2 : decode cX12_drawnBy 2 = .ok (.iconst 0, 1) := by decide +kernel
theorem dX12_drawnBy_3 : decode cX12_drawnBy 3 = .ok (.istore_n 3, 1) := by decide +kernel
theorem dX12_drawnBy_4 : decode cX12_drawnBy 4 = .ok (.iload_n 3, 1) := by decide +kernel
theorem dX12_drawnBy_5 : decode cX12_drawnBy 5 = .ok (.aload_n 0, 1) := by decide +kernel
theorem dX12_drawnBy_6 : decode cX12_drawnBy 6 = .ok (.getfield 83, 3) := by decide +kernel
theorem dX12_drawnBy_9 : decode cX12_drawnBy 9 = .ok (.if_icmp .ge 31, 3) := by decide +kernel
theorem dX12_drawnBy_12 : decode cX12_drawnBy 12 = .ok (.iload_n 2, 1) := by decide +kernel
theorem dX12_drawnBy_13 : decode cX12_drawnBy 13 = .ok (.ldc_w 299, 3) := by decide +kernel
theorem dX12_drawnBy_16 : decode cX12_drawnBy 16 = .ok (.imul, 1) := by decide +kernel
theorem dX12_drawnBy_17 : decode cX12_drawnBy 17 = .ok (.sipush 12345, 3) := by decide +kernel
theorem dX12_drawnBy_20 : decode cX12_drawnBy 20 = .ok (.iadd, 1) := by decide +kernel
theorem dX12_drawnBy_21 : decode cX12_drawnBy 21 = .ok (.istore_n 2, 1) := by decide +kernel
theorem dX12_drawnBy_22 : decode cX12_drawnBy 22 = .ok (.aload_n 0, 1) := by decide +kernel
theorem dX12_drawnBy_23 : decode cX12_drawnBy 23 = .ok (.getfield 27, 3) := by decide +kernel
theorem dX12_drawnBy_26 : decode cX12_drawnBy 26 = .ok (.iload_n 3, 1) := by decide +kernel
theorem dX12_drawnBy_27 : decode cX12_drawnBy 27 = .ok (.iload_n 2, 1) := by decide +kernel
theorem dX12_drawnBy_28 : decode cX12_drawnBy 28 = .ok (.bipush 9, 2) := by decide +kernel
theorem dX12_drawnBy_30 : decode cX12_drawnBy 30 = .ok (.iushr, 1) := by decide +kernel
theorem dX12_drawnBy_31 : decode cX12_drawnBy 31 = .ok (.iconst 4, 1) := by decide +kernel
theorem dX12_drawnBy_32 : decode cX12_drawnBy 32 = .ok (.irem, 1) := by decide +kernel
theorem dX12_drawnBy_33 : decode cX12_drawnBy 33 = .ok (.iastore, 1) := by decide +kernel
theorem dX12_drawnBy_34 : decode cX12_drawnBy 34 = .ok (.iinc 3 1, 3) := by decide +kernel
theorem dX12_drawnBy_37 : decode cX12_drawnBy 37 = .ok (.goto (-33), 3) := by decide +kernel
theorem dX12_drawnBy_40 : decode cX12_drawnBy 40 = .ok (.aload_n 0, 1) := by decide +kernel
theorem dX12_drawnBy_41 : decode cX12_drawnBy 41 = .ok (.invokevirtual 292, 3) := by decide +kernel
theorem dX12_drawnBy_44 : decode cX12_drawnBy 44 = .ok (.lstore_n 3, 1) := by decide +kernel
theorem dX12_drawnBy_45 : decode cX12_drawnBy 45 = .ok (.aload_n 0, 1) := by decide +kernel
theorem dX12_drawnBy_46 : decode cX12_drawnBy 46 = .ok (.invokevirtual 296, 3) := by decide +kernel
theorem dX12_drawnBy_49 : decode cX12_drawnBy 49 = .ok (.lload_n 3, 1) := by decide +kernel
theorem dX12_drawnBy_50 : decode cX12_drawnBy 50 = .ok (.l2i, 1) := by decide +kernel
theorem dX12_drawnBy_51 : decode cX12_drawnBy 51 = .ok (.ireturn, 1) := by decide +kernel
theorem dX12_drawn_0 : decode cX12_drawn 0 = .ok (.aload_n 0, 1) := by decide +kernel
theorem dX12_drawn_1 : decode cX12_drawn 1 = .ok (.iload_n 1, 1) := by decide +kernel
theorem dX12_drawn_2 : decode cX12_drawn 2 = .ok (.invokevirtual 300, 3) := by decide +kernel
theorem dX12_drawn_5 : decode cX12_drawn 5 = .ok (.ireturn, 1) := by decide +kernel
theorem dX12_chance_0 : decode cX12_chance 0 = .ok (.iload_n 2, 1) := by decide +kernel
theorem dX12_chance_1 : decode cX12_chance 1 = .ok (.iconst 1, 1) := by decide +kernel
theorem dX12_chance_2 : decode cX12_chance 2 = .ok (.bipush 20, 2) := by decide +kernel
theorem dX12_chance_4 : decode cX12_chance 4 = .ok (.invokestatic 79, 3) := by decide +kernel
theorem dX12_chance_7 : decode cX12_chance 7 = .ok (.ifCond .eq 12, 3) := by decide +kernel
theorem dX12_chance_10 : decode cX12_chance 10 = .ok (.iload_n 3, 1) := by decide +kernel
theorem dX12_chance_11 : decode cX12_chance 11 = .ok (.iconst 0, 1) := by decide +kernel
theorem dX12_chance_12 : decode cX12_chance 12 = .ok (.iconst 1, 1) := by decide +kernel
theorem dX12_chance_13 : decode cX12_chance 13 = .ok (.invokestatic 79, 3) := by decide +kernel
theorem dX12_chance_16 : decode cX12_chance 16 = .ok (.ifCond .ne 6, 3) := by decide +kernel
theorem dX12_chance_19 : decode cX12_chance 19 = .ok (.bipush (-2), 2) := by decide +kernel
theorem dX12_chance_21 : decode cX12_chance 21 = .ok (.ireturn, 1) := by decide +kernel
theorem dX12_chance_22 : decode cX12_chance 22 = .ok (.iconst 0, 1) := by decide +kernel
theorem dX12_chance_23 : decode cX12_chance 23 = .ok (.istore 4, 2) := by decide +kernel
theorem dX12_chance_25 : decode cX12_chance 25 = .ok (.iconst 0, 1) := by decide +kernel
theorem dX12_chance_26 : decode cX12_chance 26 = .ok (.istore 5, 2) := by decide +kernel
theorem dX12_chance_28 : decode cX12_chance 28 = .ok (.iload 5, 2) := by decide +kernel
theorem dX12_chance_30 : decode cX12_chance 30 = .ok (.iload_n 2, 1) := by decide +kernel
theorem dX12_chance_31 : decode cX12_chance 31 = .ok (.if_icmp .ge 23, 3) := by decide +kernel
theorem dX12_chance_34 : decode cX12_chance 34 = .ok (.aload_n 0, 1) := by decide +kernel
theorem dX12_chance_35 : decode cX12_chance 35 = .ok (.iload_n 1, 1) := by decide +kernel
theorem dX12_chance_36 : decode cX12_chance 36 = .ok (.iload 5, 2) := by decide +kernel
theorem dX12_chance_38 : decode cX12_chance 38 = .ok (.iadd, 1) := by decide +kernel
theorem dX12_chance_39 : decode cX12_chance 39 = .ok (.invokevirtual 300, 3) := by decide +kernel
theorem dX12_chance_42 : decode cX12_chance 42 = .ok (.ifCond .ne 6, 3) := by decide +kernel
theorem dX12_chance_45 : decode cX12_chance 45 = .ok (.iinc 4 1, 3) := by decide +kernel
theorem dX12_chance_48 : decode cX12_chance 48 = .ok (.iinc 5 1, 3) := by decide +kernel
theorem dX12_chance_51 : decode cX12_chance 51 = .ok (.goto (-23), 3) := by decide +kernel
theorem dX12_chance_54 : decode cX12_chance 54 = .ok (.aload_n 0, 1) := by decide +kernel
theorem dX12_chance_55 : decode cX12_chance 55 = .ok (.iconst 0, 1) := by decide +kernel
theorem dX12_chance_56 : decode cX12_chance 56 = .ok (.putfield 152, 3) := by decide +kernel
theorem dX12_chance_59 : decode cX12_chance 59 = .ok (.aload_n 0, 1) := by decide +kernel
theorem dX12_chance_60 : decode cX12_chance 60 = .ok (.iload 4, 2) := by decide +kernel
theorem dX12_chance_62 : decode cX12_chance 62 = .ok (.i2l, 1) := by decide +kernel
theorem dX12_chance_63 : decode cX12_chance 63 = .ok (.iload_n 2, 1) := by decide +kernel
theorem dX12_chance_64 : decode cX12_chance 64 = .ok (.i2l, 1) := by decide +kernel
theorem dX12_chance_65 : decode cX12_chance 65 = .ok (.invokevirtual 179, 3) := by decide +kernel
theorem dX12_chance_68 : decode cX12_chance 68 = .ok (.aload_n 0, 1) := by decide +kernel
theorem dX12_chance_69 : decode cX12_chance 69 = .ok (.iload_n 3, 1) := by decide +kernel
theorem dX12_chance_70 : decode cX12_chance 70 = .ok (.invokevirtual 218, 3) := by decide +kernel
theorem dX12_chance_73 : decode cX12_chance 73 = .ok (.l2i, 1) := by decide +kernel
theorem dX12_chance_74 : decode cX12_chance 74 = .ok (.ireturn, 1) := by decide +kernel
theorem dX12_unlike_0 : decode cX12_unlike 0 = .ok (.aload_n 0, 1) := by decide +kernel
theorem dX12_unlike_1 : decode cX12_unlike 1 = .ok (.invokevirtual 292, 3) := by decide +kernel
theorem dX12_unlike_4 : decode cX12_unlike 4 = .ok (.pop2, 1) := by decide +kernel
theorem dX12_unlike_5 : decode cX12_unlike 5 = .ok (.iconst 0, 1) := by decide +kernel
theorem dX12_unlike_6 : decode cX12_unlike 6 = .ok (.istore_n 2, 1) := by decide +kernel
theorem dX12_unlike_7 : decode cX12_unlike 7 = .ok (.iload_n 2, 1) := by decide +kernel
theorem dX12_unlike_8 : decode cX12_unlike 8 = .ok (.aload_n 0, 1) := by decide +kernel
theorem dX12_unlike_9 : decode cX12_unlike 9 = .ok (.getfield 73, 3) := by decide +kernel
theorem dX12_unlike_12 : decode cX12_unlike 12 = .ok (.iload_n 1, 1) := by decide +kernel
theorem dX12_unlike_13 : decode cX12_unlike 13 = .ok (.iaload, 1) := by decide +kernel
theorem dX12_unlike_14 : decode cX12_unlike 14 = .ok (.if_icmp .ge 41, 3) := by decide +kernel
theorem dX12_unlike_17 : decode cX12_unlike 17 = .ok (.aload_n 0, 1) := by decide +kernel
theorem dX12_unlike_18 : decode cX12_unlike 18 = .ok (.iload_n 2, 1) := by decide +kernel
theorem dX12_unlike_19 : decode cX12_unlike 19 = .ok (.invokevirtual 112, 3) := by decide +kernel
theorem dX12_unlike_22 : decode cX12_unlike 22 = .ok (.ifCond .eq 25, 3) := by decide +kernel
theorem dX12_unlike_25 : decode cX12_unlike 25 = .ok (.aload_n 0, 1) := by decide +kernel
theorem dX12_unlike_26 : decode cX12_unlike 26 = .ok (.getfield 61, 3) := by decide +kernel
theorem dX12_unlike_29 : decode cX12_unlike 29 = .ok (.iload_n 2, 1) := by decide +kernel
theorem dX12_unlike_30 : decode cX12_unlike 30 = .ok (.laload, 1) := by decide +kernel
theorem dX12_unlike_31 : decode cX12_unlike 31 = .ok (.aload_n 0, 1) := by decide +kernel
theorem dX12_unlike_32 : decode cX12_unlike 32 = .ok (.getfield 76, 3) := by decide +kernel
theorem dX12_unlike_35 : decode cX12_unlike 35 = .ok (.bipush 40, 2) := by decide +kernel
theorem dX12_unlike_37 : decode cX12_unlike 37 = .ok (.iload_n 1, 1) := by decide +kernel
theorem dX12_unlike_38 : decode cX12_unlike 38 = .ok (.imul, 1) := by decide +kernel
theorem dX12_unlike_39 : decode cX12_unlike 39 = .ok (.iload_n 2, 1) := by decide +kernel
theorem dX12_unlike_40 : decode cX12_unlike 40 = .ok (.iadd, 1) := by decide +kernel
theorem dX12_unlike_41 : decode cX12_unlike 41 = .ok (.iaload, 1) := by decide +kernel
theorem dX12_unlike_42 : decode cX12_unlike 42 = .ok (.i2l, 1) := by decide +kernel
theorem dX12_unlike_43 : decode cX12_unlike 43 = .ok (.lcmp, 1) := by decide +kernel
theorem dX12_unlike_44 : decode cX12_unlike 44 = .ok (.ifCond .eq 5, 3) := by decide +kernel
theorem dX12_unlike_47 : decode cX12_unlike 47 = .ok (.iload_n 2, 1) := by decide +kernel
theorem dX12_unlike_48 : decode cX12_unlike 48 = .ok (.ireturn, 1) := by decide +kernel
theorem dX12_unlike_49 : decode cX12_unlike 49 = .ok (.iinc 2 1, 3) := by decide +kernel
theorem dX12_unlike_52 : decode cX12_unlike 52 = .ok (.goto (-45), 3) := by decide +kernel
theorem dX12_unlike_55 : decode cX12_unlike 55 = .ok (.iconst (-1), 1) := by decide +kernel
theorem dX12_unlike_56 : decode cX12_unlike 56 = .ok (.ireturn, 1) := by decide +kernel
theorem dX12_tells_0 : decode cX12_tells 0 = .ok (.iload_n 1, 1) := by decide +kernel
theorem dX12_tells_1 : decode cX12_tells 1 = .ok (.invokestatic 289, 3) := by decide +kernel
theorem dX12_tells_4 : decode cX12_tells 4 = .ok (.ifCond .eq 24, 3) := by decide +kernel
theorem dX12_tells_7 : decode cX12_tells 7 = .ok (.iload_n 2, 1) := by decide +kernel
theorem dX12_tells_8 : decode cX12_tells 8 = .ok (.iconst 0, 1) := by decide +kernel
theorem dX12_tells_9 : decode cX12_tells 9 = .ok (.iconst 2, 1) := by decide +kernel
theorem dX12_tells_10 : decode cX12_tells 10 = .ok (.invokestatic 79, 3) := by decide +kernel
theorem dX12_tells_13 : decode cX12_tells 13 = .ok (.ifCond .eq 15, 3) := by decide +kernel
theorem dX12_tells_16 : decode cX12_tells 16 = .ok (.iload_n 2, 1) := by decide +kernel
theorem dX12_tells_17 : decode cX12_tells 17 = .ok (.ifCond .le 14, 3) := by decide +kernel
theorem dX12_tells_20 : decode cX12_tells 20 = .ok (.aload_n 0, 1) := by decide +kernel
theorem dX12_tells_21 : decode cX12_tells 21 = .ok (.iload_n 3, 1) := by decide +kernel
theorem dX12_tells_22 : decode cX12_tells 22 = .ok (.invokevirtual 115, 3) := by decide +kernel
theorem dX12_tells_25 : decode cX12_tells 25 = .ok (.ifCond .ne 6, 3) := by decide +kernel
theorem dX12_tells_28 : decode cX12_tells 28 = .ok (.bipush (-2), 2) := by decide +kernel
theorem dX12_tells_30 : decode cX12_tells 30 = .ok (.ireturn, 1) := by decide +kernel
theorem dX12_tells_31 : decode cX12_tells 31 = .ok (.aload_n 0, 1) := by decide +kernel
theorem dX12_tells_32 : decode cX12_tells 32 = .ok (.getfield 70, 3) := by decide +kernel
theorem dX12_tells_35 : decode cX12_tells 35 = .ok (.iload_n 1, 1) := by decide +kernel
theorem dX12_tells_36 : decode cX12_tells 36 = .ok (.iaload, 1) := by decide +kernel
theorem dX12_tells_37 : decode cX12_tells 37 = .ok (.ifCond .ne 6, 3) := by decide +kernel
theorem dX12_tells_40 : decode cX12_tells 40 = .ok (.bipush (-11), 2) := by decide +kernel
theorem dX12_tells_42 : decode cX12_tells 42 = .ok (.ireturn, 1) := by decide +kernel
theorem dX12_tells_43 : decode cX12_tells 43 = .ok (.aload_n 0, 1) := by decide +kernel
theorem dX12_tells_44 : decode cX12_tells 44 = .ok (.getfield 73, 3) := by decide +kernel
theorem dX12_tells_47 : decode cX12_tells 47 = .ok (.iload_n 1, 1) := by decide +kernel
theorem dX12_tells_48 : decode cX12_tells 48 = .ok (.iaload, 1) := by decide +kernel
theorem dX12_tells_49 : decode cX12_tells 49 = .ok (.iconst 5, 1) := by decide +kernel
theorem dX12_tells_50 : decode cX12_tells 50 = .ok (.if_icmp .le 6, 3) := by decide +kernel
theorem dX12_tells_53 : decode cX12_tells 53 = .ok (.bipush (-2), 2) := by decide +kernel
theorem dX12_tells_55 : decode cX12_tells 55 = .ok (.ireturn, 1) := by decide +kernel
theorem dX12_tells_56 : decode cX12_tells 56 = .ok (.iload_n 2, 1) := by decide +kernel
theorem dX12_tells_57 : decode cX12_tells 57 = .ok (.ifCond .ne 9, 3) := by decide +kernel
theorem dX12_tells_60 : decode cX12_tells 60 = .ok (.aload_n 0, 1) := by decide +kernel
theorem dX12_tells_61 : decode cX12_tells 61 = .ok (.iload_n 1, 1) := by decide +kernel
theorem dX12_tells_62 : decode cX12_tells 62 = .ok (.invokevirtual 303, 3) := by decide +kernel
theorem dX12_tells_65 : decode cX12_tells 65 = .ok (.ireturn, 1) := by decide +kernel
theorem dX12_tells_66 : decode cX12_tells 66 = .ok (.aload_n 0, 1) := by decide +kernel
theorem dX12_tells_67 : decode cX12_tells 67 = .ok (.iload_n 3, 1) := by decide +kernel
theorem dX12_tells_68 : decode cX12_tells 68 = .ok (.bipush 6, 2) := by decide +kernel
theorem dX12_tells_70 : decode cX12_tells 70 = .ok (.invokevirtual 118, 3) := by decide +kernel
theorem dX12_tells_73 : decode cX12_tells 73 = .ok (.istore 4, 2) := by decide +kernel
theorem dX12_tells_75 : decode cX12_tells 75 = .ok (.iconst 0, 1) := by decide +kernel
theorem dX12_tells_76 : decode cX12_tells 76 = .ok (.istore 5, 2) := by decide +kernel
theorem dX12_tells_78 : decode cX12_tells 78 = .ok (.iconst (-1), 1) := by decide +kernel
theorem dX12_tells_79 : decode cX12_tells 79 = .ok (.istore 6, 2) := by decide +kernel
theorem dX12_tells_81 : decode cX12_tells 81 = .ok (.bipush 99, 2) := by decide +kernel
theorem dX12_tells_83 : decode cX12_tells 83 = .ok (.istore 7, 2) := by decide +kernel
theorem dX12_tells_85 : decode cX12_tells 85 = .ok (.iload 7, 2) := by decide +kernel
theorem dX12_tells_87 : decode cX12_tells 87 = .ok (.ifCond .lt 39, 3) := by decide +kernel
theorem dX12_tells_90 : decode cX12_tells 90 = .ok (.aload_n 0, 1) := by decide +kernel
theorem dX12_tells_91 : decode cX12_tells 91 = .ok (.getfield 21, 3) := by decide +kernel
theorem dX12_tells_94 : decode cX12_tells 94 = .ok (.bipush 30, 2) := by decide +kernel
theorem dX12_tells_96 : decode cX12_tells 96 = .ok (.iload_n 3, 1) := by decide +kernel
theorem dX12_tells_97 : decode cX12_tells 97 = .ok (.iadd, 1) := by decide +kernel
theorem dX12_tells_98 : decode cX12_tells 98 = .ok (.iload 7, 2) := by decide +kernel
theorem dX12_tells_100 : decode cX12_tells 100 = .ok (.iastore, 1) := by decide +kernel
theorem dX12_tells_101 : decode cX12_tells 101 = .ok (.aload_n 0, 1) := by decide +kernel
theorem dX12_tells_102 : decode cX12_tells 102 = .ok (.iload_n 1, 1) := by decide +kernel
theorem dX12_tells_103 : decode cX12_tells 103 = .ok (.invokevirtual 303, 3) := by decide +kernel
theorem dX12_tells_106 : decode cX12_tells 106 = .ok (.iconst (-1), 1) := by decide +kernel
theorem dX12_tells_107 : decode cX12_tells 107 = .ok (.if_icmp .eq 6, 3) := by decide +kernel
theorem dX12_tells_110 : decode cX12_tells 110 = .ok (.goto 10, 3) := by decide +kernel
theorem dX12_tells_113 : decode cX12_tells 113 = .ok (.iinc 5 1, 3) := by decide +kernel
theorem dX12_tells_116 : decode cX12_tells 116 = .ok (.iload 7, 2) := by decide +kernel
theorem dX12_tells_118 : decode cX12_tells 118 = .ok (.istore 6, 2) := by decide +kernel
theorem dX12_tells_120 : decode cX12_tells 120 = .ok (.iinc 7 (-1), 3) := by decide +kernel
theorem dX12_tells_123 : decode cX12_tells 123 = .ok (.goto (-38), 3) := by decide +kernel
theorem dX12_tells_126 : decode cX12_tells 126 = .ok (.aload_n 0, 1) := by decide +kernel
theorem dX12_tells_127 : decode cX12_tells 127 = .ok (.getfield 21, 3) := by decide +kernel
theorem dX12_tells_130 : decode cX12_tells 130 = .ok (.bipush 30, 2) := by decide +kernel
theorem dX12_tells_132 : decode cX12_tells 132 = .ok (.iload_n 3, 1) := by decide +kernel
theorem dX12_tells_133 : decode cX12_tells 133 = .ok (.iadd, 1) := by decide +kernel
theorem dX12_tells_134 : decode cX12_tells 134 = .ok (.iload 4, 2) := by decide +kernel
theorem dX12_tells_136 : decode cX12_tells 136 = .ok (.iastore, 1) := by decide +kernel
theorem dX12_tells_137 : decode cX12_tells 137 = .ok (.iload_n 2, 1) := by decide +kernel
theorem dX12_tells_138 : decode cX12_tells 138 = .ok (.iconst 1, 1) := by decide +kernel
theorem dX12_tells_139 : decode cX12_tells 139 = .ok (.if_icmp .ne 8, 3) := by decide +kernel
theorem dX12_tells_142 : decode cX12_tells 142 = .ok (.iload 5, 2) := by decide +kernel
theorem dX12_tells_144 : decode cX12_tells 144 = .ok (.goto 5, 3) := by decide +kernel
theorem dX12_tells_147 : decode cX12_tells 147 = .ok (.iload 6, 2) := by decide +kernel
theorem dX12_tells_149 : decode cX12_tells 149 = .ok (.ireturn, 1) := by decide +kernel
theorem dX12_film_0 : decode cX12_film 0 = .ok (.iload_n 1, 1) := by decide +kernel
theorem dX12_film_1 : decode cX12_film 1 = .ok (.invokestatic 289, 3) := by decide +kernel
theorem dX12_film_4 : decode cX12_film 4 = .ok (.ifCond .ne 6, 3) := by decide +kernel
theorem dX12_film_7 : decode cX12_film 7 = .ok (.bipush (-2), 2) := by decide +kernel
theorem dX12_film_9 : decode cX12_film 9 = .ok (.ireturn, 1) := by decide +kernel
theorem dX12_film_10 : decode cX12_film 10 = .ok (.aload_n 0, 1) := by decide +kernel
theorem dX12_film_11 : decode cX12_film 11 = .ok (.invokevirtual 292, 3) := by decide +kernel
theorem dX12_film_14 : decode cX12_film 14 = .ok (.pop2, 1) := by decide +kernel
theorem dX12_film_15 : decode cX12_film 15 = .ok (.aload_n 0, 1) := by decide +kernel
theorem dX12_film_16 : decode cX12_film 16 = .ok (.getfield 70, 3) := by decide +kernel
theorem dX12_film_19 : decode cX12_film 19 = .ok (.iload_n 1, 1) := by decide +kernel
theorem dX12_film_20 : decode cX12_film 20 = .ok (.iconst 2, 1) := by decide +kernel
theorem dX12_film_21 : decode cX12_film 21 = .ok (.iastore, 1) := by decide +kernel
theorem dX12_film_22 : decode cX12_film 22 = .ok (.aload_n 0, 1) := by decide +kernel
theorem dX12_film_23 : decode cX12_film 23 = .ok (.getfield 73, 3) := by decide +kernel
theorem dX12_film_26 : decode cX12_film 26 = .ok (.iload_n 1, 1) := by decide +kernel
theorem dX12_film_27 : decode cX12_film 27 = .ok (.aload_n 0, 1) := by decide +kernel
theorem dX12_film_28 : decode cX12_film 28 = .ok (.getfield 83, 3) := by decide +kernel
theorem dX12_film_31 : decode cX12_film 31 = .ok (.iastore, 1) := by decide +kernel
theorem dX12_film_32 : decode cX12_film 32 = .ok (.iconst 0, 1) := by decide +kernel
theorem dX12_film_33 : decode cX12_film 33 = .ok (.istore_n 2, 1) := by decide +kernel
theorem dX12_film_34 : decode cX12_film 34 = .ok (.iload_n 2, 1) := by decide +kernel
theorem dX12_film_35 : decode cX12_film 35 = .ok (.bipush 40, 2) := by decide +kernel
theorem dX12_film_37 : decode cX12_film 37 = .ok (.if_icmp .ge 39, 3) := by decide +kernel
theorem dX12_film_40 : decode cX12_film 40 = .ok (.aload_n 0, 1) := by decide +kernel
theorem dX12_film_41 : decode cX12_film 41 = .ok (.getfield 76, 3) := by decide +kernel
theorem dX12_film_44 : decode cX12_film 44 = .ok (.bipush 40, 2) := by decide +kernel
theorem dX12_film_46 : decode cX12_film 46 = .ok (.iload_n 1, 1) := by decide +kernel
theorem dX12_film_47 : decode cX12_film 47 = .ok (.imul, 1) := by decide +kernel
theorem dX12_film_48 : decode cX12_film 48 = .ok (.iload_n 2, 1) := by decide +kernel
theorem dX12_film_49 : decode cX12_film 49 = .ok (.iadd, 1) := by decide +kernel
theorem dX12_film_50 : decode cX12_film 50 = .ok (.iload_n 2, 1) := by decide +kernel
theorem dX12_film_51 : decode cX12_film 51 = .ok (.aload_n 0, 1) := by decide +kernel
theorem dX12_film_52 : decode cX12_film 52 = .ok (.getfield 83, 3) := by decide +kernel
theorem dX12_film_55 : decode cX12_film 55 = .ok (.if_icmp .ge 13, 3) := by decide +kernel
theorem dX12_film_58 : decode cX12_film 58 = .ok (.aload_n 0, 1) := by decide +kernel
theorem dX12_film_59 : decode cX12_film 59 = .ok (.getfield 61, 3) := by decide +kernel
theorem dX12_film_62 : decode cX12_film 62 = .ok (.iload_n 2, 1) := by decide +kernel
theorem dX12_film_63 : decode cX12_film 63 = .ok (.laload, 1) := by decide +kernel
theorem dX12_film_64 : decode cX12_film 64 = .ok (.l2i, 1) := by decide +kernel
theorem dX12_film_65 : decode cX12_film 65 = .ok (.goto 4, 3) := by decide +kernel
theorem dX12_film_68 : decode cX12_film 68 = .ok (.iconst 0, 1) := by decide +kernel
theorem dX12_film_69 : decode cX12_film 69 = .ok (.iastore, 1) := by decide +kernel
theorem dX12_film_70 : decode cX12_film 70 = .ok (.iinc 2 1, 3) := by decide +kernel
theorem dX12_film_73 : decode cX12_film 73 = .ok (.goto (-39), 3) := by decide +kernel
theorem dX12_film_76 : decode cX12_film 76 = .ok (.aload_n 0, 1) := by decide +kernel
theorem dX12_film_77 : decode cX12_film 77 = .ok (.getfield 83, 3) := by decide +kernel
theorem dX12_film_80 : decode cX12_film 80 = .ok (.ireturn, 1) := by decide +kernel
theorem dX12_image_0 : decode cX12_image 0 = .ok (.aload_n 0, 1) := by decide +kernel
theorem dX12_image_1 : decode cX12_image 1 = .ok (.iconst 1, 1) := by decide +kernel
theorem dX12_image_2 : decode cX12_image 2 = .ok (.putfield 306, 3) := by decide +kernel
theorem dX12_image_5 : decode cX12_image 5 = .ok (.aload_n 0, 1) := by decide +kernel
theorem dX12_image_6 : decode cX12_image 6 = .ok (.aload_n 0, 1) := by decide +kernel
theorem dX12_image_7 : decode cX12_image 7 = .ok (.getfield 87, 3) := by decide +kernel
theorem dX12_image_10 : decode cX12_image 10 = .ok (.putfield 309, 3) := by decide +kernel
theorem dX12_image_13 : decode cX12_image 13 = .ok (.iconst 0, 1) := by decide +kernel
theorem dX12_image_14 : decode cX12_image 14 = .ok (.istore_n 1, 1) := by decide +kernel
theorem dX12_image_15 : decode cX12_image 15 = .ok (.iload_n 1, 1) := by decide +kernel
theorem dX12_image_16 : decode cX12_image 16 = .ok (.bipush 60, 2) := by decide +kernel
theorem dX12_image_18 : decode cX12_image 18 = .ok (.if_icmp .gt 51, 3) := by decide +kernel
theorem dX12_image_21 : decode cX12_image 21 = .ok (.aload_n 0, 1) := by decide +kernel
theorem dX12_image_22 : decode cX12_image 22 = .ok (.getfield 67, 3) := by decide +kernel
theorem dX12_image_25 : decode cX12_image 25 = .ok (.iload_n 1, 1) := by decide +kernel
theorem dX12_image_26 : decode cX12_image 26 = .ok (.aload_n 0, 1) := by decide +kernel
theorem dX12_image_27 : decode cX12_image 27 = .ok (.getfield 9, 3) := by decide +kernel
theorem dX12_image_30 : decode cX12_image 30 = .ok (.iload_n 1, 1) := by decide +kernel
theorem dX12_image_31 : decode cX12_image 31 = .ok (.iaload, 1) := by decide +kernel
theorem dX12_image_32 : decode cX12_image 32 = .ok (.iastore, 1) := by decide +kernel
theorem dX12_image_33 : decode cX12_image 33 = .ok (.aload_n 0, 1) := by decide +kernel
theorem dX12_image_34 : decode cX12_image 34 = .ok (.getfield 67, 3) := by decide +kernel
theorem dX12_image_37 : decode cX12_image 37 = .ok (.bipush 61, 2) := by decide +kernel
theorem dX12_image_39 : decode cX12_image 39 = .ok (.iload_n 1, 1) := by decide +kernel
theorem dX12_image_40 : decode cX12_image 40 = .ok (.iadd, 1) := by decide +kernel
theorem dX12_image_41 : decode cX12_image 41 = .ok (.aload_n 0, 1) := by decide +kernel
theorem dX12_image_42 : decode cX12_image 42 = .ok (.getfield 15, 3) := by decide +kernel
theorem dX12_image_45 : decode cX12_image 45 = .ok (.iload_n 1, 1) := by decide +kernel
theorem dX12_image_46 : decode cX12_image 46 = .ok (.iaload, 1) := by decide +kernel
theorem dX12_image_47 : decode cX12_image 47 = .ok (.iastore, 1) := by decide +kernel
theorem dX12_image_48 : decode cX12_image 48 = .ok (.aload_n 0, 1) := by decide +kernel
theorem dX12_image_49 : decode cX12_image 49 = .ok (.getfield 67, 3) := by decide +kernel
theorem dX12_image_52 : decode cX12_image 52 = .ok (.bipush 122, 2) := by decide +kernel
theorem dX12_image_54 : decode cX12_image 54 = .ok (.iload_n 1, 1) := by decide +kernel
theorem dX12_image_55 : decode cX12_image 55 = .ok (.iadd, 1) := by decide +kernel
theorem dX12_image_56 : decode cX12_image 56 = .ok (.aload_n 0, 1) := by decide +kernel
theorem dX12_image_57 : decode cX12_image 57 = .ok (.getfield 18, 3) := by decide +kernel
theorem dX12_image_60 : decode cX12_image 60 = .ok (.iload_n 1, 1) := by decide +kernel
theorem dX12_image_61 : decode cX12_image 61 = .ok (.iaload, 1) := by decide +kernel
theorem dX12_image_62 : decode cX12_image 62 = .ok (.iastore, 1) := by decide +kernel
theorem dX12_image_63 : decode cX12_image 63 = .ok (.iinc 1 1, 3) := by decide +kernel
theorem dX12_image_66 : decode cX12_image 66 = .ok (.goto (-51), 3) := by decide +kernel
theorem dX12_image_69 : decode cX12_image 69 = .ok (.iconst 0, 1) := by decide +kernel
theorem dX12_image_70 : decode cX12_image 70 = .ok (.istore_n 1, 1) := by decide +kernel
theorem dX12_image_71 : decode cX12_image 71 = .ok (.iload_n 1, 1) := by decide +kernel
theorem dX12_image_72 : decode cX12_image 72 = .ok (.bipush 35, 2) := by decide +kernel
theorem dX12_image_74 : decode cX12_image 74 = .ok (.if_icmp .ge 25, 3) := by decide +kernel
theorem dX12_image_77 : decode cX12_image 77 = .ok (.aload_n 0, 1) := by decide +kernel
theorem dX12_image_78 : decode cX12_image 78 = .ok (.getfield 67, 3) := by decide +kernel
theorem dX12_image_81 : decode cX12_image 81 = .ok (.sipush 183, 3) := by decide +kernel
theorem dX12_image_84 : decode cX12_image 84 = .ok (.iload_n 1, 1) := by decide +kernel
theorem dX12_image_85 : decode cX12_image 85 = .ok (.iadd, 1) := by decide +kernel
theorem dX12_image_86 : decode cX12_image 86 = .ok (.aload_n 0, 1) := by decide +kernel
theorem dX12_image_87 : decode cX12_image 87 = .ok (.getfield 21, 3) := by decide +kernel
theorem dX12_image_90 : decode cX12_image 90 = .ok (.iload_n 1, 1) := by decide +kernel
theorem dX12_image_91 : decode cX12_image 91 = .ok (.iaload, 1) := by decide +kernel
theorem dX12_image_92 : decode cX12_image 92 = .ok (.iastore, 1) := by decide +kernel
theorem dX12_image_93 : decode cX12_image 93 = .ok (.iinc 1 1, 3) := by decide +kernel
theorem dX12_image_96 : decode cX12_image 96 = .ok (.goto (-25), 3) := by decide +kernel
theorem dX12_image_99 : decode cX12_image 99 = .ok (.aload_n 0, 1) := by decide +kernel
theorem dX12_image_100 : decode cX12_image 100 = .ok (.getfield 87, 3) := by decide +kernel
theorem dX12_image_103 : decode cX12_image 103 = .ok (.ireturn, 1) := by decide +kernel
theorem dX12_back_0 : decode cX12_back 0 = .ok (.aload_n 0, 1) := by decide +kernel
theorem dX12_back_1 : decode cX12_back 1 = .ok (.getfield 306, 3) := by decide +kernel
theorem dX12_back_4 : decode cX12_back 4 = .ok (.ifCond .ne 6, 3) := by decide +kernel
theorem dX12_back_7 : decode cX12_back 7 = .ok (.bipush (-3), 2) := by decide +kernel
theorem dX12_back_9 : decode cX12_back 9 = .ok (.ireturn, 1) := by decide +kernel
theorem dX12_back_10 : decode cX12_back 10 = .ok (.aload_n 0, 1) := by decide +kernel
theorem dX12_back_11 : decode cX12_back 11 = .ok (.aload_n 0, 1) := by decide +kernel
theorem dX12_back_12 : decode cX12_back 12 = .ok (.getfield 309, 3) := by decide +kernel
theorem dX12_back_15 : decode cX12_back 15 = .ok (.putfield 87, 3) := by decide +kernel
theorem dX12_back_18 : decode cX12_back 18 = .ok (.iconst 0, 1) := by decide +kernel
theorem dX12_back_19 : decode cX12_back 19 = .ok (.istore_n 1, 1) := by decide +kernel
theorem dX12_back_20 : decode cX12_back 20 = .ok (.iload_n 1, 1) := by decide +kernel
theorem dX12_back_21 : decode cX12_back 21 = .ok (.bipush 60, 2) := by decide +kernel
theorem dX12_back_23 : decode cX12_back 23 = .ok (.if_icmp .gt 51, 3) := by decide +kernel
theorem dX12_back_26 : decode cX12_back 26 = .ok (.aload_n 0, 1) := by decide +kernel
theorem dX12_back_27 : decode cX12_back 27 = .ok (.getfield 9, 3) := by decide +kernel
theorem dX12_back_30 : decode cX12_back 30 = .ok (.iload_n 1, 1) := by decide +kernel
theorem dX12_back_31 : decode cX12_back 31 = .ok (.aload_n 0, 1) := by decide +kernel
theorem dX12_back_32 : decode cX12_back 32 = .ok (.getfield 67, 3) := by decide +kernel
theorem dX12_back_35 : decode cX12_back 35 = .ok (.iload_n 1, 1) := by decide +kernel
theorem dX12_back_36 : decode cX12_back 36 = .ok (.iaload, 1) := by decide +kernel
theorem dX12_back_37 : decode cX12_back 37 = .ok (.iastore, 1) := by decide +kernel
theorem dX12_back_38 : decode cX12_back 38 = .ok (.aload_n 0, 1) := by decide +kernel
theorem dX12_back_39 : decode cX12_back 39 = .ok (.getfield 15, 3) := by decide +kernel
theorem dX12_back_42 : decode cX12_back 42 = .ok (.iload_n 1, 1) := by decide +kernel
theorem dX12_back_43 : decode cX12_back 43 = .ok (.aload_n 0, 1) := by decide +kernel
theorem dX12_back_44 : decode cX12_back 44 = .ok (.getfield 67, 3) := by decide +kernel
theorem dX12_back_47 : decode cX12_back 47 = .ok (.bipush 61, 2) := by decide +kernel
theorem dX12_back_49 : decode cX12_back 49 = .ok (.iload_n 1, 1) := by decide +kernel
theorem dX12_back_50 : decode cX12_back 50 = .ok (.iadd, 1) := by decide +kernel
theorem dX12_back_51 : decode cX12_back 51 = .ok (.iaload, 1) := by decide +kernel
theorem dX12_back_52 : decode cX12_back 52 = .ok (.iastore, 1) := by decide +kernel
theorem dX12_back_53 : decode cX12_back 53 = .ok (.aload_n 0, 1) := by decide +kernel
theorem dX12_back_54 : decode cX12_back 54 = .ok (.getfield 18, 3) := by decide +kernel
theorem dX12_back_57 : decode cX12_back 57 = .ok (.iload_n 1, 1) := by decide +kernel
theorem dX12_back_58 : decode cX12_back 58 = .ok (.aload_n 0, 1) := by decide +kernel
theorem dX12_back_59 : decode cX12_back 59 = .ok (.getfield 67, 3) := by decide +kernel
theorem dX12_back_62 : decode cX12_back 62 = .ok (.bipush 122, 2) := by decide +kernel
theorem dX12_back_64 : decode cX12_back 64 = .ok (.iload_n 1, 1) := by decide +kernel
theorem dX12_back_65 : decode cX12_back 65 = .ok (.iadd, 1) := by decide +kernel
theorem dX12_back_66 : decode cX12_back 66 = .ok (.iaload, 1) := by decide +kernel
theorem dX12_back_67 : decode cX12_back 67 = .ok (.iastore, 1) := by decide +kernel
theorem dX12_back_68 : decode cX12_back 68 = .ok (.iinc 1 1, 3) := by decide +kernel
theorem dX12_back_71 : decode cX12_back 71 = .ok (.goto (-51), 3) := by decide +kernel
theorem dX12_back_74 : decode cX12_back 74 = .ok (.iconst 0, 1) := by decide +kernel
theorem dX12_back_75 : decode cX12_back 75 = .ok (.istore_n 1, 1) := by decide +kernel
theorem dX12_back_76 : decode cX12_back 76 = .ok (.iload_n 1, 1) := by decide +kernel
theorem dX12_back_77 : decode cX12_back 77 = .ok (.bipush 35, 2) := by decide +kernel
theorem dX12_back_79 : decode cX12_back 79 = .ok (.if_icmp .ge 25, 3) := by decide +kernel
theorem dX12_back_82 : decode cX12_back 82 = .ok (.aload_n 0, 1) := by decide +kernel
theorem dX12_back_83 : decode cX12_back 83 = .ok (.getfield 21, 3) := by decide +kernel
theorem dX12_back_86 : decode cX12_back 86 = .ok (.iload_n 1, 1) := by decide +kernel
theorem dX12_back_87 : decode cX12_back 87 = .ok (.aload_n 0, 1) := by decide +kernel
theorem dX12_back_88 : decode cX12_back 88 = .ok (.getfield 67, 3) := by decide +kernel
theorem dX12_back_91 : decode cX12_back 91 = .ok (.sipush 183, 3) := by decide +kernel
theorem dX12_back_94 : decode cX12_back 94 = .ok (.iload_n 1, 1) := by decide +kernel
theorem dX12_back_95 : decode cX12_back 95 = .ok (.iadd, 1) := by decide +kernel
theorem dX12_back_96 : decode cX12_back 96 = .ok (.iaload, 1) := by decide +kernel
theorem dX12_back_97 : decode cX12_back 97 = .ok (.iastore, 1) := by decide +kernel
theorem dX12_back_98 : decode cX12_back 98 = .ok (.iinc 1 1, 3) := by decide +kernel
theorem dX12_back_101 : decode cX12_back 101 = .ok (.goto (-25), 3) := by decide +kernel
theorem dX12_back_104 : decode cX12_back 104 = .ok (.aload_n 0, 1) := by decide +kernel
theorem dX12_back_105 : decode cX12_back 105 = .ok (.invokevirtual 102, 3) := by decide +kernel
theorem dX12_back_108 : decode cX12_back 108 = .ok (.aload_n 0, 1) := by decide +kernel
theorem dX12_back_109 : decode cX12_back 109 = .ok (.getfield 87, 3) := by decide +kernel
theorem dX12_back_112 : decode cX12_back 112 = .ok (.ireturn, 1) := by decide +kernel
theorem dX12_count_0 : decode cX12_count 0 = .ok (.iconst 0, 1) := by decide +kernel
theorem dX12_count_1 : decode cX12_count 1 = .ok (.istore_n 2, 1) := by decide +kernel
theorem dX12_count_2 : decode cX12_count 2 = .ok (.iload_n 1, 1) := by decide +kernel
theorem dX12_count_3 : decode cX12_count 3 = .ok (.tableswitch 87 0 4 #[33, 38, 46, 54, 59], 33) := by decide +kernel
theorem dX12_count_36 : decode cX12_count 36 = .ok (.aload_n 0, 1) := by decide +kernel
theorem dX12_count_37 : decode cX12_count 37 = .ok (.getfield 83, 3) := by decide +kernel
theorem dX12_count_40 : decode cX12_count 40 = .ok (.ireturn, 1) := by decide +kernel
theorem dX12_count_41 : decode cX12_count 41 = .ok (.aload_n 0, 1) := by decide +kernel
theorem dX12_count_42 : decode cX12_count 42 = .ok (.getfield 15, 3) := by decide +kernel
theorem dX12_count_45 : decode cX12_count 45 = .ok (.invokestatic 90, 3) := by decide +kernel
theorem dX12_count_48 : decode cX12_count 48 = .ok (.ireturn, 1) := by decide +kernel
theorem dX12_count_49 : decode cX12_count 49 = .ok (.aload_n 0, 1) := by decide +kernel
theorem dX12_count_50 : decode cX12_count 50 = .ok (.getfield 18, 3) := by decide +kernel
theorem dX12_count_53 : decode cX12_count 53 = .ok (.invokestatic 90, 3) := by decide +kernel
theorem dX12_count_56 : decode cX12_count 56 = .ok (.ireturn, 1) := by decide +kernel
theorem dX12_count_57 : decode cX12_count 57 = .ok (.aload_n 0, 1) := by decide +kernel
theorem dX12_count_58 : decode cX12_count 58 = .ok (.getfield 87, 3) := by decide +kernel
theorem dX12_count_61 : decode cX12_count 61 = .ok (.ireturn, 1) := by decide +kernel
theorem dX12_count_62 : decode cX12_count 62 = .ok (.iconst 0, 1) := by decide +kernel
theorem dX12_count_63 : decode cX12_count 63 = .ok (.istore_n 3, 1) := by decide +kernel
theorem dX12_count_64 : decode cX12_count 64 = .ok (.iload_n 3, 1) := by decide +kernel
theorem dX12_count_65 : decode cX12_count 65 = .ok (.aload_n 0, 1) := by decide +kernel
theorem dX12_count_66 : decode cX12_count 66 = .ok (.getfield 87, 3) := by decide +kernel
theorem dX12_count_69 : decode cX12_count 69 = .ok (.if_icmp .ge 19, 3) := by decide +kernel
theorem dX12_count_72 : decode cX12_count 72 = .ok (.iload_n 2, 1) := by decide +kernel
theorem dX12_count_73 : decode cX12_count 73 = .ok (.aload_n 0, 1) := by decide +kernel
theorem dX12_count_74 : decode cX12_count 74 = .ok (.iload_n 3, 1) := by decide +kernel
theorem dX12_count_75 : decode cX12_count 75 = .ok (.bipush 6, 2) := by decide +kernel
theorem dX12_count_77 : decode cX12_count 77 = .ok (.invokevirtual 118, 3) := by decide +kernel
theorem dX12_count_80 : decode cX12_count 80 = .ok (.iadd, 1) := by decide +kernel
theorem dX12_count_81 : decode cX12_count 81 = .ok (.istore_n 2, 1) := by decide +kernel
theorem dX12_count_82 : decode cX12_count 82 = .ok (.iinc 3 1, 3) := by decide +kernel
theorem dX12_count_85 : decode cX12_count 85 = .ok (.goto (-21), 3) := by decide +kernel
theorem dX12_count_88 : decode cX12_count 88 = .ok (.iload_n 2, 1) := by decide +kernel
theorem dX12_count_89 : decode cX12_count 89 = .ok (.ireturn, 1) := by decide +kernel
theorem dX12_count_90 : decode cX12_count 90 = .ok (.bipush (-2), 2) := by decide +kernel
theorem dX12_count_92 : decode cX12_count 92 = .ok (.ireturn, 1) := by decide +kernel
theorem dX12_sheet_0 : decode cX12_sheet 0 = .ok (.iload_n 1, 1) := by decide +kernel
theorem dX12_sheet_1 : decode cX12_sheet 1 = .ok (.invokestatic 289, 3) := by decide +kernel
theorem dX12_sheet_4 : decode cX12_sheet 4 = .ok (.ifCond .eq 22, 3) := by decide +kernel
theorem dX12_sheet_7 : decode cX12_sheet 7 = .ok (.iload_n 2, 1) := by decide +kernel
theorem dX12_sheet_8 : decode cX12_sheet 8 = .ok (.iconst (-1), 1) := by decide +kernel
theorem dX12_sheet_9 : decode cX12_sheet 9 = .ok (.iconst 1, 1) := by decide +kernel
theorem dX12_sheet_10 : decode cX12_sheet 10 = .ok (.invokestatic 79, 3) := by decide +kernel
theorem dX12_sheet_13 : decode cX12_sheet 13 = .ok (.ifCond .eq 13, 3) := by decide +kernel
theorem dX12_sheet_16 : decode cX12_sheet 16 = .ok (.iload_n 2, 1) := by decide +kernel
theorem dX12_sheet_17 : decode cX12_sheet 17 = .ok (.ifCond .lt 12, 3) := by decide +kernel
theorem dX12_sheet_20 : decode cX12_sheet 20 = .ok (.iload_n 3, 1) := by decide +kernel
theorem dX12_sheet_21 : decode cX12_sheet 21 = .ok (.bipush 40, 2) := by decide +kernel
theorem dX12_sheet_23 : decode cX12_sheet 23 = .ok (.if_icmp .le 6, 3) := by decide +kernel
theorem dX12_sheet_26 : decode cX12_sheet 26 = .ok (.bipush (-2), 2) := by decide +kernel
theorem dX12_sheet_28 : decode cX12_sheet 28 = .ok (.ireturn, 1) := by decide +kernel
theorem dX12_sheet_29 : decode cX12_sheet 29 = .ok (.iload_n 2, 1) := by decide +kernel
theorem dX12_sheet_30 : decode cX12_sheet 30 = .ok (.ifCond .lt 10, 3) := by decide +kernel
theorem dX12_sheet_33 : decode cX12_sheet 33 = .ok (.iload_n 3, 1) := by decide +kernel
theorem dX12_sheet_34 : decode cX12_sheet 34 = .ok (.ifCond .ge 6, 3) := by decide +kernel
theorem dX12_sheet_37 : decode cX12_sheet 37 = .ok (.bipush (-14), 2) := by decide +kernel
theorem dX12_sheet_39 : decode cX12_sheet 39 = .ok (.ireturn, 1) := by decide +kernel
theorem dX12_sheet_40 : decode cX12_sheet 40 = .ok (.aload_n 0, 1) := by decide +kernel
theorem dX12_sheet_41 : decode cX12_sheet 41 = .ok (.getfield 70, 3) := by decide +kernel
theorem dX12_sheet_44 : decode cX12_sheet 44 = .ok (.iload_n 1, 1) := by decide +kernel
theorem dX12_sheet_45 : decode cX12_sheet 45 = .ok (.iload_n 2, 1) := by decide +kernel
theorem dX12_sheet_46 : decode cX12_sheet 46 = .ok (.iconst 1, 1) := by decide +kernel
theorem dX12_sheet_47 : decode cX12_sheet 47 = .ok (.iadd, 1) := by decide +kernel
theorem dX12_sheet_48 : decode cX12_sheet 48 = .ok (.iastore, 1) := by decide +kernel
theorem dX12_sheet_49 : decode cX12_sheet 49 = .ok (.aload_n 0, 1) := by decide +kernel
theorem dX12_sheet_50 : decode cX12_sheet 50 = .ok (.getfield 73, 3) := by decide +kernel
theorem dX12_sheet_53 : decode cX12_sheet 53 = .ok (.iload_n 1, 1) := by decide +kernel
theorem dX12_sheet_54 : decode cX12_sheet 54 = .ok (.iload_n 2, 1) := by decide +kernel
theorem dX12_sheet_55 : decode cX12_sheet 55 = .ok (.ifCond .ge 7, 3) := by decide +kernel
theorem dX12_sheet_58 : decode cX12_sheet 58 = .ok (.iconst 0, 1) := by decide +kernel
theorem dX12_sheet_59 : decode cX12_sheet 59 = .ok (.goto 4, 3) := by decide +kernel
theorem dX12_sheet_62 : decode cX12_sheet 62 = .ok (.iload_n 3, 1) := by decide +kernel
theorem dX12_sheet_63 : decode cX12_sheet 63 = .ok (.iastore, 1) := by decide +kernel
theorem dX12_sheet_64 : decode cX12_sheet 64 = .ok (.iconst 0, 1) := by decide +kernel
theorem dX12_sheet_65 : decode cX12_sheet 65 = .ok (.istore 4, 2) := by decide +kernel
theorem dX12_sheet_67 : decode cX12_sheet 67 = .ok (.iload 4, 2) := by decide +kernel
theorem dX12_sheet_69 : decode cX12_sheet 69 = .ok (.bipush 40, 2) := by decide +kernel
theorem dX12_sheet_71 : decode cX12_sheet 71 = .ok (.if_icmp .ge 22, 3) := by decide +kernel
theorem dX12_sheet_74 : decode cX12_sheet 74 = .ok (.aload_n 0, 1) := by decide +kernel
theorem dX12_sheet_75 : decode cX12_sheet 75 = .ok (.getfield 76, 3) := by decide +kernel
theorem dX12_sheet_78 : decode cX12_sheet 78 = .ok (.bipush 40, 2) := by decide +kernel
theorem dX12_sheet_80 : decode cX12_sheet 80 = .ok (.iload_n 1, 1) := by decide +kernel
theorem dX12_sheet_81 : decode cX12_sheet 81 = .ok (.imul, 1) := by decide +kernel
theorem dX12_sheet_82 : decode cX12_sheet 82 = .ok (.iload 4, 2) := by decide +kernel
theorem dX12_sheet_84 : decode cX12_sheet 84 = .ok (.iadd, 1) := by decide +kernel
theorem dX12_sheet_85 : decode cX12_sheet 85 = .ok (.iconst 0, 1) := by decide +kernel
theorem dX12_sheet_86 : decode cX12_sheet 86 = .ok (.iastore, 1) := by decide +kernel
theorem dX12_sheet_87 : decode cX12_sheet 87 = .ok (.iinc 4 1, 3) := by decide +kernel
theorem dX12_sheet_90 : decode cX12_sheet 90 = .ok (.goto (-23), 3) := by decide +kernel
theorem dX12_sheet_93 : decode cX12_sheet 93 = .ok (.iconst 1, 1) := by decide +kernel
theorem dX12_sheet_94 : decode cX12_sheet 94 = .ok (.ireturn, 1) := by decide +kernel
theorem dX12_put_0 : decode cX12_put 0 = .ok (.iload_n 1, 1) := by decide +kernel
theorem dX12_put_1 : decode cX12_put 1 = .ok (.invokestatic 289, 3) := by decide +kernel
theorem dX12_put_4 : decode cX12_put 4 = .ok (.ifCond .ne 6, 3) := by decide +kernel
theorem dX12_put_7 : decode cX12_put 7 = .ok (.bipush (-2), 2) := by decide +kernel
theorem dX12_put_9 : decode cX12_put 9 = .ok (.ireturn, 1) := by decide +kernel
theorem dX12_put_10 : decode cX12_put 10 = .ok (.aload_n 0, 1) := by decide +kernel
theorem dX12_put_11 : decode cX12_put 11 = .ok (.getfield 70, 3) := by decide +kernel
theorem dX12_put_14 : decode cX12_put 14 = .ok (.iload_n 1, 1) := by decide +kernel
theorem dX12_put_15 : decode cX12_put 15 = .ok (.iaload, 1) := by decide +kernel
theorem dX12_put_16 : decode cX12_put 16 = .ok (.ifCond .ne 6, 3) := by decide +kernel
theorem dX12_put_19 : decode cX12_put 19 = .ok (.bipush (-11), 2) := by decide +kernel
theorem dX12_put_21 : decode cX12_put 21 = .ok (.ireturn, 1) := by decide +kernel
theorem dX12_put_22 : decode cX12_put 22 = .ok (.iload_n 2, 1) := by decide +kernel
theorem dX12_put_23 : decode cX12_put 23 = .ok (.iconst 0, 1) := by decide +kernel
theorem dX12_put_24 : decode cX12_put 24 = .ok (.aload_n 0, 1) := by decide +kernel
theorem dX12_put_25 : decode cX12_put 25 = .ok (.getfield 73, 3) := by decide +kernel
theorem dX12_put_28 : decode cX12_put 28 = .ok (.iload_n 1, 1) := by decide +kernel
theorem dX12_put_29 : decode cX12_put 29 = .ok (.iaload, 1) := by decide +kernel
theorem dX12_put_30 : decode cX12_put 30 = .ok (.iconst 1, 1) := by decide +kernel
theorem dX12_put_31 : decode cX12_put 31 = .ok (.isub, 1) := by decide +kernel
theorem dX12_put_32 : decode cX12_put 32 = .ok (.invokestatic 79, 3) := by decide +kernel
theorem dX12_put_35 : decode cX12_put 35 = .ok (.ifCond .ne 6, 3) := by decide +kernel
theorem dX12_put_38 : decode cX12_put 38 = .ok (.bipush (-12), 2) := by decide +kernel
theorem dX12_put_40 : decode cX12_put 40 = .ok (.ireturn, 1) := by decide +kernel
theorem dX12_put_41 : decode cX12_put 41 = .ok (.aload_n 0, 1) := by decide +kernel
theorem dX12_put_42 : decode cX12_put 42 = .ok (.getfield 76, 3) := by decide +kernel
theorem dX12_put_45 : decode cX12_put 45 = .ok (.bipush 40, 2) := by decide +kernel
theorem dX12_put_47 : decode cX12_put 47 = .ok (.iload_n 1, 1) := by decide +kernel
theorem dX12_put_48 : decode cX12_put 48 = .ok (.imul, 1) := by decide +kernel
theorem dX12_put_49 : decode cX12_put 49 = .ok (.iload_n 2, 1) := by decide +kernel
theorem dX12_put_50 : decode cX12_put 50 = .ok (.iadd, 1) := by decide +kernel
theorem dX12_put_51 : decode cX12_put 51 = .ok (.aload_n 0, 1) := by decide +kernel
theorem dX12_put_52 : decode cX12_put 52 = .ok (.getfield 70, 3) := by decide +kernel
theorem dX12_put_55 : decode cX12_put 55 = .ok (.iload_n 1, 1) := by decide +kernel
theorem dX12_put_56 : decode cX12_put 56 = .ok (.iaload, 1) := by decide +kernel
theorem dX12_put_57 : decode cX12_put 57 = .ok (.iconst 1, 1) := by decide +kernel
theorem dX12_put_58 : decode cX12_put 58 = .ok (.if_icmp .ne 8, 3) := by decide +kernel
theorem dX12_put_61 : decode cX12_put 61 = .ok (.iload_n 3, 1) := by decide +kernel
theorem dX12_put_62 : decode cX12_put 62 = .ok (.i2b, 1) := by decide +kernel
theorem dX12_put_63 : decode cX12_put 63 = .ok (.goto 4, 3) := by decide +kernel
theorem dX12_put_66 : decode cX12_put 66 = .ok (.iload_n 3, 1) := by decide +kernel
theorem dX12_put_67 : decode cX12_put 67 = .ok (.iastore, 1) := by decide +kernel
theorem dX12_put_68 : decode cX12_put 68 = .ok (.iconst 1, 1) := by decide +kernel
theorem dX12_put_69 : decode cX12_put 69 = .ok (.ireturn, 1) := by decide +kernel
theorem dX12_copy_0 : decode cX12_copy 0 = .ok (.iload_n 1, 1) := by decide +kernel
theorem dX12_copy_1 : decode cX12_copy 1 = .ok (.invokestatic 289, 3) := by decide +kernel
theorem dX12_copy_4 : decode cX12_copy 4 = .ok (.ifCond .eq 10, 3) := by decide +kernel
theorem dX12_copy_7 : decode cX12_copy 7 = .ok (.iload_n 3, 1) := by decide +kernel
theorem dX12_copy_8 : decode cX12_copy 8 = .ok (.invokestatic 289, 3) := by decide +kernel
theorem dX12_copy_11 : decode cX12_copy 11 = .ok (.ifCond .ne 6, 3) := by decide +kernel
theorem dX12_copy_14 : decode cX12_copy 14 = .ok (.bipush (-2), 2) := by decide +kernel
theorem dX12_copy_16 : decode cX12_copy 16 = .ok (.ireturn, 1) := by decide +kernel
theorem dX12_copy_17 : decode cX12_copy 17 = .ok (.aload_n 0, 1) := by decide +kernel
theorem dX12_copy_18 : decode cX12_copy 18 = .ok (.getfield 70, 3) := by decide +kernel
theorem dX12_copy_21 : decode cX12_copy 21 = .ok (.iload_n 1, 1) := by decide +kernel
theorem dX12_copy_22 : decode cX12_copy 22 = .ok (.iaload, 1) := by decide +kernel
theorem dX12_copy_23 : decode cX12_copy 23 = .ok (.ifCond .eq 12, 3) := by decide +kernel
theorem dX12_copy_26 : decode cX12_copy 26 = .ok (.aload_n 0, 1) := by decide +kernel
theorem dX12_copy_27 : decode cX12_copy 27 = .ok (.getfield 70, 3) := by decide +kernel
theorem dX12_copy_30 : decode cX12_copy 30 = .ok (.iload_n 3, 1) := by decide +kernel
theorem dX12_copy_31 : decode cX12_copy 31 = .ok (.iaload, 1) := by decide +kernel
theorem dX12_copy_32 : decode cX12_copy 32 = .ok (.ifCond .ne 6, 3) := by decide +kernel
theorem dX12_copy_35 : decode cX12_copy 35 = .ok (.bipush (-11), 2) := by decide +kernel
theorem dX12_copy_37 : decode cX12_copy 37 = .ok (.ireturn, 1) := by decide +kernel
theorem dX12_copy_38 : decode cX12_copy 38 = .ok (.aload_n 0, 1) := by decide +kernel
theorem dX12_copy_39 : decode cX12_copy 39 = .ok (.getfield 70, 3) := by decide +kernel
theorem dX12_copy_42 : decode cX12_copy 42 = .ok (.iload_n 1, 1) := by decide +kernel
theorem dX12_copy_43 : decode cX12_copy 43 = .ok (.iaload, 1) := by decide +kernel
theorem dX12_copy_44 : decode cX12_copy 44 = .ok (.aload_n 0, 1) := by decide +kernel
theorem dX12_copy_45 : decode cX12_copy 45 = .ok (.getfield 70, 3) := by decide +kernel
theorem dX12_copy_48 : decode cX12_copy 48 = .ok (.iload_n 3, 1) := by decide +kernel
theorem dX12_copy_49 : decode cX12_copy 49 = .ok (.iaload, 1) := by decide +kernel
theorem dX12_copy_50 : decode cX12_copy 50 = .ok (.if_icmp .eq 6, 3) := by decide +kernel
theorem dX12_copy_53 : decode cX12_copy 53 = .ok (.bipush (-13), 2) := by decide +kernel
theorem dX12_copy_55 : decode cX12_copy 55 = .ok (.ireturn, 1) := by decide +kernel
theorem dX12_copy_56 : decode cX12_copy 56 = .ok (.iload 5, 2) := by decide +kernel
theorem dX12_copy_58 : decode cX12_copy 58 = .ok (.ifCond .lt 47, 3) := by decide +kernel
theorem dX12_copy_61 : decode cX12_copy 61 = .ok (.iload_n 2, 1) := by decide +kernel
theorem dX12_copy_62 : decode cX12_copy 62 = .ok (.ifCond .lt 43, 3) := by decide +kernel
theorem dX12_copy_65 : decode cX12_copy 65 = .ok (.iload 4, 2) := by decide +kernel
theorem dX12_copy_67 : decode cX12_copy 67 = .ok (.ifCond .lt 38, 3) := by decide +kernel
theorem dX12_copy_70 : decode cX12_copy 70 = .ok (.iload_n 2, 1) := by decide +kernel
theorem dX12_copy_71 : decode cX12_copy 71 = .ok (.i2l, 1) := by decide +kernel
theorem dX12_copy_72 : decode cX12_copy 72 = .ok (.iload 5, 2) := by decide +kernel
theorem dX12_copy_74 : decode cX12_copy 74 = .ok (.i2l, 1) := by decide +kernel
theorem dX12_copy_75 : decode cX12_copy 75 = .ok (.ladd, 1) := by decide +kernel
theorem dX12_copy_76 : decode cX12_copy 76 = .ok (.aload_n 0, 1) := by decide +kernel
theorem dX12_copy_77 : decode cX12_copy 77 = .ok (.getfield 73, 3) := by decide +kernel
theorem dX12_copy_80 : decode cX12_copy 80 = .ok (.iload_n 1, 1) := by decide +kernel
theorem dX12_copy_81 : decode cX12_copy 81 = .ok (.iaload, 1) := by decide +kernel
theorem dX12_copy_82 : decode cX12_copy 82 = .ok (.i2l, 1) := by decide +kernel
theorem dX12_copy_83 : decode cX12_copy 83 = .ok (.lcmp, 1) := by decide +kernel
theorem dX12_copy_84 : decode cX12_copy 84 = .ok (.ifCond .gt 21, 3) := by decide +kernel
theorem dX12_copy_87 : decode cX12_copy 87 = .ok (.iload 4, 2) := by decide +kernel
theorem dX12_copy_89 : decode cX12_copy 89 = .ok (.i2l, 1) := by decide +kernel
theorem dX12_copy_90 : decode cX12_copy 90 = .ok (.iload 5, 2) := by decide +kernel
theorem dX12_copy_92 : decode cX12_copy 92 = .ok (.i2l, 1) := by decide +kernel
theorem dX12_copy_93 : decode cX12_copy 93 = .ok (.ladd, 1) := by decide +kernel
theorem dX12_copy_94 : decode cX12_copy 94 = .ok (.aload_n 0, 1) := by decide +kernel
theorem dX12_copy_95 : decode cX12_copy 95 = .ok (.getfield 73, 3) := by decide +kernel
theorem dX12_copy_98 : decode cX12_copy 98 = .ok (.iload_n 3, 1) := by decide +kernel
theorem dX12_copy_99 : decode cX12_copy 99 = .ok (.iaload, 1) := by decide +kernel
theorem dX12_copy_100 : decode cX12_copy 100 = .ok (.i2l, 1) := by decide +kernel
theorem dX12_copy_101 : decode cX12_copy 101 = .ok (.lcmp, 1) := by decide +kernel
theorem dX12_copy_102 : decode cX12_copy 102 = .ok (.ifCond .le 6, 3) := by decide +kernel
theorem dX12_copy_105 : decode cX12_copy 105 = .ok (.bipush (-12), 2) := by decide +kernel
theorem dX12_copy_107 : decode cX12_copy 107 = .ok (.ireturn, 1) := by decide +kernel
theorem dX12_copy_108 : decode cX12_copy 108 = .ok (.iload_n 1, 1) := by decide +kernel
theorem dX12_copy_109 : decode cX12_copy 109 = .ok (.iload_n 3, 1) := by decide +kernel
theorem dX12_copy_110 : decode cX12_copy 110 = .ok (.if_icmp .ne 58, 3) := by decide +kernel
theorem dX12_copy_113 : decode cX12_copy 113 = .ok (.iload_n 2, 1) := by decide +kernel
theorem dX12_copy_114 : decode cX12_copy 114 = .ok (.iload 4, 2) := by decide +kernel
theorem dX12_copy_116 : decode cX12_copy 116 = .ok (.if_icmp .ge 52, 3) := by decide +kernel
theorem dX12_copy_119 : decode cX12_copy 119 = .ok (.iload 5, 2) := by decide +kernel
theorem dX12_copy_121 : decode cX12_copy 121 = .ok (.iconst 1, 1) := by decide +kernel
theorem dX12_copy_122 : decode cX12_copy 122 = .ok (.isub, 1) := by decide +kernel
theorem dX12_copy_123 : decode cX12_copy 123 = .ok (.istore 6, 2) := by decide +kernel
theorem dX12_copy_125 : decode cX12_copy 125 = .ok (.iload 6, 2) := by decide +kernel
theorem dX12_copy_127 : decode cX12_copy 127 = .ok (.ifCond .lt 38, 3) := by decide +kernel
theorem dX12_copy_130 : decode cX12_copy 130 = .ok (.aload_n 0, 1) := by decide +kernel
theorem dX12_copy_131 : decode cX12_copy 131 = .ok (.getfield 76, 3) := by decide +kernel
theorem dX12_copy_134 : decode cX12_copy 134 = .ok (.bipush 40, 2) := by decide +kernel
theorem dX12_copy_136 : decode cX12_copy 136 = .ok (.iload_n 3, 1) := by decide +kernel
theorem dX12_copy_137 : decode cX12_copy 137 = .ok (.imul, 1) := by decide +kernel
theorem dX12_copy_138 : decode cX12_copy 138 = .ok (.iload 4, 2) := by decide +kernel
theorem dX12_copy_140 : decode cX12_copy 140 = .ok (.iadd, 1) := by decide +kernel
theorem dX12_copy_141 : decode cX12_copy 141 = .ok (.iload 6, 2) := by decide +kernel
theorem dX12_copy_143 : decode cX12_copy 143 = .ok (.iadd, 1) := by decide +kernel
theorem dX12_copy_144 : decode cX12_copy 144 = .ok (.aload_n 0, 1) := by decide +kernel
theorem dX12_copy_145 : decode cX12_copy 145 = .ok (.getfield 76, 3) := by decide +kernel
theorem dX12_copy_148 : decode cX12_copy 148 = .ok (.bipush 40, 2) := by decide +kernel
theorem dX12_copy_150 : decode cX12_copy 150 = .ok (.iload_n 1, 1) := by decide +kernel
theorem dX12_copy_151 : decode cX12_copy 151 = .ok (.imul, 1) := by decide +kernel
theorem dX12_copy_152 : decode cX12_copy 152 = .ok (.iload_n 2, 1) := by decide +kernel
theorem dX12_copy_153 : decode cX12_copy 153 = .ok (.iadd, 1) := by decide +kernel
theorem dX12_copy_154 : decode cX12_copy 154 = .ok (.iload 6, 2) := by decide +kernel
theorem dX12_copy_156 : decode cX12_copy 156 = .ok (.iadd, 1) := by decide +kernel
theorem dX12_copy_157 : decode cX12_copy 157 = .ok (.iaload, 1) := by decide +kernel
theorem dX12_copy_158 : decode cX12_copy 158 = .ok (.iastore, 1) := by decide +kernel
theorem dX12_copy_159 : decode cX12_copy 159 = .ok (.iinc 6 (-1), 3) := by decide +kernel
theorem dX12_copy_162 : decode cX12_copy 162 = .ok (.goto (-37), 3) := by decide +kernel
theorem dX12_copy_165 : decode cX12_copy 165 = .ok (.goto 48, 3) := by decide +kernel
theorem dX12_copy_168 : decode cX12_copy 168 = .ok (.iconst 0, 1) := by decide +kernel
theorem dX12_copy_169 : decode cX12_copy 169 = .ok (.istore 6, 2) := by decide +kernel
theorem dX12_copy_171 : decode cX12_copy 171 = .ok (.iload 6, 2) := by decide +kernel
theorem dX12_copy_173 : decode cX12_copy 173 = .ok (.iload 5, 2) := by decide +kernel
theorem dX12_copy_175 : decode cX12_copy 175 = .ok (.if_icmp .ge 38, 3) := by decide +kernel
theorem dX12_copy_178 : decode cX12_copy 178 = .ok (.aload_n 0, 1) := by decide +kernel
theorem dX12_copy_179 : decode cX12_copy 179 = .ok (.getfield 76, 3) := by decide +kernel
theorem dX12_copy_182 : decode cX12_copy 182 = .ok (.bipush 40, 2) := by decide +kernel
theorem dX12_copy_184 : decode cX12_copy 184 = .ok (.iload_n 3, 1) := by decide +kernel
theorem dX12_copy_185 : decode cX12_copy 185 = .ok (.imul, 1) := by decide +kernel
theorem dX12_copy_186 : decode cX12_copy 186 = .ok (.iload 4, 2) := by decide +kernel
theorem dX12_copy_188 : decode cX12_copy 188 = .ok (.iadd, 1) := by decide +kernel
theorem dX12_copy_189 : decode cX12_copy 189 = .ok (.iload 6, 2) := by decide +kernel
theorem dX12_copy_191 : decode cX12_copy 191 = .ok (.iadd, 1) := by decide +kernel
theorem dX12_copy_192 : decode cX12_copy 192 = .ok (.aload_n 0, 1) := by decide +kernel
theorem dX12_copy_193 : decode cX12_copy 193 = .ok (.getfield 76, 3) := by decide +kernel
theorem dX12_copy_196 : decode cX12_copy 196 = .ok (.bipush 40, 2) := by decide +kernel
theorem dX12_copy_198 : decode cX12_copy 198 = .ok (.iload_n 1, 1) := by decide +kernel
theorem dX12_copy_199 : decode cX12_copy 199 = .ok (.imul, 1) := by decide +kernel
theorem dX12_copy_200 : decode cX12_copy 200 = .ok (.iload_n 2, 1) := by decide +kernel
theorem dX12_copy_201 : decode cX12_copy 201 = .ok (.iadd, 1) := by decide +kernel
theorem dX12_copy_202 : decode cX12_copy 202 = .ok (.iload 6, 2) := by decide +kernel
theorem dX12_copy_204 : decode cX12_copy 204 = .ok (.iadd, 1) := by decide +kernel
theorem dX12_copy_205 : decode cX12_copy 205 = .ok (.iaload, 1) := by decide +kernel
theorem dX12_copy_206 : decode cX12_copy 206 = .ok (.iastore, 1) := by decide +kernel
theorem dX12_copy_207 : decode cX12_copy 207 = .ok (.iinc 6 1, 3) := by decide +kernel
theorem dX12_copy_210 : decode cX12_copy 210 = .ok (.goto (-39), 3) := by decide +kernel
theorem dX12_copy_213 : decode cX12_copy 213 = .ok (.iload 5, 2) := by decide +kernel
theorem dX12_copy_215 : decode cX12_copy 215 = .ok (.ireturn, 1) := by decide +kernel
theorem dX12_load_0 : decode cX12_load 0 = .ok (.iload_n 1, 1) := by decide +kernel
theorem dX12_load_1 : decode cX12_load 1 = .ok (.invokestatic 289, 3) := by decide +kernel
theorem dX12_load_4 : decode cX12_load 4 = .ok (.ifCond .eq 22, 3) := by decide +kernel
theorem dX12_load_7 : decode cX12_load 7 = .ok (.iload_n 2, 1) := by decide +kernel
theorem dX12_load_8 : decode cX12_load 8 = .ok (.iconst 0, 1) := by decide +kernel
theorem dX12_load_9 : decode cX12_load 9 = .ok (.iconst 1, 1) := by decide +kernel
theorem dX12_load_10 : decode cX12_load 10 = .ok (.invokestatic 79, 3) := by decide +kernel
theorem dX12_load_13 : decode cX12_load 13 = .ok (.ifCond .eq 13, 3) := by decide +kernel
theorem dX12_load_16 : decode cX12_load 16 = .ok (.iload 4, 2) := by decide +kernel
theorem dX12_load_18 : decode cX12_load 18 = .ok (.iconst 0, 1) := by decide +kernel
theorem dX12_load_19 : decode cX12_load 19 = .ok (.iconst 5, 1) := by decide +kernel
theorem dX12_load_20 : decode cX12_load 20 = .ok (.invokestatic 79, 3) := by decide +kernel
theorem dX12_load_23 : decode cX12_load 23 = .ok (.ifCond .ne 6, 3) := by decide +kernel
theorem dX12_load_26 : decode cX12_load 26 = .ok (.bipush (-2), 2) := by decide +kernel
theorem dX12_load_28 : decode cX12_load 28 = .ok (.ireturn, 1) := by decide +kernel
theorem dX12_load_29 : decode cX12_load 29 = .ok (.aload_n 0, 1) := by decide +kernel
theorem dX12_load_30 : decode cX12_load 30 = .ok (.getfield 70, 3) := by decide +kernel
theorem dX12_load_33 : decode cX12_load 33 = .ok (.iload_n 1, 1) := by decide +kernel
theorem dX12_load_34 : decode cX12_load 34 = .ok (.iaload, 1) := by decide +kernel
theorem dX12_load_35 : decode cX12_load 35 = .ok (.ifCond .eq 18, 3) := by decide +kernel
theorem dX12_load_38 : decode cX12_load 38 = .ok (.aload_n 0, 1) := by decide +kernel
theorem dX12_load_39 : decode cX12_load 39 = .ok (.getfield 70, 3) := by decide +kernel
theorem dX12_load_42 : decode cX12_load 42 = .ok (.iload_n 1, 1) := by decide +kernel
theorem dX12_load_43 : decode cX12_load 43 = .ok (.iaload, 1) := by decide +kernel
theorem dX12_load_44 : decode cX12_load 44 = .ok (.iload_n 2, 1) := by decide +kernel
theorem dX12_load_45 : decode cX12_load 45 = .ok (.iconst 1, 1) := by decide +kernel
theorem dX12_load_46 : decode cX12_load 46 = .ok (.iadd, 1) := by decide +kernel
theorem dX12_load_47 : decode cX12_load 47 = .ok (.if_icmp .eq 6, 3) := by decide +kernel
theorem dX12_load_50 : decode cX12_load 50 = .ok (.bipush (-13), 2) := by decide +kernel
theorem dX12_load_52 : decode cX12_load 52 = .ok (.ireturn, 1) := by decide +kernel
theorem dX12_load_53 : decode cX12_load 53 = .ok (.aload_n 0, 1) := by decide +kernel
theorem dX12_load_54 : decode cX12_load 54 = .ok (.getfield 70, 3) := by decide +kernel
theorem dX12_load_57 : decode cX12_load 57 = .ok (.iload_n 1, 1) := by decide +kernel
theorem dX12_load_58 : decode cX12_load 58 = .ok (.iaload, 1) := by decide +kernel
theorem dX12_load_59 : decode cX12_load 59 = .ok (.ifCond .ne 6, 3) := by decide +kernel
theorem dX12_load_62 : decode cX12_load 62 = .ok (.bipush (-11), 2) := by decide +kernel
theorem dX12_load_64 : decode cX12_load 64 = .ok (.ireturn, 1) := by decide +kernel
theorem dX12_load_65 : decode cX12_load 65 = .ok (.iconst 0, 1) := by decide +kernel
theorem dX12_load_66 : decode cX12_load 66 = .ok (.istore 5, 2) := by decide +kernel
theorem dX12_load_68 : decode cX12_load 68 = .ok (.iconst 0, 1) := by decide +kernel
theorem dX12_load_69 : decode cX12_load 69 = .ok (.istore 6, 2) := by decide +kernel
theorem dX12_load_71 : decode cX12_load 71 = .ok (.iload 6, 2) := by decide +kernel
theorem dX12_load_73 : decode cX12_load 73 = .ok (.iload 4, 2) := by decide +kernel
theorem dX12_load_75 : decode cX12_load 75 = .ok (.if_icmp .ge 82, 3) := by decide +kernel
theorem dX12_load_78 : decode cX12_load 78 = .ok (.iload_n 3, 1) := by decide +kernel
theorem dX12_load_79 : decode cX12_load 79 = .ok (.i2l, 1) := by decide +kernel
theorem dX12_load_80 : decode cX12_load 80 = .ok (.ldc2_w 312, 3) := by decide +kernel
theorem dX12_load_83 : decode cX12_load 83 = .ok (.iload 6, 2) := by decide +kernel
theorem dX12_load_85 : decode cX12_load 85 = .ok (.i2l, 1) := by decide +kernel
theorem dX12_load_86 : decode cX12_load 86 = .ok (.lmul, 1) := by decide +kernel
theorem dX12_load_87 : decode cX12_load 87 = .ok (.ladd, 1) := by decide +kernel
theorem dX12_load_88 : decode cX12_load 88 = .ok (.lstore 7, 2) := by decide +kernel
theorem dX12_load_90 : decode cX12_load 90 = .ok (.lload 7, 2) := by decide +kernel
theorem dX12_load_92 : decode cX12_load 92 = .ok (.lconst 0, 1) := by decide +kernel
theorem dX12_load_93 : decode cX12_load 93 = .ok (.lcmp, 1) := by decide +kernel
theorem dX12_load_94 : decode cX12_load 94 = .ok (.ifCond .lt 18, 3) := by decide +kernel
theorem dX12_load_97 : decode cX12_load 97 = .ok (.lload 7, 2) := by decide +kernel
theorem dX12_load_99 : decode cX12_load 99 = .ok (.lconst 1, 1) := by decide +kernel
theorem dX12_load_100 : decode cX12_load 100 = .ok (.ladd, 1) := by decide +kernel
theorem dX12_load_101 : decode cX12_load 101 = .ok (.aload_n 0, 1) := by decide +kernel
theorem dX12_load_102 : decode cX12_load 102 = .ok (.getfield 73, 3) := by decide +kernel
theorem dX12_load_105 : decode cX12_load 105 = .ok (.iload_n 1, 1) := by decide +kernel
theorem dX12_load_106 : decode cX12_load 106 = .ok (.iaload, 1) := by decide +kernel
theorem dX12_load_107 : decode cX12_load 107 = .ok (.i2l, 1) := by decide +kernel
theorem dX12_load_108 : decode cX12_load 108 = .ok (.lcmp, 1) := by decide +kernel
theorem dX12_load_109 : decode cX12_load 109 = .ok (.ifCond .lt 6, 3) := by decide +kernel
theorem dX12_load_112 : decode cX12_load 112 = .ok (.bipush (-12), 2) := by decide +kernel
theorem dX12_load_114 : decode cX12_load 114 = .ok (.ireturn, 1) := by decide +kernel
theorem dX12_load_115 : decode cX12_load 115 = .ok (.bipush 40, 2) := by decide +kernel
theorem dX12_load_117 : decode cX12_load 117 = .ok (.iload_n 1, 1) := by decide +kernel
theorem dX12_load_118 : decode cX12_load 118 = .ok (.imul, 1) := by decide +kernel
theorem dX12_load_119 : decode cX12_load 119 = .ok (.lload 7, 2) := by decide +kernel
theorem dX12_load_121 : decode cX12_load 121 = .ok (.l2i, 1) := by decide +kernel
theorem dX12_load_122 : decode cX12_load 122 = .ok (.iadd, 1) := by decide +kernel
theorem dX12_load_123 : decode cX12_load 123 = .ok (.istore 9, 2) := by decide +kernel
theorem dX12_load_125 : decode cX12_load 125 = .ok (.aload_n 0, 1) := by decide +kernel
theorem dX12_load_126 : decode cX12_load 126 = .ok (.aload_n 0, 1) := by decide +kernel
theorem dX12_load_127 : decode cX12_load 127 = .ok (.getfield 76, 3) := by decide +kernel
theorem dX12_load_130 : decode cX12_load 130 = .ok (.iload 9, 2) := by decide +kernel
theorem dX12_load_132 : decode cX12_load 132 = .ok (.iaload, 1) := by decide +kernel
theorem dX12_load_133 : decode cX12_load 133 = .ok (.aload_n 0, 1) := by decide +kernel
theorem dX12_load_134 : decode cX12_load 134 = .ok (.getfield 76, 3) := by decide +kernel
theorem dX12_load_137 : decode cX12_load 137 = .ok (.iload 9, 2) := by decide +kernel
theorem dX12_load_139 : decode cX12_load 139 = .ok (.iconst 1, 1) := by decide +kernel
theorem dX12_load_140 : decode cX12_load 140 = .ok (.iadd, 1) := by decide +kernel
theorem dX12_load_141 : decode cX12_load 141 = .ok (.iaload, 1) := by decide +kernel
theorem dX12_load_142 : decode cX12_load 142 = .ok (.invokevirtual 314, 3) := by decide +kernel
theorem dX12_load_145 : decode cX12_load 145 = .ok (.ifCond .lt 6, 3) := by decide +kernel
theorem dX12_load_148 : decode cX12_load 148 = .ok (.iinc 5 1, 3) := by decide +kernel
theorem dX12_load_151 : decode cX12_load 151 = .ok (.iinc 6 1, 3) := by decide +kernel
theorem dX12_load_154 : decode cX12_load 154 = .ok (.goto (-83), 3) := by decide +kernel
theorem dX12_load_157 : decode cX12_load 157 = .ok (.iload 5, 2) := by decide +kernel
theorem dX12_load_159 : decode cX12_load 159 = .ok (.ireturn, 1) := by decide +kernel
theorem dL_law_0 : decode cL_law 0 = .ok (.new 7, 3) := by decide +kernel
theorem dL_law_3 : decode cL_law 3 = .ok (.dup, 1) := by decide +kernel
theorem dL_law_4 : decode cL_law 4 = .ok (.invokespecial 9, 3) := by decide +kernel
theorem dL_law_7 : decode cL_law 7 = .ok (.astore_n 1, 1) := by decide +kernel
theorem dL_law_8 : decode cL_law 8 = .ok (.new 10, 3) := by decide +kernel
theorem dL_law_11 : decode cL_law 11 = .ok (.dup, 1) := by decide +kernel
theorem dL_law_12 : decode cL_law 12 = .ok (.invokespecial 12, 3) := by decide +kernel
theorem dL_law_15 : decode cL_law 15 = .ok (.astore_n 2, 1) := by decide +kernel
theorem dL_law_16 : decode cL_law 16 = .ok (.iconst 0, 1) := by decide +kernel
theorem dL_law_17 : decode cL_law 17 = .ok (.istore_n 3, 1) := by decide +kernel
theorem dL_law_18 : decode cL_law 18 = .ok (.iload_n 3, 1) := by decide +kernel
theorem dL_law_19 : decode cL_law 19 = .ok (.aload_n 0, 1) := by decide +kernel
theorem dL_law_20 : decode cL_law 20 = .ok (.arraylength, 1) := by decide +kernel
theorem dL_law_21 : decode cL_law 21 = .ok (.bipush 7, 2) := by decide +kernel
theorem dL_law_23 : decode cL_law 23 = .ok (.isub, 1) := by decide +kernel
theorem dL_law_24 : decode cL_law 24 = .ok (.if_icmp .gt 1261, 3) := by decide +kernel
theorem dL_law_27 : decode cL_law 27 = .ok (.aload_n 0, 1) := by decide +kernel
theorem dL_law_28 : decode cL_law 28 = .ok (.iload_n 3, 1) := by decide +kernel
theorem dL_law_29 : decode cL_law 29 = .ok (.iaload, 1) := by decide +kernel
theorem dL_law_30 : decode cL_law 30 = .ok (.bipush 31, 2) := by decide +kernel
theorem dL_law_32 : decode cL_law 32 = .ok (.iand, 1) := by decide +kernel
theorem dL_law_33 : decode cL_law 33 = .ok (.tableswitch 1246 0 31 #[143, 176, 209, 242, 275, 308, 383, 416, 449, 482, 515, 548, 581, 615, 659, 683, 696, 730, 774, 807, 840, 863, 886, 929, 972, 995, 1008, 1021, 1044, 1087, 1130, 1193], 143) := by decide +kernel
theorem dL_law_176 : decode cL_law 176 = .ok (.aload_n 1, 1) := by decide +kernel
theorem dL_law_177 : decode cL_law 177 = .ok (.aload_n 0, 1) := by decide +kernel
theorem dL_law_178 : decode cL_law 178 = .ok (.iload_n 3, 1) := by decide +kernel
theorem dL_law_179 : decode cL_law 179 = .ok (.iconst 1, 1) := by decide +kernel
theorem dL_law_180 : decode cL_law 180 = .ok (.iadd, 1) := by decide +kernel
theorem dL_law_181 : decode cL_law 181 = .ok (.iaload, 1) := by decide +kernel
theorem dL_law_182 : decode cL_law 182 = .ok (.aload_n 0, 1) := by decide +kernel
theorem dL_law_183 : decode cL_law 183 = .ok (.iload_n 3, 1) := by decide +kernel
theorem dL_law_184 : decode cL_law 184 = .ok (.iconst 2, 1) := by decide +kernel
theorem dL_law_185 : decode cL_law 185 = .ok (.iadd, 1) := by decide +kernel
theorem dL_law_186 : decode cL_law 186 = .ok (.iaload, 1) := by decide +kernel
theorem dL_law_187 : decode cL_law 187 = .ok (.invokevirtual 13, 3) := by decide +kernel
theorem dL_law_190 : decode cL_law 190 = .ok (.aload_n 2, 1) := by decide +kernel
theorem dL_law_191 : decode cL_law 191 = .ok (.aload_n 0, 1) := by decide +kernel
theorem dL_law_192 : decode cL_law 192 = .ok (.iload_n 3, 1) := by decide +kernel
theorem dL_law_193 : decode cL_law 193 = .ok (.iconst 1, 1) := by decide +kernel
theorem dL_law_194 : decode cL_law 194 = .ok (.iadd, 1) := by decide +kernel
theorem dL_law_195 : decode cL_law 195 = .ok (.iaload, 1) := by decide +kernel
theorem dL_law_196 : decode cL_law 196 = .ok (.aload_n 0, 1) := by decide +kernel
theorem dL_law_197 : decode cL_law 197 = .ok (.iload_n 3, 1) := by decide +kernel
theorem dL_law_198 : decode cL_law 198 = .ok (.iconst 2, 1) := by decide +kernel
theorem dL_law_199 : decode cL_law 199 = .ok (.iadd, 1) := by decide +kernel
theorem dL_law_200 : decode cL_law 200 = .ok (.iaload, 1) := by decide +kernel
theorem dL_law_201 : decode cL_law 201 = .ok (.invokevirtual 17, 3) := by decide +kernel
theorem dL_law_204 : decode cL_law 204 = .ok (.if_icmp .eq 1075, 3) := by decide +kernel
theorem dL_law_207 : decode cL_law 207 = .ok (.iconst 0, 1) := by decide +kernel
theorem dL_law_208 : decode cL_law 208 = .ok (.ireturn, 1) := by decide +kernel
theorem dL_law_209 : decode cL_law 209 = .ok (.aload_n 1, 1) := by decide +kernel
theorem dL_law_210 : decode cL_law 210 = .ok (.aload_n 0, 1) := by decide +kernel
theorem dL_law_211 : decode cL_law 211 = .ok (.iload_n 3, 1) := by decide +kernel
theorem dL_law_212 : decode cL_law 212 = .ok (.iconst 1, 1) := by decide +kernel
theorem dL_law_213 : decode cL_law 213 = .ok (.iadd, 1) := by decide +kernel
theorem dL_law_214 : decode cL_law 214 = .ok (.iaload, 1) := by decide +kernel
theorem dL_law_215 : decode cL_law 215 = .ok (.aload_n 0, 1) := by decide +kernel
theorem dL_law_216 : decode cL_law 216 = .ok (.iload_n 3, 1) := by decide +kernel
theorem dL_law_217 : decode cL_law 217 = .ok (.iconst 2, 1) := by decide +kernel
theorem dL_law_218 : decode cL_law 218 = .ok (.iadd, 1) := by decide +kernel
theorem dL_law_219 : decode cL_law 219 = .ok (.iaload, 1) := by decide +kernel
theorem dL_law_220 : decode cL_law 220 = .ok (.invokevirtual 18, 3) := by decide +kernel
theorem dL_law_223 : decode cL_law 223 = .ok (.aload_n 2, 1) := by decide +kernel
theorem dL_law_224 : decode cL_law 224 = .ok (.aload_n 0, 1) := by decide +kernel
theorem dL_law_225 : decode cL_law 225 = .ok (.iload_n 3, 1) := by decide +kernel
theorem dL_law_226 : decode cL_law 226 = .ok (.iconst 1, 1) := by decide +kernel
theorem dL_law_227 : decode cL_law 227 = .ok (.iadd, 1) := by decide +kernel
theorem dL_law_228 : decode cL_law 228 = .ok (.iaload, 1) := by decide +kernel
theorem dL_law_229 : decode cL_law 229 = .ok (.aload_n 0, 1) := by decide +kernel
theorem dL_law_230 : decode cL_law 230 = .ok (.iload_n 3, 1) := by decide +kernel
theorem dL_law_231 : decode cL_law 231 = .ok (.iconst 2, 1) := by decide +kernel
theorem dL_law_232 : decode cL_law 232 = .ok (.iadd, 1) := by decide +kernel
theorem dL_law_233 : decode cL_law 233 = .ok (.iaload, 1) := by decide +kernel
theorem dL_law_234 : decode cL_law 234 = .ok (.invokevirtual 21, 3) := by decide +kernel
theorem dL_law_237 : decode cL_law 237 = .ok (.if_icmp .eq 1042, 3) := by decide +kernel
theorem dL_law_240 : decode cL_law 240 = .ok (.iconst 0, 1) := by decide +kernel
theorem dL_law_241 : decode cL_law 241 = .ok (.ireturn, 1) := by decide +kernel
theorem dL_law_242 : decode cL_law 242 = .ok (.aload_n 1, 1) := by decide +kernel
theorem dL_law_243 : decode cL_law 243 = .ok (.aload_n 0, 1) := by decide +kernel
theorem dL_law_244 : decode cL_law 244 = .ok (.iload_n 3, 1) := by decide +kernel
theorem dL_law_245 : decode cL_law 245 = .ok (.iconst 1, 1) := by decide +kernel
theorem dL_law_246 : decode cL_law 246 = .ok (.iadd, 1) := by decide +kernel
theorem dL_law_247 : decode cL_law 247 = .ok (.iaload, 1) := by decide +kernel
theorem dL_law_248 : decode cL_law 248 = .ok (.aload_n 0, 1) := by decide +kernel
theorem dL_law_249 : decode cL_law 249 = .ok (.iload_n 3, 1) := by decide +kernel
theorem dL_law_250 : decode cL_law 250 = .ok (.iconst 2, 1) := by decide +kernel
theorem dL_law_251 : decode cL_law 251 = .ok (.iadd, 1) := by decide +kernel
theorem dL_law_252 : decode cL_law 252 = .ok (.iaload, 1) := by decide +kernel
theorem dL_law_253 : decode cL_law 253 = .ok (.invokevirtual 22, 3) := by decide +kernel
theorem dL_law_256 : decode cL_law 256 = .ok (.aload_n 2, 1) := by decide +kernel
theorem dL_law_257 : decode cL_law 257 = .ok (.aload_n 0, 1) := by decide +kernel
theorem dL_law_258 : decode cL_law 258 = .ok (.iload_n 3, 1) := by decide +kernel
theorem dL_law_259 : decode cL_law 259 = .ok (.iconst 1, 1) := by decide +kernel
theorem dL_law_260 : decode cL_law 260 = .ok (.iadd, 1) := by decide +kernel
theorem dL_law_261 : decode cL_law 261 = .ok (.iaload, 1) := by decide +kernel
theorem dL_law_262 : decode cL_law 262 = .ok (.aload_n 0, 1) := by decide +kernel
theorem dL_law_263 : decode cL_law 263 = .ok (.iload_n 3, 1) := by decide +kernel
theorem dL_law_264 : decode cL_law 264 = .ok (.iconst 2, 1) := by decide +kernel
theorem dL_law_265 : decode cL_law 265 = .ok (.iadd, 1) := by decide +kernel
theorem dL_law_266 : decode cL_law 266 = .ok (.iaload, 1) := by decide +kernel
theorem dL_law_267 : decode cL_law 267 = .ok (.invokevirtual 25, 3) := by decide +kernel
theorem dL_law_270 : decode cL_law 270 = .ok (.if_icmp .eq 1009, 3) := by decide +kernel
theorem dL_law_273 : decode cL_law 273 = .ok (.iconst 0, 1) := by decide +kernel
theorem dL_law_274 : decode cL_law 274 = .ok (.ireturn, 1) := by decide +kernel
theorem dL_law_275 : decode cL_law 275 = .ok (.aload_n 1, 1) := by decide +kernel
theorem dL_law_276 : decode cL_law 276 = .ok (.aload_n 0, 1) := by decide +kernel
theorem dL_law_277 : decode cL_law 277 = .ok (.iload_n 3, 1) := by decide +kernel
theorem dL_law_278 : decode cL_law 278 = .ok (.iconst 1, 1) := by decide +kernel
theorem dL_law_279 : decode cL_law 279 = .ok (.iadd, 1) := by decide +kernel
theorem dL_law_280 : decode cL_law 280 = .ok (.iaload, 1) := by decide +kernel
theorem dL_law_281 : decode cL_law 281 = .ok (.aload_n 0, 1) := by decide +kernel
theorem dL_law_282 : decode cL_law 282 = .ok (.iload_n 3, 1) := by decide +kernel
theorem dL_law_283 : decode cL_law 283 = .ok (.iconst 2, 1) := by decide +kernel
theorem dL_law_284 : decode cL_law 284 = .ok (.iadd, 1) := by decide +kernel
theorem dL_law_285 : decode cL_law 285 = .ok (.iaload, 1) := by decide +kernel
theorem dL_law_286 : decode cL_law 286 = .ok (.invokevirtual 26, 3) := by decide +kernel
theorem dL_law_289 : decode cL_law 289 = .ok (.aload_n 2, 1) := by decide +kernel
theorem dL_law_290 : decode cL_law 290 = .ok (.aload_n 0, 1) := by decide +kernel
theorem dL_law_291 : decode cL_law 291 = .ok (.iload_n 3, 1) := by decide +kernel
theorem dL_law_292 : decode cL_law 292 = .ok (.iconst 1, 1) := by decide +kernel
theorem dL_law_293 : decode cL_law 293 = .ok (.iadd, 1) := by decide +kernel
theorem dL_law_294 : decode cL_law 294 = .ok (.iaload, 1) := by decide +kernel
theorem dL_law_295 : decode cL_law 295 = .ok (.aload_n 0, 1) := by decide +kernel
theorem dL_law_296 : decode cL_law 296 = .ok (.iload_n 3, 1) := by decide +kernel
theorem dL_law_297 : decode cL_law 297 = .ok (.iconst 2, 1) := by decide +kernel
theorem dL_law_298 : decode cL_law 298 = .ok (.iadd, 1) := by decide +kernel
theorem dL_law_299 : decode cL_law 299 = .ok (.iaload, 1) := by decide +kernel
theorem dL_law_300 : decode cL_law 300 = .ok (.invokevirtual 29, 3) := by decide +kernel
theorem dL_law_303 : decode cL_law 303 = .ok (.if_icmp .eq 976, 3) := by decide +kernel
theorem dL_law_306 : decode cL_law 306 = .ok (.iconst 0, 1) := by decide +kernel
theorem dL_law_307 : decode cL_law 307 = .ok (.ireturn, 1) := by decide +kernel
theorem dL_law_308 : decode cL_law 308 = .ok (.aload_n 1, 1) := by decide +kernel
theorem dL_law_309 : decode cL_law 309 = .ok (.aload_n 0, 1) := by decide +kernel
theorem dL_law_310 : decode cL_law 310 = .ok (.iload_n 3, 1) := by decide +kernel
theorem dL_law_311 : decode cL_law 311 = .ok (.iconst 1, 1) := by decide +kernel
theorem dL_law_312 : decode cL_law 312 = .ok (.iadd, 1) := by decide +kernel
theorem dL_law_313 : decode cL_law 313 = .ok (.iaload, 1) := by decide +kernel
theorem dL_law_314 : decode cL_law 314 = .ok (.aload_n 0, 1) := by decide +kernel
theorem dL_law_315 : decode cL_law 315 = .ok (.iload_n 3, 1) := by decide +kernel
theorem dL_law_316 : decode cL_law 316 = .ok (.iconst 2, 1) := by decide +kernel
theorem dL_law_317 : decode cL_law 317 = .ok (.iadd, 1) := by decide +kernel
theorem dL_law_318 : decode cL_law 318 = .ok (.iaload, 1) := by decide +kernel
theorem dL_law_319 : decode cL_law 319 = .ok (.invokevirtual 30, 3) := by decide +kernel
theorem dL_law_322 : decode cL_law 322 = .ok (.aload_n 2, 1) := by decide +kernel
theorem dL_law_323 : decode cL_law 323 = .ok (.aload_n 0, 1) := by decide +kernel
theorem dL_law_324 : decode cL_law 324 = .ok (.iload_n 3, 1) := by decide +kernel
theorem dL_law_325 : decode cL_law 325 = .ok (.iconst 1, 1) := by decide +kernel
theorem dL_law_326 : decode cL_law 326 = .ok (.iadd, 1) := by decide +kernel
theorem dL_law_327 : decode cL_law 327 = .ok (.iaload, 1) := by decide +kernel
theorem dL_law_328 : decode cL_law 328 = .ok (.aload_n 0, 1) := by decide +kernel
theorem dL_law_329 : decode cL_law 329 = .ok (.iload_n 3, 1) := by decide +kernel
theorem dL_law_330 : decode cL_law 330 = .ok (.iconst 2, 1) := by decide +kernel
theorem dL_law_331 : decode cL_law 331 = .ok (.iadd, 1) := by decide +kernel
theorem dL_law_332 : decode cL_law 332 = .ok (.iaload, 1) := by decide +kernel
theorem dL_law_333 : decode cL_law 333 = .ok (.invokevirtual 33, 3) := by decide +kernel
theorem dL_law_336 : decode cL_law 336 = .ok (.if_icmp .eq 943, 3) := by decide +kernel
theorem dL_law_339 : decode cL_law 339 = .ok (.iconst 0, 1) := by decide +kernel
theorem dL_law_340 : decode cL_law 340 = .ok (.ireturn, 1) := by decide +kernel
theorem dL_law_341 : decode cL_law 341 = .ok (.aload_n 1, 1) := by decide +kernel
theorem dL_law_342 : decode cL_law 342 = .ok (.aload_n 0, 1) := by decide +kernel
theorem dL_law_343 : decode cL_law 343 = .ok (.iload_n 3, 1) := by decide +kernel
theorem dL_law_344 : decode cL_law 344 = .ok (.iconst 1, 1) := by decide +kernel
theorem dL_law_345 : decode cL_law 345 = .ok (.iadd, 1) := by decide +kernel
theorem dL_law_346 : decode cL_law 346 = .ok (.iaload, 1) := by decide +kernel
theorem dL_law_347 : decode cL_law 347 = .ok (.aload_n 0, 1) := by decide +kernel
theorem dL_law_348 : decode cL_law 348 = .ok (.iload_n 3, 1) := by decide +kernel
theorem dL_law_349 : decode cL_law 349 = .ok (.iconst 2, 1) := by decide +kernel
theorem dL_law_350 : decode cL_law 350 = .ok (.iadd, 1) := by decide +kernel
theorem dL_law_351 : decode cL_law 351 = .ok (.iaload, 1) := by decide +kernel
theorem dL_law_352 : decode cL_law 352 = .ok (.aload_n 0, 1) := by decide +kernel
theorem dL_law_353 : decode cL_law 353 = .ok (.iload_n 3, 1) := by decide +kernel
theorem dL_law_354 : decode cL_law 354 = .ok (.iconst 3, 1) := by decide +kernel
theorem dL_law_355 : decode cL_law 355 = .ok (.iadd, 1) := by decide +kernel
theorem dL_law_356 : decode cL_law 356 = .ok (.iaload, 1) := by decide +kernel
theorem dL_law_357 : decode cL_law 357 = .ok (.aload_n 0, 1) := by decide +kernel
theorem dL_law_358 : decode cL_law 358 = .ok (.iload_n 3, 1) := by decide +kernel
theorem dL_law_359 : decode cL_law 359 = .ok (.iconst 4, 1) := by decide +kernel
theorem dL_law_360 : decode cL_law 360 = .ok (.iadd, 1) := by decide +kernel
theorem dL_law_361 : decode cL_law 361 = .ok (.iaload, 1) := by decide +kernel
theorem dL_law_362 : decode cL_law 362 = .ok (.aload_n 0, 1) := by decide +kernel
theorem dL_law_363 : decode cL_law 363 = .ok (.iload_n 3, 1) := by decide +kernel
theorem dL_law_364 : decode cL_law 364 = .ok (.iconst 5, 1) := by decide +kernel
theorem dL_law_365 : decode cL_law 365 = .ok (.iadd, 1) := by decide +kernel
theorem dL_law_366 : decode cL_law 366 = .ok (.iaload, 1) := by decide +kernel
theorem dL_law_367 : decode cL_law 367 = .ok (.aload_n 0, 1) := by decide +kernel
theorem dL_law_368 : decode cL_law 368 = .ok (.iload_n 3, 1) := by decide +kernel
theorem dL_law_369 : decode cL_law 369 = .ok (.bipush 6, 2) := by decide +kernel
theorem dL_law_371 : decode cL_law 371 = .ok (.iadd, 1) := by decide +kernel
theorem dL_law_372 : decode cL_law 372 = .ok (.iaload, 1) := by decide +kernel
theorem dL_law_373 : decode cL_law 373 = .ok (.invokevirtual 34, 3) := by decide +kernel
theorem dL_law_376 : decode cL_law 376 = .ok (.aload_n 2, 1) := by decide +kernel
theorem dL_law_377 : decode cL_law 377 = .ok (.aload_n 0, 1) := by decide +kernel
theorem dL_law_378 : decode cL_law 378 = .ok (.iload_n 3, 1) := by decide +kernel
theorem dL_law_379 : decode cL_law 379 = .ok (.iconst 1, 1) := by decide +kernel
theorem dL_law_380 : decode cL_law 380 = .ok (.iadd, 1) := by decide +kernel
theorem dL_law_381 : decode cL_law 381 = .ok (.iaload, 1) := by decide +kernel
theorem dL_law_382 : decode cL_law 382 = .ok (.aload_n 0, 1) := by decide +kernel
theorem dL_law_383 : decode cL_law 383 = .ok (.iload_n 3, 1) := by decide +kernel
theorem dL_law_384 : decode cL_law 384 = .ok (.iconst 2, 1) := by decide +kernel
theorem dL_law_385 : decode cL_law 385 = .ok (.iadd, 1) := by decide +kernel
theorem dL_law_386 : decode cL_law 386 = .ok (.iaload, 1) := by decide +kernel
theorem dL_law_387 : decode cL_law 387 = .ok (.aload_n 0, 1) := by decide +kernel
theorem dL_law_388 : decode cL_law 388 = .ok (.iload_n 3, 1) := by decide +kernel
theorem dL_law_389 : decode cL_law 389 = .ok (.iconst 3, 1) := by decide +kernel
theorem dL_law_390 : decode cL_law 390 = .ok (.iadd, 1) := by decide +kernel
theorem dL_law_391 : decode cL_law 391 = .ok (.iaload, 1) := by decide +kernel
theorem dL_law_392 : decode cL_law 392 = .ok (.aload_n 0, 1) := by decide +kernel
theorem dL_law_393 : decode cL_law 393 = .ok (.iload_n 3, 1) := by decide +kernel
theorem dL_law_394 : decode cL_law 394 = .ok (.iconst 4, 1) := by decide +kernel
theorem dL_law_395 : decode cL_law 395 = .ok (.iadd, 1) := by decide +kernel
theorem dL_law_396 : decode cL_law 396 = .ok (.iaload, 1) := by decide +kernel
theorem dL_law_397 : decode cL_law 397 = .ok (.aload_n 0, 1) := by decide +kernel
theorem dL_law_398 : decode cL_law 398 = .ok (.iload_n 3, 1) := by decide +kernel
theorem dL_law_399 : decode cL_law 399 = .ok (.iconst 5, 1) := by decide +kernel
theorem dL_law_400 : decode cL_law 400 = .ok (.iadd, 1) := by decide +kernel
theorem dL_law_401 : decode cL_law 401 = .ok (.iaload, 1) := by decide +kernel
theorem dL_law_402 : decode cL_law 402 = .ok (.aload_n 0, 1) := by decide +kernel
theorem dL_law_403 : decode cL_law 403 = .ok (.iload_n 3, 1) := by decide +kernel
theorem dL_law_404 : decode cL_law 404 = .ok (.bipush 6, 2) := by decide +kernel
theorem dL_law_406 : decode cL_law 406 = .ok (.iadd, 1) := by decide +kernel
theorem dL_law_407 : decode cL_law 407 = .ok (.iaload, 1) := by decide +kernel
theorem dL_law_408 : decode cL_law 408 = .ok (.invokevirtual 38, 3) := by decide +kernel
theorem dL_law_411 : decode cL_law 411 = .ok (.if_icmp .eq 868, 3) := by decide +kernel
theorem dL_law_414 : decode cL_law 414 = .ok (.iconst 0, 1) := by decide +kernel
theorem dL_law_415 : decode cL_law 415 = .ok (.ireturn, 1) := by decide +kernel
theorem dL_law_416 : decode cL_law 416 = .ok (.aload_n 1, 1) := by decide +kernel
theorem dL_law_417 : decode cL_law 417 = .ok (.aload_n 0, 1) := by decide +kernel
theorem dL_law_418 : decode cL_law 418 = .ok (.iload_n 3, 1) := by decide +kernel
theorem dL_law_419 : decode cL_law 419 = .ok (.iconst 1, 1) := by decide +kernel
theorem dL_law_420 : decode cL_law 420 = .ok (.iadd, 1) := by decide +kernel
theorem dL_law_421 : decode cL_law 421 = .ok (.iaload, 1) := by decide +kernel
theorem dL_law_422 : decode cL_law 422 = .ok (.aload_n 0, 1) := by decide +kernel
theorem dL_law_423 : decode cL_law 423 = .ok (.iload_n 3, 1) := by decide +kernel
theorem dL_law_424 : decode cL_law 424 = .ok (.iconst 2, 1) := by decide +kernel
theorem dL_law_425 : decode cL_law 425 = .ok (.iadd, 1) := by decide +kernel
theorem dL_law_426 : decode cL_law 426 = .ok (.iaload, 1) := by decide +kernel
theorem dL_law_427 : decode cL_law 427 = .ok (.invokevirtual 39, 3) := by decide +kernel
theorem dL_law_430 : decode cL_law 430 = .ok (.aload_n 2, 1) := by decide +kernel
theorem dL_law_431 : decode cL_law 431 = .ok (.aload_n 0, 1) := by decide +kernel
theorem dL_law_432 : decode cL_law 432 = .ok (.iload_n 3, 1) := by decide +kernel
theorem dL_law_433 : decode cL_law 433 = .ok (.iconst 1, 1) := by decide +kernel
theorem dL_law_434 : decode cL_law 434 = .ok (.iadd, 1) := by decide +kernel
theorem dL_law_435 : decode cL_law 435 = .ok (.iaload, 1) := by decide +kernel
theorem dL_law_436 : decode cL_law 436 = .ok (.aload_n 0, 1) := by decide +kernel
theorem dL_law_437 : decode cL_law 437 = .ok (.iload_n 3, 1) := by decide +kernel
theorem dL_law_438 : decode cL_law 438 = .ok (.iconst 2, 1) := by decide +kernel
theorem dL_law_439 : decode cL_law 439 = .ok (.iadd, 1) := by decide +kernel
theorem dL_law_440 : decode cL_law 440 = .ok (.iaload, 1) := by decide +kernel
theorem dL_law_441 : decode cL_law 441 = .ok (.invokevirtual 42, 3) := by decide +kernel
theorem dL_law_444 : decode cL_law 444 = .ok (.if_icmp .eq 835, 3) := by decide +kernel
theorem dL_law_447 : decode cL_law 447 = .ok (.iconst 0, 1) := by decide +kernel
theorem dL_law_448 : decode cL_law 448 = .ok (.ireturn, 1) := by decide +kernel
theorem dL_law_449 : decode cL_law 449 = .ok (.aload_n 1, 1) := by decide +kernel
theorem dL_law_450 : decode cL_law 450 = .ok (.aload_n 0, 1) := by decide +kernel
theorem dL_law_451 : decode cL_law 451 = .ok (.iload_n 3, 1) := by decide +kernel
theorem dL_law_452 : decode cL_law 452 = .ok (.iconst 1, 1) := by decide +kernel
theorem dL_law_453 : decode cL_law 453 = .ok (.iadd, 1) := by decide +kernel
theorem dL_law_454 : decode cL_law 454 = .ok (.iaload, 1) := by decide +kernel
theorem dL_law_455 : decode cL_law 455 = .ok (.aload_n 0, 1) := by decide +kernel
theorem dL_law_456 : decode cL_law 456 = .ok (.iload_n 3, 1) := by decide +kernel
theorem dL_law_457 : decode cL_law 457 = .ok (.iconst 2, 1) := by decide +kernel
theorem dL_law_458 : decode cL_law 458 = .ok (.iadd, 1) := by decide +kernel
theorem dL_law_459 : decode cL_law 459 = .ok (.iaload, 1) := by decide +kernel
theorem dL_law_460 : decode cL_law 460 = .ok (.invokevirtual 43, 3) := by decide +kernel
theorem dL_law_463 : decode cL_law 463 = .ok (.aload_n 2, 1) := by decide +kernel
theorem dL_law_464 : decode cL_law 464 = .ok (.aload_n 0, 1) := by decide +kernel
theorem dL_law_465 : decode cL_law 465 = .ok (.iload_n 3, 1) := by decide +kernel
theorem dL_law_466 : decode cL_law 466 = .ok (.iconst 1, 1) := by decide +kernel
theorem dL_law_467 : decode cL_law 467 = .ok (.iadd, 1) := by decide +kernel
theorem dL_law_468 : decode cL_law 468 = .ok (.iaload, 1) := by decide +kernel
theorem dL_law_469 : decode cL_law 469 = .ok (.aload_n 0, 1) := by decide +kernel
theorem dL_law_470 : decode cL_law 470 = .ok (.iload_n 3, 1) := by decide +kernel
theorem dL_law_471 : decode cL_law 471 = .ok (.iconst 2, 1) := by decide +kernel
theorem dL_law_472 : decode cL_law 472 = .ok (.iadd, 1) := by decide +kernel
theorem dL_law_473 : decode cL_law 473 = .ok (.iaload, 1) := by decide +kernel
theorem dL_law_474 : decode cL_law 474 = .ok (.invokevirtual 46, 3) := by decide +kernel
theorem dL_law_477 : decode cL_law 477 = .ok (.if_icmp .eq 802, 3) := by decide +kernel
theorem dL_law_480 : decode cL_law 480 = .ok (.iconst 0, 1) := by decide +kernel
theorem dL_law_481 : decode cL_law 481 = .ok (.ireturn, 1) := by decide +kernel
theorem dL_law_482 : decode cL_law 482 = .ok (.aload_n 1, 1) := by decide +kernel
theorem dL_law_483 : decode cL_law 483 = .ok (.aload_n 0, 1) := by decide +kernel
theorem dL_law_484 : decode cL_law 484 = .ok (.iload_n 3, 1) := by decide +kernel
theorem dL_law_485 : decode cL_law 485 = .ok (.iconst 1, 1) := by decide +kernel
theorem dL_law_486 : decode cL_law 486 = .ok (.iadd, 1) := by decide +kernel
theorem dL_law_487 : decode cL_law 487 = .ok (.iaload, 1) := by decide +kernel
theorem dL_law_488 : decode cL_law 488 = .ok (.aload_n 0, 1) := by decide +kernel
theorem dL_law_489 : decode cL_law 489 = .ok (.iload_n 3, 1) := by decide +kernel
theorem dL_law_490 : decode cL_law 490 = .ok (.iconst 2, 1) := by decide +kernel
theorem dL_law_491 : decode cL_law 491 = .ok (.iadd, 1) := by decide +kernel
theorem dL_law_492 : decode cL_law 492 = .ok (.iaload, 1) := by decide +kernel
theorem dL_law_493 : decode cL_law 493 = .ok (.invokevirtual 47, 3) := by decide +kernel
theorem dL_law_496 : decode cL_law 496 = .ok (.aload_n 2, 1) := by decide +kernel
theorem dL_law_497 : decode cL_law 497 = .ok (.aload_n 0, 1) := by decide +kernel
theorem dL_law_498 : decode cL_law 498 = .ok (.iload_n 3, 1) := by decide +kernel
theorem dL_law_499 : decode cL_law 499 = .ok (.iconst 1, 1) := by decide +kernel
theorem dL_law_500 : decode cL_law 500 = .ok (.iadd, 1) := by decide +kernel
theorem dL_law_501 : decode cL_law 501 = .ok (.iaload, 1) := by decide +kernel
theorem dL_law_502 : decode cL_law 502 = .ok (.aload_n 0, 1) := by decide +kernel
theorem dL_law_503 : decode cL_law 503 = .ok (.iload_n 3, 1) := by decide +kernel
theorem dL_law_504 : decode cL_law 504 = .ok (.iconst 2, 1) := by decide +kernel
theorem dL_law_505 : decode cL_law 505 = .ok (.iadd, 1) := by decide +kernel
theorem dL_law_506 : decode cL_law 506 = .ok (.iaload, 1) := by decide +kernel
theorem dL_law_507 : decode cL_law 507 = .ok (.invokevirtual 50, 3) := by decide +kernel
theorem dL_law_510 : decode cL_law 510 = .ok (.if_icmp .eq 769, 3) := by decide +kernel
theorem dL_law_513 : decode cL_law 513 = .ok (.iconst 0, 1) := by decide +kernel
theorem dL_law_514 : decode cL_law 514 = .ok (.ireturn, 1) := by decide +kernel
theorem dL_law_515 : decode cL_law 515 = .ok (.aload_n 1, 1) := by decide +kernel
theorem dL_law_516 : decode cL_law 516 = .ok (.aload_n 0, 1) := by decide +kernel
theorem dL_law_517 : decode cL_law 517 = .ok (.iload_n 3, 1) := by decide +kernel
theorem dL_law_518 : decode cL_law 518 = .ok (.iconst 1, 1) := by decide +kernel
theorem dL_law_519 : decode cL_law 519 = .ok (.iadd, 1) := by decide +kernel
theorem dL_law_520 : decode cL_law 520 = .ok (.iaload, 1) := by decide +kernel
theorem dL_law_521 : decode cL_law 521 = .ok (.aload_n 0, 1) := by decide +kernel
theorem dL_law_522 : decode cL_law 522 = .ok (.iload_n 3, 1) := by decide +kernel
theorem dL_law_523 : decode cL_law 523 = .ok (.iconst 2, 1) := by decide +kernel
theorem dL_law_524 : decode cL_law 524 = .ok (.iadd, 1) := by decide +kernel
theorem dL_law_525 : decode cL_law 525 = .ok (.iaload, 1) := by decide +kernel
theorem dL_law_526 : decode cL_law 526 = .ok (.invokevirtual 51, 3) := by decide +kernel
theorem dL_law_529 : decode cL_law 529 = .ok (.aload_n 2, 1) := by decide +kernel
theorem dL_law_530 : decode cL_law 530 = .ok (.aload_n 0, 1) := by decide +kernel
theorem dL_law_531 : decode cL_law 531 = .ok (.iload_n 3, 1) := by decide +kernel
theorem dL_law_532 : decode cL_law 532 = .ok (.iconst 1, 1) := by decide +kernel
theorem dL_law_533 : decode cL_law 533 = .ok (.iadd, 1) := by decide +kernel
theorem dL_law_534 : decode cL_law 534 = .ok (.iaload, 1) := by decide +kernel
theorem dL_law_535 : decode cL_law 535 = .ok (.aload_n 0, 1) := by decide +kernel
theorem dL_law_536 : decode cL_law 536 = .ok (.iload_n 3, 1) := by decide +kernel
theorem dL_law_537 : decode cL_law 537 = .ok (.iconst 2, 1) := by decide +kernel
theorem dL_law_538 : decode cL_law 538 = .ok (.iadd, 1) := by decide +kernel
theorem dL_law_539 : decode cL_law 539 = .ok (.iaload, 1) := by decide +kernel
theorem dL_law_540 : decode cL_law 540 = .ok (.invokevirtual 54, 3) := by decide +kernel
theorem dL_law_543 : decode cL_law 543 = .ok (.if_icmp .eq 736, 3) := by decide +kernel
theorem dL_law_546 : decode cL_law 546 = .ok (.iconst 0, 1) := by decide +kernel
theorem dL_law_547 : decode cL_law 547 = .ok (.ireturn, 1) := by decide +kernel
theorem dL_law_548 : decode cL_law 548 = .ok (.aload_n 1, 1) := by decide +kernel
theorem dL_law_549 : decode cL_law 549 = .ok (.aload_n 0, 1) := by decide +kernel
theorem dL_law_550 : decode cL_law 550 = .ok (.iload_n 3, 1) := by decide +kernel
theorem dL_law_551 : decode cL_law 551 = .ok (.iconst 1, 1) := by decide +kernel
theorem dL_law_552 : decode cL_law 552 = .ok (.iadd, 1) := by decide +kernel
theorem dL_law_553 : decode cL_law 553 = .ok (.iaload, 1) := by decide +kernel
theorem dL_law_554 : decode cL_law 554 = .ok (.aload_n 0, 1) := by decide +kernel
theorem dL_law_555 : decode cL_law 555 = .ok (.iload_n 3, 1) := by decide +kernel
theorem dL_law_556 : decode cL_law 556 = .ok (.iconst 2, 1) := by decide +kernel
theorem dL_law_557 : decode cL_law 557 = .ok (.iadd, 1) := by decide +kernel
theorem dL_law_558 : decode cL_law 558 = .ok (.iaload, 1) := by decide +kernel
theorem dL_law_559 : decode cL_law 559 = .ok (.invokevirtual 55, 3) := by decide +kernel
theorem dL_law_562 : decode cL_law 562 = .ok (.aload_n 2, 1) := by decide +kernel
theorem dL_law_563 : decode cL_law 563 = .ok (.aload_n 0, 1) := by decide +kernel
theorem dL_law_564 : decode cL_law 564 = .ok (.iload_n 3, 1) := by decide +kernel
theorem dL_law_565 : decode cL_law 565 = .ok (.iconst 1, 1) := by decide +kernel
theorem dL_law_566 : decode cL_law 566 = .ok (.iadd, 1) := by decide +kernel
theorem dL_law_567 : decode cL_law 567 = .ok (.iaload, 1) := by decide +kernel
theorem dL_law_568 : decode cL_law 568 = .ok (.aload_n 0, 1) := by decide +kernel
theorem dL_law_569 : decode cL_law 569 = .ok (.iload_n 3, 1) := by decide +kernel
theorem dL_law_570 : decode cL_law 570 = .ok (.iconst 2, 1) := by decide +kernel
theorem dL_law_571 : decode cL_law 571 = .ok (.iadd, 1) := by decide +kernel
theorem dL_law_572 : decode cL_law 572 = .ok (.iaload, 1) := by decide +kernel
theorem dL_law_573 : decode cL_law 573 = .ok (.invokevirtual 58, 3) := by decide +kernel
theorem dL_law_576 : decode cL_law 576 = .ok (.if_icmp .eq 703, 3) := by decide +kernel
theorem dL_law_579 : decode cL_law 579 = .ok (.iconst 0, 1) := by decide +kernel
theorem dL_law_580 : decode cL_law 580 = .ok (.ireturn, 1) := by decide +kernel
theorem dL_law_581 : decode cL_law 581 = .ok (.aload_n 1, 1) := by decide +kernel
theorem dL_law_582 : decode cL_law 582 = .ok (.aload_n 0, 1) := by decide +kernel
theorem dL_law_583 : decode cL_law 583 = .ok (.iload_n 3, 1) := by decide +kernel
theorem dL_law_584 : decode cL_law 584 = .ok (.iconst 1, 1) := by decide +kernel
theorem dL_law_585 : decode cL_law 585 = .ok (.iadd, 1) := by decide +kernel
theorem dL_law_586 : decode cL_law 586 = .ok (.iaload, 1) := by decide +kernel
theorem dL_law_587 : decode cL_law 587 = .ok (.aload_n 0, 1) := by decide +kernel
theorem dL_law_588 : decode cL_law 588 = .ok (.iload_n 3, 1) := by decide +kernel
theorem dL_law_589 : decode cL_law 589 = .ok (.iconst 2, 1) := by decide +kernel
theorem dL_law_590 : decode cL_law 590 = .ok (.iadd, 1) := by decide +kernel
theorem dL_law_591 : decode cL_law 591 = .ok (.iaload, 1) := by decide +kernel
theorem dL_law_592 : decode cL_law 592 = .ok (.invokevirtual 59, 3) := by decide +kernel
theorem dL_law_595 : decode cL_law 595 = .ok (.aload_n 2, 1) := by decide +kernel
theorem dL_law_596 : decode cL_law 596 = .ok (.aload_n 0, 1) := by decide +kernel
theorem dL_law_597 : decode cL_law 597 = .ok (.iload_n 3, 1) := by decide +kernel
theorem dL_law_598 : decode cL_law 598 = .ok (.iconst 1, 1) := by decide +kernel
theorem dL_law_599 : decode cL_law 599 = .ok (.iadd, 1) := by decide +kernel
theorem dL_law_600 : decode cL_law 600 = .ok (.iaload, 1) := by decide +kernel
theorem dL_law_601 : decode cL_law 601 = .ok (.aload_n 0, 1) := by decide +kernel
theorem dL_law_602 : decode cL_law 602 = .ok (.iload_n 3, 1) := by decide +kernel
theorem dL_law_603 : decode cL_law 603 = .ok (.iconst 2, 1) := by decide +kernel
theorem dL_law_604 : decode cL_law 604 = .ok (.iadd, 1) := by decide +kernel
theorem dL_law_605 : decode cL_law 605 = .ok (.iaload, 1) := by decide +kernel
theorem dL_law_606 : decode cL_law 606 = .ok (.invokevirtual 62, 3) := by decide +kernel
theorem dL_law_609 : decode cL_law 609 = .ok (.if_icmp .eq 670, 3) := by decide +kernel
theorem dL_law_612 : decode cL_law 612 = .ok (.iconst 0, 1) := by decide +kernel
theorem dL_law_613 : decode cL_law 613 = .ok (.ireturn, 1) := by decide +kernel
theorem dL_law_614 : decode cL_law 614 = .ok (.aload_n 1, 1) := by decide +kernel
theorem dL_law_615 : decode cL_law 615 = .ok (.aload_n 0, 1) := by decide +kernel
theorem dL_law_616 : decode cL_law 616 = .ok (.iload_n 3, 1) := by decide +kernel
theorem dL_law_617 : decode cL_law 617 = .ok (.iconst 1, 1) := by decide +kernel
theorem dL_law_618 : decode cL_law 618 = .ok (.iadd, 1) := by decide +kernel
theorem dL_law_619 : decode cL_law 619 = .ok (.iaload, 1) := by decide +kernel
theorem dL_law_620 : decode cL_law 620 = .ok (.aload_n 0, 1) := by decide +kernel
theorem dL_law_621 : decode cL_law 621 = .ok (.iload_n 3, 1) := by decide +kernel
theorem dL_law_622 : decode cL_law 622 = .ok (.iconst 2, 1) := by decide +kernel
theorem dL_law_623 : decode cL_law 623 = .ok (.iadd, 1) := by decide +kernel
theorem dL_law_624 : decode cL_law 624 = .ok (.iaload, 1) := by decide +kernel
theorem dL_law_625 : decode cL_law 625 = .ok (.invokevirtual 63, 3) := by decide +kernel
theorem dL_law_628 : decode cL_law 628 = .ok (.aload_n 2, 1) := by decide +kernel
theorem dL_law_629 : decode cL_law 629 = .ok (.aload_n 0, 1) := by decide +kernel
theorem dL_law_630 : decode cL_law 630 = .ok (.iload_n 3, 1) := by decide +kernel
theorem dL_law_631 : decode cL_law 631 = .ok (.iconst 1, 1) := by decide +kernel
theorem dL_law_632 : decode cL_law 632 = .ok (.iadd, 1) := by decide +kernel
theorem dL_law_633 : decode cL_law 633 = .ok (.iaload, 1) := by decide +kernel
theorem dL_law_634 : decode cL_law 634 = .ok (.aload_n 0, 1) := by decide +kernel
theorem dL_law_635 : decode cL_law 635 = .ok (.iload_n 3, 1) := by decide +kernel
theorem dL_law_636 : decode cL_law 636 = .ok (.iconst 2, 1) := by decide +kernel
theorem dL_law_637 : decode cL_law 637 = .ok (.iadd, 1) := by decide +kernel
theorem dL_law_638 : decode cL_law 638 = .ok (.iaload, 1) := by decide +kernel
theorem dL_law_639 : decode cL_law 639 = .ok (.invokevirtual 67, 3) := by decide +kernel
theorem dL_law_642 : decode cL_law 642 = .ok (.lcmp, 1) := by decide +kernel
theorem dL_law_643 : decode cL_law 643 = .ok (.ifCond .eq 636, 3) := by decide +kernel
theorem dL_law_646 : decode cL_law 646 = .ok (.iconst 0, 1) := by decide +kernel
theorem dL_law_647 : decode cL_law 647 = .ok (.ireturn, 1) := by decide +kernel
theorem dL_law_648 : decode cL_law 648 = .ok (.aload_n 1, 1) := by decide +kernel
theorem dL_law_649 : decode cL_law 649 = .ok (.aload_n 0, 1) := by decide +kernel
theorem dL_law_650 : decode cL_law 650 = .ok (.iload_n 3, 1) := by decide +kernel
theorem dL_law_651 : decode cL_law 651 = .ok (.iconst 1, 1) := by decide +kernel
theorem dL_law_652 : decode cL_law 652 = .ok (.iadd, 1) := by decide +kernel
theorem dL_law_653 : decode cL_law 653 = .ok (.iaload, 1) := by decide +kernel
theorem dL_law_654 : decode cL_law 654 = .ok (.aload_n 0, 1) := by decide +kernel
theorem dL_law_655 : decode cL_law 655 = .ok (.iload_n 3, 1) := by decide +kernel
theorem dL_law_656 : decode cL_law 656 = .ok (.iconst 2, 1) := by decide +kernel
theorem dL_law_657 : decode cL_law 657 = .ok (.iadd, 1) := by decide +kernel
theorem dL_law_658 : decode cL_law 658 = .ok (.iaload, 1) := by decide +kernel
theorem dL_law_659 : decode cL_law 659 = .ok (.aload_n 0, 1) := by decide +kernel
theorem dL_law_660 : decode cL_law 660 = .ok (.iload_n 3, 1) := by decide +kernel
theorem dL_law_661 : decode cL_law 661 = .ok (.iconst 3, 1) := by decide +kernel
theorem dL_law_662 : decode cL_law 662 = .ok (.iadd, 1) := by decide +kernel
theorem dL_law_663 : decode cL_law 663 = .ok (.iaload, 1) := by decide +kernel
theorem dL_law_664 : decode cL_law 664 = .ok (.invokevirtual 68, 3) := by decide +kernel
theorem dL_law_667 : decode cL_law 667 = .ok (.aload_n 2, 1) := by decide +kernel
theorem dL_law_668 : decode cL_law 668 = .ok (.aload_n 0, 1) := by decide +kernel
theorem dL_law_669 : decode cL_law 669 = .ok (.iload_n 3, 1) := by decide +kernel
theorem dL_law_670 : decode cL_law 670 = .ok (.iconst 1, 1) := by decide +kernel
theorem dL_law_671 : decode cL_law 671 = .ok (.iadd, 1) := by decide +kernel
theorem dL_law_672 : decode cL_law 672 = .ok (.iaload, 1) := by decide +kernel
theorem dL_law_673 : decode cL_law 673 = .ok (.aload_n 0, 1) := by decide +kernel
theorem dL_law_674 : decode cL_law 674 = .ok (.iload_n 3, 1) := by decide +kernel
theorem dL_law_675 : decode cL_law 675 = .ok (.iconst 2, 1) := by decide +kernel
theorem dL_law_676 : decode cL_law 676 = .ok (.iadd, 1) := by decide +kernel
theorem dL_law_677 : decode cL_law 677 = .ok (.iaload, 1) := by decide +kernel
theorem dL_law_678 : decode cL_law 678 = .ok (.aload_n 0, 1) := by decide +kernel
theorem dL_law_679 : decode cL_law 679 = .ok (.iload_n 3, 1) := by decide +kernel
theorem dL_law_680 : decode cL_law 680 = .ok (.iconst 3, 1) := by decide +kernel
theorem dL_law_681 : decode cL_law 681 = .ok (.iadd, 1) := by decide +kernel
theorem dL_law_682 : decode cL_law 682 = .ok (.iaload, 1) := by decide +kernel
theorem dL_law_683 : decode cL_law 683 = .ok (.invokevirtual 72, 3) := by decide +kernel
theorem dL_law_686 : decode cL_law 686 = .ok (.lcmp, 1) := by decide +kernel
theorem dL_law_687 : decode cL_law 687 = .ok (.ifCond .eq 592, 3) := by decide +kernel
theorem dL_law_690 : decode cL_law 690 = .ok (.iconst 0, 1) := by decide +kernel
theorem dL_law_691 : decode cL_law 691 = .ok (.ireturn, 1) := by decide +kernel
theorem dL_law_692 : decode cL_law 692 = .ok (.aload_n 1, 1) := by decide +kernel
theorem dL_law_693 : decode cL_law 693 = .ok (.aload_n 0, 1) := by decide +kernel
theorem dL_law_694 : decode cL_law 694 = .ok (.iload_n 3, 1) := by decide +kernel
theorem dL_law_695 : decode cL_law 695 = .ok (.iconst 1, 1) := by decide +kernel
theorem dL_law_696 : decode cL_law 696 = .ok (.iadd, 1) := by decide +kernel
theorem dL_law_697 : decode cL_law 697 = .ok (.iaload, 1) := by decide +kernel
theorem dL_law_698 : decode cL_law 698 = .ok (.invokevirtual 73, 3) := by decide +kernel
theorem dL_law_701 : decode cL_law 701 = .ok (.aload_n 2, 1) := by decide +kernel
theorem dL_law_702 : decode cL_law 702 = .ok (.aload_n 0, 1) := by decide +kernel
theorem dL_law_703 : decode cL_law 703 = .ok (.iload_n 3, 1) := by decide +kernel
theorem dL_law_704 : decode cL_law 704 = .ok (.iconst 1, 1) := by decide +kernel
theorem dL_law_705 : decode cL_law 705 = .ok (.iadd, 1) := by decide +kernel
theorem dL_law_706 : decode cL_law 706 = .ok (.iaload, 1) := by decide +kernel
theorem dL_law_707 : decode cL_law 707 = .ok (.invokevirtual 77, 3) := by decide +kernel
theorem dL_law_710 : decode cL_law 710 = .ok (.lcmp, 1) := by decide +kernel
theorem dL_law_711 : decode cL_law 711 = .ok (.ifCond .eq 568, 3) := by decide +kernel
theorem dL_law_714 : decode cL_law 714 = .ok (.iconst 0, 1) := by decide +kernel
theorem dL_law_715 : decode cL_law 715 = .ok (.ireturn, 1) := by decide +kernel
theorem dL_law_716 : decode cL_law 716 = .ok (.aload_n 1, 1) := by decide +kernel
theorem dL_law_717 : decode cL_law 717 = .ok (.invokevirtual 78, 3) := by decide +kernel
theorem dL_law_720 : decode cL_law 720 = .ok (.aload_n 2, 1) := by decide +kernel
theorem dL_law_721 : decode cL_law 721 = .ok (.invokevirtual 82, 3) := by decide +kernel
theorem dL_law_724 : decode cL_law 724 = .ok (.if_icmp .eq 555, 3) := by decide +kernel
theorem dL_law_727 : decode cL_law 727 = .ok (.iconst 0, 1) := by decide +kernel
theorem dL_law_728 : decode cL_law 728 = .ok (.ireturn, 1) := by decide +kernel
theorem dL_law_729 : decode cL_law 729 = .ok (.aload_n 1, 1) := by decide +kernel
theorem dL_law_730 : decode cL_law 730 = .ok (.aload_n 0, 1) := by decide +kernel
theorem dL_law_731 : decode cL_law 731 = .ok (.iload_n 3, 1) := by decide +kernel
theorem dL_law_732 : decode cL_law 732 = .ok (.iconst 1, 1) := by decide +kernel
theorem dL_law_733 : decode cL_law 733 = .ok (.iadd, 1) := by decide +kernel
theorem dL_law_734 : decode cL_law 734 = .ok (.iaload, 1) := by decide +kernel
theorem dL_law_735 : decode cL_law 735 = .ok (.aload_n 0, 1) := by decide +kernel
theorem dL_law_736 : decode cL_law 736 = .ok (.iload_n 3, 1) := by decide +kernel
theorem dL_law_737 : decode cL_law 737 = .ok (.iconst 2, 1) := by decide +kernel
theorem dL_law_738 : decode cL_law 738 = .ok (.iadd, 1) := by decide +kernel
theorem dL_law_739 : decode cL_law 739 = .ok (.iaload, 1) := by decide +kernel
theorem dL_law_740 : decode cL_law 740 = .ok (.invokevirtual 83, 3) := by decide +kernel
theorem dL_law_743 : decode cL_law 743 = .ok (.aload_n 2, 1) := by decide +kernel
theorem dL_law_744 : decode cL_law 744 = .ok (.aload_n 0, 1) := by decide +kernel
theorem dL_law_745 : decode cL_law 745 = .ok (.iload_n 3, 1) := by decide +kernel
theorem dL_law_746 : decode cL_law 746 = .ok (.iconst 1, 1) := by decide +kernel
theorem dL_law_747 : decode cL_law 747 = .ok (.iadd, 1) := by decide +kernel
theorem dL_law_748 : decode cL_law 748 = .ok (.iaload, 1) := by decide +kernel
theorem dL_law_749 : decode cL_law 749 = .ok (.aload_n 0, 1) := by decide +kernel
theorem dL_law_750 : decode cL_law 750 = .ok (.iload_n 3, 1) := by decide +kernel
theorem dL_law_751 : decode cL_law 751 = .ok (.iconst 2, 1) := by decide +kernel
theorem dL_law_752 : decode cL_law 752 = .ok (.iadd, 1) := by decide +kernel
theorem dL_law_753 : decode cL_law 753 = .ok (.iaload, 1) := by decide +kernel
theorem dL_law_754 : decode cL_law 754 = .ok (.invokevirtual 86, 3) := by decide +kernel
theorem dL_law_757 : decode cL_law 757 = .ok (.lcmp, 1) := by decide +kernel
theorem dL_law_758 : decode cL_law 758 = .ok (.ifCond .eq 521, 3) := by decide +kernel
theorem dL_law_761 : decode cL_law 761 = .ok (.iconst 0, 1) := by decide +kernel
theorem dL_law_762 : decode cL_law 762 = .ok (.ireturn, 1) := by decide +kernel
theorem dL_law_763 : decode cL_law 763 = .ok (.aload_n 1, 1) := by decide +kernel
theorem dL_law_764 : decode cL_law 764 = .ok (.aload_n 0, 1) := by decide +kernel
theorem dL_law_765 : decode cL_law 765 = .ok (.iload_n 3, 1) := by decide +kernel
theorem dL_law_766 : decode cL_law 766 = .ok (.iconst 1, 1) := by decide +kernel
theorem dL_law_767 : decode cL_law 767 = .ok (.iadd, 1) := by decide +kernel
theorem dL_law_768 : decode cL_law 768 = .ok (.iaload, 1) := by decide +kernel
theorem dL_law_769 : decode cL_law 769 = .ok (.aload_n 0, 1) := by decide +kernel
theorem dL_law_770 : decode cL_law 770 = .ok (.iload_n 3, 1) := by decide +kernel
theorem dL_law_771 : decode cL_law 771 = .ok (.iconst 2, 1) := by decide +kernel
theorem dL_law_772 : decode cL_law 772 = .ok (.iadd, 1) := by decide +kernel
theorem dL_law_773 : decode cL_law 773 = .ok (.iaload, 1) := by decide +kernel
theorem dL_law_774 : decode cL_law 774 = .ok (.aload_n 0, 1) := by decide +kernel
theorem dL_law_775 : decode cL_law 775 = .ok (.iload_n 3, 1) := by decide +kernel
theorem dL_law_776 : decode cL_law 776 = .ok (.iconst 3, 1) := by decide +kernel
theorem dL_law_777 : decode cL_law 777 = .ok (.iadd, 1) := by decide +kernel
theorem dL_law_778 : decode cL_law 778 = .ok (.iaload, 1) := by decide +kernel
theorem dL_law_779 : decode cL_law 779 = .ok (.invokevirtual 87, 3) := by decide +kernel
theorem dL_law_782 : decode cL_law 782 = .ok (.aload_n 2, 1) := by decide +kernel
theorem dL_law_783 : decode cL_law 783 = .ok (.aload_n 0, 1) := by decide +kernel
theorem dL_law_784 : decode cL_law 784 = .ok (.iload_n 3, 1) := by decide +kernel
theorem dL_law_785 : decode cL_law 785 = .ok (.iconst 1, 1) := by decide +kernel
theorem dL_law_786 : decode cL_law 786 = .ok (.iadd, 1) := by decide +kernel
theorem dL_law_787 : decode cL_law 787 = .ok (.iaload, 1) := by decide +kernel
theorem dL_law_788 : decode cL_law 788 = .ok (.aload_n 0, 1) := by decide +kernel
theorem dL_law_789 : decode cL_law 789 = .ok (.iload_n 3, 1) := by decide +kernel
theorem dL_law_790 : decode cL_law 790 = .ok (.iconst 2, 1) := by decide +kernel
theorem dL_law_791 : decode cL_law 791 = .ok (.iadd, 1) := by decide +kernel
theorem dL_law_792 : decode cL_law 792 = .ok (.iaload, 1) := by decide +kernel
theorem dL_law_793 : decode cL_law 793 = .ok (.aload_n 0, 1) := by decide +kernel
theorem dL_law_794 : decode cL_law 794 = .ok (.iload_n 3, 1) := by decide +kernel
theorem dL_law_795 : decode cL_law 795 = .ok (.iconst 3, 1) := by decide +kernel
theorem dL_law_796 : decode cL_law 796 = .ok (.iadd, 1) := by decide +kernel
theorem dL_law_797 : decode cL_law 797 = .ok (.iaload, 1) := by decide +kernel
theorem dL_law_798 : decode cL_law 798 = .ok (.invokevirtual 90, 3) := by decide +kernel
theorem dL_law_801 : decode cL_law 801 = .ok (.lcmp, 1) := by decide +kernel
theorem dL_law_802 : decode cL_law 802 = .ok (.ifCond .eq 477, 3) := by decide +kernel
theorem dL_law_805 : decode cL_law 805 = .ok (.iconst 0, 1) := by decide +kernel
theorem dL_law_806 : decode cL_law 806 = .ok (.ireturn, 1) := by decide +kernel
theorem dL_law_807 : decode cL_law 807 = .ok (.aload_n 1, 1) := by decide +kernel
theorem dL_law_808 : decode cL_law 808 = .ok (.aload_n 0, 1) := by decide +kernel
theorem dL_law_809 : decode cL_law 809 = .ok (.iload_n 3, 1) := by decide +kernel
theorem dL_law_810 : decode cL_law 810 = .ok (.iconst 1, 1) := by decide +kernel
theorem dL_law_811 : decode cL_law 811 = .ok (.iadd, 1) := by decide +kernel
theorem dL_law_812 : decode cL_law 812 = .ok (.iaload, 1) := by decide +kernel
theorem dL_law_813 : decode cL_law 813 = .ok (.aload_n 0, 1) := by decide +kernel
theorem dL_law_814 : decode cL_law 814 = .ok (.iload_n 3, 1) := by decide +kernel
theorem dL_law_815 : decode cL_law 815 = .ok (.iconst 2, 1) := by decide +kernel
theorem dL_law_816 : decode cL_law 816 = .ok (.iadd, 1) := by decide +kernel
theorem dL_law_817 : decode cL_law 817 = .ok (.iaload, 1) := by decide +kernel
theorem dL_law_818 : decode cL_law 818 = .ok (.invokevirtual 91, 3) := by decide +kernel
theorem dL_law_821 : decode cL_law 821 = .ok (.aload_n 2, 1) := by decide +kernel
theorem dL_law_822 : decode cL_law 822 = .ok (.aload_n 0, 1) := by decide +kernel
theorem dL_law_823 : decode cL_law 823 = .ok (.iload_n 3, 1) := by decide +kernel
theorem dL_law_824 : decode cL_law 824 = .ok (.iconst 1, 1) := by decide +kernel
theorem dL_law_825 : decode cL_law 825 = .ok (.iadd, 1) := by decide +kernel
theorem dL_law_826 : decode cL_law 826 = .ok (.iaload, 1) := by decide +kernel
theorem dL_law_827 : decode cL_law 827 = .ok (.aload_n 0, 1) := by decide +kernel
theorem dL_law_828 : decode cL_law 828 = .ok (.iload_n 3, 1) := by decide +kernel
theorem dL_law_829 : decode cL_law 829 = .ok (.iconst 2, 1) := by decide +kernel
theorem dL_law_830 : decode cL_law 830 = .ok (.iadd, 1) := by decide +kernel
theorem dL_law_831 : decode cL_law 831 = .ok (.iaload, 1) := by decide +kernel
theorem dL_law_832 : decode cL_law 832 = .ok (.invokevirtual 94, 3) := by decide +kernel
theorem dL_law_835 : decode cL_law 835 = .ok (.if_icmp .eq 444, 3) := by decide +kernel
theorem dL_law_838 : decode cL_law 838 = .ok (.iconst 0, 1) := by decide +kernel
theorem dL_law_839 : decode cL_law 839 = .ok (.ireturn, 1) := by decide +kernel
theorem dL_law_840 : decode cL_law 840 = .ok (.aload_n 1, 1) := by decide +kernel
theorem dL_law_841 : decode cL_law 841 = .ok (.aload_n 0, 1) := by decide +kernel
theorem dL_law_842 : decode cL_law 842 = .ok (.iload_n 3, 1) := by decide +kernel
theorem dL_law_843 : decode cL_law 843 = .ok (.iconst 1, 1) := by decide +kernel
theorem dL_law_844 : decode cL_law 844 = .ok (.iadd, 1) := by decide +kernel
theorem dL_law_845 : decode cL_law 845 = .ok (.iaload, 1) := by decide +kernel
theorem dL_law_846 : decode cL_law 846 = .ok (.aload_n 0, 1) := by decide +kernel
theorem dL_law_847 : decode cL_law 847 = .ok (.iload_n 3, 1) := by decide +kernel
theorem dL_law_848 : decode cL_law 848 = .ok (.iconst 2, 1) := by decide +kernel
theorem dL_law_849 : decode cL_law 849 = .ok (.iadd, 1) := by decide +kernel
theorem dL_law_850 : decode cL_law 850 = .ok (.iaload, 1) := by decide +kernel
theorem dL_law_851 : decode cL_law 851 = .ok (.invokevirtual 95, 3) := by decide +kernel
theorem dL_law_854 : decode cL_law 854 = .ok (.aload_n 2, 1) := by decide +kernel
theorem dL_law_855 : decode cL_law 855 = .ok (.aload_n 0, 1) := by decide +kernel
theorem dL_law_856 : decode cL_law 856 = .ok (.iload_n 3, 1) := by decide +kernel
theorem dL_law_857 : decode cL_law 857 = .ok (.iconst 1, 1) := by decide +kernel
theorem dL_law_858 : decode cL_law 858 = .ok (.iadd, 1) := by decide +kernel
theorem dL_law_859 : decode cL_law 859 = .ok (.iaload, 1) := by decide +kernel
theorem dL_law_860 : decode cL_law 860 = .ok (.aload_n 0, 1) := by decide +kernel
theorem dL_law_861 : decode cL_law 861 = .ok (.iload_n 3, 1) := by decide +kernel
theorem dL_law_862 : decode cL_law 862 = .ok (.iconst 2, 1) := by decide +kernel
theorem dL_law_863 : decode cL_law 863 = .ok (.iadd, 1) := by decide +kernel
theorem dL_law_864 : decode cL_law 864 = .ok (.iaload, 1) := by decide +kernel
theorem dL_law_865 : decode cL_law 865 = .ok (.invokevirtual 98, 3) := by decide +kernel
theorem dL_law_868 : decode cL_law 868 = .ok (.if_icmp .eq 411, 3) := by decide +kernel
theorem dL_law_871 : decode cL_law 871 = .ok (.iconst 0, 1) := by decide +kernel
theorem dL_law_872 : decode cL_law 872 = .ok (.ireturn, 1) := by decide +kernel
theorem dL_law_873 : decode cL_law 873 = .ok (.aload_n 1, 1) := by decide +kernel
theorem dL_law_874 : decode cL_law 874 = .ok (.aload_n 0, 1) := by decide +kernel
theorem dL_law_875 : decode cL_law 875 = .ok (.iload_n 3, 1) := by decide +kernel
theorem dL_law_876 : decode cL_law 876 = .ok (.iconst 1, 1) := by decide +kernel
theorem dL_law_877 : decode cL_law 877 = .ok (.iadd, 1) := by decide +kernel
theorem dL_law_878 : decode cL_law 878 = .ok (.iaload, 1) := by decide +kernel
theorem dL_law_879 : decode cL_law 879 = .ok (.invokevirtual 99, 3) := by decide +kernel
theorem dL_law_882 : decode cL_law 882 = .ok (.aload_n 2, 1) := by decide +kernel
theorem dL_law_883 : decode cL_law 883 = .ok (.aload_n 0, 1) := by decide +kernel
theorem dL_law_884 : decode cL_law 884 = .ok (.iload_n 3, 1) := by decide +kernel
theorem dL_law_885 : decode cL_law 885 = .ok (.iconst 1, 1) := by decide +kernel
theorem dL_law_886 : decode cL_law 886 = .ok (.iadd, 1) := by decide +kernel
theorem dL_law_887 : decode cL_law 887 = .ok (.iaload, 1) := by decide +kernel
theorem dL_law_888 : decode cL_law 888 = .ok (.invokevirtual 103, 3) := by decide +kernel
theorem dL_law_891 : decode cL_law 891 = .ok (.if_icmp .eq 388, 3) := by decide +kernel
theorem dL_law_894 : decode cL_law 894 = .ok (.iconst 0, 1) := by decide +kernel
theorem dL_law_895 : decode cL_law 895 = .ok (.ireturn, 1) := by decide +kernel
theorem dL_law_896 : decode cL_law 896 = .ok (.aload_n 1, 1) := by decide +kernel
theorem dL_law_897 : decode cL_law 897 = .ok (.aload_n 0, 1) := by decide +kernel
theorem dL_law_898 : decode cL_law 898 = .ok (.iload_n 3, 1) := by decide +kernel
theorem dL_law_899 : decode cL_law 899 = .ok (.iconst 1, 1) := by decide +kernel
theorem dL_law_900 : decode cL_law 900 = .ok (.iadd, 1) := by decide +kernel
theorem dL_law_901 : decode cL_law 901 = .ok (.iaload, 1) := by decide +kernel
theorem dL_law_902 : decode cL_law 902 = .ok (.invokevirtual 104, 3) := by decide +kernel
theorem dL_law_905 : decode cL_law 905 = .ok (.aload_n 2, 1) := by decide +kernel
theorem dL_law_906 : decode cL_law 906 = .ok (.aload_n 0, 1) := by decide +kernel
theorem dL_law_907 : decode cL_law 907 = .ok (.iload_n 3, 1) := by decide +kernel
theorem dL_law_908 : decode cL_law 908 = .ok (.iconst 1, 1) := by decide +kernel
theorem dL_law_909 : decode cL_law 909 = .ok (.iadd, 1) := by decide +kernel
theorem dL_law_910 : decode cL_law 910 = .ok (.iaload, 1) := by decide +kernel
theorem dL_law_911 : decode cL_law 911 = .ok (.invokevirtual 107, 3) := by decide +kernel
theorem dL_law_914 : decode cL_law 914 = .ok (.if_icmp .eq 365, 3) := by decide +kernel
theorem dL_law_917 : decode cL_law 917 = .ok (.iconst 0, 1) := by decide +kernel
theorem dL_law_918 : decode cL_law 918 = .ok (.ireturn, 1) := by decide +kernel
theorem dL_law_919 : decode cL_law 919 = .ok (.aload_n 1, 1) := by decide +kernel
theorem dL_law_920 : decode cL_law 920 = .ok (.aload_n 0, 1) := by decide +kernel
theorem dL_law_921 : decode cL_law 921 = .ok (.iload_n 3, 1) := by decide +kernel
theorem dL_law_922 : decode cL_law 922 = .ok (.iconst 1, 1) := by decide +kernel
theorem dL_law_923 : decode cL_law 923 = .ok (.iadd, 1) := by decide +kernel
theorem dL_law_924 : decode cL_law 924 = .ok (.iaload, 1) := by decide +kernel
theorem dL_law_925 : decode cL_law 925 = .ok (.aload_n 0, 1) := by decide +kernel
theorem dL_law_926 : decode cL_law 926 = .ok (.iload_n 3, 1) := by decide +kernel
theorem dL_law_927 : decode cL_law 927 = .ok (.iconst 2, 1) := by decide +kernel
theorem dL_law_928 : decode cL_law 928 = .ok (.iadd, 1) := by decide +kernel
theorem dL_law_929 : decode cL_law 929 = .ok (.iaload, 1) := by decide +kernel
theorem dL_law_930 : decode cL_law 930 = .ok (.aload_n 0, 1) := by decide +kernel
theorem dL_law_931 : decode cL_law 931 = .ok (.iload_n 3, 1) := by decide +kernel
theorem dL_law_932 : decode cL_law 932 = .ok (.iconst 3, 1) := by decide +kernel
theorem dL_law_933 : decode cL_law 933 = .ok (.iadd, 1) := by decide +kernel
theorem dL_law_934 : decode cL_law 934 = .ok (.iaload, 1) := by decide +kernel
theorem dL_law_935 : decode cL_law 935 = .ok (.invokevirtual 108, 3) := by decide +kernel
theorem dL_law_938 : decode cL_law 938 = .ok (.aload_n 2, 1) := by decide +kernel
theorem dL_law_939 : decode cL_law 939 = .ok (.aload_n 0, 1) := by decide +kernel
theorem dL_law_940 : decode cL_law 940 = .ok (.iload_n 3, 1) := by decide +kernel
theorem dL_law_941 : decode cL_law 941 = .ok (.iconst 1, 1) := by decide +kernel
theorem dL_law_942 : decode cL_law 942 = .ok (.iadd, 1) := by decide +kernel
theorem dL_law_943 : decode cL_law 943 = .ok (.iaload, 1) := by decide +kernel
theorem dL_law_944 : decode cL_law 944 = .ok (.aload_n 0, 1) := by decide +kernel
theorem dL_law_945 : decode cL_law 945 = .ok (.iload_n 3, 1) := by decide +kernel
theorem dL_law_946 : decode cL_law 946 = .ok (.iconst 2, 1) := by decide +kernel
theorem dL_law_947 : decode cL_law 947 = .ok (.iadd, 1) := by decide +kernel
theorem dL_law_948 : decode cL_law 948 = .ok (.iaload, 1) := by decide +kernel
theorem dL_law_949 : decode cL_law 949 = .ok (.aload_n 0, 1) := by decide +kernel
theorem dL_law_950 : decode cL_law 950 = .ok (.iload_n 3, 1) := by decide +kernel
theorem dL_law_951 : decode cL_law 951 = .ok (.iconst 3, 1) := by decide +kernel
theorem dL_law_952 : decode cL_law 952 = .ok (.iadd, 1) := by decide +kernel
theorem dL_law_953 : decode cL_law 953 = .ok (.iaload, 1) := by decide +kernel
theorem dL_law_954 : decode cL_law 954 = .ok (.invokevirtual 112, 3) := by decide +kernel
theorem dL_law_957 : decode cL_law 957 = .ok (.if_icmp .eq 322, 3) := by decide +kernel
theorem dL_law_960 : decode cL_law 960 = .ok (.iconst 0, 1) := by decide +kernel
theorem dL_law_961 : decode cL_law 961 = .ok (.ireturn, 1) := by decide +kernel
theorem dL_law_962 : decode cL_law 962 = .ok (.aload_n 1, 1) := by decide +kernel
theorem dL_law_963 : decode cL_law 963 = .ok (.aload_n 0, 1) := by decide +kernel
theorem dL_law_964 : decode cL_law 964 = .ok (.iload_n 3, 1) := by decide +kernel
theorem dL_law_965 : decode cL_law 965 = .ok (.iconst 1, 1) := by decide +kernel
theorem dL_law_966 : decode cL_law 966 = .ok (.iadd, 1) := by decide +kernel
theorem dL_law_967 : decode cL_law 967 = .ok (.iaload, 1) := by decide +kernel
theorem dL_law_968 : decode cL_law 968 = .ok (.aload_n 0, 1) := by decide +kernel
theorem dL_law_969 : decode cL_law 969 = .ok (.iload_n 3, 1) := by decide +kernel
theorem dL_law_970 : decode cL_law 970 = .ok (.iconst 2, 1) := by decide +kernel
theorem dL_law_971 : decode cL_law 971 = .ok (.iadd, 1) := by decide +kernel
theorem dL_law_972 : decode cL_law 972 = .ok (.iaload, 1) := by decide +kernel
theorem dL_law_973 : decode cL_law 973 = .ok (.aload_n 0, 1) := by decide +kernel
theorem dL_law_974 : decode cL_law 974 = .ok (.iload_n 3, 1) := by decide +kernel
theorem dL_law_975 : decode cL_law 975 = .ok (.iconst 3, 1) := by decide +kernel
theorem dL_law_976 : decode cL_law 976 = .ok (.iadd, 1) := by decide +kernel
theorem dL_law_977 : decode cL_law 977 = .ok (.iaload, 1) := by decide +kernel
theorem dL_law_978 : decode cL_law 978 = .ok (.invokevirtual 113, 3) := by decide +kernel
theorem dL_law_981 : decode cL_law 981 = .ok (.aload_n 2, 1) := by decide +kernel
theorem dL_law_982 : decode cL_law 982 = .ok (.aload_n 0, 1) := by decide +kernel
theorem dL_law_983 : decode cL_law 983 = .ok (.iload_n 3, 1) := by decide +kernel
theorem dL_law_984 : decode cL_law 984 = .ok (.iconst 1, 1) := by decide +kernel
theorem dL_law_985 : decode cL_law 985 = .ok (.iadd, 1) := by decide +kernel
theorem dL_law_986 : decode cL_law 986 = .ok (.iaload, 1) := by decide +kernel
theorem dL_law_987 : decode cL_law 987 = .ok (.aload_n 0, 1) := by decide +kernel
theorem dL_law_988 : decode cL_law 988 = .ok (.iload_n 3, 1) := by decide +kernel
theorem dL_law_989 : decode cL_law 989 = .ok (.iconst 2, 1) := by decide +kernel
theorem dL_law_990 : decode cL_law 990 = .ok (.iadd, 1) := by decide +kernel
theorem dL_law_991 : decode cL_law 991 = .ok (.iaload, 1) := by decide +kernel
theorem dL_law_992 : decode cL_law 992 = .ok (.aload_n 0, 1) := by decide +kernel
theorem dL_law_993 : decode cL_law 993 = .ok (.iload_n 3, 1) := by decide +kernel
theorem dL_law_994 : decode cL_law 994 = .ok (.iconst 3, 1) := by decide +kernel
theorem dL_law_995 : decode cL_law 995 = .ok (.iadd, 1) := by decide +kernel
theorem dL_law_996 : decode cL_law 996 = .ok (.iaload, 1) := by decide +kernel
theorem dL_law_997 : decode cL_law 997 = .ok (.invokevirtual 116, 3) := by decide +kernel
theorem dL_law_1000 : decode cL_law 1000 = .ok (.if_icmp .eq 279, 3) := by decide +kernel
theorem dL_law_1003 : decode cL_law 1003 = .ok (.iconst 0, 1) := by decide +kernel
theorem dL_law_1004 : decode cL_law 1004 = .ok (.ireturn, 1) := by decide +kernel
theorem dL_law_1005 : decode cL_law 1005 = .ok (.aload_n 1, 1) := by decide +kernel
theorem dL_law_1006 : decode cL_law 1006 = .ok (.aload_n 0, 1) := by decide +kernel
theorem dL_law_1007 : decode cL_law 1007 = .ok (.iload_n 3, 1) := by decide +kernel
theorem dL_law_1008 : decode cL_law 1008 = .ok (.iconst 1, 1) := by decide +kernel
theorem dL_law_1009 : decode cL_law 1009 = .ok (.iadd, 1) := by decide +kernel
theorem dL_law_1010 : decode cL_law 1010 = .ok (.iaload, 1) := by decide +kernel
theorem dL_law_1011 : decode cL_law 1011 = .ok (.invokevirtual 117, 3) := by decide +kernel
theorem dL_law_1014 : decode cL_law 1014 = .ok (.aload_n 2, 1) := by decide +kernel
theorem dL_law_1015 : decode cL_law 1015 = .ok (.aload_n 0, 1) := by decide +kernel
theorem dL_law_1016 : decode cL_law 1016 = .ok (.iload_n 3, 1) := by decide +kernel
theorem dL_law_1017 : decode cL_law 1017 = .ok (.iconst 1, 1) := by decide +kernel
theorem dL_law_1018 : decode cL_law 1018 = .ok (.iadd, 1) := by decide +kernel
theorem dL_law_1019 : decode cL_law 1019 = .ok (.iaload, 1) := by decide +kernel
theorem dL_law_1020 : decode cL_law 1020 = .ok (.invokevirtual 120, 3) := by decide +kernel
theorem dL_law_1023 : decode cL_law 1023 = .ok (.if_icmp .eq 256, 3) := by decide +kernel
theorem dL_law_1026 : decode cL_law 1026 = .ok (.iconst 0, 1) := by decide +kernel
theorem dL_law_1027 : decode cL_law 1027 = .ok (.ireturn, 1) := by decide +kernel
theorem dL_law_1028 : decode cL_law 1028 = .ok (.aload_n 1, 1) := by decide +kernel
theorem dL_law_1029 : decode cL_law 1029 = .ok (.invokevirtual 121, 3) := by decide +kernel
theorem dL_law_1032 : decode cL_law 1032 = .ok (.aload_n 2, 1) := by decide +kernel
theorem dL_law_1033 : decode cL_law 1033 = .ok (.invokevirtual 124, 3) := by decide +kernel
theorem dL_law_1036 : decode cL_law 1036 = .ok (.if_icmp .eq 243, 3) := by decide +kernel
theorem dL_law_1039 : decode cL_law 1039 = .ok (.iconst 0, 1) := by decide +kernel
theorem dL_law_1040 : decode cL_law 1040 = .ok (.ireturn, 1) := by decide +kernel
theorem dL_law_1041 : decode cL_law 1041 = .ok (.aload_n 1, 1) := by decide +kernel
theorem dL_law_1042 : decode cL_law 1042 = .ok (.invokevirtual 125, 3) := by decide +kernel
theorem dL_law_1045 : decode cL_law 1045 = .ok (.aload_n 2, 1) := by decide +kernel
theorem dL_law_1046 : decode cL_law 1046 = .ok (.invokevirtual 128, 3) := by decide +kernel
theorem dL_law_1049 : decode cL_law 1049 = .ok (.if_icmp .eq 230, 3) := by decide +kernel
theorem dL_law_1052 : decode cL_law 1052 = .ok (.iconst 0, 1) := by decide +kernel
theorem dL_law_1053 : decode cL_law 1053 = .ok (.ireturn, 1) := by decide +kernel
theorem dL_law_1054 : decode cL_law 1054 = .ok (.aload_n 1, 1) := by decide +kernel
theorem dL_law_1055 : decode cL_law 1055 = .ok (.aload_n 0, 1) := by decide +kernel
theorem dL_law_1056 : decode cL_law 1056 = .ok (.iload_n 3, 1) := by decide +kernel
theorem dL_law_1057 : decode cL_law 1057 = .ok (.iconst 1, 1) := by decide +kernel
theorem dL_law_1058 : decode cL_law 1058 = .ok (.iadd, 1) := by decide +kernel
theorem dL_law_1059 : decode cL_law 1059 = .ok (.iaload, 1) := by decide +kernel
theorem dL_law_1060 : decode cL_law 1060 = .ok (.invokevirtual 129, 3) := by decide +kernel
theorem dL_law_1063 : decode cL_law 1063 = .ok (.aload_n 2, 1) := by decide +kernel
theorem dL_law_1064 : decode cL_law 1064 = .ok (.aload_n 0, 1) := by decide +kernel
theorem dL_law_1065 : decode cL_law 1065 = .ok (.iload_n 3, 1) := by decide +kernel
theorem dL_law_1066 : decode cL_law 1066 = .ok (.iconst 1, 1) := by decide +kernel
theorem dL_law_1067 : decode cL_law 1067 = .ok (.iadd, 1) := by decide +kernel
theorem dL_law_1068 : decode cL_law 1068 = .ok (.iaload, 1) := by decide +kernel
theorem dL_law_1069 : decode cL_law 1069 = .ok (.invokevirtual 132, 3) := by decide +kernel
theorem dL_law_1072 : decode cL_law 1072 = .ok (.if_icmp .eq 207, 3) := by decide +kernel
theorem dL_law_1075 : decode cL_law 1075 = .ok (.iconst 0, 1) := by decide +kernel
theorem dL_law_1076 : decode cL_law 1076 = .ok (.ireturn, 1) := by decide +kernel
theorem dL_law_1077 : decode cL_law 1077 = .ok (.aload_n 1, 1) := by decide +kernel
theorem dL_law_1078 : decode cL_law 1078 = .ok (.aload_n 0, 1) := by decide +kernel
theorem dL_law_1079 : decode cL_law 1079 = .ok (.iload_n 3, 1) := by decide +kernel
theorem dL_law_1080 : decode cL_law 1080 = .ok (.iconst 1, 1) := by decide +kernel
theorem dL_law_1081 : decode cL_law 1081 = .ok (.iadd, 1) := by decide +kernel
theorem dL_law_1082 : decode cL_law 1082 = .ok (.iaload, 1) := by decide +kernel
theorem dL_law_1083 : decode cL_law 1083 = .ok (.aload_n 0, 1) := by decide +kernel
theorem dL_law_1084 : decode cL_law 1084 = .ok (.iload_n 3, 1) := by decide +kernel
theorem dL_law_1085 : decode cL_law 1085 = .ok (.iconst 2, 1) := by decide +kernel
theorem dL_law_1086 : decode cL_law 1086 = .ok (.iadd, 1) := by decide +kernel
theorem dL_law_1087 : decode cL_law 1087 = .ok (.iaload, 1) := by decide +kernel
theorem dL_law_1088 : decode cL_law 1088 = .ok (.aload_n 0, 1) := by decide +kernel
theorem dL_law_1089 : decode cL_law 1089 = .ok (.iload_n 3, 1) := by decide +kernel
theorem dL_law_1090 : decode cL_law 1090 = .ok (.iconst 3, 1) := by decide +kernel
theorem dL_law_1091 : decode cL_law 1091 = .ok (.iadd, 1) := by decide +kernel
theorem dL_law_1092 : decode cL_law 1092 = .ok (.iaload, 1) := by decide +kernel
theorem dL_law_1093 : decode cL_law 1093 = .ok (.invokevirtual 133, 3) := by decide +kernel
theorem dL_law_1096 : decode cL_law 1096 = .ok (.aload_n 2, 1) := by decide +kernel
theorem dL_law_1097 : decode cL_law 1097 = .ok (.aload_n 0, 1) := by decide +kernel
theorem dL_law_1098 : decode cL_law 1098 = .ok (.iload_n 3, 1) := by decide +kernel
theorem dL_law_1099 : decode cL_law 1099 = .ok (.iconst 1, 1) := by decide +kernel
theorem dL_law_1100 : decode cL_law 1100 = .ok (.iadd, 1) := by decide +kernel
theorem dL_law_1101 : decode cL_law 1101 = .ok (.iaload, 1) := by decide +kernel
theorem dL_law_1102 : decode cL_law 1102 = .ok (.aload_n 0, 1) := by decide +kernel
theorem dL_law_1103 : decode cL_law 1103 = .ok (.iload_n 3, 1) := by decide +kernel
theorem dL_law_1104 : decode cL_law 1104 = .ok (.iconst 2, 1) := by decide +kernel
theorem dL_law_1105 : decode cL_law 1105 = .ok (.iadd, 1) := by decide +kernel
theorem dL_law_1106 : decode cL_law 1106 = .ok (.iaload, 1) := by decide +kernel
theorem dL_law_1107 : decode cL_law 1107 = .ok (.aload_n 0, 1) := by decide +kernel
theorem dL_law_1108 : decode cL_law 1108 = .ok (.iload_n 3, 1) := by decide +kernel
theorem dL_law_1109 : decode cL_law 1109 = .ok (.iconst 3, 1) := by decide +kernel
theorem dL_law_1110 : decode cL_law 1110 = .ok (.iadd, 1) := by decide +kernel
theorem dL_law_1111 : decode cL_law 1111 = .ok (.iaload, 1) := by decide +kernel
theorem dL_law_1112 : decode cL_law 1112 = .ok (.invokevirtual 136, 3) := by decide +kernel
theorem dL_law_1115 : decode cL_law 1115 = .ok (.if_icmp .eq 164, 3) := by decide +kernel
theorem dL_law_1118 : decode cL_law 1118 = .ok (.iconst 0, 1) := by decide +kernel
theorem dL_law_1119 : decode cL_law 1119 = .ok (.ireturn, 1) := by decide +kernel
theorem dL_law_1120 : decode cL_law 1120 = .ok (.aload_n 1, 1) := by decide +kernel
theorem dL_law_1121 : decode cL_law 1121 = .ok (.aload_n 0, 1) := by decide +kernel
theorem dL_law_1122 : decode cL_law 1122 = .ok (.iload_n 3, 1) := by decide +kernel
theorem dL_law_1123 : decode cL_law 1123 = .ok (.iconst 1, 1) := by decide +kernel
theorem dL_law_1124 : decode cL_law 1124 = .ok (.iadd, 1) := by decide +kernel
theorem dL_law_1125 : decode cL_law 1125 = .ok (.iaload, 1) := by decide +kernel
theorem dL_law_1126 : decode cL_law 1126 = .ok (.aload_n 0, 1) := by decide +kernel
theorem dL_law_1127 : decode cL_law 1127 = .ok (.iload_n 3, 1) := by decide +kernel
theorem dL_law_1128 : decode cL_law 1128 = .ok (.iconst 2, 1) := by decide +kernel
theorem dL_law_1129 : decode cL_law 1129 = .ok (.iadd, 1) := by decide +kernel
theorem dL_law_1130 : decode cL_law 1130 = .ok (.iaload, 1) := by decide +kernel
theorem dL_law_1131 : decode cL_law 1131 = .ok (.aload_n 0, 1) := by decide +kernel
theorem dL_law_1132 : decode cL_law 1132 = .ok (.iload_n 3, 1) := by decide +kernel
theorem dL_law_1133 : decode cL_law 1133 = .ok (.iconst 3, 1) := by decide +kernel
theorem dL_law_1134 : decode cL_law 1134 = .ok (.iadd, 1) := by decide +kernel
theorem dL_law_1135 : decode cL_law 1135 = .ok (.iaload, 1) := by decide +kernel
theorem dL_law_1136 : decode cL_law 1136 = .ok (.invokevirtual 137, 3) := by decide +kernel
theorem dL_law_1139 : decode cL_law 1139 = .ok (.aload_n 2, 1) := by decide +kernel
theorem dL_law_1140 : decode cL_law 1140 = .ok (.aload_n 0, 1) := by decide +kernel
theorem dL_law_1141 : decode cL_law 1141 = .ok (.iload_n 3, 1) := by decide +kernel
theorem dL_law_1142 : decode cL_law 1142 = .ok (.iconst 1, 1) := by decide +kernel
theorem dL_law_1143 : decode cL_law 1143 = .ok (.iadd, 1) := by decide +kernel
theorem dL_law_1144 : decode cL_law 1144 = .ok (.iaload, 1) := by decide +kernel
theorem dL_law_1145 : decode cL_law 1145 = .ok (.aload_n 0, 1) := by decide +kernel
theorem dL_law_1146 : decode cL_law 1146 = .ok (.iload_n 3, 1) := by decide +kernel
theorem dL_law_1147 : decode cL_law 1147 = .ok (.iconst 2, 1) := by decide +kernel
theorem dL_law_1148 : decode cL_law 1148 = .ok (.iadd, 1) := by decide +kernel
theorem dL_law_1149 : decode cL_law 1149 = .ok (.iaload, 1) := by decide +kernel
theorem dL_law_1150 : decode cL_law 1150 = .ok (.aload_n 0, 1) := by decide +kernel
theorem dL_law_1151 : decode cL_law 1151 = .ok (.iload_n 3, 1) := by decide +kernel
theorem dL_law_1152 : decode cL_law 1152 = .ok (.iconst 3, 1) := by decide +kernel
theorem dL_law_1153 : decode cL_law 1153 = .ok (.iadd, 1) := by decide +kernel
theorem dL_law_1154 : decode cL_law 1154 = .ok (.iaload, 1) := by decide +kernel
theorem dL_law_1155 : decode cL_law 1155 = .ok (.invokevirtual 140, 3) := by decide +kernel
theorem dL_law_1158 : decode cL_law 1158 = .ok (.if_icmp .eq 121, 3) := by decide +kernel
theorem dL_law_1161 : decode cL_law 1161 = .ok (.iconst 0, 1) := by decide +kernel
theorem dL_law_1162 : decode cL_law 1162 = .ok (.ireturn, 1) := by decide +kernel
theorem dL_law_1163 : decode cL_law 1163 = .ok (.aload_n 1, 1) := by decide +kernel
theorem dL_law_1164 : decode cL_law 1164 = .ok (.aload_n 0, 1) := by decide +kernel
theorem dL_law_1165 : decode cL_law 1165 = .ok (.iload_n 3, 1) := by decide +kernel
theorem dL_law_1166 : decode cL_law 1166 = .ok (.iconst 1, 1) := by decide +kernel
theorem dL_law_1167 : decode cL_law 1167 = .ok (.iadd, 1) := by decide +kernel
theorem dL_law_1168 : decode cL_law 1168 = .ok (.iaload, 1) := by decide +kernel
theorem dL_law_1169 : decode cL_law 1169 = .ok (.aload_n 0, 1) := by decide +kernel
theorem dL_law_1170 : decode cL_law 1170 = .ok (.iload_n 3, 1) := by decide +kernel
theorem dL_law_1171 : decode cL_law 1171 = .ok (.iconst 2, 1) := by decide +kernel
theorem dL_law_1172 : decode cL_law 1172 = .ok (.iadd, 1) := by decide +kernel
theorem dL_law_1173 : decode cL_law 1173 = .ok (.iaload, 1) := by decide +kernel
theorem dL_law_1174 : decode cL_law 1174 = .ok (.aload_n 0, 1) := by decide +kernel
theorem dL_law_1175 : decode cL_law 1175 = .ok (.iload_n 3, 1) := by decide +kernel
theorem dL_law_1176 : decode cL_law 1176 = .ok (.iconst 3, 1) := by decide +kernel
theorem dL_law_1177 : decode cL_law 1177 = .ok (.iadd, 1) := by decide +kernel
theorem dL_law_1178 : decode cL_law 1178 = .ok (.iaload, 1) := by decide +kernel
theorem dL_law_1179 : decode cL_law 1179 = .ok (.aload_n 0, 1) := by decide +kernel
theorem dL_law_1180 : decode cL_law 1180 = .ok (.iload_n 3, 1) := by decide +kernel
theorem dL_law_1181 : decode cL_law 1181 = .ok (.iconst 4, 1) := by decide +kernel
theorem dL_law_1182 : decode cL_law 1182 = .ok (.iadd, 1) := by decide +kernel
theorem dL_law_1183 : decode cL_law 1183 = .ok (.iaload, 1) := by decide +kernel
theorem dL_law_1184 : decode cL_law 1184 = .ok (.aload_n 0, 1) := by decide +kernel
theorem dL_law_1185 : decode cL_law 1185 = .ok (.iload_n 3, 1) := by decide +kernel
theorem dL_law_1186 : decode cL_law 1186 = .ok (.iconst 5, 1) := by decide +kernel
theorem dL_law_1187 : decode cL_law 1187 = .ok (.iadd, 1) := by decide +kernel
theorem dL_law_1188 : decode cL_law 1188 = .ok (.iaload, 1) := by decide +kernel
theorem dL_law_1189 : decode cL_law 1189 = .ok (.invokevirtual 141, 3) := by decide +kernel
theorem dL_law_1192 : decode cL_law 1192 = .ok (.aload_n 2, 1) := by decide +kernel
theorem dL_law_1193 : decode cL_law 1193 = .ok (.aload_n 0, 1) := by decide +kernel
theorem dL_law_1194 : decode cL_law 1194 = .ok (.iload_n 3, 1) := by decide +kernel
theorem dL_law_1195 : decode cL_law 1195 = .ok (.iconst 1, 1) := by decide +kernel
theorem dL_law_1196 : decode cL_law 1196 = .ok (.iadd, 1) := by decide +kernel
theorem dL_law_1197 : decode cL_law 1197 = .ok (.iaload, 1) := by decide +kernel
theorem dL_law_1198 : decode cL_law 1198 = .ok (.aload_n 0, 1) := by decide +kernel
theorem dL_law_1199 : decode cL_law 1199 = .ok (.iload_n 3, 1) := by decide +kernel
theorem dL_law_1200 : decode cL_law 1200 = .ok (.iconst 2, 1) := by decide +kernel
theorem dL_law_1201 : decode cL_law 1201 = .ok (.iadd, 1) := by decide +kernel
theorem dL_law_1202 : decode cL_law 1202 = .ok (.iaload, 1) := by decide +kernel
theorem dL_law_1203 : decode cL_law 1203 = .ok (.aload_n 0, 1) := by decide +kernel
theorem dL_law_1204 : decode cL_law 1204 = .ok (.iload_n 3, 1) := by decide +kernel
theorem dL_law_1205 : decode cL_law 1205 = .ok (.iconst 3, 1) := by decide +kernel
theorem dL_law_1206 : decode cL_law 1206 = .ok (.iadd, 1) := by decide +kernel
theorem dL_law_1207 : decode cL_law 1207 = .ok (.iaload, 1) := by decide +kernel
theorem dL_law_1208 : decode cL_law 1208 = .ok (.aload_n 0, 1) := by decide +kernel
theorem dL_law_1209 : decode cL_law 1209 = .ok (.iload_n 3, 1) := by decide +kernel
theorem dL_law_1210 : decode cL_law 1210 = .ok (.iconst 4, 1) := by decide +kernel
theorem dL_law_1211 : decode cL_law 1211 = .ok (.iadd, 1) := by decide +kernel
theorem dL_law_1212 : decode cL_law 1212 = .ok (.iaload, 1) := by decide +kernel
theorem dL_law_1213 : decode cL_law 1213 = .ok (.aload_n 0, 1) := by decide +kernel
theorem dL_law_1214 : decode cL_law 1214 = .ok (.iload_n 3, 1) := by decide +kernel
theorem dL_law_1215 : decode cL_law 1215 = .ok (.iconst 5, 1) := by decide +kernel
theorem dL_law_1216 : decode cL_law 1216 = .ok (.iadd, 1) := by decide +kernel
theorem dL_law_1217 : decode cL_law 1217 = .ok (.iaload, 1) := by decide +kernel
theorem dL_law_1218 : decode cL_law 1218 = .ok (.invokevirtual 145, 3) := by decide +kernel
theorem dL_law_1221 : decode cL_law 1221 = .ok (.if_icmp .eq 58, 3) := by decide +kernel
theorem dL_law_1224 : decode cL_law 1224 = .ok (.iconst 0, 1) := by decide +kernel
theorem dL_law_1225 : decode cL_law 1225 = .ok (.ireturn, 1) := by decide +kernel
theorem dL_law_1226 : decode cL_law 1226 = .ok (.aload_n 1, 1) := by decide +kernel
theorem dL_law_1227 : decode cL_law 1227 = .ok (.aload_n 0, 1) := by decide +kernel
theorem dL_law_1228 : decode cL_law 1228 = .ok (.iload_n 3, 1) := by decide +kernel
theorem dL_law_1229 : decode cL_law 1229 = .ok (.iconst 1, 1) := by decide +kernel
theorem dL_law_1230 : decode cL_law 1230 = .ok (.iadd, 1) := by decide +kernel
theorem dL_law_1231 : decode cL_law 1231 = .ok (.iaload, 1) := by decide +kernel
theorem dL_law_1232 : decode cL_law 1232 = .ok (.aload_n 0, 1) := by decide +kernel
theorem dL_law_1233 : decode cL_law 1233 = .ok (.iload_n 3, 1) := by decide +kernel
theorem dL_law_1234 : decode cL_law 1234 = .ok (.iconst 2, 1) := by decide +kernel
theorem dL_law_1235 : decode cL_law 1235 = .ok (.iadd, 1) := by decide +kernel
theorem dL_law_1236 : decode cL_law 1236 = .ok (.iaload, 1) := by decide +kernel
theorem dL_law_1237 : decode cL_law 1237 = .ok (.aload_n 0, 1) := by decide +kernel
theorem dL_law_1238 : decode cL_law 1238 = .ok (.iload_n 3, 1) := by decide +kernel
theorem dL_law_1239 : decode cL_law 1239 = .ok (.iconst 3, 1) := by decide +kernel
theorem dL_law_1240 : decode cL_law 1240 = .ok (.iadd, 1) := by decide +kernel
theorem dL_law_1241 : decode cL_law 1241 = .ok (.iaload, 1) := by decide +kernel
theorem dL_law_1242 : decode cL_law 1242 = .ok (.aload_n 0, 1) := by decide +kernel
theorem dL_law_1243 : decode cL_law 1243 = .ok (.iload_n 3, 1) := by decide +kernel
theorem dL_law_1244 : decode cL_law 1244 = .ok (.iconst 4, 1) := by decide +kernel
theorem dL_law_1245 : decode cL_law 1245 = .ok (.iadd, 1) := by decide +kernel
theorem dL_law_1246 : decode cL_law 1246 = .ok (.iaload, 1) := by decide +kernel
theorem dL_law_1247 : decode cL_law 1247 = .ok (.invokevirtual 146, 3) := by decide +kernel
theorem dL_law_1250 : decode cL_law 1250 = .ok (.aload_n 2, 1) := by decide +kernel
theorem dL_law_1251 : decode cL_law 1251 = .ok (.aload_n 0, 1) := by decide +kernel
theorem dL_law_1252 : decode cL_law 1252 = .ok (.iload_n 3, 1) := by decide +kernel
theorem dL_law_1253 : decode cL_law 1253 = .ok (.iconst 1, 1) := by decide +kernel
theorem dL_law_1254 : decode cL_law 1254 = .ok (.iadd, 1) := by decide +kernel
theorem dL_law_1255 : decode cL_law 1255 = .ok (.iaload, 1) := by decide +kernel
theorem dL_law_1256 : decode cL_law 1256 = .ok (.aload_n 0, 1) := by decide +kernel
theorem dL_law_1257 : decode cL_law 1257 = .ok (.iload_n 3, 1) := by decide +kernel
theorem dL_law_1258 : decode cL_law 1258 = .ok (.iconst 2, 1) := by decide +kernel
theorem dL_law_1259 : decode cL_law 1259 = .ok (.iadd, 1) := by decide +kernel
theorem dL_law_1260 : decode cL_law 1260 = .ok (.iaload, 1) := by decide +kernel
theorem dL_law_1261 : decode cL_law 1261 = .ok (.aload_n 0, 1) := by decide +kernel
theorem dL_law_1262 : decode cL_law 1262 = .ok (.iload_n 3, 1) := by decide +kernel
theorem dL_law_1263 : decode cL_law 1263 = .ok (.iconst 3, 1) := by decide +kernel
theorem dL_law_1264 : decode cL_law 1264 = .ok (.iadd, 1) := by decide +kernel
theorem dL_law_1265 : decode cL_law 1265 = .ok (.iaload, 1) := by decide +kernel
theorem dL_law_1266 : decode cL_law 1266 = .ok (.aload_n 0, 1) := by decide +kernel
theorem dL_law_1267 : decode cL_law 1267 = .ok (.iload_n 3, 1) := by decide +kernel
theorem dL_law_1268 : decode cL_law 1268 = .ok (.iconst 4, 1) := by decide +kernel
theorem dL_law_1269 : decode cL_law 1269 = .ok (.iadd, 1) := by decide +kernel
theorem dL_law_1270 : decode cL_law 1270 = .ok (.iaload, 1) := by decide +kernel
theorem dL_law_1271 : decode cL_law 1271 = .ok (.invokevirtual 150, 3) := by decide +kernel
theorem dL_law_1274 : decode cL_law 1274 = .ok (.if_icmp .eq 5, 3) := by decide +kernel
theorem dL_law_1277 : decode cL_law 1277 = .ok (.iconst 0, 1) := by decide +kernel
theorem dL_law_1278 : decode cL_law 1278 = .ok (.ireturn, 1) := by decide +kernel
theorem dL_law_1279 : decode cL_law 1279 = .ok (.iinc 3 7, 3) := by decide +kernel
theorem dL_law_1282 : decode cL_law 1282 = .ok (.goto (-1264), 3) := by decide +kernel
theorem dL_law_1285 : decode cL_law 1285 = .ok (.iconst 1, 1) := by decide +kernel
theorem dL_law_1286 : decode cL_law 1286 = .ok (.ireturn, 1) := by decide +kernel
