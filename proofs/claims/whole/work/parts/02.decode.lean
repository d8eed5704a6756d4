theorem dX0_init_0 : decode cX0_init 0 = .ok (.aload_n 0, 1) := by decide +kernel
theorem dX0_init_1 : decode cX0_init 1 = .ok (.invokespecial 3, 3) := by decide +kernel
theorem dX0_init_4 : decode cX0_init 4 = .ok (.return_, 1) := by decide +kernel
theorem dX0_begin_0 : decode cX0_begin 0 = .ok (.aload_n 0, 1) := by decide +kernel
theorem dX0_begin_1 : decode cX0_begin 1 = .ok (.iload_n 1, 1) := by decide +kernel
theorem dX0_begin_2 : decode cX0_begin 2 = .ok (.putfield 9, 3) := by decide +kernel
theorem dX0_begin_5 : decode cX0_begin 5 = .ok (.aload_n 0, 1) := by decide +kernel
theorem dX0_begin_6 : decode cX0_begin 6 = .ok (.iload_n 2, 1) := by decide +kernel
theorem dX0_begin_7 : decode cX0_begin 7 = .ok (.putfield 15, 3) := by decide +kernel
theorem dX0_begin_10 : decode cX0_begin 10 = .ok (.aload_n 0, 1) := by decide +kernel
theorem dX0_begin_11 : decode cX0_begin 11 = .ok (.iload_n 3, 1) := by decide +kernel
theorem dX0_begin_12 : decode cX0_begin 12 = .ok (.putfield 18, 3) := by decide +kernel
theorem dX0_begin_15 : decode cX0_begin 15 = .ok (.aload_n 0, 1) := by decide +kernel
theorem dX0_begin_16 : decode cX0_begin 16 = .ok (.iload 4, 2) := by decide +kernel
theorem dX0_begin_18 : decode cX0_begin 18 = .ok (.putfield 21, 3) := by decide +kernel
theorem dX0_begin_21 : decode cX0_begin 21 = .ok (.aload_n 0, 1) := by decide +kernel
theorem dX0_begin_22 : decode cX0_begin 22 = .ok (.iload 5, 2) := by decide +kernel
theorem dX0_begin_24 : decode cX0_begin 24 = .ok (.putfield 24, 3) := by decide +kernel
theorem dX0_begin_27 : decode cX0_begin 27 = .ok (.aload_n 0, 1) := by decide +kernel
theorem dX0_begin_28 : decode cX0_begin 28 = .ok (.iload 6, 2) := by decide +kernel
theorem dX0_begin_30 : decode cX0_begin 30 = .ok (.putfield 27, 3) := by decide +kernel
theorem dX0_begin_33 : decode cX0_begin 33 = .ok (.aload_n 0, 1) := by decide +kernel
theorem dX0_begin_34 : decode cX0_begin 34 = .ok (.iconst 0, 1) := by decide +kernel
theorem dX0_begin_35 : decode cX0_begin 35 = .ok (.putfield 30, 3) := by decide +kernel
theorem dX0_begin_38 : decode cX0_begin 38 = .ok (.return_, 1) := by decide +kernel
theorem dX0_become_0 : decode cX0_become 0 = .ok (.aload_n 0, 1) := by decide +kernel
theorem dX0_become_1 : decode cX0_become 1 = .ok (.aload_n 1, 1) := by decide +kernel
theorem dX0_become_2 : decode cX0_become 2 = .ok (.getfield 9, 3) := by decide +kernel
theorem dX0_become_5 : decode cX0_become 5 = .ok (.aload_n 1, 1) := by decide +kernel
theorem dX0_become_6 : decode cX0_become 6 = .ok (.getfield 15, 3) := by decide +kernel
theorem dX0_become_9 : decode cX0_become 9 = .ok (.aload_n 1, 1) := by decide +kernel
theorem dX0_become_10 : decode cX0_become 10 = .ok (.getfield 18, 3) := by decide +kernel
theorem dX0_become_13 : decode cX0_become 13 = .ok (.aload_n 1, 1) := by decide +kernel
theorem dX0_become_14 : decode cX0_become 14 = .ok (.getfield 21, 3) := by decide +kernel
theorem dX0_become_17 : decode cX0_become 17 = .ok (.aload_n 1, 1) := by decide +kernel
theorem dX0_become_18 : decode cX0_become 18 = .ok (.getfield 24, 3) := by decide +kernel
theorem dX0_become_21 : decode cX0_become 21 = .ok (.aload_n 1, 1) := by decide +kernel
theorem dX0_become_22 : decode cX0_become 22 = .ok (.getfield 27, 3) := by decide +kernel
theorem dX0_become_25 : decode cX0_become 25 = .ok (.invokevirtual 33, 3) := by decide +kernel
theorem dX0_become_28 : decode cX0_become 28 = .ok (.aload_n 0, 1) := by decide +kernel
theorem dX0_become_29 : decode cX0_become 29 = .ok (.aload_n 1, 1) := by decide +kernel
theorem dX0_become_30 : decode cX0_become 30 = .ok (.getfield 30, 3) := by decide +kernel
theorem dX0_become_33 : decode cX0_become 33 = .ok (.putfield 30, 3) := by decide +kernel
theorem dX0_become_36 : decode cX0_become 36 = .ok (.return_, 1) := by decide +kernel
theorem dX0_term_0 : decode cX0_term 0 = .ok (.iload_n 1, 1) := by decide +kernel
theorem dX0_term_1 : decode cX0_term 1 = .ok (.tableswitch 69 0 5 #[39, 44, 49, 54, 59, 64], 39) := by decide +kernel
theorem dX0_term_40 : decode cX0_term 40 = .ok (.aload_n 0, 1) := by decide +kernel
theorem dX0_term_41 : decode cX0_term 41 = .ok (.getfield 9, 3) := by decide +kernel
theorem dX0_term_44 : decode cX0_term 44 = .ok (.ireturn, 1) := by decide +kernel
theorem dX0_term_45 : decode cX0_term 45 = .ok (.aload_n 0, 1) := by decide +kernel
theorem dX0_term_46 : decode cX0_term 46 = .ok (.getfield 15, 3) := by decide +kernel
theorem dX0_term_49 : decode cX0_term 49 = .ok (.ireturn, 1) := by decide +kernel
theorem dX0_term_50 : decode cX0_term 50 = .ok (.aload_n 0, 1) := by decide +kernel
theorem dX0_term_51 : decode cX0_term 51 = .ok (.getfield 18, 3) := by decide +kernel
theorem dX0_term_54 : decode cX0_term 54 = .ok (.ireturn, 1) := by decide +kernel
theorem dX0_term_55 : decode cX0_term 55 = .ok (.aload_n 0, 1) := by decide +kernel
theorem dX0_term_56 : decode cX0_term 56 = .ok (.getfield 21, 3) := by decide +kernel
theorem dX0_term_59 : decode cX0_term 59 = .ok (.ireturn, 1) := by decide +kernel
theorem dX0_term_60 : decode cX0_term 60 = .ok (.aload_n 0, 1) := by decide +kernel
theorem dX0_term_61 : decode cX0_term 61 = .ok (.getfield 24, 3) := by decide +kernel
theorem dX0_term_64 : decode cX0_term 64 = .ok (.ireturn, 1) := by decide +kernel
theorem dX0_term_65 : decode cX0_term 65 = .ok (.aload_n 0, 1) := by decide +kernel
theorem dX0_term_66 : decode cX0_term 66 = .ok (.getfield 27, 3) := by decide +kernel
theorem dX0_term_69 : decode cX0_term 69 = .ok (.ireturn, 1) := by decide +kernel
theorem dX0_term_70 : decode cX0_term 70 = .ok (.aload_n 0, 1) := by decide +kernel
theorem dX0_term_71 : decode cX0_term 71 = .ok (.getfield 30, 3) := by decide +kernel
theorem dX0_term_74 : decode cX0_term 74 = .ok (.ireturn, 1) := by decide +kernel
theorem dX0_isOfKind_0 : decode cX0_isOfKind 0 = .ok (.aload_n 0, 1) := by decide +kernel
theorem dX0_isOfKind_1 : decode cX0_isOfKind 1 = .ok (.getfield 9, 3) := by decide +kernel
theorem dX0_isOfKind_4 : decode cX0_isOfKind 4 = .ok (.istore_n 2, 1) := by decide +kernel
theorem dX0_isOfKind_5 : decode cX0_isOfKind 5 = .ok (.iconst 0, 1) := by decide +kernel
theorem dX0_isOfKind_6 : decode cX0_isOfKind 6 = .ok (.istore_n 3, 1) := by decide +kernel
theorem dX0_isOfKind_7 : decode cX0_isOfKind 7 = .ok (.iload_n 3, 1) := by decide +kernel
theorem dX0_isOfKind_8 : decode cX0_isOfKind 8 = .ok (.getstatic 37, 3) := by decide +kernel
theorem dX0_isOfKind_11 : decode cX0_isOfKind 11 = .ok (.arraylength, 1) := by decide +kernel
theorem dX0_isOfKind_12 : decode cX0_isOfKind 12 = .ok (.if_icmp .ge 27, 3) := by decide +kernel
theorem dX0_isOfKind_15 : decode cX0_isOfKind 15 = .ok (.iload_n 2, 1) := by decide +kernel
theorem dX0_isOfKind_16 : decode cX0_isOfKind 16 = .ok (.iconst (-1), 1) := by decide +kernel
theorem dX0_isOfKind_17 : decode cX0_isOfKind 17 = .ok (.if_icmp .eq 22, 3) := by decide +kernel
theorem dX0_isOfKind_20 : decode cX0_isOfKind 20 = .ok (.iload_n 2, 1) := by decide +kernel
theorem dX0_isOfKind_21 : decode cX0_isOfKind 21 = .ok (.iload_n 1, 1) := by decide +kernel
theorem dX0_isOfKind_22 : decode cX0_isOfKind 22 = .ok (.if_icmp .ne 5, 3) := by decide +kernel
theorem dX0_isOfKind_25 : decode cX0_isOfKind 25 = .ok (.iconst 1, 1) := by decide +kernel
theorem dX0_isOfKind_26 : decode cX0_isOfKind 26 = .ok (.ireturn, 1) := by decide +kernel
theorem dX0_isOfKind_27 : decode cX0_isOfKind 27 = .ok (.getstatic 37, 3) := by decide +kernel
theorem dX0_isOfKind_30 : decode cX0_isOfKind 30 = .ok (.iload_n 2, 1) := by decide +kernel
theorem dX0_isOfKind_31 : decode cX0_isOfKind 31 = .ok (.iaload, 1) := by decide +kernel
theorem dX0_isOfKind_32 : decode cX0_isOfKind 32 = .ok (.istore_n 2, 1) := by decide +kernel
theorem dX0_isOfKind_33 : decode cX0_isOfKind 33 = .ok (.iinc 3 1, 3) := by decide +kernel
theorem dX0_isOfKind_36 : decode cX0_isOfKind 36 = .ok (.goto (-29), 3) := by decide +kernel
theorem dX0_isOfKind_39 : decode cX0_isOfKind 39 = .ok (.iconst 0, 1) := by decide +kernel
theorem dX0_isOfKind_40 : decode cX0_isOfKind 40 = .ok (.ireturn, 1) := by decide +kernel
theorem dX0_layPayings_0 : decode cX0_layPayings 0 = .ok (.aload_n 1, 1) := by decide +kernel
theorem dX0_layPayings_1 : decode cX0_layPayings 1 = .ok (.iconst 0, 1) := by decide +kernel
theorem dX0_layPayings_2 : decode cX0_layPayings 2 = .ok (.invokestatic 41, 3) := by decide +kernel
theorem dX0_layPayings_5 : decode cX0_layPayings 5 = .ok (.iconst 0, 1) := by decide +kernel
theorem dX0_layPayings_6 : decode cX0_layPayings 6 = .ok (.istore_n 3, 1) := by decide +kernel
theorem dX0_layPayings_7 : decode cX0_layPayings 7 = .ok (.aload_n 0, 1) := by decide +kernel
theorem dX0_layPayings_8 : decode cX0_layPayings 8 = .ok (.getfield 21, 3) := by decide +kernel
theorem dX0_layPayings_11 : decode cX0_layPayings 11 = .ok (.istore 4, 2) := by decide +kernel
theorem dX0_layPayings_13 : decode cX0_layPayings 13 = .ok (.iconst 1, 1) := by decide +kernel
theorem dX0_layPayings_14 : decode cX0_layPayings 14 = .ok (.istore 5, 2) := by decide +kernel
theorem dX0_layPayings_16 : decode cX0_layPayings 16 = .ok (.iload 5, 2) := by decide +kernel
theorem dX0_layPayings_18 : decode cX0_layPayings 18 = .ok (.aload_n 0, 1) := by decide +kernel
theorem dX0_layPayings_19 : decode cX0_layPayings 19 = .ok (.getfield 24, 3) := by decide +kernel
theorem dX0_layPayings_22 : decode cX0_layPayings 22 = .ok (.if_icmp .gt 79, 3) := by decide +kernel
theorem dX0_layPayings_25 : decode cX0_layPayings 25 = .ok (.iload 5, 2) := by decide +kernel
theorem dX0_layPayings_27 : decode cX0_layPayings 27 = .ok (.iload 4, 2) := by decide +kernel
theorem dX0_layPayings_29 : decode cX0_layPayings 29 = .ok (.if_icmp .eq 12, 3) := by decide +kernel
theorem dX0_layPayings_32 : decode cX0_layPayings 32 = .ok (.iload 5, 2) := by decide +kernel
theorem dX0_layPayings_34 : decode cX0_layPayings 34 = .ok (.aload_n 0, 1) := by decide +kernel
theorem dX0_layPayings_35 : decode cX0_layPayings 35 = .ok (.getfield 24, 3) := by decide +kernel
theorem dX0_layPayings_38 : decode cX0_layPayings 38 = .ok (.if_icmp .ne 57, 3) := by decide +kernel
theorem dX0_layPayings_41 : decode cX0_layPayings 41 = .ok (.aload_n 1, 1) := by decide +kernel
theorem dX0_layPayings_42 : decode cX0_layPayings 42 = .ok (.iload 5, 2) := by decide +kernel
theorem dX0_layPayings_44 : decode cX0_layPayings 44 = .ok (.aload_n 0, 1) := by decide +kernel
theorem dX0_layPayings_45 : decode cX0_layPayings 45 = .ok (.iload 5, 2) := by decide +kernel
theorem dX0_layPayings_47 : decode cX0_layPayings 47 = .ok (.iload_n 3, 1) := by decide +kernel
theorem dX0_layPayings_48 : decode cX0_layPayings 48 = .ok (.aload_n 2, 1) := by decide +kernel
theorem dX0_layPayings_49 : decode cX0_layPayings 49 = .ok (.iload 5, 2) := by decide +kernel
theorem dX0_layPayings_51 : decode cX0_layPayings 51 = .ok (.iaload, 1) := by decide +kernel
theorem dX0_layPayings_52 : decode cX0_layPayings 52 = .ok (.invokevirtual 47, 3) := by decide +kernel
theorem dX0_layPayings_55 : decode cX0_layPayings 55 = .ok (.iastore, 1) := by decide +kernel
theorem dX0_layPayings_56 : decode cX0_layPayings 56 = .ok (.aload_n 0, 1) := by decide +kernel
theorem dX0_layPayings_57 : decode cX0_layPayings 57 = .ok (.iload 5, 2) := by decide +kernel
theorem dX0_layPayings_59 : decode cX0_layPayings 59 = .ok (.aload_n 2, 1) := by decide +kernel
theorem dX0_layPayings_60 : decode cX0_layPayings 60 = .ok (.iload 5, 2) := by decide +kernel
theorem dX0_layPayings_62 : decode cX0_layPayings 62 = .ok (.iaload, 1) := by decide +kernel
theorem dX0_layPayings_63 : decode cX0_layPayings 63 = .ok (.invokevirtual 51, 3) := by decide +kernel
theorem dX0_layPayings_66 : decode cX0_layPayings 66 = .ok (.ifCond .eq 17, 3) := by decide +kernel
theorem dX0_layPayings_69 : decode cX0_layPayings 69 = .ok (.aload_n 1, 1) := by decide +kernel
theorem dX0_layPayings_70 : decode cX0_layPayings 70 = .ok (.iload 5, 2) := by decide +kernel
theorem dX0_layPayings_72 : decode cX0_layPayings 72 = .ok (.dup2, 1) := by decide +kernel
theorem dX0_layPayings_73 : decode cX0_layPayings 73 = .ok (.iaload, 1) := by decide +kernel
theorem dX0_layPayings_74 : decode cX0_layPayings 74 = .ok (.aload_n 0, 1) := by decide +kernel
theorem dX0_layPayings_75 : decode cX0_layPayings 75 = .ok (.getfield 27, 3) := by decide +kernel
theorem dX0_layPayings_78 : decode cX0_layPayings 78 = .ok (.iadd, 1) := by decide +kernel
theorem dX0_layPayings_79 : decode cX0_layPayings 79 = .ok (.iastore, 1) := by decide +kernel
theorem dX0_layPayings_80 : decode cX0_layPayings 80 = .ok (.goto 21, 3) := by decide +kernel
theorem dX0_layPayings_83 : decode cX0_layPayings 83 = .ok (.iinc 3 1, 3) := by decide +kernel
theorem dX0_layPayings_86 : decode cX0_layPayings 86 = .ok (.iload 4, 2) := by decide +kernel
theorem dX0_layPayings_88 : decode cX0_layPayings 88 = .ok (.aload_n 0, 1) := by decide +kernel
theorem dX0_layPayings_89 : decode cX0_layPayings 89 = .ok (.getfield 21, 3) := by decide +kernel
theorem dX0_layPayings_92 : decode cX0_layPayings 92 = .ok (.iadd, 1) := by decide +kernel
theorem dX0_layPayings_93 : decode cX0_layPayings 93 = .ok (.istore 4, 2) := by decide +kernel
theorem dX0_layPayings_95 : decode cX0_layPayings 95 = .ok (.iinc 5 1, 3) := by decide +kernel
theorem dX0_layPayings_98 : decode cX0_layPayings 98 = .ok (.goto (-82), 3) := by decide +kernel
theorem dX0_layPayings_101 : decode cX0_layPayings 101 = .ok (.return_, 1) := by decide +kernel
theorem dX0_isCalledOn_0 : decode cX0_isCalledOn 0 = .ok (.aload_n 0, 1) := by decide +kernel
theorem dX0_isCalledOn_1 : decode cX0_isCalledOn 1 = .ok (.getfield 9, 3) := by decide +kernel
theorem dX0_isCalledOn_4 : decode cX0_isCalledOn 4 = .ok (.iconst 5, 1) := by decide +kernel
theorem dX0_isCalledOn_5 : decode cX0_isCalledOn 5 = .ok (.if_icmp .ne 19, 3) := by decide +kernel
theorem dX0_isCalledOn_8 : decode cX0_isCalledOn 8 = .ok (.iload_n 2, 1) := by decide +kernel
theorem dX0_isCalledOn_9 : decode cX0_isCalledOn 9 = .ok (.ifCond .ne 15, 3) := by decide +kernel
theorem dX0_isCalledOn_12 : decode cX0_isCalledOn 12 = .ok (.iload_n 1, 1) := by decide +kernel
theorem dX0_isCalledOn_13 : decode cX0_isCalledOn 13 = .ok (.aload_n 0, 1) := by decide +kernel
theorem dX0_isCalledOn_14 : decode cX0_isCalledOn 14 = .ok (.getfield 24, 3) := by decide +kernel
theorem dX0_isCalledOn_17 : decode cX0_isCalledOn 17 = .ok (.if_icmp .ge 7, 3) := by decide +kernel
theorem dX0_isCalledOn_20 : decode cX0_isCalledOn 20 = .ok (.iconst 1, 1) := by decide +kernel
theorem dX0_isCalledOn_21 : decode cX0_isCalledOn 21 = .ok (.goto 4, 3) := by decide +kernel
theorem dX0_isCalledOn_24 : decode cX0_isCalledOn 24 = .ok (.iconst 0, 1) := by decide +kernel
theorem dX0_isCalledOn_25 : decode cX0_isCalledOn 25 = .ok (.ireturn, 1) := by decide +kernel
theorem dX0_payingOn_0 : decode cX0_payingOn 0 = .ok (.iload_n 1, 1) := by decide +kernel
theorem dX0_payingOn_1 : decode cX0_payingOn 1 = .ok (.aload_n 0, 1) := by decide +kernel
theorem dX0_payingOn_2 : decode cX0_payingOn 2 = .ok (.getfield 24, 3) := by decide +kernel
theorem dX0_payingOn_5 : decode cX0_payingOn 5 = .ok (.if_icmp .ne 10, 3) := by decide +kernel
theorem dX0_payingOn_8 : decode cX0_payingOn 8 = .ok (.aload_n 0, 1) := by decide +kernel
theorem dX0_payingOn_9 : decode cX0_payingOn 9 = .ok (.getfield 27, 3) := by decide +kernel
theorem dX0_payingOn_12 : decode cX0_payingOn 12 = .ok (.goto 4, 3) := by decide +kernel
theorem dX0_payingOn_15 : decode cX0_payingOn 15 = .ok (.iconst 0, 1) := by decide +kernel
theorem dX0_payingOn_16 : decode cX0_payingOn 16 = .ok (.istore 4, 2) := by decide +kernel
theorem dX0_payingOn_18 : decode cX0_payingOn 18 = .ok (.aload_n 0, 1) := by decide +kernel
theorem dX0_payingOn_19 : decode cX0_payingOn 19 = .ok (.getfield 9, 3) := by decide +kernel
theorem dX0_payingOn_22 : decode cX0_payingOn 22 = .ok (.tableswitch 103 1 5 #[34, 37, 47, 86, 37], 34) := by decide +kernel
theorem dX0_payingOn_56 : decode cX0_payingOn 56 = .ok (.iload 4, 2) := by decide +kernel
theorem dX0_payingOn_58 : decode cX0_payingOn 58 = .ok (.ireturn, 1) := by decide +kernel
theorem dX0_payingOn_59 : decode cX0_payingOn 59 = .ok (.aload_n 0, 1) := by decide +kernel
theorem dX0_payingOn_60 : decode cX0_payingOn 60 = .ok (.getfield 18, 3) := by decide +kernel
theorem dX0_payingOn_63 : decode cX0_payingOn 63 = .ok (.iload_n 2, 1) := by decide +kernel
theorem dX0_payingOn_64 : decode cX0_payingOn 64 = .ok (.iadd, 1) := by decide +kernel
theorem dX0_payingOn_65 : decode cX0_payingOn 65 = .ok (.iload 4, 2) := by decide +kernel
theorem dX0_payingOn_67 : decode cX0_payingOn 67 = .ok (.iadd, 1) := by decide +kernel
theorem dX0_payingOn_68 : decode cX0_payingOn 68 = .ok (.ireturn, 1) := by decide +kernel
theorem dX0_payingOn_69 : decode cX0_payingOn 69 = .ok (.iload_n 2, 1) := by decide +kernel
theorem dX0_payingOn_70 : decode cX0_payingOn 70 = .ok (.ifCond .ne 12, 3) := by decide +kernel
theorem dX0_payingOn_73 : decode cX0_payingOn 73 = .ok (.aload_n 0, 1) := by decide +kernel
theorem dX0_payingOn_74 : decode cX0_payingOn 74 = .ok (.getfield 27, 3) := by decide +kernel
theorem dX0_payingOn_77 : decode cX0_payingOn 77 = .ok (.iconst 2, 1) := by decide +kernel
theorem dX0_payingOn_78 : decode cX0_payingOn 78 = .ok (.idiv, 1) := by decide +kernel
theorem dX0_payingOn_79 : decode cX0_payingOn 79 = .ok (.goto 4, 3) := by decide +kernel
theorem dX0_payingOn_82 : decode cX0_payingOn 82 = .ok (.iconst 0, 1) := by decide +kernel
theorem dX0_payingOn_83 : decode cX0_payingOn 83 = .ok (.iload_n 1, 1) := by decide +kernel
theorem dX0_payingOn_84 : decode cX0_payingOn 84 = .ok (.aload_n 0, 1) := by decide +kernel
theorem dX0_payingOn_85 : decode cX0_payingOn 85 = .ok (.getfield 24, 3) := by decide +kernel
theorem dX0_payingOn_88 : decode cX0_payingOn 88 = .ok (.if_icmp .ne 17, 3) := by decide +kernel
theorem dX0_payingOn_91 : decode cX0_payingOn 91 = .ok (.aload_n 0, 1) := by decide +kernel
theorem dX0_payingOn_92 : decode cX0_payingOn 92 = .ok (.getfield 27, 3) := by decide +kernel
theorem dX0_payingOn_95 : decode cX0_payingOn 95 = .ok (.aload_n 0, 1) := by decide +kernel
theorem dX0_payingOn_96 : decode cX0_payingOn 96 = .ok (.getfield 27, 3) := by decide +kernel
theorem dX0_payingOn_99 : decode cX0_payingOn 99 = .ok (.iconst 2, 1) := by decide +kernel
theorem dX0_payingOn_100 : decode cX0_payingOn 100 = .ok (.idiv, 1) := by decide +kernel
theorem dX0_payingOn_101 : decode cX0_payingOn 101 = .ok (.isub, 1) := by decide +kernel
theorem dX0_payingOn_102 : decode cX0_payingOn 102 = .ok (.goto 4, 3) := by decide +kernel
theorem dX0_payingOn_105 : decode cX0_payingOn 105 = .ok (.iconst 0, 1) := by decide +kernel
theorem dX0_payingOn_106 : decode cX0_payingOn 106 = .ok (.iadd, 1) := by decide +kernel
theorem dX0_payingOn_107 : decode cX0_payingOn 107 = .ok (.ireturn, 1) := by decide +kernel
theorem dX0_payingOn_108 : decode cX0_payingOn 108 = .ok (.aload_n 0, 1) := by decide +kernel
theorem dX0_payingOn_109 : decode cX0_payingOn 109 = .ok (.getfield 18, 3) := by decide +kernel
theorem dX0_payingOn_112 : decode cX0_payingOn 112 = .ok (.iload_n 2, 1) := by decide +kernel
theorem dX0_payingOn_113 : decode cX0_payingOn 113 = .ok (.iadd, 1) := by decide +kernel
theorem dX0_payingOn_114 : decode cX0_payingOn 114 = .ok (.aload_n 0, 1) := by decide +kernel
theorem dX0_payingOn_115 : decode cX0_payingOn 115 = .ok (.getfield 18, 3) := by decide +kernel
theorem dX0_payingOn_118 : decode cX0_payingOn 118 = .ok (.iload_n 3, 1) := by decide +kernel
theorem dX0_payingOn_119 : decode cX0_payingOn 119 = .ok (.imul, 1) := by decide +kernel
theorem dX0_payingOn_120 : decode cX0_payingOn 120 = .ok (.iadd, 1) := by decide +kernel
theorem dX0_payingOn_121 : decode cX0_payingOn 121 = .ok (.iload 4, 2) := by decide +kernel
theorem dX0_payingOn_123 : decode cX0_payingOn 123 = .ok (.iadd, 1) := by decide +kernel
theorem dX0_payingOn_124 : decode cX0_payingOn 124 = .ok (.ireturn, 1) := by decide +kernel
theorem dX0_payingOn_125 : decode cX0_payingOn 125 = .ok (.aload_n 0, 1) := by decide +kernel
theorem dX0_payingOn_126 : decode cX0_payingOn 126 = .ok (.getfield 18, 3) := by decide +kernel
theorem dX0_payingOn_129 : decode cX0_payingOn 129 = .ok (.iload 4, 2) := by decide +kernel
theorem dX0_payingOn_131 : decode cX0_payingOn 131 = .ok (.iadd, 1) := by decide +kernel
theorem dX0_payingOn_132 : decode cX0_payingOn 132 = .ok (.ireturn, 1) := by decide +kernel
theorem dX1_init_0 : decode cX1_init 0 = .ok (.aload_n 0, 1) := by decide +kernel
theorem dX1_init_1 : decode cX1_init 1 = .ok (.invokespecial 3, 3) := by decide +kernel
theorem dX1_init_4 : decode cX1_init 4 = .ok (.aload_n 0, 1) := by decide +kernel
theorem dX1_init_5 : decode cX1_init 5 = .ok (.new 9, 3) := by decide +kernel
theorem dX1_init_8 : decode cX1_init 8 = .ok (.dup, 1) := by decide +kernel
theorem dX1_init_9 : decode cX1_init 9 = .ok (.iconst 0, 1) := by decide +kernel
theorem dX1_init_10 : decode cX1_init 10 = .ok (.iconst 5, 1) := by decide +kernel
theorem dX1_init_11 : decode cX1_init 11 = .ok (.invokespecial 11, 3) := by decide +kernel
theorem dX1_init_14 : decode cX1_init 14 = .ok (.putfield 14, 3) := by decide +kernel
theorem dX1_init_17 : decode cX1_init 17 = .ok (.aload_n 0, 1) := by decide +kernel
theorem dX1_init_18 : decode cX1_init 18 = .ok (.new 9, 3) := by decide +kernel
theorem dX1_init_21 : decode cX1_init 21 = .ok (.dup, 1) := by decide +kernel
theorem dX1_init_22 : decode cX1_init 22 = .ok (.iconst (-1), 1) := by decide +kernel
theorem dX1_init_23 : decode cX1_init 23 = .ok (.bipush 6, 2) := by decide +kernel
theorem dX1_init_25 : decode cX1_init 25 = .ok (.invokespecial 11, 3) := by decide +kernel
theorem dX1_init_28 : decode cX1_init 28 = .ok (.putfield 20, 3) := by decide +kernel
theorem dX1_init_31 : decode cX1_init 31 = .ok (.aload_n 0, 1) := by decide +kernel
theorem dX1_init_32 : decode cX1_init 32 = .ok (.new 9, 3) := by decide +kernel
theorem dX1_init_35 : decode cX1_init 35 = .ok (.dup, 1) := by decide +kernel
theorem dX1_init_36 : decode cX1_init 36 = .ok (.iconst (-1), 1) := by decide +kernel
theorem dX1_init_37 : decode cX1_init 37 = .ok (.iconst 5, 1) := by decide +kernel
theorem dX1_init_38 : decode cX1_init 38 = .ok (.invokespecial 11, 3) := by decide +kernel
theorem dX1_init_41 : decode cX1_init 41 = .ok (.putfield 23, 3) := by decide +kernel
theorem dX1_init_44 : decode cX1_init 44 = .ok (.aload_n 0, 1) := by decide +kernel
theorem dX1_init_45 : decode cX1_init 45 = .ok (.iconst 5, 1) := by decide +kernel
theorem dX1_init_46 : decode cX1_init 46 = .ok (.anewarray 26, 3) := by decide +kernel
theorem dX1_init_49 : decode cX1_init 49 = .ok (.putfield 28, 3) := by decide +kernel
theorem dX1_init_52 : decode cX1_init 52 = .ok (.iconst 0, 1) := by decide +kernel
theorem dX1_init_53 : decode cX1_init 53 = .ok (.istore_n 1, 1) := by decide +kernel
theorem dX1_init_54 : decode cX1_init 54 = .ok (.iload_n 1, 1) := by decide +kernel
theorem dX1_init_55 : decode cX1_init 55 = .ok (.iconst 5, 1) := by decide +kernel
theorem dX1_init_56 : decode cX1_init 56 = .ok (.if_icmp .ge 22, 3) := by decide +kernel
theorem dX1_init_59 : decode cX1_init 59 = .ok (.aload_n 0, 1) := by decide +kernel
theorem dX1_init_60 : decode cX1_init 60 = .ok (.getfield 28, 3) := by decide +kernel
theorem dX1_init_63 : decode cX1_init 63 = .ok (.iload_n 1, 1) := by decide +kernel
theorem dX1_init_64 : decode cX1_init 64 = .ok (.new 26, 3) := by decide +kernel
theorem dX1_init_67 : decode cX1_init 67 = .ok (.dup, 1) := by decide +kernel
theorem dX1_init_68 : decode cX1_init 68 = .ok (.invokespecial 32, 3) := by decide +kernel
theorem dX1_init_71 : decode cX1_init 71 = .ok (.aastore, 1) := by decide +kernel
theorem dX1_init_72 : decode cX1_init 72 = .ok (.iinc 1 1, 3) := by decide +kernel
theorem dX1_init_75 : decode cX1_init 75 = .ok (.goto (-21), 3) := by decide +kernel
theorem dX1_init_78 : decode cX1_init 78 = .ok (.return_, 1) := by decide +kernel
theorem dX1_hasBond_0 : decode cX1_hasBond 0 = .ok (.iload_n 1, 1) := by decide +kernel
theorem dX1_hasBond_1 : decode cX1_hasBond 1 = .ok (.ifCond .lt 15, 3) := by decide +kernel
theorem dX1_hasBond_4 : decode cX1_hasBond 4 = .ok (.iload_n 1, 1) := by decide +kernel
theorem dX1_hasBond_5 : decode cX1_hasBond 5 = .ok (.aload_n 0, 1) := by decide +kernel
theorem dX1_hasBond_6 : decode cX1_hasBond 6 = .ok (.getfield 33, 3) := by decide +kernel
theorem dX1_hasBond_9 : decode cX1_hasBond 9 = .ok (.if_icmp .ge 7, 3) := by decide +kernel
theorem dX1_hasBond_12 : decode cX1_hasBond 12 = .ok (.iconst 1, 1) := by decide +kernel
theorem dX1_hasBond_13 : decode cX1_hasBond 13 = .ok (.goto 4, 3) := by decide +kernel
theorem dX1_hasBond_16 : decode cX1_hasBond 16 = .ok (.iconst 0, 1) := by decide +kernel
theorem dX1_hasBond_17 : decode cX1_hasBond 17 = .ok (.ireturn, 1) := by decide +kernel
theorem dX1_countHeld_0 : decode cX1_countHeld 0 = .ok (.iconst 0, 1) := by decide +kernel
theorem dX1_countHeld_1 : decode cX1_countHeld 1 = .ok (.istore_n 1, 1) := by decide +kernel
theorem dX1_countHeld_2 : decode cX1_countHeld 2 = .ok (.iconst 0, 1) := by decide +kernel
theorem dX1_countHeld_3 : decode cX1_countHeld 3 = .ok (.istore_n 2, 1) := by decide +kernel
theorem dX1_countHeld_4 : decode cX1_countHeld 4 = .ok (.iload_n 2, 1) := by decide +kernel
theorem dX1_countHeld_5 : decode cX1_countHeld 5 = .ok (.aload_n 0, 1) := by decide +kernel
theorem dX1_countHeld_6 : decode cX1_countHeld 6 = .ok (.getfield 33, 3) := by decide +kernel
theorem dX1_countHeld_9 : decode cX1_countHeld 9 = .ok (.if_icmp .ge 21, 3) := by decide +kernel
theorem dX1_countHeld_12 : decode cX1_countHeld 12 = .ok (.iload_n 1, 1) := by decide +kernel
theorem dX1_countHeld_13 : decode cX1_countHeld 13 = .ok (.aload_n 0, 1) := by decide +kernel
theorem dX1_countHeld_14 : decode cX1_countHeld 14 = .ok (.getfield 28, 3) := by decide +kernel
theorem dX1_countHeld_17 : decode cX1_countHeld 17 = .ok (.iload_n 2, 1) := by decide +kernel
theorem dX1_countHeld_18 : decode cX1_countHeld 18 = .ok (.aaload, 1) := by decide +kernel
theorem dX1_countHeld_19 : decode cX1_countHeld 19 = .ok (.getfield 37, 3) := by decide +kernel
theorem dX1_countHeld_22 : decode cX1_countHeld 22 = .ok (.iadd, 1) := by decide +kernel
theorem dX1_countHeld_23 : decode cX1_countHeld 23 = .ok (.istore_n 1, 1) := by decide +kernel
theorem dX1_countHeld_24 : decode cX1_countHeld 24 = .ok (.iinc 2 1, 3) := by decide +kernel
theorem dX1_countHeld_27 : decode cX1_countHeld 27 = .ok (.goto (-23), 3) := by decide +kernel
theorem dX1_countHeld_30 : decode cX1_countHeld 30 = .ok (.iload_n 1, 1) := by decide +kernel
theorem dX1_countHeld_31 : decode cX1_countHeld 31 = .ok (.ireturn, 1) := by decide +kernel
theorem dX1_become_0 : decode cX1_become 0 = .ok (.aload_n 0, 1) := by decide +kernel
theorem dX1_become_1 : decode cX1_become 1 = .ok (.getfield 14, 3) := by decide +kernel
theorem dX1_become_4 : decode cX1_become 4 = .ok (.aload_n 1, 1) := by decide +kernel
theorem dX1_become_5 : decode cX1_become 5 = .ok (.getfield 14, 3) := by decide +kernel
theorem dX1_become_8 : decode cX1_become 8 = .ok (.invokevirtual 40, 3) := by decide +kernel
theorem dX1_become_11 : decode cX1_become 11 = .ok (.aload_n 0, 1) := by decide +kernel
theorem dX1_become_12 : decode cX1_become 12 = .ok (.getfield 20, 3) := by decide +kernel
theorem dX1_become_15 : decode cX1_become 15 = .ok (.aload_n 1, 1) := by decide +kernel
theorem dX1_become_16 : decode cX1_become 16 = .ok (.getfield 20, 3) := by decide +kernel
theorem dX1_become_19 : decode cX1_become 19 = .ok (.invokevirtual 40, 3) := by decide +kernel
theorem dX1_become_22 : decode cX1_become 22 = .ok (.aload_n 0, 1) := by decide +kernel
theorem dX1_become_23 : decode cX1_become 23 = .ok (.getfield 23, 3) := by decide +kernel
theorem dX1_become_26 : decode cX1_become 26 = .ok (.aload_n 1, 1) := by decide +kernel
theorem dX1_become_27 : decode cX1_become 27 = .ok (.getfield 23, 3) := by decide +kernel
theorem dX1_become_30 : decode cX1_become 30 = .ok (.invokevirtual 40, 3) := by decide +kernel
theorem dX1_become_33 : decode cX1_become 33 = .ok (.aload_n 0, 1) := by decide +kernel
theorem dX1_become_34 : decode cX1_become 34 = .ok (.aload_n 1, 1) := by decide +kernel
theorem dX1_become_35 : decode cX1_become 35 = .ok (.getfield 33, 3) := by decide +kernel
theorem dX1_become_38 : decode cX1_become 38 = .ok (.putfield 33, 3) := by decide +kernel
theorem dX1_become_41 : decode cX1_become 41 = .ok (.iconst 0, 1) := by decide +kernel
theorem dX1_become_42 : decode cX1_become 42 = .ok (.istore_n 2, 1) := by decide +kernel
theorem dX1_become_43 : decode cX1_become 43 = .ok (.iload_n 2, 1) := by decide +kernel
theorem dX1_become_44 : decode cX1_become 44 = .ok (.iconst 5, 1) := by decide +kernel
theorem dX1_become_45 : decode cX1_become 45 = .ok (.if_icmp .ge 24, 3) := by decide +kernel
theorem dX1_become_48 : decode cX1_become 48 = .ok (.aload_n 0, 1) := by decide +kernel
theorem dX1_become_49 : decode cX1_become 49 = .ok (.getfield 28, 3) := by decide +kernel
theorem dX1_become_52 : decode cX1_become 52 = .ok (.iload_n 2, 1) := by decide +kernel
theorem dX1_become_53 : decode cX1_become 53 = .ok (.aaload, 1) := by decide +kernel
theorem dX1_become_54 : decode cX1_become 54 = .ok (.aload_n 1, 1) := by decide +kernel
theorem dX1_become_55 : decode cX1_become 55 = .ok (.getfield 28, 3) := by decide +kernel
theorem dX1_become_58 : decode cX1_become 58 = .ok (.iload_n 2, 1) := by decide +kernel
theorem dX1_become_59 : decode cX1_become 59 = .ok (.aaload, 1) := by decide +kernel
theorem dX1_become_60 : decode cX1_become 60 = .ok (.invokevirtual 44, 3) := by decide +kernel
theorem dX1_become_63 : decode cX1_become 63 = .ok (.iinc 2 1, 3) := by decide +kernel
theorem dX1_become_66 : decode cX1_become 66 = .ok (.goto (-23), 3) := by decide +kernel
theorem dX1_become_69 : decode cX1_become 69 = .ok (.return_, 1) := by decide +kernel
theorem dX2_init_0 : decode cX2_init 0 = .ok (.aload_n 0, 1) := by decide +kernel
theorem dX2_init_1 : decode cX2_init 1 = .ok (.invokespecial 3, 3) := by decide +kernel
theorem dX2_init_4 : decode cX2_init 4 = .ok (.aload_n 0, 1) := by decide +kernel
theorem dX2_init_5 : decode cX2_init 5 = .ok (.bipush 61, 2) := by decide +kernel
theorem dX2_init_7 : decode cX2_init 7 = .ok (.newarray .int, 2) := by decide +kernel
theorem dX2_init_9 : decode cX2_init 9 = .ok (.putfield 9, 3) := by decide +kernel
theorem dX2_init_12 : decode cX2_init 12 = .ok (.aload_n 0, 1) := by decide +kernel
theorem dX2_init_13 : decode cX2_init 13 = .ok (.iload_n 1, 1) := by decide +kernel
theorem dX2_init_14 : decode cX2_init 14 = .ok (.putfield 15, 3) := by decide +kernel
theorem dX2_init_17 : decode cX2_init 17 = .ok (.aload_n 0, 1) := by decide +kernel
theorem dX2_init_18 : decode cX2_init 18 = .ok (.iload_n 2, 1) := by decide +kernel
theorem dX2_init_19 : decode cX2_init 19 = .ok (.putfield 19, 3) := by decide +kernel
theorem dX2_init_22 : decode cX2_init 22 = .ok (.aload_n 0, 1) := by decide +kernel
theorem dX2_init_23 : decode cX2_init 23 = .ok (.getfield 9, 3) := by decide +kernel
theorem dX2_init_26 : decode cX2_init 26 = .ok (.iload_n 1, 1) := by decide +kernel
theorem dX2_init_27 : decode cX2_init 27 = .ok (.invokestatic 22, 3) := by decide +kernel
theorem dX2_init_30 : decode cX2_init 30 = .ok (.return_, 1) := by decide +kernel
theorem dX2_tell_0 : decode cX2_tell 0 = .ok (.aload_n 0, 1) := by decide +kernel
theorem dX2_tell_1 : decode cX2_tell 1 = .ok (.getfield 9, 3) := by decide +kernel
theorem dX2_tell_4 : decode cX2_tell 4 = .ok (.iload_n 1, 1) := by decide +kernel
theorem dX2_tell_5 : decode cX2_tell 5 = .ok (.iaload, 1) := by decide +kernel
theorem dX2_tell_6 : decode cX2_tell 6 = .ok (.istore_n 3, 1) := by decide +kernel
theorem dX2_tell_7 : decode cX2_tell 7 = .ok (.iload_n 2, 1) := by decide +kernel
theorem dX2_tell_8 : decode cX2_tell 8 = .ok (.aload_n 0, 1) := by decide +kernel
theorem dX2_tell_9 : decode cX2_tell 9 = .ok (.getfield 15, 3) := by decide +kernel
theorem dX2_tell_12 : decode cX2_tell 12 = .ok (.if_icmp .eq 25, 3) := by decide +kernel
theorem dX2_tell_15 : decode cX2_tell 15 = .ok (.iload_n 3, 1) := by decide +kernel
theorem dX2_tell_16 : decode cX2_tell 16 = .ok (.aload_n 0, 1) := by decide +kernel
theorem dX2_tell_17 : decode cX2_tell 17 = .ok (.getfield 15, 3) := by decide +kernel
theorem dX2_tell_20 : decode cX2_tell 20 = .ok (.if_icmp .ne 17, 3) := by decide +kernel
theorem dX2_tell_23 : decode cX2_tell 23 = .ok (.aload_n 0, 1) := by decide +kernel
theorem dX2_tell_24 : decode cX2_tell 24 = .ok (.invokevirtual 28, 3) := by decide +kernel
theorem dX2_tell_27 : decode cX2_tell 27 = .ok (.aload_n 0, 1) := by decide +kernel
theorem dX2_tell_28 : decode cX2_tell 28 = .ok (.getfield 19, 3) := by decide +kernel
theorem dX2_tell_31 : decode cX2_tell 31 = .ok (.if_icmp .lt 6, 3) := by decide +kernel
theorem dX2_tell_34 : decode cX2_tell 34 = .ok (.bipush (-4), 2) := by decide +kernel
theorem dX2_tell_36 : decode cX2_tell 36 = .ok (.ireturn, 1) := by decide +kernel
theorem dX2_tell_37 : decode cX2_tell 37 = .ok (.aload_n 0, 1) := by decide +kernel
theorem dX2_tell_38 : decode cX2_tell 38 = .ok (.getfield 9, 3) := by decide +kernel
theorem dX2_tell_41 : decode cX2_tell 41 = .ok (.iload_n 1, 1) := by decide +kernel
theorem dX2_tell_42 : decode cX2_tell 42 = .ok (.iload_n 2, 1) := by decide +kernel
theorem dX2_tell_43 : decode cX2_tell 43 = .ok (.iastore, 1) := by decide +kernel
theorem dX2_tell_44 : decode cX2_tell 44 = .ok (.iload_n 3, 1) := by decide +kernel
theorem dX2_tell_45 : decode cX2_tell 45 = .ok (.ireturn, 1) := by decide +kernel
theorem dX2_countTold_0 : decode cX2_countTold 0 = .ok (.iconst 0, 1) := by decide +kernel
theorem dX2_countTold_1 : decode cX2_countTold 1 = .ok (.istore_n 1, 1) := by decide +kernel
theorem dX2_countTold_2 : decode cX2_countTold 2 = .ok (.iconst 1, 1) := by decide +kernel
theorem dX2_countTold_3 : decode cX2_countTold 3 = .ok (.istore_n 2, 1) := by decide +kernel
theorem dX2_countTold_4 : decode cX2_countTold 4 = .ok (.iload_n 2, 1) := by decide +kernel
theorem dX2_countTold_5 : decode cX2_countTold 5 = .ok (.bipush 60, 2) := by decide +kernel
theorem dX2_countTold_7 : decode cX2_countTold 7 = .ok (.if_icmp .gt 25, 3) := by decide +kernel
theorem dX2_countTold_10 : decode cX2_countTold 10 = .ok (.aload_n 0, 1) := by decide +kernel
theorem dX2_countTold_11 : decode cX2_countTold 11 = .ok (.getfield 9, 3) := by decide +kernel
theorem dX2_countTold_14 : decode cX2_countTold 14 = .ok (.iload_n 2, 1) := by decide +kernel
theorem dX2_countTold_15 : decode cX2_countTold 15 = .ok (.iaload, 1) := by decide +kernel
theorem dX2_countTold_16 : decode cX2_countTold 16 = .ok (.aload_n 0, 1) := by decide +kernel
theorem dX2_countTold_17 : decode cX2_countTold 17 = .ok (.getfield 15, 3) := by decide +kernel
theorem dX2_countTold_20 : decode cX2_countTold 20 = .ok (.if_icmp .eq 6, 3) := by decide +kernel
theorem dX2_countTold_23 : decode cX2_countTold 23 = .ok (.iinc 1 1, 3) := by decide +kernel
theorem dX2_countTold_26 : decode cX2_countTold 26 = .ok (.iinc 2 1, 3) := by decide +kernel
theorem dX2_countTold_29 : decode cX2_countTold 29 = .ok (.goto (-25), 3) := by decide +kernel
theorem dX2_countTold_32 : decode cX2_countTold 32 = .ok (.iload_n 1, 1) := by decide +kernel
theorem dX2_countTold_33 : decode cX2_countTold 33 = .ok (.ireturn, 1) := by decide +kernel
theorem dX2_become_0 : decode cX2_become 0 = .ok (.aload_n 1, 1) := by decide +kernel
theorem dX2_become_1 : decode cX2_become 1 = .ok (.getfield 9, 3) := by decide +kernel
theorem dX2_become_4 : decode cX2_become 4 = .ok (.iconst 0, 1) := by decide +kernel
theorem dX2_become_5 : decode cX2_become 5 = .ok (.aload_n 0, 1) := by decide +kernel
theorem dX2_become_6 : decode cX2_become 6 = .ok (.getfield 9, 3) := by decide +kernel
theorem dX2_become_9 : decode cX2_become 9 = .ok (.iconst 0, 1) := by decide +kernel
theorem dX2_become_10 : decode cX2_become 10 = .ok (.aload_n 0, 1) := by decide +kernel
theorem dX2_become_11 : decode cX2_become 11 = .ok (.getfield 9, 3) := by decide +kernel
theorem dX2_become_14 : decode cX2_become 14 = .ok (.arraylength, 1) := by decide +kernel
theorem dX2_become_15 : decode cX2_become 15 = .ok (.invokestatic 32, 3) := by decide +kernel
theorem dX2_become_18 : decode cX2_become 18 = .ok (.return_, 1) := by decide +kernel
theorem dX3_init_0 : decode cX3_init 0 = .ok (.aload_n 0, 1) := by decide +kernel
theorem dX3_init_1 : decode cX3_init 1 = .ok (.invokespecial 3, 3) := by decide +kernel
theorem dX3_init_4 : decode cX3_init 4 = .ok (.aload_n 0, 1) := by decide +kernel
theorem dX3_init_5 : decode cX3_init 5 = .ok (.new 9, 3) := by decide +kernel
theorem dX3_init_8 : decode cX3_init 8 = .ok (.dup, 1) := by decide +kernel
theorem dX3_init_9 : decode cX3_init 9 = .ok (.invokespecial 11, 3) := by decide +kernel
theorem dX3_init_12 : decode cX3_init 12 = .ok (.putfield 12, 3) := by decide +kernel
theorem dX3_init_15 : decode cX3_init 15 = .ok (.aload_n 0, 1) := by decide +kernel
theorem dX3_init_16 : decode cX3_init 16 = .ok (.bipush 9, 2) := by decide +kernel
theorem dX3_init_18 : decode cX3_init 18 = .ok (.anewarray 9, 3) := by decide +kernel
theorem dX3_init_21 : decode cX3_init 21 = .ok (.putfield 18, 3) := by decide +kernel
theorem dX3_init_24 : decode cX3_init 24 = .ok (.aload_n 0, 1) := by decide +kernel
theorem dX3_init_25 : decode cX3_init 25 = .ok (.iconst 5, 1) := by decide +kernel
theorem dX3_init_26 : decode cX3_init 26 = .ok (.newarray .int, 2) := by decide +kernel
theorem dX3_init_28 : decode cX3_init 28 = .ok (.putfield 22, 3) := by decide +kernel
theorem dX3_init_31 : decode cX3_init 31 = .ok (.aload_n 0, 1) := by decide +kernel
theorem dX3_init_32 : decode cX3_init 32 = .ok (.new 26, 3) := by decide +kernel
theorem dX3_init_35 : decode cX3_init 35 = .ok (.dup, 1) := by decide +kernel
theorem dX3_init_36 : decode cX3_init 36 = .ok (.invokespecial 28, 3) := by decide +kernel
theorem dX3_init_39 : decode cX3_init 39 = .ok (.putfield 29, 3) := by decide +kernel
theorem dX3_init_42 : decode cX3_init 42 = .ok (.aload_n 0, 1) := by decide +kernel
theorem dX3_init_43 : decode cX3_init 43 = .ok (.new 26, 3) := by decide +kernel
theorem dX3_init_46 : decode cX3_init 46 = .ok (.dup, 1) := by decide +kernel
theorem dX3_init_47 : decode cX3_init 47 = .ok (.invokespecial 28, 3) := by decide +kernel
theorem dX3_init_50 : decode cX3_init 50 = .ok (.putfield 33, 3) := by decide +kernel
theorem dX3_init_53 : decode cX3_init 53 = .ok (.aload_n 0, 1) := by decide +kernel
theorem dX3_init_54 : decode cX3_init 54 = .ok (.new 26, 3) := by decide +kernel
theorem dX3_init_57 : decode cX3_init 57 = .ok (.dup, 1) := by decide +kernel
theorem dX3_init_58 : decode cX3_init 58 = .ok (.invokespecial 28, 3) := by decide +kernel
theorem dX3_init_61 : decode cX3_init 61 = .ok (.putfield 36, 3) := by decide +kernel
theorem dX3_init_64 : decode cX3_init 64 = .ok (.aload_n 0, 1) := by decide +kernel
theorem dX3_init_65 : decode cX3_init 65 = .ok (.new 26, 3) := by decide +kernel
theorem dX3_init_68 : decode cX3_init 68 = .ok (.dup, 1) := by decide +kernel
theorem dX3_init_69 : decode cX3_init 69 = .ok (.invokespecial 28, 3) := by decide +kernel
theorem dX3_init_72 : decode cX3_init 72 = .ok (.putfield 39, 3) := by decide +kernel
theorem dX3_init_75 : decode cX3_init 75 = .ok (.iconst 0, 1) := by decide +kernel
theorem dX3_init_76 : decode cX3_init 76 = .ok (.istore_n 1, 1) := by decide +kernel
theorem dX3_init_77 : decode cX3_init 77 = .ok (.iload_n 1, 1) := by decide +kernel
theorem dX3_init_78 : decode cX3_init 78 = .ok (.bipush 9, 2) := by decide +kernel
theorem dX3_init_80 : decode cX3_init 80 = .ok (.if_icmp .ge 22, 3) := by decide +kernel
theorem dX3_init_83 : decode cX3_init 83 = .ok (.aload_n 0, 1) := by decide +kernel
theorem dX3_init_84 : decode cX3_init 84 = .ok (.getfield 18, 3) := by decide +kernel
theorem dX3_init_87 : decode cX3_init 87 = .ok (.iload_n 1, 1) := by decide +kernel
theorem dX3_init_88 : decode cX3_init 88 = .ok (.new 9, 3) := by decide +kernel
theorem dX3_init_91 : decode cX3_init 91 = .ok (.dup, 1) := by decide +kernel
theorem dX3_init_92 : decode cX3_init 92 = .ok (.invokespecial 11, 3) := by decide +kernel
theorem dX3_init_95 : decode cX3_init 95 = .ok (.aastore, 1) := by decide +kernel
theorem dX3_init_96 : decode cX3_init 96 = .ok (.iinc 1 1, 3) := by decide +kernel
theorem dX3_init_99 : decode cX3_init 99 = .ok (.goto (-22), 3) := by decide +kernel
theorem dX3_init_102 : decode cX3_init 102 = .ok (.return_, 1) := by decide +kernel
theorem dX3_begin_0 : decode cX3_begin 0 = .ok (.aload_n 0, 1) := by decide +kernel
theorem dX3_begin_1 : decode cX3_begin 1 = .ok (.aload_n 1, 1) := by decide +kernel
theorem dX3_begin_2 : decode cX3_begin 2 = .ok (.getfield 42, 3) := by decide +kernel
theorem dX3_begin_5 : decode cX3_begin 5 = .ok (.putfield 48, 3) := by decide +kernel
theorem dX3_begin_8 : decode cX3_begin 8 = .ok (.aload_n 0, 1) := by decide +kernel
theorem dX3_begin_9 : decode cX3_begin 9 = .ok (.getfield 12, 3) := by decide +kernel
theorem dX3_begin_12 : decode cX3_begin 12 = .ok (.iconst (-1), 1) := by decide +kernel
theorem dX3_begin_13 : decode cX3_begin 13 = .ok (.invokevirtual 51, 3) := by decide +kernel
theorem dX3_begin_16 : decode cX3_begin 16 = .ok (.iconst 0, 1) := by decide +kernel
theorem dX3_begin_17 : decode cX3_begin 17 = .ok (.istore_n 3, 1) := by decide +kernel
theorem dX3_begin_18 : decode cX3_begin 18 = .ok (.iload_n 3, 1) := by decide +kernel
theorem dX3_begin_19 : decode cX3_begin 19 = .ok (.aload_n 0, 1) := by decide +kernel
theorem dX3_begin_20 : decode cX3_begin 20 = .ok (.getfield 48, 3) := by decide +kernel
theorem dX3_begin_23 : decode cX3_begin 23 = .ok (.if_icmp .ge 39, 3) := by decide +kernel
theorem dX3_begin_26 : decode cX3_begin 26 = .ok (.aload_n 0, 1) := by decide +kernel
theorem dX3_begin_27 : decode cX3_begin 27 = .ok (.getfield 22, 3) := by decide +kernel
theorem dX3_begin_30 : decode cX3_begin 30 = .ok (.iload_n 3, 1) := by decide +kernel
theorem dX3_begin_31 : decode cX3_begin 31 = .ok (.iload_n 3, 1) := by decide +kernel
theorem dX3_begin_32 : decode cX3_begin 32 = .ok (.iastore, 1) := by decide +kernel
theorem dX3_begin_33 : decode cX3_begin 33 = .ok (.aload_n 0, 1) := by decide +kernel
theorem dX3_begin_34 : decode cX3_begin 34 = .ok (.getfield 12, 3) := by decide +kernel
theorem dX3_begin_37 : decode cX3_begin 37 = .ok (.getfield 55, 3) := by decide +kernel
theorem dX3_begin_40 : decode cX3_begin 40 = .ok (.iload_n 3, 1) := by decide +kernel
theorem dX3_begin_41 : decode cX3_begin 41 = .ok (.aaload, 1) := by decide +kernel
theorem dX3_begin_42 : decode cX3_begin 42 = .ok (.aload_n 1, 1) := by decide +kernel
theorem dX3_begin_43 : decode cX3_begin 43 = .ok (.getfield 59, 3) := by decide +kernel
theorem dX3_begin_46 : decode cX3_begin 46 = .ok (.iload_n 3, 1) := by decide +kernel
theorem dX3_begin_47 : decode cX3_begin 47 = .ok (.aaload, 1) := by decide +kernel
theorem dX3_begin_48 : decode cX3_begin 48 = .ok (.getfield 63, 3) := by decide +kernel
theorem dX3_begin_51 : decode cX3_begin 51 = .ok (.i2l, 1) := by decide +kernel
theorem dX3_begin_52 : decode cX3_begin 52 = .ok (.lconst 1, 1) := by decide +kernel
theorem dX3_begin_53 : decode cX3_begin 53 = .ok (.invokevirtual 68, 3) := by decide +kernel
theorem dX3_begin_56 : decode cX3_begin 56 = .ok (.iinc 3 1, 3) := by decide +kernel
theorem dX3_begin_59 : decode cX3_begin 59 = .ok (.goto (-41), 3) := by decide +kernel
theorem dX3_begin_62 : decode cX3_begin 62 = .ok (.aload_n 0, 1) := by decide +kernel
theorem dX3_begin_63 : decode cX3_begin 63 = .ok (.aload_n 2, 1) := by decide +kernel
theorem dX3_begin_64 : decode cX3_begin 64 = .ok (.getfield 72, 3) := by decide +kernel
theorem dX3_begin_67 : decode cX3_begin 67 = .ok (.putfield 77, 3) := by decide +kernel
theorem dX3_begin_70 : decode cX3_begin 70 = .ok (.iconst 0, 1) := by decide +kernel
theorem dX3_begin_71 : decode cX3_begin 71 = .ok (.istore_n 3, 1) := by decide +kernel
theorem dX3_begin_72 : decode cX3_begin 72 = .ok (.iload_n 3, 1) := by decide +kernel
theorem dX3_begin_73 : decode cX3_begin 73 = .ok (.aload_n 2, 1) := by decide +kernel
theorem dX3_begin_74 : decode cX3_begin 74 = .ok (.getfield 72, 3) := by decide +kernel
theorem dX3_begin_77 : decode cX3_begin 77 = .ok (.if_icmp .ge 15, 3) := by decide +kernel
theorem dX3_begin_80 : decode cX3_begin 80 = .ok (.aload_n 0, 1) := by decide +kernel
theorem dX3_begin_81 : decode cX3_begin 81 = .ok (.iload_n 3, 1) := by decide +kernel
theorem dX3_begin_82 : decode cX3_begin 82 = .ok (.aload_n 2, 1) := by decide +kernel
theorem dX3_begin_83 : decode cX3_begin 83 = .ok (.invokevirtual 80, 3) := by decide +kernel
theorem dX3_begin_86 : decode cX3_begin 86 = .ok (.iinc 3 1, 3) := by decide +kernel
theorem dX3_begin_89 : decode cX3_begin 89 = .ok (.goto (-17), 3) := by decide +kernel
theorem dX3_begin_92 : decode cX3_begin 92 = .ok (.iconst 0, 1) := by decide +kernel
theorem dX3_begin_93 : decode cX3_begin 93 = .ok (.istore_n 3, 1) := by decide +kernel
theorem dX3_begin_94 : decode cX3_begin 94 = .ok (.iload_n 3, 1) := by decide +kernel
theorem dX3_begin_95 : decode cX3_begin 95 = .ok (.aload_n 2, 1) := by decide +kernel
theorem dX3_begin_96 : decode cX3_begin 96 = .ok (.getfield 72, 3) := by decide +kernel
theorem dX3_begin_99 : decode cX3_begin 99 = .ok (.if_icmp .ge 99, 3) := by decide +kernel
theorem dX3_begin_102 : decode cX3_begin 102 = .ok (.aload_n 2, 1) := by decide +kernel
theorem dX3_begin_103 : decode cX3_begin 103 = .ok (.iload_n 3, 1) := by decide +kernel
theorem dX3_begin_104 : decode cX3_begin 104 = .ok (.invokevirtual 84, 3) := by decide +kernel
theorem dX3_begin_107 : decode cX3_begin 107 = .ok (.ifCond .eq 85, 3) := by decide +kernel
theorem dX3_begin_110 : decode cX3_begin 110 = .ok (.aload_n 0, 1) := by decide +kernel
theorem dX3_begin_111 : decode cX3_begin 111 = .ok (.getfield 77, 3) := by decide +kernel
theorem dX3_begin_114 : decode cX3_begin 114 = .ok (.bipush 9, 2) := by decide +kernel
theorem dX3_begin_116 : decode cX3_begin 116 = .ok (.if_icmp .ge 76, 3) := by decide +kernel
theorem dX3_begin_119 : decode cX3_begin 119 = .ok (.aload_n 0, 1) := by decide +kernel
theorem dX3_begin_120 : decode cX3_begin 120 = .ok (.getfield 18, 3) := by decide +kernel
theorem dX3_begin_123 : decode cX3_begin 123 = .ok (.aload_n 0, 1) := by decide +kernel
theorem dX3_begin_124 : decode cX3_begin 124 = .ok (.getfield 77, 3) := by decide +kernel
theorem dX3_begin_127 : decode cX3_begin 127 = .ok (.aaload, 1) := by decide +kernel
theorem dX3_begin_128 : decode cX3_begin 128 = .ok (.astore 4, 2) := by decide +kernel
theorem dX3_begin_130 : decode cX3_begin 130 = .ok (.aload_n 0, 1) := by decide +kernel
theorem dX3_begin_131 : decode cX3_begin 131 = .ok (.dup, 1) := by decide +kernel
theorem dX3_begin_132 : decode cX3_begin 132 = .ok (.getfield 77, 3) := by decide +kernel
theorem dX3_begin_135 : decode cX3_begin 135 = .ok (.iconst 1, 1) := by decide +kernel
theorem dX3_begin_136 : decode cX3_begin 136 = .ok (.iadd, 1) := by decide +kernel
theorem dX3_begin_137 : decode cX3_begin 137 = .ok (.putfield 77, 3) := by decide +kernel
theorem dX3_begin_140 : decode cX3_begin 140 = .ok (.aload 4, 2) := by decide +kernel
theorem dX3_begin_142 : decode cX3_begin 142 = .ok (.bipush 20, 2) := by decide +kernel
theorem dX3_begin_144 : decode cX3_begin 144 = .ok (.iload_n 3, 1) := by decide +kernel
theorem dX3_begin_145 : decode cX3_begin 145 = .ok (.iadd, 1) := by decide +kernel
theorem dX3_begin_146 : decode cX3_begin 146 = .ok (.invokevirtual 51, 3) := by decide +kernel
theorem dX3_begin_149 : decode cX3_begin 149 = .ok (.aload 4, 2) := by decide +kernel
theorem dX3_begin_151 : decode cX3_begin 151 = .ok (.aload_n 0, 1) := by decide +kernel
theorem dX3_begin_152 : decode cX3_begin 152 = .ok (.getfield 18, 3) := by decide +kernel
theorem dX3_begin_155 : decode cX3_begin 155 = .ok (.iload_n 3, 1) := by decide +kernel
theorem dX3_begin_156 : decode cX3_begin 156 = .ok (.aaload, 1) := by decide +kernel
theorem dX3_begin_157 : decode cX3_begin 157 = .ok (.invokevirtual 88, 3) := by decide +kernel
theorem dX3_begin_160 : decode cX3_begin 160 = .ok (.aload 4, 2) := by decide +kernel
theorem dX3_begin_162 : decode cX3_begin 162 = .ok (.invokevirtual 91, 3) := by decide +kernel
theorem dX3_begin_165 : decode cX3_begin 165 = .ok (.aload_n 0, 1) := by decide +kernel
theorem dX3_begin_166 : decode cX3_begin 166 = .ok (.getfield 33, 3) := by decide +kernel
theorem dX3_begin_169 : decode cX3_begin 169 = .ok (.aload_n 2, 1) := by decide +kernel
theorem dX3_begin_170 : decode cX3_begin 170 = .ok (.getfield 94, 3) := by decide +kernel
theorem dX3_begin_173 : decode cX3_begin 173 = .ok (.iload_n 3, 1) := by decide +kernel
theorem dX3_begin_174 : decode cX3_begin 174 = .ok (.iaload, 1) := by decide +kernel
theorem dX3_begin_175 : decode cX3_begin 175 = .ok (.i2l, 1) := by decide +kernel
theorem dX3_begin_176 : decode cX3_begin 176 = .ok (.lconst 1, 1) := by decide +kernel
theorem dX3_begin_177 : decode cX3_begin 177 = .ok (.invokevirtual 68, 3) := by decide +kernel
theorem dX3_begin_180 : decode cX3_begin 180 = .ok (.aload 4, 2) := by decide +kernel
theorem dX3_begin_182 : decode cX3_begin 182 = .ok (.getfield 97, 3) := by decide +kernel
theorem dX3_begin_185 : decode cX3_begin 185 = .ok (.aload_n 0, 1) := by decide +kernel
theorem dX3_begin_186 : decode cX3_begin 186 = .ok (.getfield 33, 3) := by decide +kernel
theorem dX3_begin_189 : decode cX3_begin 189 = .ok (.invokevirtual 100, 3) := by decide +kernel
theorem dX3_begin_192 : decode cX3_begin 192 = .ok (.iinc 3 1, 3) := by decide +kernel
theorem dX3_begin_195 : decode cX3_begin 195 = .ok (.goto (-101), 3) := by decide +kernel
theorem dX3_begin_198 : decode cX3_begin 198 = .ok (.return_, 1) := by decide +kernel
theorem dX3_solve_0 : decode cX3_solve 0 = .ok (.iconst 0, 1) := by decide +kernel
theorem dX3_solve_1 : decode cX3_solve 1 = .ok (.istore_n 1, 1) := by decide +kernel
theorem dX3_solve_2 : decode cX3_solve 2 = .ok (.iload_n 1, 1) := by decide +kernel
theorem dX3_solve_3 : decode cX3_solve 3 = .ok (.ldc 104, 2) := by decide +kernel
theorem dX3_solve_5 : decode cX3_solve 5 = .ok (.if_icmp .ge 54, 3) := by decide +kernel
theorem dX3_solve_8 : decode cX3_solve 8 = .ok (.aload_n 0, 1) := by decide +kernel
theorem dX3_solve_9 : decode cX3_solve 9 = .ok (.invokevirtual 105, 3) := by decide +kernel
theorem dX3_solve_12 : decode cX3_solve 12 = .ok (.istore_n 2, 1) := by decide +kernel
theorem dX3_solve_13 : decode cX3_solve 13 = .ok (.iload_n 2, 1) := by decide +kernel
theorem dX3_solve_14 : decode cX3_solve 14 = .ok (.iconst (-1), 1) := by decide +kernel
theorem dX3_solve_15 : decode cX3_solve 15 = .ok (.if_icmp .ne 5, 3) := by decide +kernel
theorem dX3_solve_18 : decode cX3_solve 18 = .ok (.iload_n 1, 1) := by decide +kernel
theorem dX3_solve_19 : decode cX3_solve 19 = .ok (.ireturn, 1) := by decide +kernel
theorem dX3_solve_20 : decode cX3_solve 20 = .ok (.aload_n 0, 1) := by decide +kernel
theorem dX3_solve_21 : decode cX3_solve 21 = .ok (.aload_n 0, 1) := by decide +kernel
theorem dX3_solve_22 : decode cX3_solve 22 = .ok (.getfield 18, 3) := by decide +kernel
theorem dX3_solve_25 : decode cX3_solve 25 = .ok (.iload_n 2, 1) := by decide +kernel
theorem dX3_solve_26 : decode cX3_solve 26 = .ok (.aaload, 1) := by decide +kernel
theorem dX3_solve_27 : decode cX3_solve 27 = .ok (.invokevirtual 109, 3) := by decide +kernel
theorem dX3_solve_30 : decode cX3_solve 30 = .ok (.istore_n 3, 1) := by decide +kernel
theorem dX3_solve_31 : decode cX3_solve 31 = .ok (.iload_n 3, 1) := by decide +kernel
theorem dX3_solve_32 : decode cX3_solve 32 = .ok (.ifCond .ge 5, 3) := by decide +kernel
theorem dX3_solve_35 : decode cX3_solve 35 = .ok (.iload_n 3, 1) := by decide +kernel
theorem dX3_solve_36 : decode cX3_solve 36 = .ok (.ireturn, 1) := by decide +kernel
theorem dX3_solve_37 : decode cX3_solve 37 = .ok (.aload_n 0, 1) := by decide +kernel
theorem dX3_solve_38 : decode cX3_solve 38 = .ok (.iload_n 2, 1) := by decide +kernel
theorem dX3_solve_39 : decode cX3_solve 39 = .ok (.iload_n 3, 1) := by decide +kernel
theorem dX3_solve_40 : decode cX3_solve 40 = .ok (.invokevirtual 113, 3) := by decide +kernel
theorem dX3_solve_43 : decode cX3_solve 43 = .ok (.aload_n 0, 1) := by decide +kernel
theorem dX3_solve_44 : decode cX3_solve 44 = .ok (.invokevirtual 117, 3) := by decide +kernel
theorem dX3_solve_47 : decode cX3_solve 47 = .ok (.ifCond .eq 6, 3) := by decide +kernel
theorem dX3_solve_50 : decode cX3_solve 50 = .ok (.bipush (-7), 2) := by decide +kernel
theorem dX3_solve_52 : decode cX3_solve 52 = .ok (.ireturn, 1) := by decide +kernel
theorem dX3_solve_53 : decode cX3_solve 53 = .ok (.iinc 1 1, 3) := by decide +kernel
theorem dX3_solve_56 : decode cX3_solve 56 = .ok (.goto (-54), 3) := by decide +kernel
theorem dX3_solve_59 : decode cX3_solve 59 = .ok (.bipush (-7), 2) := by decide +kernel
theorem dX3_solve_61 : decode cX3_solve 61 = .ok (.ireturn, 1) := by decide +kernel
theorem dX3_amountOf_0 : decode cX3_amountOf 0 = .ok (.aload_n 2, 1) := by decide +kernel
theorem dX3_amountOf_1 : decode cX3_amountOf 1 = .ok (.lconst 0, 1) := by decide +kernel
theorem dX3_amountOf_2 : decode cX3_amountOf 2 = .ok (.lconst 1, 1) := by decide +kernel
theorem dX3_amountOf_3 : decode cX3_amountOf 3 = .ok (.invokevirtual 68, 3) := by decide +kernel
theorem dX3_amountOf_6 : decode cX3_amountOf 6 = .ok (.iconst 0, 1) := by decide +kernel
theorem dX3_amountOf_7 : decode cX3_amountOf 7 = .ok (.istore_n 3, 1) := by decide +kernel
theorem dX3_amountOf_8 : decode cX3_amountOf 8 = .ok (.iload_n 3, 1) := by decide +kernel
theorem dX3_amountOf_9 : decode cX3_amountOf 9 = .ok (.aload_n 0, 1) := by decide +kernel
theorem dX3_amountOf_10 : decode cX3_amountOf 10 = .ok (.getfield 77, 3) := by decide +kernel
theorem dX3_amountOf_13 : decode cX3_amountOf 13 = .ok (.if_icmp .ge 35, 3) := by decide +kernel
theorem dX3_amountOf_16 : decode cX3_amountOf 16 = .ok (.aload_n 0, 1) := by decide +kernel
theorem dX3_amountOf_17 : decode cX3_amountOf 17 = .ok (.getfield 18, 3) := by decide +kernel
theorem dX3_amountOf_20 : decode cX3_amountOf 20 = .ok (.iload_n 3, 1) := by decide +kernel
theorem dX3_amountOf_21 : decode cX3_amountOf 21 = .ok (.aaload, 1) := by decide +kernel
theorem dX3_amountOf_22 : decode cX3_amountOf 22 = .ok (.getfield 121, 3) := by decide +kernel
theorem dX3_amountOf_25 : decode cX3_amountOf 25 = .ok (.iload_n 1, 1) := by decide +kernel
theorem dX3_amountOf_26 : decode cX3_amountOf 26 = .ok (.if_icmp .ne 16, 3) := by decide +kernel
theorem dX3_amountOf_29 : decode cX3_amountOf 29 = .ok (.aload_n 2, 1) := by decide +kernel
theorem dX3_amountOf_30 : decode cX3_amountOf 30 = .ok (.aload_n 0, 1) := by decide +kernel
theorem dX3_amountOf_31 : decode cX3_amountOf 31 = .ok (.getfield 18, 3) := by decide +kernel
theorem dX3_amountOf_34 : decode cX3_amountOf 34 = .ok (.iload_n 3, 1) := by decide +kernel
theorem dX3_amountOf_35 : decode cX3_amountOf 35 = .ok (.aaload, 1) := by decide +kernel
theorem dX3_amountOf_36 : decode cX3_amountOf 36 = .ok (.getfield 97, 3) := by decide +kernel
theorem dX3_amountOf_39 : decode cX3_amountOf 39 = .ok (.invokevirtual 124, 3) := by decide +kernel
theorem dX3_amountOf_42 : decode cX3_amountOf 42 = .ok (.iinc 3 1, 3) := by decide +kernel
theorem dX3_amountOf_45 : decode cX3_amountOf 45 = .ok (.goto (-37), 3) := by decide +kernel
theorem dX3_amountOf_48 : decode cX3_amountOf 48 = .ok (.return_, 1) := by decide +kernel
theorem dX3_priceOf_0 : decode cX3_priceOf 0 = .ok (.aload_n 2, 1) := by decide +kernel
theorem dX3_priceOf_1 : decode cX3_priceOf 1 = .ok (.lconst 0, 1) := by decide +kernel
theorem dX3_priceOf_2 : decode cX3_priceOf 2 = .ok (.lconst 1, 1) := by decide +kernel
theorem dX3_priceOf_3 : decode cX3_priceOf 3 = .ok (.invokevirtual 68, 3) := by decide +kernel
theorem dX3_priceOf_6 : decode cX3_priceOf 6 = .ok (.iconst 0, 1) := by decide +kernel
theorem dX3_priceOf_7 : decode cX3_priceOf 7 = .ok (.istore_n 3, 1) := by decide +kernel
theorem dX3_priceOf_8 : decode cX3_priceOf 8 = .ok (.iload_n 3, 1) := by decide +kernel
theorem dX3_priceOf_9 : decode cX3_priceOf 9 = .ok (.aload_n 0, 1) := by decide +kernel
theorem dX3_priceOf_10 : decode cX3_priceOf 10 = .ok (.getfield 48, 3) := by decide +kernel
theorem dX3_priceOf_13 : decode cX3_priceOf 13 = .ok (.if_icmp .ge 32, 3) := by decide +kernel
theorem dX3_priceOf_16 : decode cX3_priceOf 16 = .ok (.aload_n 0, 1) := by decide +kernel
theorem dX3_priceOf_17 : decode cX3_priceOf 17 = .ok (.getfield 22, 3) := by decide +kernel
theorem dX3_priceOf_20 : decode cX3_priceOf 20 = .ok (.iload_n 3, 1) := by decide +kernel
theorem dX3_priceOf_21 : decode cX3_priceOf 21 = .ok (.iaload, 1) := by decide +kernel
theorem dX3_priceOf_22 : decode cX3_priceOf 22 = .ok (.iload_n 1, 1) := by decide +kernel
theorem dX3_priceOf_23 : decode cX3_priceOf 23 = .ok (.if_icmp .ne 16, 3) := by decide +kernel
theorem dX3_priceOf_26 : decode cX3_priceOf 26 = .ok (.aload_n 2, 1) := by decide +kernel
theorem dX3_priceOf_27 : decode cX3_priceOf 27 = .ok (.aload_n 0, 1) := by decide +kernel
theorem dX3_priceOf_28 : decode cX3_priceOf 28 = .ok (.getfield 12, 3) := by decide +kernel
theorem dX3_priceOf_31 : decode cX3_priceOf 31 = .ok (.getfield 55, 3) := by decide +kernel
theorem dX3_priceOf_34 : decode cX3_priceOf 34 = .ok (.iload_n 3, 1) := by decide +kernel
theorem dX3_priceOf_35 : decode cX3_priceOf 35 = .ok (.aaload, 1) := by decide +kernel
theorem dX3_priceOf_36 : decode cX3_priceOf 36 = .ok (.invokevirtual 124, 3) := by decide +kernel
theorem dX3_priceOf_39 : decode cX3_priceOf 39 = .ok (.iinc 3 1, 3) := by decide +kernel
theorem dX3_priceOf_42 : decode cX3_priceOf 42 = .ok (.goto (-34), 3) := by decide +kernel
theorem dX3_priceOf_45 : decode cX3_priceOf 45 = .ok (.return_, 1) := by decide +kernel
theorem dX3_prove_0 : decode cX3_prove 0 = .ok (.aload_n 3, 1) := by decide +kernel
theorem dX3_prove_1 : decode cX3_prove 1 = .ok (.lconst 0, 1) := by decide +kernel
theorem dX3_prove_2 : decode cX3_prove 2 = .ok (.lconst 1, 1) := by decide +kernel
theorem dX3_prove_3 : decode cX3_prove 3 = .ok (.invokevirtual 68, 3) := by decide +kernel
theorem dX3_prove_6 : decode cX3_prove 6 = .ok (.aload_n 2, 1) := by decide +kernel
theorem dX3_prove_7 : decode cX3_prove 7 = .ok (.getfield 72, 3) := by decide +kernel
theorem dX3_prove_10 : decode cX3_prove 10 = .ok (.iconst 1, 1) := by decide +kernel
theorem dX3_prove_11 : decode cX3_prove 11 = .ok (.isub, 1) := by decide +kernel
theorem dX3_prove_12 : decode cX3_prove 12 = .ok (.istore 4, 2) := by decide +kernel
theorem dX3_prove_14 : decode cX3_prove 14 = .ok (.iload 4, 2) := by decide +kernel
theorem dX3_prove_16 : decode cX3_prove 16 = .ok (.iload_n 1, 1) := by decide +kernel
theorem dX3_prove_17 : decode cX3_prove 17 = .ok (.if_icmp .lt 96, 3) := by decide +kernel
theorem dX3_prove_20 : decode cX3_prove 20 = .ok (.iload 4, 2) := by decide +kernel
theorem dX3_prove_22 : decode cX3_prove 22 = .ok (.aload_n 2, 1) := by decide +kernel
theorem dX3_prove_23 : decode cX3_prove 23 = .ok (.getfield 72, 3) := by decide +kernel
theorem dX3_prove_26 : decode cX3_prove 26 = .ok (.iconst 1, 1) := by decide +kernel
theorem dX3_prove_27 : decode cX3_prove 27 = .ok (.isub, 1) := by decide +kernel
theorem dX3_prove_28 : decode cX3_prove 28 = .ok (.if_icmp .ge 27, 3) := by decide +kernel
theorem dX3_prove_31 : decode cX3_prove 31 = .ok (.aload_n 0, 1) := by decide +kernel
theorem dX3_prove_32 : decode cX3_prove 32 = .ok (.getfield 29, 3) := by decide +kernel
theorem dX3_prove_35 : decode cX3_prove 35 = .ok (.aload_n 2, 1) := by decide +kernel
theorem dX3_prove_36 : decode cX3_prove 36 = .ok (.getfield 126, 3) := by decide +kernel
theorem dX3_prove_39 : decode cX3_prove 39 = .ok (.iload 4, 2) := by decide +kernel
theorem dX3_prove_41 : decode cX3_prove 41 = .ok (.iconst 1, 1) := by decide +kernel
theorem dX3_prove_42 : decode cX3_prove 42 = .ok (.iadd, 1) := by decide +kernel
theorem dX3_prove_43 : decode cX3_prove 43 = .ok (.iaload, 1) := by decide +kernel
theorem dX3_prove_44 : decode cX3_prove 44 = .ok (.invokevirtual 129, 3) := by decide +kernel
theorem dX3_prove_47 : decode cX3_prove 47 = .ok (.aload_n 3, 1) := by decide +kernel
theorem dX3_prove_48 : decode cX3_prove 48 = .ok (.aload_n 0, 1) := by decide +kernel
theorem dX3_prove_49 : decode cX3_prove 49 = .ok (.getfield 29, 3) := by decide +kernel
theorem dX3_prove_52 : decode cX3_prove 52 = .ok (.invokevirtual 132, 3) := by decide +kernel
theorem dX3_prove_55 : decode cX3_prove 55 = .ok (.aload_n 0, 1) := by decide +kernel
theorem dX3_prove_56 : decode cX3_prove 56 = .ok (.bipush 20, 2) := by decide +kernel
theorem dX3_prove_58 : decode cX3_prove 58 = .ok (.iload 4, 2) := by decide +kernel
theorem dX3_prove_60 : decode cX3_prove 60 = .ok (.iadd, 1) := by decide +kernel
theorem dX3_prove_61 : decode cX3_prove 61 = .ok (.aload_n 0, 1) := by decide +kernel
theorem dX3_prove_62 : decode cX3_prove 62 = .ok (.getfield 33, 3) := by decide +kernel
theorem dX3_prove_65 : decode cX3_prove 65 = .ok (.invokevirtual 135, 3) := by decide +kernel
theorem dX3_prove_68 : decode cX3_prove 68 = .ok (.aload_n 0, 1) := by decide +kernel
theorem dX3_prove_69 : decode cX3_prove 69 = .ok (.getfield 33, 3) := by decide +kernel
theorem dX3_prove_72 : decode cX3_prove 72 = .ok (.invokevirtual 139, 3) := by decide +kernel
theorem dX3_prove_75 : decode cX3_prove 75 = .ok (.aload_n 0, 1) := by decide +kernel
theorem dX3_prove_76 : decode cX3_prove 76 = .ok (.bipush 10, 2) := by decide +kernel
theorem dX3_prove_78 : decode cX3_prove 78 = .ok (.iload 4, 2) := by decide +kernel
theorem dX3_prove_80 : decode cX3_prove 80 = .ok (.iadd, 1) := by decide +kernel
theorem dX3_prove_81 : decode cX3_prove 81 = .ok (.aload_n 0, 1) := by decide +kernel
theorem dX3_prove_82 : decode cX3_prove 82 = .ok (.getfield 36, 3) := by decide +kernel
theorem dX3_prove_85 : decode cX3_prove 85 = .ok (.invokevirtual 135, 3) := by decide +kernel
theorem dX3_prove_88 : decode cX3_prove 88 = .ok (.aload_n 0, 1) := by decide +kernel
theorem dX3_prove_89 : decode cX3_prove 89 = .ok (.getfield 36, 3) := by decide +kernel
theorem dX3_prove_92 : decode cX3_prove 92 = .ok (.aload_n 0, 1) := by decide +kernel
theorem dX3_prove_93 : decode cX3_prove 93 = .ok (.getfield 33, 3) := by decide +kernel
theorem dX3_prove_96 : decode cX3_prove 96 = .ok (.invokevirtual 100, 3) := by decide +kernel
theorem dX3_prove_99 : decode cX3_prove 99 = .ok (.aload_n 3, 1) := by decide +kernel
theorem dX3_prove_100 : decode cX3_prove 100 = .ok (.aload_n 0, 1) := by decide +kernel
theorem dX3_prove_101 : decode cX3_prove 101 = .ok (.getfield 36, 3) := by decide +kernel
theorem dX3_prove_104 : decode cX3_prove 104 = .ok (.invokevirtual 100, 3) := by decide +kernel
theorem dX3_prove_107 : decode cX3_prove 107 = .ok (.iinc 4 (-1), 3) := by decide +kernel
theorem dX3_prove_110 : decode cX3_prove 110 = .ok (.goto (-96), 3) := by decide +kernel
theorem dX3_prove_113 : decode cX3_prove 113 = .ok (.return_, 1) := by decide +kernel
theorem dX3_beginCarry_0 : decode cX3_beginCarry 0 = .ok (.aload_n 0, 1) := by decide +kernel
theorem dX3_beginCarry_1 : decode cX3_beginCarry 1 = .ok (.getfield 18, 3) := by decide +kernel
theorem dX3_beginCarry_4 : decode cX3_beginCarry 4 = .ok (.iload_n 1, 1) := by decide +kernel
theorem dX3_beginCarry_5 : decode cX3_beginCarry 5 = .ok (.aaload, 1) := by decide +kernel
theorem dX3_beginCarry_6 : decode cX3_beginCarry 6 = .ok (.astore_n 3, 1) := by decide +kernel
theorem dX3_beginCarry_7 : decode cX3_beginCarry 7 = .ok (.aload_n 3, 1) := by decide +kernel
theorem dX3_beginCarry_8 : decode cX3_beginCarry 8 = .ok (.bipush 10, 2) := by decide +kernel
theorem dX3_beginCarry_10 : decode cX3_beginCarry 10 = .ok (.iload_n 1, 1) := by decide +kernel
theorem dX3_beginCarry_11 : decode cX3_beginCarry 11 = .ok (.iadd, 1) := by decide +kernel
theorem dX3_beginCarry_12 : decode cX3_beginCarry 12 = .ok (.invokevirtual 51, 3) := by decide +kernel
theorem dX3_beginCarry_15 : decode cX3_beginCarry 15 = .ok (.iload_n 1, 1) := by decide +kernel
theorem dX3_beginCarry_16 : decode cX3_beginCarry 16 = .ok (.ifCond .le 36, 3) := by decide +kernel
theorem dX3_beginCarry_19 : decode cX3_beginCarry 19 = .ok (.aload_n 3, 1) := by decide +kernel
theorem dX3_beginCarry_20 : decode cX3_beginCarry 20 = .ok (.aload_n 0, 1) := by decide +kernel
theorem dX3_beginCarry_21 : decode cX3_beginCarry 21 = .ok (.getfield 18, 3) := by decide +kernel
theorem dX3_beginCarry_24 : decode cX3_beginCarry 24 = .ok (.iload_n 1, 1) := by decide +kernel
theorem dX3_beginCarry_25 : decode cX3_beginCarry 25 = .ok (.iconst 1, 1) := by decide +kernel
theorem dX3_beginCarry_26 : decode cX3_beginCarry 26 = .ok (.isub, 1) := by decide +kernel
theorem dX3_beginCarry_27 : decode cX3_beginCarry 27 = .ok (.aaload, 1) := by decide +kernel
theorem dX3_beginCarry_28 : decode cX3_beginCarry 28 = .ok (.invokevirtual 88, 3) := by decide +kernel
theorem dX3_beginCarry_31 : decode cX3_beginCarry 31 = .ok (.aload_n 0, 1) := by decide +kernel
theorem dX3_beginCarry_32 : decode cX3_beginCarry 32 = .ok (.getfield 29, 3) := by decide +kernel
theorem dX3_beginCarry_35 : decode cX3_beginCarry 35 = .ok (.aload_n 2, 1) := by decide +kernel
theorem dX3_beginCarry_36 : decode cX3_beginCarry 36 = .ok (.getfield 126, 3) := by decide +kernel
theorem dX3_beginCarry_39 : decode cX3_beginCarry 39 = .ok (.iload_n 1, 1) := by decide +kernel
theorem dX3_beginCarry_40 : decode cX3_beginCarry 40 = .ok (.iaload, 1) := by decide +kernel
theorem dX3_beginCarry_41 : decode cX3_beginCarry 41 = .ok (.invokevirtual 129, 3) := by decide +kernel
theorem dX3_beginCarry_44 : decode cX3_beginCarry 44 = .ok (.aload_n 3, 1) := by decide +kernel
theorem dX3_beginCarry_45 : decode cX3_beginCarry 45 = .ok (.aload_n 0, 1) := by decide +kernel
theorem dX3_beginCarry_46 : decode cX3_beginCarry 46 = .ok (.getfield 29, 3) := by decide +kernel
theorem dX3_beginCarry_49 : decode cX3_beginCarry 49 = .ok (.invokevirtual 140, 3) := by decide +kernel
theorem dX3_beginCarry_52 : decode cX3_beginCarry 52 = .ok (.iconst 0, 1) := by decide +kernel
theorem dX3_beginCarry_53 : decode cX3_beginCarry 53 = .ok (.istore 4, 2) := by decide +kernel
theorem dX3_beginCarry_55 : decode cX3_beginCarry 55 = .ok (.iload 4, 2) := by decide +kernel
theorem dX3_beginCarry_57 : decode cX3_beginCarry 57 = .ok (.aload_n 0, 1) := by decide +kernel
theorem dX3_beginCarry_58 : decode cX3_beginCarry 58 = .ok (.getfield 48, 3) := by decide +kernel
theorem dX3_beginCarry_61 : decode cX3_beginCarry 61 = .ok (.if_icmp .ge 41, 3) := by decide +kernel
theorem dX3_beginCarry_64 : decode cX3_beginCarry 64 = .ok (.aload_n 0, 1) := by decide +kernel
theorem dX3_beginCarry_65 : decode cX3_beginCarry 65 = .ok (.getfield 33, 3) := by decide +kernel
theorem dX3_beginCarry_68 : decode cX3_beginCarry 68 = .ok (.aload_n 2, 1) := by decide +kernel
theorem dX3_beginCarry_69 : decode cX3_beginCarry 69 = .ok (.getfield 141, 3) := by decide +kernel
theorem dX3_beginCarry_72 : decode cX3_beginCarry 72 = .ok (.iload 4, 2) := by decide +kernel
theorem dX3_beginCarry_74 : decode cX3_beginCarry 74 = .ok (.aaload, 1) := by decide +kernel
theorem dX3_beginCarry_75 : decode cX3_beginCarry 75 = .ok (.iload_n 1, 1) := by decide +kernel
theorem dX3_beginCarry_76 : decode cX3_beginCarry 76 = .ok (.iaload, 1) := by decide +kernel
theorem dX3_beginCarry_77 : decode cX3_beginCarry 77 = .ok (.i2l, 1) := by decide +kernel
theorem dX3_beginCarry_78 : decode cX3_beginCarry 78 = .ok (.lconst 1, 1) := by decide +kernel
theorem dX3_beginCarry_79 : decode cX3_beginCarry 79 = .ok (.invokevirtual 68, 3) := by decide +kernel
theorem dX3_beginCarry_82 : decode cX3_beginCarry 82 = .ok (.aload_n 3, 1) := by decide +kernel
theorem dX3_beginCarry_83 : decode cX3_beginCarry 83 = .ok (.getfield 55, 3) := by decide +kernel
theorem dX3_beginCarry_86 : decode cX3_beginCarry 86 = .ok (.iload 4, 2) := by decide +kernel
theorem dX3_beginCarry_88 : decode cX3_beginCarry 88 = .ok (.aaload, 1) := by decide +kernel
theorem dX3_beginCarry_89 : decode cX3_beginCarry 89 = .ok (.aload_n 0, 1) := by decide +kernel
theorem dX3_beginCarry_90 : decode cX3_beginCarry 90 = .ok (.getfield 33, 3) := by decide +kernel
theorem dX3_beginCarry_93 : decode cX3_beginCarry 93 = .ok (.invokevirtual 100, 3) := by decide +kernel
theorem dX3_beginCarry_96 : decode cX3_beginCarry 96 = .ok (.iinc 4 1, 3) := by decide +kernel
theorem dX3_beginCarry_99 : decode cX3_beginCarry 99 = .ok (.goto (-44), 3) := by decide +kernel
theorem dX3_beginCarry_102 : decode cX3_beginCarry 102 = .ok (.aload_n 0, 1) := by decide +kernel
theorem dX3_beginCarry_103 : decode cX3_beginCarry 103 = .ok (.getfield 33, 3) := by decide +kernel
theorem dX3_beginCarry_106 : decode cX3_beginCarry 106 = .ok (.aload_n 2, 1) := by decide +kernel
theorem dX3_beginCarry_107 : decode cX3_beginCarry 107 = .ok (.getfield 145, 3) := by decide +kernel
theorem dX3_beginCarry_110 : decode cX3_beginCarry 110 = .ok (.iload_n 1, 1) := by decide +kernel
theorem dX3_beginCarry_111 : decode cX3_beginCarry 111 = .ok (.iaload, 1) := by decide +kernel
theorem dX3_beginCarry_112 : decode cX3_beginCarry 112 = .ok (.ineg, 1) := by decide +kernel
theorem dX3_beginCarry_113 : decode cX3_beginCarry 113 = .ok (.i2l, 1) := by decide +kernel
theorem dX3_beginCarry_114 : decode cX3_beginCarry 114 = .ok (.lconst 1, 1) := by decide +kernel
theorem dX3_beginCarry_115 : decode cX3_beginCarry 115 = .ok (.invokevirtual 68, 3) := by decide +kernel
theorem dX3_beginCarry_118 : decode cX3_beginCarry 118 = .ok (.aload_n 3, 1) := by decide +kernel
theorem dX3_beginCarry_119 : decode cX3_beginCarry 119 = .ok (.getfield 97, 3) := by decide +kernel
theorem dX3_beginCarry_122 : decode cX3_beginCarry 122 = .ok (.aload_n 0, 1) := by decide +kernel
theorem dX3_beginCarry_123 : decode cX3_beginCarry 123 = .ok (.getfield 33, 3) := by decide +kernel
theorem dX3_beginCarry_126 : decode cX3_beginCarry 126 = .ok (.invokevirtual 100, 3) := by decide +kernel
theorem dX3_beginCarry_129 : decode cX3_beginCarry 129 = .ok (.return_, 1) := by decide +kernel
theorem dX3_findLeaving_0 : decode cX3_findLeaving 0 = .ok (.iconst (-1), 1) := by decide +kernel
theorem dX3_findLeaving_1 : decode cX3_findLeaving 1 = .ok (.istore_n 1, 1) := by decide +kernel
theorem dX3_findLeaving_2 : decode cX3_findLeaving 2 = .ok (.iconst 0, 1) := by decide +kernel
theorem dX3_findLeaving_3 : decode cX3_findLeaving 3 = .ok (.istore_n 2, 1) := by decide +kernel
theorem dX3_findLeaving_4 : decode cX3_findLeaving 4 = .ok (.iload_n 2, 1) := by decide +kernel
theorem dX3_findLeaving_5 : decode cX3_findLeaving 5 = .ok (.aload_n 0, 1) := by decide +kernel
theorem dX3_findLeaving_6 : decode cX3_findLeaving 6 = .ok (.getfield 77, 3) := by decide +kernel
theorem dX3_findLeaving_9 : decode cX3_findLeaving 9 = .ok (.if_icmp .ge 54, 3) := by decide +kernel
theorem dX3_findLeaving_12 : decode cX3_findLeaving 12 = .ok (.aload_n 0, 1) := by decide +kernel
theorem dX3_findLeaving_13 : decode cX3_findLeaving 13 = .ok (.getfield 18, 3) := by decide +kernel
theorem dX3_findLeaving_16 : decode cX3_findLeaving 16 = .ok (.iload_n 2, 1) := by decide +kernel
theorem dX3_findLeaving_17 : decode cX3_findLeaving 17 = .ok (.aaload, 1) := by decide +kernel
theorem dX3_findLeaving_18 : decode cX3_findLeaving 18 = .ok (.getfield 97, 3) := by decide +kernel
theorem dX3_findLeaving_21 : decode cX3_findLeaving 21 = .ok (.getfield 148, 3) := by decide +kernel
theorem dX3_findLeaving_24 : decode cX3_findLeaving 24 = .ok (.lconst 0, 1) := by decide +kernel
theorem dX3_findLeaving_25 : decode cX3_findLeaving 25 = .ok (.lcmp, 1) := by decide +kernel
theorem dX3_findLeaving_26 : decode cX3_findLeaving 26 = .ok (.ifCond .ge 31, 3) := by decide +kernel
theorem dX3_findLeaving_29 : decode cX3_findLeaving 29 = .ok (.iload_n 1, 1) := by decide +kernel
theorem dX3_findLeaving_30 : decode cX3_findLeaving 30 = .ok (.iconst (-1), 1) := by decide +kernel
theorem dX3_findLeaving_31 : decode cX3_findLeaving 31 = .ok (.if_icmp .eq 24, 3) := by decide +kernel
theorem dX3_findLeaving_34 : decode cX3_findLeaving 34 = .ok (.aload_n 0, 1) := by decide +kernel
theorem dX3_findLeaving_35 : decode cX3_findLeaving 35 = .ok (.getfield 18, 3) := by decide +kernel
theorem dX3_findLeaving_38 : decode cX3_findLeaving 38 = .ok (.iload_n 2, 1) := by decide +kernel
theorem dX3_findLeaving_39 : decode cX3_findLeaving 39 = .ok (.aaload, 1) := by decide +kernel
theorem dX3_findLeaving_40 : decode cX3_findLeaving 40 = .ok (.getfield 121, 3) := by decide +kernel
theorem dX3_findLeaving_43 : decode cX3_findLeaving 43 = .ok (.aload_n 0, 1) := by decide +kernel
theorem dX3_findLeaving_44 : decode cX3_findLeaving 44 = .ok (.getfield 18, 3) := by decide +kernel
theorem dX3_findLeaving_47 : decode cX3_findLeaving 47 = .ok (.iload_n 1, 1) := by decide +kernel
theorem dX3_findLeaving_48 : decode cX3_findLeaving 48 = .ok (.aaload, 1) := by decide +kernel
theorem dX3_findLeaving_49 : decode cX3_findLeaving 49 = .ok (.getfield 121, 3) := by decide +kernel
theorem dX3_findLeaving_52 : decode cX3_findLeaving 52 = .ok (.if_icmp .ge 5, 3) := by decide +kernel
theorem dX3_findLeaving_55 : decode cX3_findLeaving 55 = .ok (.iload_n 2, 1) := by decide +kernel
theorem dX3_findLeaving_56 : decode cX3_findLeaving 56 = .ok (.istore_n 1, 1) := by decide +kernel
theorem dX3_findLeaving_57 : decode cX3_findLeaving 57 = .ok (.iinc 2 1, 3) := by decide +kernel
theorem dX3_findLeaving_60 : decode cX3_findLeaving 60 = .ok (.goto (-56), 3) := by decide +kernel
theorem dX3_findLeaving_63 : decode cX3_findLeaving 63 = .ok (.iload_n 1, 1) := by decide +kernel
theorem dX3_findLeaving_64 : decode cX3_findLeaving 64 = .ok (.ireturn, 1) := by decide +kernel
theorem dX3_findEntering_0 : decode cX3_findEntering 0 = .ok (.bipush (-8), 2) := by decide +kernel
theorem dX3_findEntering_2 : decode cX3_findEntering 2 = .ok (.istore_n 2, 1) := by decide +kernel
theorem dX3_findEntering_3 : decode cX3_findEntering 3 = .ok (.iconst 0, 1) := by decide +kernel
theorem dX3_findEntering_4 : decode cX3_findEntering 4 = .ok (.istore_n 3, 1) := by decide +kernel
theorem dX3_findEntering_5 : decode cX3_findEntering 5 = .ok (.iload_n 3, 1) := by decide +kernel
theorem dX3_findEntering_6 : decode cX3_findEntering 6 = .ok (.aload_n 0, 1) := by decide +kernel
theorem dX3_findEntering_7 : decode cX3_findEntering 7 = .ok (.getfield 48, 3) := by decide +kernel
theorem dX3_findEntering_10 : decode cX3_findEntering 10 = .ok (.if_icmp .ge 124, 3) := by decide +kernel
theorem dX3_findEntering_13 : decode cX3_findEntering 13 = .ok (.aload_n 1, 1) := by decide +kernel
theorem dX3_findEntering_14 : decode cX3_findEntering 14 = .ok (.getfield 55, 3) := by decide +kernel
theorem dX3_findEntering_17 : decode cX3_findEntering 17 = .ok (.iload_n 3, 1) := by decide +kernel
theorem dX3_findEntering_18 : decode cX3_findEntering 18 = .ok (.aaload, 1) := by decide +kernel
theorem dX3_findEntering_19 : decode cX3_findEntering 19 = .ok (.getfield 148, 3) := by decide +kernel
theorem dX3_findEntering_22 : decode cX3_findEntering 22 = .ok (.lconst 0, 1) := by decide +kernel
theorem dX3_findEntering_23 : decode cX3_findEntering 23 = .ok (.lcmp, 1) := by decide +kernel
theorem dX3_findEntering_24 : decode cX3_findEntering 24 = .ok (.ifCond .le 104, 3) := by decide +kernel
theorem dX3_findEntering_27 : decode cX3_findEntering 27 = .ok (.aload_n 0, 1) := by decide +kernel
theorem dX3_findEntering_28 : decode cX3_findEntering 28 = .ok (.getfield 36, 3) := by decide +kernel
theorem dX3_findEntering_31 : decode cX3_findEntering 31 = .ok (.aload_n 0, 1) := by decide +kernel
theorem dX3_findEntering_32 : decode cX3_findEntering 32 = .ok (.getfield 12, 3) := by decide +kernel
theorem dX3_findEntering_35 : decode cX3_findEntering 35 = .ok (.getfield 55, 3) := by decide +kernel
theorem dX3_findEntering_38 : decode cX3_findEntering 38 = .ok (.iload_n 3, 1) := by decide +kernel
theorem dX3_findEntering_39 : decode cX3_findEntering 39 = .ok (.aaload, 1) := by decide +kernel
theorem dX3_findEntering_40 : decode cX3_findEntering 40 = .ok (.invokevirtual 124, 3) := by decide +kernel
theorem dX3_findEntering_43 : decode cX3_findEntering 43 = .ok (.aload_n 0, 1) := by decide +kernel
theorem dX3_findEntering_44 : decode cX3_findEntering 44 = .ok (.getfield 36, 3) := by decide +kernel
theorem dX3_findEntering_47 : decode cX3_findEntering 47 = .ok (.aload_n 1, 1) := by decide +kernel
theorem dX3_findEntering_48 : decode cX3_findEntering 48 = .ok (.getfield 55, 3) := by decide +kernel
theorem dX3_findEntering_51 : decode cX3_findEntering 51 = .ok (.iload_n 3, 1) := by decide +kernel
theorem dX3_findEntering_52 : decode cX3_findEntering 52 = .ok (.aaload, 1) := by decide +kernel
theorem dX3_findEntering_53 : decode cX3_findEntering 53 = .ok (.invokevirtual 152, 3) := by decide +kernel
theorem dX3_findEntering_56 : decode cX3_findEntering 56 = .ok (.aload_n 0, 1) := by decide +kernel
theorem dX3_findEntering_57 : decode cX3_findEntering 57 = .ok (.getfield 36, 3) := by decide +kernel
theorem dX3_findEntering_60 : decode cX3_findEntering 60 = .ok (.getfield 155, 3) := by decide +kernel
theorem dX3_findEntering_63 : decode cX3_findEntering 63 = .ok (.ifCond .eq 6, 3) := by decide +kernel
theorem dX3_findEntering_66 : decode cX3_findEntering 66 = .ok (.bipush (-7), 2) := by decide +kernel
theorem dX3_findEntering_68 : decode cX3_findEntering 68 = .ok (.ireturn, 1) := by decide +kernel
theorem dX3_findEntering_69 : decode cX3_findEntering 69 = .ok (.iload_n 2, 1) := by decide +kernel
theorem dX3_findEntering_70 : decode cX3_findEntering 70 = .ok (.ifCond .ge 7, 3) := by decide +kernel
theorem dX3_findEntering_73 : decode cX3_findEntering 73 = .ok (.iconst (-1), 1) := by decide +kernel
theorem dX3_findEntering_74 : decode cX3_findEntering 74 = .ok (.goto 14, 3) := by decide +kernel
theorem dX3_findEntering_77 : decode cX3_findEntering 77 = .ok (.aload_n 0, 1) := by decide +kernel
theorem dX3_findEntering_78 : decode cX3_findEntering 78 = .ok (.getfield 36, 3) := by decide +kernel
theorem dX3_findEntering_81 : decode cX3_findEntering 81 = .ok (.aload_n 0, 1) := by decide +kernel
theorem dX3_findEntering_82 : decode cX3_findEntering 82 = .ok (.getfield 39, 3) := by decide +kernel
theorem dX3_findEntering_85 : decode cX3_findEntering 85 = .ok (.invokevirtual 159, 3) := by decide +kernel
theorem dX3_findEntering_88 : decode cX3_findEntering 88 = .ok (.istore 4, 2) := by decide +kernel
theorem dX3_findEntering_90 : decode cX3_findEntering 90 = .ok (.iload 4, 2) := by decide +kernel
theorem dX3_findEntering_92 : decode cX3_findEntering 92 = .ok (.ifCond .lt 23, 3) := by decide +kernel
theorem dX3_findEntering_95 : decode cX3_findEntering 95 = .ok (.iload 4, 2) := by decide +kernel
theorem dX3_findEntering_97 : decode cX3_findEntering 97 = .ok (.ifCond .ne 31, 3) := by decide +kernel
theorem dX3_findEntering_100 : decode cX3_findEntering 100 = .ok (.aload_n 0, 1) := by decide +kernel
theorem dX3_findEntering_101 : decode cX3_findEntering 101 = .ok (.getfield 22, 3) := by decide +kernel
theorem dX3_findEntering_104 : decode cX3_findEntering 104 = .ok (.iload_n 3, 1) := by decide +kernel
theorem dX3_findEntering_105 : decode cX3_findEntering 105 = .ok (.iaload, 1) := by decide +kernel
theorem dX3_findEntering_106 : decode cX3_findEntering 106 = .ok (.aload_n 0, 1) := by decide +kernel
theorem dX3_findEntering_107 : decode cX3_findEntering 107 = .ok (.getfield 22, 3) := by decide +kernel
theorem dX3_findEntering_110 : decode cX3_findEntering 110 = .ok (.iload_n 2, 1) := by decide +kernel
theorem dX3_findEntering_111 : decode cX3_findEntering 111 = .ok (.iaload, 1) := by decide +kernel
theorem dX3_findEntering_112 : decode cX3_findEntering 112 = .ok (.if_icmp .ge 16, 3) := by decide +kernel
theorem dX3_findEntering_115 : decode cX3_findEntering 115 = .ok (.iload_n 3, 1) := by decide +kernel
theorem dX3_findEntering_116 : decode cX3_findEntering 116 = .ok (.istore_n 2, 1) := by decide +kernel
theorem dX3_findEntering_117 : decode cX3_findEntering 117 = .ok (.aload_n 0, 1) := by decide +kernel
theorem dX3_findEntering_118 : decode cX3_findEntering 118 = .ok (.getfield 39, 3) := by decide +kernel
theorem dX3_findEntering_121 : decode cX3_findEntering 121 = .ok (.aload_n 0, 1) := by decide +kernel
theorem dX3_findEntering_122 : decode cX3_findEntering 122 = .ok (.getfield 36, 3) := by decide +kernel
theorem dX3_findEntering_125 : decode cX3_findEntering 125 = .ok (.invokevirtual 124, 3) := by decide +kernel
theorem dX3_findEntering_128 : decode cX3_findEntering 128 = .ok (.iinc 3 1, 3) := by decide +kernel
theorem dX3_findEntering_131 : decode cX3_findEntering 131 = .ok (.goto (-126), 3) := by decide +kernel
theorem dX3_findEntering_134 : decode cX3_findEntering 134 = .ok (.iload_n 2, 1) := by decide +kernel
theorem dX3_findEntering_135 : decode cX3_findEntering 135 = .ok (.ireturn, 1) := by decide +kernel
theorem dX3_exchange_0 : decode cX3_exchange 0 = .ok (.aload_n 0, 1) := by decide +kernel
theorem dX3_exchange_1 : decode cX3_exchange 1 = .ok (.getfield 18, 3) := by decide +kernel
theorem dX3_exchange_4 : decode cX3_exchange 4 = .ok (.iload_n 1, 1) := by decide +kernel
theorem dX3_exchange_5 : decode cX3_exchange 5 = .ok (.aaload, 1) := by decide +kernel
theorem dX3_exchange_6 : decode cX3_exchange 6 = .ok (.astore_n 3, 1) := by decide +kernel
theorem dX3_exchange_7 : decode cX3_exchange 7 = .ok (.aload_n 0, 1) := by decide +kernel
theorem dX3_exchange_8 : decode cX3_exchange 8 = .ok (.aload_n 3, 1) := by decide +kernel
theorem dX3_exchange_9 : decode cX3_exchange 9 = .ok (.iload_n 2, 1) := by decide +kernel
theorem dX3_exchange_10 : decode cX3_exchange 10 = .ok (.invokevirtual 163, 3) := by decide +kernel
theorem dX3_exchange_13 : decode cX3_exchange 13 = .ok (.aload_n 3, 1) := by decide +kernel
theorem dX3_exchange_14 : decode cX3_exchange 14 = .ok (.getfield 121, 3) := by decide +kernel
theorem dX3_exchange_17 : decode cX3_exchange 17 = .ok (.istore 4, 2) := by decide +kernel
theorem dX3_exchange_19 : decode cX3_exchange 19 = .ok (.aload_n 3, 1) := by decide +kernel
theorem dX3_exchange_20 : decode cX3_exchange 20 = .ok (.aload_n 0, 1) := by decide +kernel
theorem dX3_exchange_21 : decode cX3_exchange 21 = .ok (.getfield 22, 3) := by decide +kernel
theorem dX3_exchange_24 : decode cX3_exchange 24 = .ok (.iload_n 2, 1) := by decide +kernel
theorem dX3_exchange_25 : decode cX3_exchange 25 = .ok (.iaload, 1) := by decide +kernel
theorem dX3_exchange_26 : decode cX3_exchange 26 = .ok (.putfield 121, 3) := by decide +kernel
theorem dX3_exchange_29 : decode cX3_exchange 29 = .ok (.aload_n 0, 1) := by decide +kernel
theorem dX3_exchange_30 : decode cX3_exchange 30 = .ok (.getfield 22, 3) := by decide +kernel
theorem dX3_exchange_33 : decode cX3_exchange 33 = .ok (.iload_n 2, 1) := by decide +kernel
theorem dX3_exchange_34 : decode cX3_exchange 34 = .ok (.iload 4, 2) := by decide +kernel
theorem dX3_exchange_36 : decode cX3_exchange 36 = .ok (.iastore, 1) := by decide +kernel
theorem dX3_exchange_37 : decode cX3_exchange 37 = .ok (.iconst 0, 1) := by decide +kernel
theorem dX3_exchange_38 : decode cX3_exchange 38 = .ok (.istore 5, 2) := by decide +kernel
theorem dX3_exchange_40 : decode cX3_exchange 40 = .ok (.iload 5, 2) := by decide +kernel
theorem dX3_exchange_42 : decode cX3_exchange 42 = .ok (.aload_n 0, 1) := by decide +kernel
theorem dX3_exchange_43 : decode cX3_exchange 43 = .ok (.getfield 77, 3) := by decide +kernel
theorem dX3_exchange_46 : decode cX3_exchange 46 = .ok (.if_icmp .ge 28, 3) := by decide +kernel
theorem dX3_exchange_49 : decode cX3_exchange 49 = .ok (.iload 5, 2) := by decide +kernel
theorem dX3_exchange_51 : decode cX3_exchange 51 = .ok (.iload_n 1, 1) := by decide +kernel
theorem dX3_exchange_52 : decode cX3_exchange 52 = .ok (.if_icmp .eq 16, 3) := by decide +kernel
theorem dX3_exchange_55 : decode cX3_exchange 55 = .ok (.aload_n 0, 1) := by decide +kernel
theorem dX3_exchange_56 : decode cX3_exchange 56 = .ok (.aload_n 0, 1) := by decide +kernel
theorem dX3_exchange_57 : decode cX3_exchange 57 = .ok (.getfield 18, 3) := by decide +kernel
theorem dX3_exchange_60 : decode cX3_exchange 60 = .ok (.iload 5, 2) := by decide +kernel
theorem dX3_exchange_62 : decode cX3_exchange 62 = .ok (.aaload, 1) := by decide +kernel
theorem dX3_exchange_63 : decode cX3_exchange 63 = .ok (.aload_n 3, 1) := by decide +kernel
theorem dX3_exchange_64 : decode cX3_exchange 64 = .ok (.iload_n 2, 1) := by decide +kernel
theorem dX3_exchange_65 : decode cX3_exchange 65 = .ok (.invokevirtual 167, 3) := by decide +kernel
theorem dX3_exchange_68 : decode cX3_exchange 68 = .ok (.iinc 5 1, 3) := by decide +kernel
theorem dX3_exchange_71 : decode cX3_exchange 71 = .ok (.goto (-31), 3) := by decide +kernel
theorem dX3_exchange_74 : decode cX3_exchange 74 = .ok (.aload_n 0, 1) := by decide +kernel
theorem dX3_exchange_75 : decode cX3_exchange 75 = .ok (.aload_n 0, 1) := by decide +kernel
theorem dX3_exchange_76 : decode cX3_exchange 76 = .ok (.getfield 12, 3) := by decide +kernel
theorem dX3_exchange_79 : decode cX3_exchange 79 = .ok (.aload_n 3, 1) := by decide +kernel
theorem dX3_exchange_80 : decode cX3_exchange 80 = .ok (.iload_n 2, 1) := by decide +kernel
theorem dX3_exchange_81 : decode cX3_exchange 81 = .ok (.invokevirtual 167, 3) := by decide +kernel
theorem dX3_exchange_84 : decode cX3_exchange 84 = .ok (.return_, 1) := by decide +kernel
theorem dX3_solveFor_0 : decode cX3_solveFor 0 = .ok (.aload_n 0, 1) := by decide +kernel
theorem dX3_solveFor_1 : decode cX3_solveFor 1 = .ok (.getfield 29, 3) := by decide +kernel
theorem dX3_solveFor_4 : decode cX3_solveFor 4 = .ok (.aload_n 1, 1) := by decide +kernel
theorem dX3_solveFor_5 : decode cX3_solveFor 5 = .ok (.getfield 55, 3) := by decide +kernel
theorem dX3_solveFor_8 : decode cX3_solveFor 8 = .ok (.iload_n 2, 1) := by decide +kernel
theorem dX3_solveFor_9 : decode cX3_solveFor 9 = .ok (.aaload, 1) := by decide +kernel
theorem dX3_solveFor_10 : decode cX3_solveFor 10 = .ok (.invokevirtual 124, 3) := by decide +kernel
theorem dX3_solveFor_13 : decode cX3_solveFor 13 = .ok (.aload_n 1, 1) := by decide +kernel
theorem dX3_solveFor_14 : decode cX3_solveFor 14 = .ok (.getfield 97, 3) := by decide +kernel
theorem dX3_solveFor_17 : decode cX3_solveFor 17 = .ok (.aload_n 0, 1) := by decide +kernel
theorem dX3_solveFor_18 : decode cX3_solveFor 18 = .ok (.getfield 29, 3) := by decide +kernel
theorem dX3_solveFor_21 : decode cX3_solveFor 21 = .ok (.invokevirtual 152, 3) := by decide +kernel
theorem dX3_solveFor_24 : decode cX3_solveFor 24 = .ok (.aload_n 1, 1) := by decide +kernel
theorem dX3_solveFor_25 : decode cX3_solveFor 25 = .ok (.getfield 97, 3) := by decide +kernel
theorem dX3_solveFor_28 : decode cX3_solveFor 28 = .ok (.invokevirtual 139, 3) := by decide +kernel
theorem dX3_solveFor_31 : decode cX3_solveFor 31 = .ok (.iconst 0, 1) := by decide +kernel
theorem dX3_solveFor_32 : decode cX3_solveFor 32 = .ok (.istore_n 3, 1) := by decide +kernel
theorem dX3_solveFor_33 : decode cX3_solveFor 33 = .ok (.iload_n 3, 1) := by decide +kernel
theorem dX3_solveFor_34 : decode cX3_solveFor 34 = .ok (.aload_n 0, 1) := by decide +kernel
theorem dX3_solveFor_35 : decode cX3_solveFor 35 = .ok (.getfield 48, 3) := by decide +kernel
theorem dX3_solveFor_38 : decode cX3_solveFor 38 = .ok (.if_icmp .ge 63, 3) := by decide +kernel
theorem dX3_solveFor_41 : decode cX3_solveFor 41 = .ok (.iload_n 3, 1) := by decide +kernel
theorem dX3_solveFor_42 : decode cX3_solveFor 42 = .ok (.iload_n 2, 1) := by decide +kernel
theorem dX3_solveFor_43 : decode cX3_solveFor 43 = .ok (.if_icmp .ne 30, 3) := by decide +kernel
theorem dX3_solveFor_46 : decode cX3_solveFor 46 = .ok (.aload_n 1, 1) := by decide +kernel
theorem dX3_solveFor_47 : decode cX3_solveFor 47 = .ok (.getfield 55, 3) := by decide +kernel
theorem dX3_solveFor_50 : decode cX3_solveFor 50 = .ok (.iload_n 3, 1) := by decide +kernel
theorem dX3_solveFor_51 : decode cX3_solveFor 51 = .ok (.aaload, 1) := by decide +kernel
theorem dX3_solveFor_52 : decode cX3_solveFor 52 = .ok (.lconst 1, 1) := by decide +kernel
theorem dX3_solveFor_53 : decode cX3_solveFor 53 = .ok (.lconst 1, 1) := by decide +kernel
theorem dX3_solveFor_54 : decode cX3_solveFor 54 = .ok (.invokevirtual 68, 3) := by decide +kernel
theorem dX3_solveFor_57 : decode cX3_solveFor 57 = .ok (.aload_n 1, 1) := by decide +kernel
theorem dX3_solveFor_58 : decode cX3_solveFor 58 = .ok (.getfield 55, 3) := by decide +kernel
theorem dX3_solveFor_61 : decode cX3_solveFor 61 = .ok (.iload_n 3, 1) := by decide +kernel
theorem dX3_solveFor_62 : decode cX3_solveFor 62 = .ok (.aaload, 1) := by decide +kernel
theorem dX3_solveFor_63 : decode cX3_solveFor 63 = .ok (.aload_n 0, 1) := by decide +kernel
theorem dX3_solveFor_64 : decode cX3_solveFor 64 = .ok (.getfield 29, 3) := by decide +kernel
theorem dX3_solveFor_67 : decode cX3_solveFor 67 = .ok (.invokevirtual 152, 3) := by decide +kernel
theorem dX3_solveFor_70 : decode cX3_solveFor 70 = .ok (.goto 25, 3) := by decide +kernel
theorem dX3_solveFor_73 : decode cX3_solveFor 73 = .ok (.aload_n 1, 1) := by decide +kernel
theorem dX3_solveFor_74 : decode cX3_solveFor 74 = .ok (.getfield 55, 3) := by decide +kernel
theorem dX3_solveFor_77 : decode cX3_solveFor 77 = .ok (.iload_n 3, 1) := by decide +kernel
theorem dX3_solveFor_78 : decode cX3_solveFor 78 = .ok (.aaload, 1) := by decide +kernel
theorem dX3_solveFor_79 : decode cX3_solveFor 79 = .ok (.aload_n 0, 1) := by decide +kernel
theorem dX3_solveFor_80 : decode cX3_solveFor 80 = .ok (.getfield 29, 3) := by decide +kernel
theorem dX3_solveFor_83 : decode cX3_solveFor 83 = .ok (.invokevirtual 152, 3) := by decide +kernel
theorem dX3_solveFor_86 : decode cX3_solveFor 86 = .ok (.aload_n 1, 1) := by decide +kernel
theorem dX3_solveFor_87 : decode cX3_solveFor 87 = .ok (.getfield 55, 3) := by decide +kernel
theorem dX3_solveFor_90 : decode cX3_solveFor 90 = .ok (.iload_n 3, 1) := by decide +kernel
theorem dX3_solveFor_91 : decode cX3_solveFor 91 = .ok (.aaload, 1) := by decide +kernel
theorem dX3_solveFor_92 : decode cX3_solveFor 92 = .ok (.invokevirtual 139, 3) := by decide +kernel
theorem dX3_solveFor_95 : decode cX3_solveFor 95 = .ok (.iinc 3 1, 3) := by decide +kernel
theorem dX3_solveFor_98 : decode cX3_solveFor 98 = .ok (.goto (-65), 3) := by decide +kernel
theorem dX3_solveFor_101 : decode cX3_solveFor 101 = .ok (.return_, 1) := by decide +kernel
theorem dX3_replaceIn_0 : decode cX3_replaceIn 0 = .ok (.aload_n 0, 1) := by decide +kernel
theorem dX3_replaceIn_1 : decode cX3_replaceIn 1 = .ok (.getfield 29, 3) := by decide +kernel
theorem dX3_replaceIn_4 : decode cX3_replaceIn 4 = .ok (.aload_n 1, 1) := by decide +kernel
theorem dX3_replaceIn_5 : decode cX3_replaceIn 5 = .ok (.getfield 55, 3) := by decide +kernel
theorem dX3_replaceIn_8 : decode cX3_replaceIn 8 = .ok (.iload_n 3, 1) := by decide +kernel
theorem dX3_replaceIn_9 : decode cX3_replaceIn 9 = .ok (.aaload, 1) := by decide +kernel
theorem dX3_replaceIn_10 : decode cX3_replaceIn 10 = .ok (.invokevirtual 124, 3) := by decide +kernel
theorem dX3_replaceIn_13 : decode cX3_replaceIn 13 = .ok (.aload_n 0, 1) := by decide +kernel
theorem dX3_replaceIn_14 : decode cX3_replaceIn 14 = .ok (.getfield 33, 3) := by decide +kernel
theorem dX3_replaceIn_17 : decode cX3_replaceIn 17 = .ok (.aload_n 2, 1) := by decide +kernel
theorem dX3_replaceIn_18 : decode cX3_replaceIn 18 = .ok (.getfield 97, 3) := by decide +kernel
theorem dX3_replaceIn_21 : decode cX3_replaceIn 21 = .ok (.invokevirtual 124, 3) := by decide +kernel
theorem dX3_replaceIn_24 : decode cX3_replaceIn 24 = .ok (.aload_n 0, 1) := by decide +kernel
theorem dX3_replaceIn_25 : decode cX3_replaceIn 25 = .ok (.getfield 33, 3) := by decide +kernel
theorem dX3_replaceIn_28 : decode cX3_replaceIn 28 = .ok (.aload_n 0, 1) := by decide +kernel
theorem dX3_replaceIn_29 : decode cX3_replaceIn 29 = .ok (.getfield 29, 3) := by decide +kernel
theorem dX3_replaceIn_32 : decode cX3_replaceIn 32 = .ok (.invokevirtual 132, 3) := by decide +kernel
theorem dX3_replaceIn_35 : decode cX3_replaceIn 35 = .ok (.aload_n 1, 1) := by decide +kernel
theorem dX3_replaceIn_36 : decode cX3_replaceIn 36 = .ok (.getfield 97, 3) := by decide +kernel
theorem dX3_replaceIn_39 : decode cX3_replaceIn 39 = .ok (.aload_n 0, 1) := by decide +kernel
theorem dX3_replaceIn_40 : decode cX3_replaceIn 40 = .ok (.getfield 33, 3) := by decide +kernel
theorem dX3_replaceIn_43 : decode cX3_replaceIn 43 = .ok (.invokevirtual 100, 3) := by decide +kernel
theorem dX3_replaceIn_46 : decode cX3_replaceIn 46 = .ok (.iconst 0, 1) := by decide +kernel
theorem dX3_replaceIn_47 : decode cX3_replaceIn 47 = .ok (.istore 4, 2) := by decide +kernel
theorem dX3_replaceIn_49 : decode cX3_replaceIn 49 = .ok (.iload 4, 2) := by decide +kernel
theorem dX3_replaceIn_51 : decode cX3_replaceIn 51 = .ok (.aload_n 0, 1) := by decide +kernel
theorem dX3_replaceIn_52 : decode cX3_replaceIn 52 = .ok (.getfield 48, 3) := by decide +kernel
theorem dX3_replaceIn_55 : decode cX3_replaceIn 55 = .ok (.if_icmp .ge 74, 3) := by decide +kernel
theorem dX3_replaceIn_58 : decode cX3_replaceIn 58 = .ok (.iload 4, 2) := by decide +kernel
theorem dX3_replaceIn_60 : decode cX3_replaceIn 60 = .ok (.iload_n 3, 1) := by decide +kernel
theorem dX3_replaceIn_61 : decode cX3_replaceIn 61 = .ok (.if_icmp .ne 23, 3) := by decide +kernel
theorem dX3_replaceIn_64 : decode cX3_replaceIn 64 = .ok (.aload_n 1, 1) := by decide +kernel
theorem dX3_replaceIn_65 : decode cX3_replaceIn 65 = .ok (.getfield 55, 3) := by decide +kernel
theorem dX3_replaceIn_68 : decode cX3_replaceIn 68 = .ok (.iload 4, 2) := by decide +kernel
theorem dX3_replaceIn_70 : decode cX3_replaceIn 70 = .ok (.aaload, 1) := by decide +kernel
theorem dX3_replaceIn_71 : decode cX3_replaceIn 71 = .ok (.aload_n 2, 1) := by decide +kernel
theorem dX3_replaceIn_72 : decode cX3_replaceIn 72 = .ok (.getfield 55, 3) := by decide +kernel
theorem dX3_replaceIn_75 : decode cX3_replaceIn 75 = .ok (.iload 4, 2) := by decide +kernel
theorem dX3_replaceIn_77 : decode cX3_replaceIn 77 = .ok (.aaload, 1) := by decide +kernel
theorem dX3_replaceIn_78 : decode cX3_replaceIn 78 = .ok (.invokevirtual 132, 3) := by decide +kernel
theorem dX3_replaceIn_81 : decode cX3_replaceIn 81 = .ok (.goto 42, 3) := by decide +kernel
theorem dX3_replaceIn_84 : decode cX3_replaceIn 84 = .ok (.aload_n 0, 1) := by decide +kernel
theorem dX3_replaceIn_85 : decode cX3_replaceIn 85 = .ok (.getfield 33, 3) := by decide +kernel
theorem dX3_replaceIn_88 : decode cX3_replaceIn 88 = .ok (.aload_n 2, 1) := by decide +kernel
theorem dX3_replaceIn_89 : decode cX3_replaceIn 89 = .ok (.getfield 55, 3) := by decide +kernel
theorem dX3_replaceIn_92 : decode cX3_replaceIn 92 = .ok (.iload 4, 2) := by decide +kernel
theorem dX3_replaceIn_94 : decode cX3_replaceIn 94 = .ok (.aaload, 1) := by decide +kernel
theorem dX3_replaceIn_95 : decode cX3_replaceIn 95 = .ok (.invokevirtual 124, 3) := by decide +kernel
theorem dX3_replaceIn_98 : decode cX3_replaceIn 98 = .ok (.aload_n 0, 1) := by decide +kernel
theorem dX3_replaceIn_99 : decode cX3_replaceIn 99 = .ok (.getfield 33, 3) := by decide +kernel
theorem dX3_replaceIn_102 : decode cX3_replaceIn 102 = .ok (.aload_n 0, 1) := by decide +kernel
theorem dX3_replaceIn_103 : decode cX3_replaceIn 103 = .ok (.getfield 29, 3) := by decide +kernel
theorem dX3_replaceIn_106 : decode cX3_replaceIn 106 = .ok (.invokevirtual 132, 3) := by decide +kernel
theorem dX3_replaceIn_109 : decode cX3_replaceIn 109 = .ok (.aload_n 1, 1) := by decide +kernel
theorem dX3_replaceIn_110 : decode cX3_replaceIn 110 = .ok (.getfield 55, 3) := by decide +kernel
theorem dX3_replaceIn_113 : decode cX3_replaceIn 113 = .ok (.iload 4, 2) := by decide +kernel
theorem dX3_replaceIn_115 : decode cX3_replaceIn 115 = .ok (.aaload, 1) := by decide +kernel
theorem dX3_replaceIn_116 : decode cX3_replaceIn 116 = .ok (.aload_n 0, 1) := by decide +kernel
theorem dX3_replaceIn_117 : decode cX3_replaceIn 117 = .ok (.getfield 33, 3) := by decide +kernel
theorem dX3_replaceIn_120 : decode cX3_replaceIn 120 = .ok (.invokevirtual 100, 3) := by decide +kernel
theorem dX3_replaceIn_123 : decode cX3_replaceIn 123 = .ok (.iinc 4 1, 3) := by decide +kernel
theorem dX3_replaceIn_126 : decode cX3_replaceIn 126 = .ok (.goto (-77), 3) := by decide +kernel
theorem dX3_replaceIn_129 : decode cX3_replaceIn 129 = .ok (.return_, 1) := by decide +kernel
theorem dX3_isGreat_0 : decode cX3_isGreat 0 = .ok (.aload_n 0, 1) := by decide +kernel
theorem dX3_isGreat_1 : decode cX3_isGreat 1 = .ok (.getfield 12, 3) := by decide +kernel
theorem dX3_isGreat_4 : decode cX3_isGreat 4 = .ok (.invokevirtual 171, 3) := by decide +kernel
theorem dX3_isGreat_7 : decode cX3_isGreat 7 = .ok (.istore_n 1, 1) := by decide +kernel
theorem dX3_isGreat_8 : decode cX3_isGreat 8 = .ok (.iconst 0, 1) := by decide +kernel
theorem dX3_isGreat_9 : decode cX3_isGreat 9 = .ok (.istore_n 2, 1) := by decide +kernel
theorem dX3_isGreat_10 : decode cX3_isGreat 10 = .ok (.iload_n 2, 1) := by decide +kernel
theorem dX3_isGreat_11 : decode cX3_isGreat 11 = .ok (.aload_n 0, 1) := by decide +kernel
theorem dX3_isGreat_12 : decode cX3_isGreat 12 = .ok (.getfield 77, 3) := by decide +kernel
theorem dX3_isGreat_15 : decode cX3_isGreat 15 = .ok (.if_icmp .ge 31, 3) := by decide +kernel
theorem dX3_isGreat_18 : decode cX3_isGreat 18 = .ok (.iload_n 1, 1) := by decide +kernel
theorem dX3_isGreat_19 : decode cX3_isGreat 19 = .ok (.ifCond .ne 15, 3) := by decide +kernel
theorem dX3_isGreat_22 : decode cX3_isGreat 22 = .ok (.aload_n 0, 1) := by decide +kernel
theorem dX3_isGreat_23 : decode cX3_isGreat 23 = .ok (.getfield 18, 3) := by decide +kernel
theorem dX3_isGreat_26 : decode cX3_isGreat 26 = .ok (.iload_n 2, 1) := by decide +kernel
theorem dX3_isGreat_27 : decode cX3_isGreat 27 = .ok (.aaload, 1) := by decide +kernel
theorem dX3_isGreat_28 : decode cX3_isGreat 28 = .ok (.invokevirtual 171, 3) := by decide +kernel
theorem dX3_isGreat_31 : decode cX3_isGreat 31 = .ok (.ifCond .eq 7, 3) := by decide +kernel
theorem dX3_isGreat_34 : decode cX3_isGreat 34 = .ok (.iconst 1, 1) := by decide +kernel
theorem dX3_isGreat_35 : decode cX3_isGreat 35 = .ok (.goto 4, 3) := by decide +kernel
theorem dX3_isGreat_38 : decode cX3_isGreat 38 = .ok (.iconst 0, 1) := by decide +kernel
theorem dX3_isGreat_39 : decode cX3_isGreat 39 = .ok (.istore_n 1, 1) := by decide +kernel
theorem dX3_isGreat_40 : decode cX3_isGreat 40 = .ok (.iinc 2 1, 3) := by decide +kernel
theorem dX3_isGreat_43 : decode cX3_isGreat 43 = .ok (.goto (-33), 3) := by decide +kernel
theorem dX3_isGreat_46 : decode cX3_isGreat 46 = .ok (.iload_n 1, 1) := by decide +kernel
theorem dX3_isGreat_47 : decode cX3_isGreat 47 = .ok (.ireturn, 1) := by decide +kernel
theorem dX4_init_0 : decode cX4_init 0 = .ok (.aload_n 0, 1) := by decide +kernel
theorem dX4_init_1 : decode cX4_init 1 = .ok (.invokespecial 3, 3) := by decide +kernel
theorem dX4_init_4 : decode cX4_init 4 = .ok (.aload_n 0, 1) := by decide +kernel
theorem dX4_init_5 : decode cX4_init 5 = .ok (.lconst 1, 1) := by decide +kernel
theorem dX4_init_6 : decode cX4_init 6 = .ok (.putfield 9, 3) := by decide +kernel
theorem dX4_init_9 : decode cX4_init 9 = .ok (.return_, 1) := by decide +kernel
theorem dX4_become_0 : decode cX4_become 0 = .ok (.aload_n 0, 1) := by decide +kernel
theorem dX4_become_1 : decode cX4_become 1 = .ok (.iconst 0, 1) := by decide +kernel
theorem dX4_become_2 : decode cX4_become 2 = .ok (.putfield 15, 3) := by decide +kernel
theorem dX4_become_5 : decode cX4_become 5 = .ok (.aload_n 0, 1) := by decide +kernel
theorem dX4_become_6 : decode cX4_become 6 = .ok (.lload_n 1, 1) := by decide +kernel
theorem dX4_become_7 : decode cX4_become 7 = .ok (.lload_n 3, 1) := by decide +kernel
theorem dX4_become_8 : decode cX4_become 8 = .ok (.invokevirtual 19, 3) := by decide +kernel
theorem dX4_become_11 : decode cX4_become 11 = .ok (.return_, 1) := by decide +kernel
theorem dX4_become__0 : decode cX4_become_ 0 = .ok (.aload_n 0, 1) := by decide +kernel
theorem dX4_become__1 : decode cX4_become_ 1 = .ok (.aload_n 1, 1) := by decide +kernel
theorem dX4_become__2 : decode cX4_become_ 2 = .ok (.getfield 23, 3) := by decide +kernel
theorem dX4_become__5 : decode cX4_become_ 5 = .ok (.putfield 23, 3) := by decide +kernel
theorem dX4_become__8 : decode cX4_become_ 8 = .ok (.aload_n 0, 1) := by decide +kernel
theorem dX4_become__9 : decode cX4_become_ 9 = .ok (.aload_n 1, 1) := by decide +kernel
theorem dX4_become__10 : decode cX4_become_ 10 = .ok (.getfield 9, 3) := by decide +kernel
theorem dX4_become__13 : decode cX4_become_ 13 = .ok (.putfield 9, 3) := by decide +kernel
theorem dX4_become__16 : decode cX4_become_ 16 = .ok (.aload_n 0, 1) := by decide +kernel
theorem dX4_become__17 : decode cX4_become_ 17 = .ok (.aload_n 1, 1) := by decide +kernel
theorem dX4_become__18 : decode cX4_become_ 18 = .ok (.getfield 15, 3) := by decide +kernel
theorem dX4_become__21 : decode cX4_become_ 21 = .ok (.putfield 15, 3) := by decide +kernel
theorem dX4_become__24 : decode cX4_become_ 24 = .ok (.return_, 1) := by decide +kernel
theorem dX4_becomeFactor_0 : decode cX4_becomeFactor 0 = .ok (.aload_n 0, 1) := by decide +kernel
theorem dX4_becomeFactor_1 : decode cX4_becomeFactor 1 = .ok (.iconst 4, 1) := by decide +kernel
theorem dX4_becomeFactor_2 : decode cX4_becomeFactor 2 = .ok (.iload_n 1, 1) := by decide +kernel
theorem dX4_becomeFactor_3 : decode cX4_becomeFactor 3 = .ok (.iadd, 1) := by decide +kernel
theorem dX4_becomeFactor_4 : decode cX4_becomeFactor 4 = .ok (.i2l, 1) := by decide +kernel
theorem dX4_becomeFactor_5 : decode cX4_becomeFactor 5 = .ok (.ldc2_w 26, 3) := by decide +kernel
theorem dX4_becomeFactor_8 : decode cX4_becomeFactor 8 = .ok (.invokevirtual 28, 3) := by decide +kernel
theorem dX4_becomeFactor_11 : decode cX4_becomeFactor 11 = .ok (.return_, 1) := by decide +kernel
theorem dX4_add_0 : decode cX4_add 0 = .ok (.aload_n 0, 1) := by decide +kernel
theorem dX4_add_1 : decode cX4_add 1 = .ok (.aload_n 0, 1) := by decide +kernel
theorem dX4_add_2 : decode cX4_add 2 = .ok (.getfield 15, 3) := by decide +kernel
theorem dX4_add_5 : decode cX4_add 5 = .ok (.ifCond .ne 10, 3) := by decide +kernel
theorem dX4_add_8 : decode cX4_add 8 = .ok (.aload_n 1, 1) := by decide +kernel
theorem dX4_add_9 : decode cX4_add 9 = .ok (.getfield 15, 3) := by decide +kernel
theorem dX4_add_12 : decode cX4_add 12 = .ok (.ifCond .eq 7, 3) := by decide +kernel
theorem dX4_add_15 : decode cX4_add 15 = .ok (.iconst 1, 1) := by decide +kernel
theorem dX4_add_16 : decode cX4_add 16 = .ok (.goto 4, 3) := by decide +kernel
theorem dX4_add_19 : decode cX4_add 19 = .ok (.iconst 0, 1) := by decide +kernel
theorem dX4_add_20 : decode cX4_add 20 = .ok (.putfield 15, 3) := by decide +kernel
theorem dX4_add_23 : decode cX4_add 23 = .ok (.aload_n 0, 1) := by decide +kernel
theorem dX4_add_24 : decode cX4_add 24 = .ok (.getfield 23, 3) := by decide +kernel
theorem dX4_add_27 : decode cX4_add 27 = .ok (.aload_n 1, 1) := by decide +kernel
theorem dX4_add_28 : decode cX4_add 28 = .ok (.getfield 9, 3) := by decide +kernel
theorem dX4_add_31 : decode cX4_add 31 = .ok (.invokestatic 31, 3) := by decide +kernel
theorem dX4_add_34 : decode cX4_add 34 = .ok (.lstore_n 2, 1) := by decide +kernel
theorem dX4_add_35 : decode cX4_add 35 = .ok (.aload_n 1, 1) := by decide +kernel
theorem dX4_add_36 : decode cX4_add 36 = .ok (.getfield 23, 3) := by decide +kernel
theorem dX4_add_39 : decode cX4_add 39 = .ok (.aload_n 0, 1) := by decide +kernel
theorem dX4_add_40 : decode cX4_add 40 = .ok (.getfield 9, 3) := by decide +kernel
theorem dX4_add_43 : decode cX4_add 43 = .ok (.invokestatic 31, 3) := by decide +kernel
theorem dX4_add_46 : decode cX4_add 46 = .ok (.lstore 4, 2) := by decide +kernel
theorem dX4_add_48 : decode cX4_add 48 = .ok (.aload_n 0, 1) := by decide +kernel
theorem dX4_add_49 : decode cX4_add 49 = .ok (.getfield 9, 3) := by decide +kernel
theorem dX4_add_52 : decode cX4_add 52 = .ok (.aload_n 1, 1) := by decide +kernel
theorem dX4_add_53 : decode cX4_add 53 = .ok (.getfield 9, 3) := by decide +kernel
theorem dX4_add_56 : decode cX4_add 56 = .ok (.invokestatic 31, 3) := by decide +kernel
theorem dX4_add_59 : decode cX4_add 59 = .ok (.lstore 6, 2) := by decide +kernel
theorem dX4_add_61 : decode cX4_add 61 = .ok (.lload_n 2, 1) := by decide +kernel
theorem dX4_add_62 : decode cX4_add 62 = .ok (.ldc2_w 35, 3) := by decide +kernel
theorem dX4_add_65 : decode cX4_add 65 = .ok (.lcmp, 1) := by decide +kernel
theorem dX4_add_66 : decode cX4_add 66 = .ok (.ifCond .eq 21, 3) := by decide +kernel
theorem dX4_add_69 : decode cX4_add 69 = .ok (.lload 4, 2) := by decide +kernel
theorem dX4_add_71 : decode cX4_add 71 = .ok (.ldc2_w 35, 3) := by decide +kernel
theorem dX4_add_74 : decode cX4_add 74 = .ok (.lcmp, 1) := by decide +kernel
theorem dX4_add_75 : decode cX4_add 75 = .ok (.ifCond .eq 12, 3) := by decide +kernel
theorem dX4_add_78 : decode cX4_add 78 = .ok (.lload 6, 2) := by decide +kernel
theorem dX4_add_80 : decode cX4_add 80 = .ok (.ldc2_w 35, 3) := by decide +kernel
theorem dX4_add_83 : decode cX4_add 83 = .ok (.lcmp, 1) := by decide +kernel
theorem dX4_add_84 : decode cX4_add 84 = .ok (.ifCond .ne 11, 3) := by decide +kernel
theorem dX4_add_87 : decode cX4_add 87 = .ok (.aload_n 0, 1) := by decide +kernel
theorem dX4_add_88 : decode cX4_add 88 = .ok (.iconst 1, 1) := by decide +kernel
theorem dX4_add_89 : decode cX4_add 89 = .ok (.putfield 15, 3) := by decide +kernel
theorem dX4_add_92 : decode cX4_add 92 = .ok (.goto 15, 3) := by decide +kernel
theorem dX4_add_95 : decode cX4_add 95 = .ok (.aload_n 0, 1) := by decide +kernel
theorem dX4_add_96 : decode cX4_add 96 = .ok (.lload_n 2, 1) := by decide +kernel
theorem dX4_add_97 : decode cX4_add 97 = .ok (.lload 4, 2) := by decide +kernel
theorem dX4_add_99 : decode cX4_add 99 = .ok (.invokestatic 37, 3) := by decide +kernel
theorem dX4_add_102 : decode cX4_add 102 = .ok (.lload 6, 2) := by decide +kernel
theorem dX4_add_104 : decode cX4_add 104 = .ok (.invokevirtual 19, 3) := by decide +kernel
theorem dX4_add_107 : decode cX4_add 107 = .ok (.return_, 1) := by decide +kernel
theorem dX4_multiply_0 : decode cX4_multiply 0 = .ok (.aload_n 0, 1) := by decide +kernel
theorem dX4_multiply_1 : decode cX4_multiply 1 = .ok (.aload_n 0, 1) := by decide +kernel
theorem dX4_multiply_2 : decode cX4_multiply 2 = .ok (.getfield 15, 3) := by decide +kernel
theorem dX4_multiply_5 : decode cX4_multiply 5 = .ok (.ifCond .ne 10, 3) := by decide +kernel
theorem dX4_multiply_8 : decode cX4_multiply 8 = .ok (.aload_n 1, 1) := by decide +kernel
theorem dX4_multiply_9 : decode cX4_multiply 9 = .ok (.getfield 15, 3) := by decide +kernel
theorem dX4_multiply_12 : decode cX4_multiply 12 = .ok (.ifCond .eq 7, 3) := by decide +kernel
theorem dX4_multiply_15 : decode cX4_multiply 15 = .ok (.iconst 1, 1) := by decide +kernel
theorem dX4_multiply_16 : decode cX4_multiply 16 = .ok (.goto 4, 3) := by decide +kernel
theorem dX4_multiply_19 : decode cX4_multiply 19 = .ok (.iconst 0, 1) := by decide +kernel
theorem dX4_multiply_20 : decode cX4_multiply 20 = .ok (.putfield 15, 3) := by decide +kernel
theorem dX4_multiply_23 : decode cX4_multiply 23 = .ok (.aload_n 0, 1) := by decide +kernel
theorem dX4_multiply_24 : decode cX4_multiply 24 = .ok (.aload_n 0, 1) := by decide +kernel
theorem dX4_multiply_25 : decode cX4_multiply 25 = .ok (.getfield 23, 3) := by decide +kernel
theorem dX4_multiply_28 : decode cX4_multiply 28 = .ok (.aload_n 1, 1) := by decide +kernel
theorem dX4_multiply_29 : decode cX4_multiply 29 = .ok (.getfield 23, 3) := by decide +kernel
theorem dX4_multiply_32 : decode cX4_multiply 32 = .ok (.invokestatic 31, 3) := by decide +kernel
theorem dX4_multiply_35 : decode cX4_multiply 35 = .ok (.aload_n 0, 1) := by decide +kernel
theorem dX4_multiply_36 : decode cX4_multiply 36 = .ok (.getfield 9, 3) := by decide +kernel
theorem dX4_multiply_39 : decode cX4_multiply 39 = .ok (.aload_n 1, 1) := by decide +kernel
theorem dX4_multiply_40 : decode cX4_multiply 40 = .ok (.getfield 9, 3) := by decide +kernel
theorem dX4_multiply_43 : decode cX4_multiply 43 = .ok (.invokestatic 31, 3) := by decide +kernel
theorem dX4_multiply_46 : decode cX4_multiply 46 = .ok (.invokevirtual 19, 3) := by decide +kernel
theorem dX4_multiply_49 : decode cX4_multiply 49 = .ok (.return_, 1) := by decide +kernel
theorem dX4_divide_0 : decode cX4_divide 0 = .ok (.aload_n 0, 1) := by decide +kernel
theorem dX4_divide_1 : decode cX4_divide 1 = .ok (.aload_n 0, 1) := by decide +kernel
theorem dX4_divide_2 : decode cX4_divide 2 = .ok (.getfield 15, 3) := by decide +kernel
theorem dX4_divide_5 : decode cX4_divide 5 = .ok (.ifCond .ne 19, 3) := by decide +kernel
theorem dX4_divide_8 : decode cX4_divide 8 = .ok (.aload_n 1, 1) := by decide +kernel
theorem dX4_divide_9 : decode cX4_divide 9 = .ok (.getfield 15, 3) := by decide +kernel
theorem dX4_divide_12 : decode cX4_divide 12 = .ok (.ifCond .ne 12, 3) := by decide +kernel
theorem dX4_divide_15 : decode cX4_divide 15 = .ok (.aload_n 1, 1) := by decide +kernel
theorem dX4_divide_16 : decode cX4_divide 16 = .ok (.getfield 23, 3) := by decide +kernel
theorem dX4_divide_19 : decode cX4_divide 19 = .ok (.lconst 0, 1) := by decide +kernel
theorem dX4_divide_20 : decode cX4_divide 20 = .ok (.lcmp, 1) := by decide +kernel
theorem dX4_divide_21 : decode cX4_divide 21 = .ok (.ifCond .ne 7, 3) := by decide +kernel
theorem dX4_divide_24 : decode cX4_divide 24 = .ok (.iconst 1, 1) := by decide +kernel
theorem dX4_divide_25 : decode cX4_divide 25 = .ok (.goto 4, 3) := by decide +kernel
theorem dX4_divide_28 : decode cX4_divide 28 = .ok (.iconst 0, 1) := by decide +kernel
theorem dX4_divide_29 : decode cX4_divide 29 = .ok (.putfield 15, 3) := by decide +kernel
theorem dX4_divide_32 : decode cX4_divide 32 = .ok (.aload_n 1, 1) := by decide +kernel
theorem dX4_divide_33 : decode cX4_divide 33 = .ok (.getfield 23, 3) := by decide +kernel
theorem dX4_divide_36 : decode cX4_divide 36 = .ok (.lconst 0, 1) := by decide +kernel
theorem dX4_divide_37 : decode cX4_divide 37 = .ok (.lcmp, 1) := by decide +kernel
theorem dX4_divide_38 : decode cX4_divide 38 = .ok (.ifCond .ge 7, 3) := by decide +kernel
theorem dX4_divide_41 : decode cX4_divide 41 = .ok (.iconst (-1), 1) := by decide +kernel
theorem dX4_divide_42 : decode cX4_divide 42 = .ok (.goto 4, 3) := by decide +kernel
theorem dX4_divide_45 : decode cX4_divide 45 = .ok (.iconst 1, 1) := by decide +kernel
theorem dX4_divide_46 : decode cX4_divide 46 = .ok (.istore_n 2, 1) := by decide +kernel
theorem dX4_divide_47 : decode cX4_divide 47 = .ok (.aload_n 0, 1) := by decide +kernel
theorem dX4_divide_48 : decode cX4_divide 48 = .ok (.aload_n 0, 1) := by decide +kernel
theorem dX4_divide_49 : decode cX4_divide 49 = .ok (.getfield 23, 3) := by decide +kernel
theorem dX4_divide_52 : decode cX4_divide 52 = .ok (.iload_n 2, 1) := by decide +kernel
theorem dX4_divide_53 : decode cX4_divide 53 = .ok (.i2l, 1) := by decide +kernel
theorem dX4_divide_54 : decode cX4_divide 54 = .ok (.aload_n 1, 1) := by decide +kernel
theorem dX4_divide_55 : decode cX4_divide 55 = .ok (.getfield 9, 3) := by decide +kernel
theorem dX4_divide_58 : decode cX4_divide 58 = .ok (.lmul, 1) := by decide +kernel
theorem dX4_divide_59 : decode cX4_divide 59 = .ok (.invokestatic 31, 3) := by decide +kernel
theorem dX4_divide_62 : decode cX4_divide 62 = .ok (.aload_n 0, 1) := by decide +kernel
theorem dX4_divide_63 : decode cX4_divide 63 = .ok (.getfield 9, 3) := by decide +kernel
theorem dX4_divide_66 : decode cX4_divide 66 = .ok (.iload_n 2, 1) := by decide +kernel
theorem dX4_divide_67 : decode cX4_divide 67 = .ok (.i2l, 1) := by decide +kernel
theorem dX4_divide_68 : decode cX4_divide 68 = .ok (.aload_n 1, 1) := by decide +kernel
theorem dX4_divide_69 : decode cX4_divide 69 = .ok (.getfield 23, 3) := by decide +kernel
theorem dX4_divide_72 : decode cX4_divide 72 = .ok (.lmul, 1) := by decide +kernel
theorem dX4_divide_73 : decode cX4_divide 73 = .ok (.invokestatic 31, 3) := by decide +kernel
theorem dX4_divide_76 : decode cX4_divide 76 = .ok (.invokevirtual 19, 3) := by decide +kernel
theorem dX4_divide_79 : decode cX4_divide 79 = .ok (.return_, 1) := by decide +kernel
theorem dX4_negate_0 : decode cX4_negate 0 = .ok (.aload_n 0, 1) := by decide +kernel
theorem dX4_negate_1 : decode cX4_negate 1 = .ok (.aload_n 0, 1) := by decide +kernel
theorem dX4_negate_2 : decode cX4_negate 2 = .ok (.getfield 23, 3) := by decide +kernel
theorem dX4_negate_5 : decode cX4_negate 5 = .ok (.lneg, 1) := by decide +kernel
theorem dX4_negate_6 : decode cX4_negate 6 = .ok (.putfield 23, 3) := by decide +kernel
theorem dX4_negate_9 : decode cX4_negate 9 = .ok (.return_, 1) := by decide +kernel
theorem dX4_part_0 : decode cX4_part 0 = .ok (.aload_n 0, 1) := by decide +kernel
theorem dX4_part_1 : decode cX4_part 1 = .ok (.getfield 15, 3) := by decide +kernel
theorem dX4_part_4 : decode cX4_part 4 = .ok (.ifCond .eq 7, 3) := by decide +kernel
theorem dX4_part_7 : decode cX4_part 7 = .ok (.ldc2_w 35, 3) := by decide +kernel
theorem dX4_part_10 : decode cX4_part 10 = .ok (.lreturn, 1) := by decide +kernel
theorem dX4_part_11 : decode cX4_part 11 = .ok (.iload_n 1, 1) := by decide +kernel
theorem dX4_part_12 : decode cX4_part 12 = .ok (.ifCond .ne 10, 3) := by decide +kernel
theorem dX4_part_15 : decode cX4_part 15 = .ok (.aload_n 0, 1) := by decide +kernel
theorem dX4_part_16 : decode cX4_part 16 = .ok (.getfield 23, 3) := by decide +kernel
theorem dX4_part_19 : decode cX4_part 19 = .ok (.goto 7, 3) := by decide +kernel
theorem dX4_part_22 : decode cX4_part 22 = .ok (.aload_n 0, 1) := by decide +kernel
theorem dX4_part_23 : decode cX4_part 23 = .ok (.getfield 9, 3) := by decide +kernel
theorem dX4_part_26 : decode cX4_part 26 = .ok (.lreturn, 1) := by decide +kernel
theorem dX4_compare_0 : decode cX4_compare 0 = .ok (.aload_n 0, 1) := by decide +kernel
theorem dX4_compare_1 : decode cX4_compare 1 = .ok (.getfield 23, 3) := by decide +kernel
theorem dX4_compare_4 : decode cX4_compare 4 = .ok (.lstore_n 2, 1) := by decide +kernel
theorem dX4_compare_5 : decode cX4_compare 5 = .ok (.aload_n 0, 1) := by decide +kernel
theorem dX4_compare_6 : decode cX4_compare 6 = .ok (.getfield 9, 3) := by decide +kernel
theorem dX4_compare_9 : decode cX4_compare 9 = .ok (.lstore 4, 2) := by decide +kernel
theorem dX4_compare_11 : decode cX4_compare 11 = .ok (.aload_n 1, 1) := by decide +kernel
theorem dX4_compare_12 : decode cX4_compare 12 = .ok (.getfield 23, 3) := by decide +kernel
theorem dX4_compare_15 : decode cX4_compare 15 = .ok (.lstore 6, 2) := by decide +kernel
theorem dX4_compare_17 : decode cX4_compare 17 = .ok (.aload_n 1, 1) := by decide +kernel
theorem dX4_compare_18 : decode cX4_compare 18 = .ok (.getfield 9, 3) := by decide +kernel
theorem dX4_compare_21 : decode cX4_compare 21 = .ok (.lstore 8, 2) := by decide +kernel
theorem dX4_compare_23 : decode cX4_compare 23 = .ok (.iconst 1, 1) := by decide +kernel
theorem dX4_compare_24 : decode cX4_compare 24 = .ok (.istore 10, 2) := by decide +kernel
theorem dX4_compare_26 : decode cX4_compare 26 = .ok (.iconst 0, 1) := by decide +kernel
theorem dX4_compare_27 : decode cX4_compare 27 = .ok (.istore 11, 2) := by decide +kernel
theorem dX4_compare_29 : decode cX4_compare 29 = .ok (.iload 11, 2) := by decide +kernel
theorem dX4_compare_31 : decode cX4_compare 31 = .ok (.sipush 200, 3) := by decide +kernel
theorem dX4_compare_34 : decode cX4_compare 34 = .ok (.if_icmp .ge 104, 3) := by decide +kernel
theorem dX4_compare_37 : decode cX4_compare 37 = .ok (.lload 4, 2) := by decide +kernel
theorem dX4_compare_39 : decode cX4_compare 39 = .ok (.lconst 0, 1) := by decide +kernel
theorem dX4_compare_40 : decode cX4_compare 40 = .ok (.lcmp, 1) := by decide +kernel
theorem dX4_compare_41 : decode cX4_compare 41 = .ok (.ifCond .le 97, 3) := by decide +kernel
theorem dX4_compare_44 : decode cX4_compare 44 = .ok (.lload 8, 2) := by decide +kernel
theorem dX4_compare_46 : decode cX4_compare 46 = .ok (.lconst 0, 1) := by decide +kernel
theorem dX4_compare_47 : decode cX4_compare 47 = .ok (.lcmp, 1) := by decide +kernel
theorem dX4_compare_48 : decode cX4_compare 48 = .ok (.ifCond .le 90, 3) := by decide +kernel
theorem dX4_compare_51 : decode cX4_compare 51 = .ok (.lload_n 2, 1) := by decide +kernel
theorem dX4_compare_52 : decode cX4_compare 52 = .ok (.lload 4, 2) := by decide +kernel
theorem dX4_compare_54 : decode cX4_compare 54 = .ok (.invokestatic 40, 3) := by decide +kernel
theorem dX4_compare_57 : decode cX4_compare 57 = .ok (.lstore 12, 2) := by decide +kernel
theorem dX4_compare_59 : decode cX4_compare 59 = .ok (.lload 6, 2) := by decide +kernel
theorem dX4_compare_61 : decode cX4_compare 61 = .ok (.lload 8, 2) := by decide +kernel
theorem dX4_compare_63 : decode cX4_compare 63 = .ok (.invokestatic 40, 3) := by decide +kernel
theorem dX4_compare_66 : decode cX4_compare 66 = .ok (.lstore 14, 2) := by decide +kernel
theorem dX4_compare_68 : decode cX4_compare 68 = .ok (.lload 12, 2) := by decide +kernel
theorem dX4_compare_70 : decode cX4_compare 70 = .ok (.lload 14, 2) := by decide +kernel
theorem dX4_compare_72 : decode cX4_compare 72 = .ok (.lcmp, 1) := by decide +kernel
theorem dX4_compare_73 : decode cX4_compare 73 = .ok (.ifCond .eq 20, 3) := by decide +kernel
theorem dX4_compare_76 : decode cX4_compare 76 = .ok (.lload 12, 2) := by decide +kernel
theorem dX4_compare_78 : decode cX4_compare 78 = .ok (.lload 14, 2) := by decide +kernel
theorem dX4_compare_80 : decode cX4_compare 80 = .ok (.lcmp, 1) := by decide +kernel
theorem dX4_compare_81 : decode cX4_compare 81 = .ok (.ifCond .ge 9, 3) := by decide +kernel
theorem dX4_compare_84 : decode cX4_compare 84 = .ok (.iload 10, 2) := by decide +kernel
theorem dX4_compare_86 : decode cX4_compare 86 = .ok (.ineg, 1) := by decide +kernel
theorem dX4_compare_87 : decode cX4_compare 87 = .ok (.goto 5, 3) := by decide +kernel
theorem dX4_compare_90 : decode cX4_compare 90 = .ok (.iload 10, 2) := by decide +kernel
theorem dX4_compare_92 : decode cX4_compare 92 = .ok (.ireturn, 1) := by decide +kernel
theorem dX4_compare_93 : decode cX4_compare 93 = .ok (.lload_n 2, 1) := by decide +kernel
theorem dX4_compare_94 : decode cX4_compare 94 = .ok (.lload 12, 2) := by decide +kernel
theorem dX4_compare_96 : decode cX4_compare 96 = .ok (.lload 4, 2) := by decide +kernel
theorem dX4_compare_98 : decode cX4_compare 98 = .ok (.lmul, 1) := by decide +kernel
theorem dX4_compare_99 : decode cX4_compare 99 = .ok (.lsub, 1) := by decide +kernel
theorem dX4_compare_100 : decode cX4_compare 100 = .ok (.lstore 16, 2) := by decide +kernel
theorem dX4_compare_102 : decode cX4_compare 102 = .ok (.lload 6, 2) := by decide +kernel
theorem dX4_compare_104 : decode cX4_compare 104 = .ok (.lload 14, 2) := by decide +kernel
theorem dX4_compare_106 : decode cX4_compare 106 = .ok (.lload 8, 2) := by decide +kernel
theorem dX4_compare_108 : decode cX4_compare 108 = .ok (.lmul, 1) := by decide +kernel
theorem dX4_compare_109 : decode cX4_compare 109 = .ok (.lsub, 1) := by decide +kernel
theorem dX4_compare_110 : decode cX4_compare 110 = .ok (.lstore 18, 2) := by decide +kernel
theorem dX4_compare_112 : decode cX4_compare 112 = .ok (.lload 4, 2) := by decide +kernel
theorem dX4_compare_114 : decode cX4_compare 114 = .ok (.lstore_n 2, 1) := by decide +kernel
theorem dX4_compare_115 : decode cX4_compare 115 = .ok (.lload 16, 2) := by decide +kernel
theorem dX4_compare_117 : decode cX4_compare 117 = .ok (.lstore 4, 2) := by decide +kernel
theorem dX4_compare_119 : decode cX4_compare 119 = .ok (.lload 8, 2) := by decide +kernel
theorem dX4_compare_121 : decode cX4_compare 121 = .ok (.lstore 6, 2) := by decide +kernel
theorem dX4_compare_123 : decode cX4_compare 123 = .ok (.lload 18, 2) := by decide +kernel
theorem dX4_compare_125 : decode cX4_compare 125 = .ok (.lstore 8, 2) := by decide +kernel
theorem dX4_compare_127 : decode cX4_compare 127 = .ok (.iload 10, 2) := by decide +kernel
theorem dX4_compare_129 : decode cX4_compare 129 = .ok (.ineg, 1) := by decide +kernel
theorem dX4_compare_130 : decode cX4_compare 130 = .ok (.istore 10, 2) := by decide +kernel
theorem dX4_compare_132 : decode cX4_compare 132 = .ok (.iinc 11 1, 3) := by decide +kernel
theorem dX4_compare_135 : decode cX4_compare 135 = .ok (.goto (-106), 3) := by decide +kernel
theorem dX4_compare_138 : decode cX4_compare 138 = .ok (.lload 4, 2) := by decide +kernel
theorem dX4_compare_140 : decode cX4_compare 140 = .ok (.lload 8, 2) := by decide +kernel
theorem dX4_compare_142 : decode cX4_compare 142 = .ok (.lcmp, 1) := by decide +kernel
theorem dX4_compare_143 : decode cX4_compare 143 = .ok (.ifCond .ne 7, 3) := by decide +kernel
theorem dX4_compare_146 : decode cX4_compare 146 = .ok (.iconst 0, 1) := by decide +kernel
theorem dX4_compare_147 : decode cX4_compare 147 = .ok (.goto 18, 3) := by decide +kernel
theorem dX4_compare_150 : decode cX4_compare 150 = .ok (.lload 4, 2) := by decide +kernel
theorem dX4_compare_152 : decode cX4_compare 152 = .ok (.lconst 0, 1) := by decide +kernel
theorem dX4_compare_153 : decode cX4_compare 153 = .ok (.lcmp, 1) := by decide +kernel
theorem dX4_compare_154 : decode cX4_compare 154 = .ok (.ifCond .ne 8, 3) := by decide +kernel
theorem dX4_compare_157 : decode cX4_compare 157 = .ok (.iload 10, 2) := by decide +kernel
theorem dX4_compare_159 : decode cX4_compare 159 = .ok (.goto 6, 3) := by decide +kernel
theorem dX4_compare_162 : decode cX4_compare 162 = .ok (.iload 10, 2) := by decide +kernel
theorem dX4_compare_164 : decode cX4_compare 164 = .ok (.ineg, 1) := by decide +kernel
theorem dX4_compare_165 : decode cX4_compare 165 = .ok (.ireturn, 1) := by decide +kernel
theorem dX4_reduce_0 : decode cX4_reduce 0 = .ok (.aload_n 0, 1) := by decide +kernel
theorem dX4_reduce_1 : decode cX4_reduce 1 = .ok (.getfield 15, 3) := by decide +kernel
theorem dX4_reduce_4 : decode cX4_reduce 4 = .ok (.ifCond .ne 25, 3) := by decide +kernel
theorem dX4_reduce_7 : decode cX4_reduce 7 = .ok (.lload_n 1, 1) := by decide +kernel
theorem dX4_reduce_8 : decode cX4_reduce 8 = .ok (.ldc2_w 35, 3) := by decide +kernel
theorem dX4_reduce_11 : decode cX4_reduce 11 = .ok (.lcmp, 1) := by decide +kernel
theorem dX4_reduce_12 : decode cX4_reduce 12 = .ok (.ifCond .eq 17, 3) := by decide +kernel
theorem dX4_reduce_15 : decode cX4_reduce 15 = .ok (.lload_n 3, 1) := by decide +kernel
theorem dX4_reduce_16 : decode cX4_reduce 16 = .ok (.ldc2_w 35, 3) := by decide +kernel
theorem dX4_reduce_19 : decode cX4_reduce 19 = .ok (.lcmp, 1) := by decide +kernel
theorem dX4_reduce_20 : decode cX4_reduce 20 = .ok (.ifCond .eq 9, 3) := by decide +kernel
theorem dX4_reduce_23 : decode cX4_reduce 23 = .ok (.lload_n 3, 1) := by decide +kernel
theorem dX4_reduce_24 : decode cX4_reduce 24 = .ok (.lconst 0, 1) := by decide +kernel
theorem dX4_reduce_25 : decode cX4_reduce 25 = .ok (.lcmp, 1) := by decide +kernel
theorem dX4_reduce_26 : decode cX4_reduce 26 = .ok (.ifCond .gt 9, 3) := by decide +kernel
theorem dX4_reduce_29 : decode cX4_reduce 29 = .ok (.aload_n 0, 1) := by decide +kernel
theorem dX4_reduce_30 : decode cX4_reduce 30 = .ok (.iconst 1, 1) := by decide +kernel
theorem dX4_reduce_31 : decode cX4_reduce 31 = .ok (.putfield 15, 3) := by decide +kernel
theorem dX4_reduce_34 : decode cX4_reduce 34 = .ok (.return_, 1) := by decide +kernel
theorem dX4_reduce_35 : decode cX4_reduce 35 = .ok (.lload_n 1, 1) := by decide +kernel
theorem dX4_reduce_36 : decode cX4_reduce 36 = .ok (.lconst 0, 1) := by decide +kernel
theorem dX4_reduce_37 : decode cX4_reduce 37 = .ok (.lcmp, 1) := by decide +kernel
theorem dX4_reduce_38 : decode cX4_reduce 38 = .ok (.ifCond .ge 8, 3) := by decide +kernel
theorem dX4_reduce_41 : decode cX4_reduce 41 = .ok (.lload_n 1, 1) := by decide +kernel
theorem dX4_reduce_42 : decode cX4_reduce 42 = .ok (.lneg, 1) := by decide +kernel
theorem dX4_reduce_43 : decode cX4_reduce 43 = .ok (.goto 4, 3) := by decide +kernel
theorem dX4_reduce_46 : decode cX4_reduce 46 = .ok (.lload_n 1, 1) := by decide +kernel
theorem dX4_reduce_47 : decode cX4_reduce 47 = .ok (.lstore 5, 2) := by decide +kernel
theorem dX4_reduce_49 : decode cX4_reduce 49 = .ok (.lload_n 3, 1) := by decide +kernel
theorem dX4_reduce_50 : decode cX4_reduce 50 = .ok (.lstore 7, 2) := by decide +kernel
theorem dX4_reduce_52 : decode cX4_reduce 52 = .ok (.iconst 0, 1) := by decide +kernel
theorem dX4_reduce_53 : decode cX4_reduce 53 = .ok (.istore 9, 2) := by decide +kernel
theorem dX4_reduce_55 : decode cX4_reduce 55 = .ok (.iload 9, 2) := by decide +kernel
theorem dX4_reduce_57 : decode cX4_reduce 57 = .ok (.sipush 200, 3) := by decide +kernel
theorem dX4_reduce_60 : decode cX4_reduce 60 = .ok (.if_icmp .ge 31, 3) := by decide +kernel
theorem dX4_reduce_63 : decode cX4_reduce 63 = .ok (.lload 5, 2) := by decide +kernel
theorem dX4_reduce_65 : decode cX4_reduce 65 = .ok (.lconst 0, 1) := by decide +kernel
theorem dX4_reduce_66 : decode cX4_reduce 66 = .ok (.lcmp, 1) := by decide +kernel
theorem dX4_reduce_67 : decode cX4_reduce 67 = .ok (.ifCond .le 24, 3) := by decide +kernel
theorem dX4_reduce_70 : decode cX4_reduce 70 = .ok (.lload 7, 2) := by decide +kernel
theorem dX4_reduce_72 : decode cX4_reduce 72 = .ok (.lload 5, 2) := by decide +kernel
theorem dX4_reduce_74 : decode cX4_reduce 74 = .ok (.lrem, 1) := by decide +kernel
theorem dX4_reduce_75 : decode cX4_reduce 75 = .ok (.lstore 10, 2) := by decide +kernel
theorem dX4_reduce_77 : decode cX4_reduce 77 = .ok (.lload 5, 2) := by decide +kernel
theorem dX4_reduce_79 : decode cX4_reduce 79 = .ok (.lstore 7, 2) := by decide +kernel
theorem dX4_reduce_81 : decode cX4_reduce 81 = .ok (.lload 10, 2) := by decide +kernel
theorem dX4_reduce_83 : decode cX4_reduce 83 = .ok (.lstore 5, 2) := by decide +kernel
theorem dX4_reduce_85 : decode cX4_reduce 85 = .ok (.iinc 9 1, 3) := by decide +kernel
theorem dX4_reduce_88 : decode cX4_reduce 88 = .ok (.goto (-33), 3) := by decide +kernel
theorem dX4_reduce_91 : decode cX4_reduce 91 = .ok (.lload 7, 2) := by decide +kernel
theorem dX4_reduce_93 : decode cX4_reduce 93 = .ok (.lconst 0, 1) := by decide +kernel
theorem dX4_reduce_94 : decode cX4_reduce 94 = .ok (.lcmp, 1) := by decide +kernel
theorem dX4_reduce_95 : decode cX4_reduce 95 = .ok (.ifCond .le 19, 3) := by decide +kernel
theorem dX4_reduce_98 : decode cX4_reduce 98 = .ok (.aload_n 0, 1) := by decide +kernel
theorem dX4_reduce_99 : decode cX4_reduce 99 = .ok (.lload_n 1, 1) := by decide +kernel
theorem dX4_reduce_100 : decode cX4_reduce 100 = .ok (.lload 7, 2) := by decide +kernel
theorem dX4_reduce_102 : decode cX4_reduce 102 = .ok (.ldiv, 1) := by decide +kernel
theorem dX4_reduce_103 : decode cX4_reduce 103 = .ok (.putfield 23, 3) := by decide +kernel
theorem dX4_reduce_106 : decode cX4_reduce 106 = .ok (.aload_n 0, 1) := by decide +kernel
theorem dX4_reduce_107 : decode cX4_reduce 107 = .ok (.lload_n 3, 1) := by decide +kernel
theorem dX4_reduce_108 : decode cX4_reduce 108 = .ok (.lload 7, 2) := by decide +kernel
theorem dX4_reduce_110 : decode cX4_reduce 110 = .ok (.ldiv, 1) := by decide +kernel
theorem dX4_reduce_111 : decode cX4_reduce 111 = .ok (.putfield 9, 3) := by decide +kernel
theorem dX4_reduce_114 : decode cX4_reduce 114 = .ok (.return_, 1) := by decide +kernel
theorem dX4_product_0 : decode cX4_product 0 = .ok (.lload_n 0, 1) := by decide +kernel
theorem dX4_product_1 : decode cX4_product 1 = .ok (.lconst 0, 1) := by decide +kernel
theorem dX4_product_2 : decode cX4_product 2 = .ok (.lcmp, 1) := by decide +kernel
theorem dX4_product_3 : decode cX4_product 3 = .ok (.ifCond .eq 9, 3) := by decide +kernel
theorem dX4_product_6 : decode cX4_product 6 = .ok (.lload_n 2, 1) := by decide +kernel
theorem dX4_product_7 : decode cX4_product 7 = .ok (.lconst 0, 1) := by decide +kernel
theorem dX4_product_8 : decode cX4_product 8 = .ok (.lcmp, 1) := by decide +kernel
theorem dX4_product_9 : decode cX4_product 9 = .ok (.ifCond .ne 5, 3) := by decide +kernel
theorem dX4_product_12 : decode cX4_product 12 = .ok (.lconst 0, 1) := by decide +kernel
theorem dX4_product_13 : decode cX4_product 13 = .ok (.lreturn, 1) := by decide +kernel
theorem dX4_product_14 : decode cX4_product 14 = .ok (.lload_n 0, 1) := by decide +kernel
theorem dX4_product_15 : decode cX4_product 15 = .ok (.lconst 0, 1) := by decide +kernel
theorem dX4_product_16 : decode cX4_product 16 = .ok (.lcmp, 1) := by decide +kernel
theorem dX4_product_17 : decode cX4_product 17 = .ok (.ifCond .ge 8, 3) := by decide +kernel
theorem dX4_product_20 : decode cX4_product 20 = .ok (.lload_n 0, 1) := by decide +kernel
theorem dX4_product_21 : decode cX4_product 21 = .ok (.lneg, 1) := by decide +kernel
theorem dX4_product_22 : decode cX4_product 22 = .ok (.goto 4, 3) := by decide +kernel
theorem dX4_product_25 : decode cX4_product 25 = .ok (.lload_n 0, 1) := by decide +kernel
theorem dX4_product_26 : decode cX4_product 26 = .ok (.lstore 4, 2) := by decide +kernel
theorem dX4_product_28 : decode cX4_product 28 = .ok (.lload_n 2, 1) := by decide +kernel
theorem dX4_product_29 : decode cX4_product 29 = .ok (.lconst 0, 1) := by decide +kernel
theorem dX4_product_30 : decode cX4_product 30 = .ok (.lcmp, 1) := by decide +kernel
theorem dX4_product_31 : decode cX4_product 31 = .ok (.ifCond .ge 8, 3) := by decide +kernel
theorem dX4_product_34 : decode cX4_product 34 = .ok (.lload_n 2, 1) := by decide +kernel
theorem dX4_product_35 : decode cX4_product 35 = .ok (.lneg, 1) := by decide +kernel
theorem dX4_product_36 : decode cX4_product 36 = .ok (.goto 4, 3) := by decide +kernel
theorem dX4_product_39 : decode cX4_product 39 = .ok (.lload_n 2, 1) := by decide +kernel
theorem dX4_product_40 : decode cX4_product 40 = .ok (.lstore 6, 2) := by decide +kernel
theorem dX4_product_42 : decode cX4_product 42 = .ok (.lload 4, 2) := by decide +kernel
theorem dX4_product_44 : decode cX4_product 44 = .ok (.ldc2_w 47, 3) := by decide +kernel
theorem dX4_product_47 : decode cX4_product 47 = .ok (.lload 6, 2) := by decide +kernel
theorem dX4_product_49 : decode cX4_product 49 = .ok (.ldiv, 1) := by decide +kernel
theorem dX4_product_50 : decode cX4_product 50 = .ok (.lcmp, 1) := by decide +kernel
theorem dX4_product_51 : decode cX4_product 51 = .ok (.ifCond .le 9, 3) := by decide +kernel
theorem dX4_product_54 : decode cX4_product 54 = .ok (.ldc2_w 35, 3) := by decide +kernel
theorem dX4_product_57 : decode cX4_product 57 = .ok (.goto 6, 3) := by decide +kernel
theorem dX4_product_60 : decode cX4_product 60 = .ok (.lload_n 0, 1) := by decide +kernel
theorem dX4_product_61 : decode cX4_product 61 = .ok (.lload_n 2, 1) := by decide +kernel
theorem dX4_product_62 : decode cX4_product 62 = .ok (.lmul, 1) := by decide +kernel
theorem dX4_product_63 : decode cX4_product 63 = .ok (.lreturn, 1) := by decide +kernel
theorem dX4_sum_0 : decode cX4_sum 0 = .ok (.lload_n 0, 1) := by decide +kernel
theorem dX4_sum_1 : decode cX4_sum 1 = .ok (.lload_n 2, 1) := by decide +kernel
theorem dX4_sum_2 : decode cX4_sum 2 = .ok (.ladd, 1) := by decide +kernel
theorem dX4_sum_3 : decode cX4_sum 3 = .ok (.lstore 4, 2) := by decide +kernel
theorem dX4_sum_5 : decode cX4_sum 5 = .ok (.lload_n 0, 1) := by decide +kernel
theorem dX4_sum_6 : decode cX4_sum 6 = .ok (.lconst 0, 1) := by decide +kernel
theorem dX4_sum_7 : decode cX4_sum 7 = .ok (.lcmp, 1) := by decide +kernel
theorem dX4_sum_8 : decode cX4_sum 8 = .ok (.ifCond .le 16, 3) := by decide +kernel
theorem dX4_sum_11 : decode cX4_sum 11 = .ok (.lload_n 2, 1) := by decide +kernel
theorem dX4_sum_12 : decode cX4_sum 12 = .ok (.lconst 0, 1) := by decide +kernel
theorem dX4_sum_13 : decode cX4_sum 13 = .ok (.lcmp, 1) := by decide +kernel
theorem dX4_sum_14 : decode cX4_sum 14 = .ok (.ifCond .le 10, 3) := by decide +kernel
theorem dX4_sum_17 : decode cX4_sum 17 = .ok (.lload 4, 2) := by decide +kernel
theorem dX4_sum_19 : decode cX4_sum 19 = .ok (.lconst 0, 1) := by decide +kernel
theorem dX4_sum_20 : decode cX4_sum 20 = .ok (.lcmp, 1) := by decide +kernel
theorem dX4_sum_21 : decode cX4_sum 21 = .ok (.ifCond .lt 22, 3) := by decide +kernel
theorem dX4_sum_24 : decode cX4_sum 24 = .ok (.lload_n 0, 1) := by decide +kernel
theorem dX4_sum_25 : decode cX4_sum 25 = .ok (.lconst 0, 1) := by decide +kernel
theorem dX4_sum_26 : decode cX4_sum 26 = .ok (.lcmp, 1) := by decide +kernel
theorem dX4_sum_27 : decode cX4_sum 27 = .ok (.ifCond .ge 20, 3) := by decide +kernel
theorem dX4_sum_30 : decode cX4_sum 30 = .ok (.lload_n 2, 1) := by decide +kernel
theorem dX4_sum_31 : decode cX4_sum 31 = .ok (.lconst 0, 1) := by decide +kernel
theorem dX4_sum_32 : decode cX4_sum 32 = .ok (.lcmp, 1) := by decide +kernel
theorem dX4_sum_33 : decode cX4_sum 33 = .ok (.ifCond .ge 14, 3) := by decide +kernel
theorem dX4_sum_36 : decode cX4_sum 36 = .ok (.lload 4, 2) := by decide +kernel
theorem dX4_sum_38 : decode cX4_sum 38 = .ok (.lconst 0, 1) := by decide +kernel
theorem dX4_sum_39 : decode cX4_sum 39 = .ok (.lcmp, 1) := by decide +kernel
theorem dX4_sum_40 : decode cX4_sum 40 = .ok (.ifCond .lt 7, 3) := by decide +kernel
theorem dX4_sum_43 : decode cX4_sum 43 = .ok (.iconst 1, 1) := by decide +kernel
theorem dX4_sum_44 : decode cX4_sum 44 = .ok (.goto 4, 3) := by decide +kernel
theorem dX4_sum_47 : decode cX4_sum 47 = .ok (.iconst 0, 1) := by decide +kernel
theorem dX4_sum_48 : decode cX4_sum 48 = .ok (.istore 6, 2) := by decide +kernel
theorem dX4_sum_50 : decode cX4_sum 50 = .ok (.iload 6, 2) := by decide +kernel
theorem dX4_sum_52 : decode cX4_sum 52 = .ok (.ifCond .eq 9, 3) := by decide +kernel
theorem dX4_sum_55 : decode cX4_sum 55 = .ok (.ldc2_w 35, 3) := by decide +kernel
theorem dX4_sum_58 : decode cX4_sum 58 = .ok (.goto 5, 3) := by decide +kernel
theorem dX4_sum_61 : decode cX4_sum 61 = .ok (.lload 4, 2) := by decide +kernel
theorem dX4_sum_63 : decode cX4_sum 63 = .ok (.lreturn, 1) := by decide +kernel
theorem dX5_init_0 : decode cX5_init 0 = .ok (.aload_n 0, 1) := by decide +kernel
theorem dX5_init_1 : decode cX5_init 1 = .ok (.invokespecial 3, 3) := by decide +kernel
theorem dX5_init_4 : decode cX5_init 4 = .ok (.aload_n 0, 1) := by decide +kernel
theorem dX5_init_5 : decode cX5_init 5 = .ok (.iconst 5, 1) := by decide +kernel
theorem dX5_init_6 : decode cX5_init 6 = .ok (.newarray .int, 2) := by decide +kernel
theorem dX5_init_8 : decode cX5_init 8 = .ok (.putfield 9, 3) := by decide +kernel
theorem dX5_init_11 : decode cX5_init 11 = .ok (.aload_n 0, 1) := by decide +kernel
theorem dX5_init_12 : decode cX5_init 12 = .ok (.iconst 5, 1) := by decide +kernel
theorem dX5_init_13 : decode cX5_init 13 = .ok (.newarray .int, 2) := by decide +kernel
theorem dX5_init_15 : decode cX5_init 15 = .ok (.putfield 15, 3) := by decide +kernel
theorem dX5_init_18 : decode cX5_init 18 = .ok (.return_, 1) := by decide +kernel
theorem dX5_rank_0 : decode cX5_rank 0 = .ok (.iconst 0, 1) := by decide +kernel
theorem dX5_rank_1 : decode cX5_rank 1 = .ok (.istore 4, 2) := by decide +kernel
theorem dX5_rank_3 : decode cX5_rank 3 = .ok (.iload 4, 2) := by decide +kernel
theorem dX5_rank_5 : decode cX5_rank 5 = .ok (.aload_n 2, 1) := by decide +kernel
theorem dX5_rank_6 : decode cX5_rank 6 = .ok (.getfield 18, 3) := by decide +kernel
theorem dX5_rank_9 : decode cX5_rank 9 = .ok (.if_icmp .ge 69, 3) := by decide +kernel
theorem dX5_rank_12 : decode cX5_rank 12 = .ok (.iload 4, 2) := by decide +kernel
theorem dX5_rank_14 : decode cX5_rank 14 = .ok (.istore 5, 2) := by decide +kernel
theorem dX5_rank_16 : decode cX5_rank 16 = .ok (.iload 5, 2) := by decide +kernel
theorem dX5_rank_18 : decode cX5_rank 18 = .ok (.ifCond .le 45, 3) := by decide +kernel
theorem dX5_rank_21 : decode cX5_rank 21 = .ok (.iload_n 1, 1) := by decide +kernel
theorem dX5_rank_22 : decode cX5_rank 22 = .ok (.iload 4, 2) := by decide +kernel
theorem dX5_rank_24 : decode cX5_rank 24 = .ok (.aload_n 0, 1) := by decide +kernel
theorem dX5_rank_25 : decode cX5_rank 25 = .ok (.getfield 9, 3) := by decide +kernel
theorem dX5_rank_28 : decode cX5_rank 28 = .ok (.iload 5, 2) := by decide +kernel
theorem dX5_rank_30 : decode cX5_rank 30 = .ok (.iconst 1, 1) := by decide +kernel
theorem dX5_rank_31 : decode cX5_rank 31 = .ok (.isub, 1) := by decide +kernel
theorem dX5_rank_32 : decode cX5_rank 32 = .ok (.iaload, 1) := by decide +kernel
theorem dX5_rank_33 : decode cX5_rank 33 = .ok (.aload_n 2, 1) := by decide +kernel
theorem dX5_rank_34 : decode cX5_rank 34 = .ok (.aload_n 3, 1) := by decide +kernel
theorem dX5_rank_35 : decode cX5_rank 35 = .ok (.invokestatic 24, 3) := by decide +kernel
theorem dX5_rank_38 : decode cX5_rank 38 = .ok (.ifCond .ge 25, 3) := by decide +kernel
theorem dX5_rank_41 : decode cX5_rank 41 = .ok (.aload_n 0, 1) := by decide +kernel
theorem dX5_rank_42 : decode cX5_rank 42 = .ok (.getfield 9, 3) := by decide +kernel
theorem dX5_rank_45 : decode cX5_rank 45 = .ok (.iload 5, 2) := by decide +kernel
theorem dX5_rank_47 : decode cX5_rank 47 = .ok (.aload_n 0, 1) := by decide +kernel
theorem dX5_rank_48 : decode cX5_rank 48 = .ok (.getfield 9, 3) := by decide +kernel
theorem dX5_rank_51 : decode cX5_rank 51 = .ok (.iload 5, 2) := by decide +kernel
theorem dX5_rank_53 : decode cX5_rank 53 = .ok (.iconst 1, 1) := by decide +kernel
theorem dX5_rank_54 : decode cX5_rank 54 = .ok (.isub, 1) := by decide +kernel
theorem dX5_rank_55 : decode cX5_rank 55 = .ok (.iaload, 1) := by decide +kernel
theorem dX5_rank_56 : decode cX5_rank 56 = .ok (.iastore, 1) := by decide +kernel
theorem dX5_rank_57 : decode cX5_rank 57 = .ok (.iinc 5 (-1), 3) := by decide +kernel
theorem dX5_rank_60 : decode cX5_rank 60 = .ok (.goto (-44), 3) := by decide +kernel
theorem dX5_rank_63 : decode cX5_rank 63 = .ok (.aload_n 0, 1) := by decide +kernel
theorem dX5_rank_64 : decode cX5_rank 64 = .ok (.getfield 9, 3) := by decide +kernel
theorem dX5_rank_67 : decode cX5_rank 67 = .ok (.iload 5, 2) := by decide +kernel
theorem dX5_rank_69 : decode cX5_rank 69 = .ok (.iload 4, 2) := by decide +kernel
theorem dX5_rank_71 : decode cX5_rank 71 = .ok (.iastore, 1) := by decide +kernel
theorem dX5_rank_72 : decode cX5_rank 72 = .ok (.iinc 4 1, 3) := by decide +kernel
theorem dX5_rank_75 : decode cX5_rank 75 = .ok (.goto (-72), 3) := by decide +kernel
theorem dX5_rank_78 : decode cX5_rank 78 = .ok (.return_, 1) := by decide +kernel
theorem dX5_buy_0 : decode cX5_buy 0 = .ok (.aload_n 0, 1) := by decide +kernel
theorem dX5_buy_1 : decode cX5_buy 1 = .ok (.getfield 15, 3) := by decide +kernel
theorem dX5_buy_4 : decode cX5_buy 4 = .ok (.iconst 0, 1) := by decide +kernel
theorem dX5_buy_5 : decode cX5_buy 5 = .ok (.invokestatic 28, 3) := by decide +kernel
theorem dX5_buy_8 : decode cX5_buy 8 = .ok (.aload_n 0, 1) := by decide +kernel
theorem dX5_buy_9 : decode cX5_buy 9 = .ok (.iconst 0, 1) := by decide +kernel
theorem dX5_buy_10 : decode cX5_buy 10 = .ok (.putfield 34, 3) := by decide +kernel
theorem dX5_buy_13 : decode cX5_buy 13 = .ok (.aload_n 0, 1) := by decide +kernel
theorem dX5_buy_14 : decode cX5_buy 14 = .ok (.iconst 0, 1) := by decide +kernel
theorem dX5_buy_15 : decode cX5_buy 15 = .ok (.putfield 37, 3) := by decide +kernel
theorem dX5_buy_18 : decode cX5_buy 18 = .ok (.aload_n 2, 1) := by decide +kernel
theorem dX5_buy_19 : decode cX5_buy 19 = .ok (.getfield 40, 3) := by decide +kernel
theorem dX5_buy_22 : decode cX5_buy 22 = .ok (.iconst 1, 1) := by decide +kernel
theorem dX5_buy_23 : decode cX5_buy 23 = .ok (.isub, 1) := by decide +kernel
theorem dX5_buy_24 : decode cX5_buy 24 = .ok (.istore_n 3, 1) := by decide +kernel
theorem dX5_buy_25 : decode cX5_buy 25 = .ok (.iload_n 3, 1) := by decide +kernel
theorem dX5_buy_26 : decode cX5_buy 26 = .ok (.ifCond .lt 41, 3) := by decide +kernel
theorem dX5_buy_29 : decode cX5_buy 29 = .ok (.aload_n 2, 1) := by decide +kernel
theorem dX5_buy_30 : decode cX5_buy 30 = .ok (.getfield 45, 3) := by decide +kernel
theorem dX5_buy_33 : decode cX5_buy 33 = .ok (.iload_n 3, 1) := by decide +kernel
theorem dX5_buy_34 : decode cX5_buy 34 = .ok (.iaload, 1) := by decide +kernel
theorem dX5_buy_35 : decode cX5_buy 35 = .ok (.aload_n 2, 1) := by decide +kernel
theorem dX5_buy_36 : decode cX5_buy 36 = .ok (.aload_n 0, 1) := by decide +kernel
theorem dX5_buy_37 : decode cX5_buy 37 = .ok (.getfield 15, 3) := by decide +kernel
theorem dX5_buy_40 : decode cX5_buy 40 = .ok (.iload_n 3, 1) := by decide +kernel
theorem dX5_buy_41 : decode cX5_buy 41 = .ok (.invokevirtual 48, 3) := by decide +kernel
theorem dX5_buy_44 : decode cX5_buy 44 = .ok (.isub, 1) := by decide +kernel
theorem dX5_buy_45 : decode cX5_buy 45 = .ok (.istore 4, 2) := by decide +kernel
theorem dX5_buy_47 : decode cX5_buy 47 = .ok (.iload 4, 2) := by decide +kernel
theorem dX5_buy_49 : decode cX5_buy 49 = .ok (.ifCond .le 12, 3) := by decide +kernel
theorem dX5_buy_52 : decode cX5_buy 52 = .ok (.aload_n 0, 1) := by decide +kernel
theorem dX5_buy_53 : decode cX5_buy 53 = .ok (.iload_n 3, 1) := by decide +kernel
theorem dX5_buy_54 : decode cX5_buy 54 = .ok (.iload 4, 2) := by decide +kernel
theorem dX5_buy_56 : decode cX5_buy 56 = .ok (.aload_n 1, 1) := by decide +kernel
theorem dX5_buy_57 : decode cX5_buy 57 = .ok (.aload_n 2, 1) := by decide +kernel
theorem dX5_buy_58 : decode cX5_buy 58 = .ok (.invokevirtual 52, 3) := by decide +kernel
theorem dX5_buy_61 : decode cX5_buy 61 = .ok (.iinc 3 (-1), 3) := by decide +kernel
theorem dX5_buy_64 : decode cX5_buy 64 = .ok (.goto (-39), 3) := by decide +kernel
theorem dX5_buy_67 : decode cX5_buy 67 = .ok (.return_, 1) := by decide +kernel
theorem dX5_buyAt_0 : decode cX5_buyAt 0 = .ok (.iconst 0, 1) := by decide +kernel
theorem dX5_buyAt_1 : decode cX5_buyAt 1 = .ok (.istore 5, 2) := by decide +kernel
theorem dX5_buyAt_3 : decode cX5_buyAt 3 = .ok (.iload 5, 2) := by decide +kernel
theorem dX5_buyAt_5 : decode cX5_buyAt 5 = .ok (.aload_n 3, 1) := by decide +kernel
theorem dX5_buyAt_6 : decode cX5_buyAt 6 = .ok (.getfield 18, 3) := by decide +kernel
theorem dX5_buyAt_9 : decode cX5_buyAt 9 = .ok (.if_icmp .ge 90, 3) := by decide +kernel
theorem dX5_buyAt_12 : decode cX5_buyAt 12 = .ok (.aload_n 0, 1) := by decide +kernel
theorem dX5_buyAt_13 : decode cX5_buyAt 13 = .ok (.getfield 9, 3) := by decide +kernel
theorem dX5_buyAt_16 : decode cX5_buyAt 16 = .ok (.iload 5, 2) := by decide +kernel
theorem dX5_buyAt_18 : decode cX5_buyAt 18 = .ok (.iaload, 1) := by decide +kernel
theorem dX5_buyAt_19 : decode cX5_buyAt 19 = .ok (.istore 6, 2) := by decide +kernel
theorem dX5_buyAt_21 : decode cX5_buyAt 21 = .ok (.aload 4, 2) := by decide +kernel
theorem dX5_buyAt_23 : decode cX5_buyAt 23 = .ok (.getfield 56, 3) := by decide +kernel
theorem dX5_buyAt_26 : decode cX5_buyAt 26 = .ok (.iload 6, 2) := by decide +kernel
theorem dX5_buyAt_28 : decode cX5_buyAt 28 = .ok (.aaload, 1) := by decide +kernel
theorem dX5_buyAt_29 : decode cX5_buyAt 29 = .ok (.iload_n 1, 1) := by decide +kernel
theorem dX5_buyAt_30 : decode cX5_buyAt 30 = .ok (.iaload, 1) := by decide +kernel
theorem dX5_buyAt_31 : decode cX5_buyAt 31 = .ok (.istore 7, 2) := by decide +kernel
theorem dX5_buyAt_33 : decode cX5_buyAt 33 = .ok (.aload 4, 2) := by decide +kernel
theorem dX5_buyAt_35 : decode cX5_buyAt 35 = .ok (.getfield 60, 3) := by decide +kernel
theorem dX5_buyAt_38 : decode cX5_buyAt 38 = .ok (.iload 6, 2) := by decide +kernel
theorem dX5_buyAt_40 : decode cX5_buyAt 40 = .ok (.iaload, 1) := by decide +kernel
theorem dX5_buyAt_41 : decode cX5_buyAt 41 = .ok (.iload_n 1, 1) := by decide +kernel
theorem dX5_buyAt_42 : decode cX5_buyAt 42 = .ok (.if_icmp .ne 51, 3) := by decide +kernel
theorem dX5_buyAt_45 : decode cX5_buyAt 45 = .ok (.iload 7, 2) := by decide +kernel
theorem dX5_buyAt_47 : decode cX5_buyAt 47 = .ok (.ifCond .le 46, 3) := by decide +kernel
theorem dX5_buyAt_50 : decode cX5_buyAt 50 = .ok (.iload_n 2, 1) := by decide +kernel
theorem dX5_buyAt_51 : decode cX5_buyAt 51 = .ok (.iload 7, 2) := by decide +kernel
theorem dX5_buyAt_53 : decode cX5_buyAt 53 = .ok (.iadd, 1) := by decide +kernel
theorem dX5_buyAt_54 : decode cX5_buyAt 54 = .ok (.iconst 1, 1) := by decide +kernel
theorem dX5_buyAt_55 : decode cX5_buyAt 55 = .ok (.isub, 1) := by decide +kernel
theorem dX5_buyAt_56 : decode cX5_buyAt 56 = .ok (.iload 7, 2) := by decide +kernel
theorem dX5_buyAt_58 : decode cX5_buyAt 58 = .ok (.idiv, 1) := by decide +kernel
theorem dX5_buyAt_59 : decode cX5_buyAt 59 = .ok (.istore 8, 2) := by decide +kernel
theorem dX5_buyAt_61 : decode cX5_buyAt 61 = .ok (.aload_n 0, 1) := by decide +kernel
theorem dX5_buyAt_62 : decode cX5_buyAt 62 = .ok (.getfield 15, 3) := by decide +kernel
theorem dX5_buyAt_65 : decode cX5_buyAt 65 = .ok (.iload 6, 2) := by decide +kernel
theorem dX5_buyAt_67 : decode cX5_buyAt 67 = .ok (.iload 8, 2) := by decide +kernel
theorem dX5_buyAt_69 : decode cX5_buyAt 69 = .ok (.iastore, 1) := by decide +kernel
theorem dX5_buyAt_70 : decode cX5_buyAt 70 = .ok (.aload_n 0, 1) := by decide +kernel
theorem dX5_buyAt_71 : decode cX5_buyAt 71 = .ok (.dup, 1) := by decide +kernel
theorem dX5_buyAt_72 : decode cX5_buyAt 72 = .ok (.getfield 34, 3) := by decide +kernel
theorem dX5_buyAt_75 : decode cX5_buyAt 75 = .ok (.iload 8, 2) := by decide +kernel
theorem dX5_buyAt_77 : decode cX5_buyAt 77 = .ok (.aload_n 3, 1) := by decide +kernel
theorem dX5_buyAt_78 : decode cX5_buyAt 78 = .ok (.getfield 63, 3) := by decide +kernel
theorem dX5_buyAt_81 : decode cX5_buyAt 81 = .ok (.iload 6, 2) := by decide +kernel
theorem dX5_buyAt_83 : decode cX5_buyAt 83 = .ok (.aaload, 1) := by decide +kernel
theorem dX5_buyAt_84 : decode cX5_buyAt 84 = .ok (.getfield 67, 3) := by decide +kernel
theorem dX5_buyAt_87 : decode cX5_buyAt 87 = .ok (.imul, 1) := by decide +kernel
theorem dX5_buyAt_88 : decode cX5_buyAt 88 = .ok (.iadd, 1) := by decide +kernel
theorem dX5_buyAt_89 : decode cX5_buyAt 89 = .ok (.putfield 34, 3) := by decide +kernel
theorem dX5_buyAt_92 : decode cX5_buyAt 92 = .ok (.return_, 1) := by decide +kernel
theorem dX5_buyAt_93 : decode cX5_buyAt 93 = .ok (.iinc 5 1, 3) := by decide +kernel
theorem dX5_buyAt_96 : decode cX5_buyAt 96 = .ok (.goto (-93), 3) := by decide +kernel
theorem dX5_buyAt_99 : decode cX5_buyAt 99 = .ok (.aload_n 0, 1) := by decide +kernel
theorem dX5_buyAt_100 : decode cX5_buyAt 100 = .ok (.dup, 1) := by decide +kernel
theorem dX5_buyAt_101 : decode cX5_buyAt 101 = .ok (.getfield 37, 3) := by decide +kernel
theorem dX5_buyAt_104 : decode cX5_buyAt 104 = .ok (.iload_n 2, 1) := by decide +kernel
theorem dX5_buyAt_105 : decode cX5_buyAt 105 = .ok (.iadd, 1) := by decide +kernel
theorem dX5_buyAt_106 : decode cX5_buyAt 106 = .ok (.putfield 37, 3) := by decide +kernel
theorem dX5_buyAt_109 : decode cX5_buyAt 109 = .ok (.return_, 1) := by decide +kernel
theorem dX5_compare_0 : decode cX5_compare 0 = .ok (.aload_n 3, 1) := by decide +kernel
theorem dX5_compare_1 : decode cX5_compare 1 = .ok (.getfield 63, 3) := by decide +kernel
theorem dX5_compare_4 : decode cX5_compare 4 = .ok (.iload_n 1, 1) := by decide +kernel
theorem dX5_compare_5 : decode cX5_compare 5 = .ok (.aaload, 1) := by decide +kernel
theorem dX5_compare_6 : decode cX5_compare 6 = .ok (.astore 5, 2) := by decide +kernel
theorem dX5_compare_8 : decode cX5_compare 8 = .ok (.aload_n 3, 1) := by decide +kernel
theorem dX5_compare_9 : decode cX5_compare 9 = .ok (.getfield 63, 3) := by decide +kernel
theorem dX5_compare_12 : decode cX5_compare 12 = .ok (.iload_n 2, 1) := by decide +kernel
theorem dX5_compare_13 : decode cX5_compare 13 = .ok (.aaload, 1) := by decide +kernel
theorem dX5_compare_14 : decode cX5_compare 14 = .ok (.astore 6, 2) := by decide +kernel
theorem dX5_compare_16 : decode cX5_compare 16 = .ok (.iload_n 0, 1) := by decide +kernel
theorem dX5_compare_17 : decode cX5_compare 17 = .ok (.tableswitch 83 0 2 #[27, 41, 69], 27) := by decide +kernel
theorem dX5_compare_44 : decode cX5_compare 44 = .ok (.aload 5, 2) := by decide +kernel
theorem dX5_compare_46 : decode cX5_compare 46 = .ok (.getfield 67, 3) := by decide +kernel
theorem dX5_compare_49 : decode cX5_compare 49 = .ok (.aload 6, 2) := by decide +kernel
theorem dX5_compare_51 : decode cX5_compare 51 = .ok (.getfield 67, 3) := by decide +kernel
theorem dX5_compare_54 : decode cX5_compare 54 = .ok (.invokestatic 72, 3) := by decide +kernel
theorem dX5_compare_57 : decode cX5_compare 57 = .ok (.ireturn, 1) := by decide +kernel
theorem dX5_compare_58 : decode cX5_compare 58 = .ok (.aload 5, 2) := by decide +kernel
theorem dX5_compare_60 : decode cX5_compare 60 = .ok (.getfield 67, 3) := by decide +kernel
theorem dX5_compare_63 : decode cX5_compare 63 = .ok (.aload 4, 2) := by decide +kernel
theorem dX5_compare_65 : decode cX5_compare 65 = .ok (.getfield 77, 3) := by decide +kernel
theorem dX5_compare_68 : decode cX5_compare 68 = .ok (.iload_n 1, 1) := by decide +kernel
theorem dX5_compare_69 : decode cX5_compare 69 = .ok (.iaload, 1) := by decide +kernel
theorem dX5_compare_70 : decode cX5_compare 70 = .ok (.aload 6, 2) := by decide +kernel
theorem dX5_compare_72 : decode cX5_compare 72 = .ok (.getfield 67, 3) := by decide +kernel
theorem dX5_compare_75 : decode cX5_compare 75 = .ok (.aload 4, 2) := by decide +kernel
theorem dX5_compare_77 : decode cX5_compare 77 = .ok (.getfield 77, 3) := by decide +kernel
theorem dX5_compare_80 : decode cX5_compare 80 = .ok (.iload_n 2, 1) := by decide +kernel
theorem dX5_compare_81 : decode cX5_compare 81 = .ok (.iaload, 1) := by decide +kernel
theorem dX5_compare_82 : decode cX5_compare 82 = .ok (.invokestatic 80, 3) := by decide +kernel
theorem dX5_compare_85 : decode cX5_compare 85 = .ok (.ireturn, 1) := by decide +kernel
theorem dX5_compare_86 : decode cX5_compare 86 = .ok (.aload 6, 2) := by decide +kernel
theorem dX5_compare_88 : decode cX5_compare 88 = .ok (.getfield 84, 3) := by decide +kernel
theorem dX5_compare_91 : decode cX5_compare 91 = .ok (.aload 5, 2) := by decide +kernel
theorem dX5_compare_93 : decode cX5_compare 93 = .ok (.getfield 84, 3) := by decide +kernel
theorem dX5_compare_96 : decode cX5_compare 96 = .ok (.invokestatic 72, 3) := by decide +kernel
theorem dX5_compare_99 : decode cX5_compare 99 = .ok (.ireturn, 1) := by decide +kernel
theorem dX5_compare_100 : decode cX5_compare 100 = .ok (.aload 6, 2) := by decide +kernel
theorem dX5_compare_102 : decode cX5_compare 102 = .ok (.getfield 87, 3) := by decide +kernel
theorem dX5_compare_105 : decode cX5_compare 105 = .ok (.aload 5, 2) := by decide +kernel
theorem dX5_compare_107 : decode cX5_compare 107 = .ok (.getfield 87, 3) := by decide +kernel
theorem dX5_compare_110 : decode cX5_compare 110 = .ok (.invokestatic 72, 3) := by decide +kernel
theorem dX5_compare_113 : decode cX5_compare 113 = .ok (.ireturn, 1) := by decide +kernel
theorem dX5_compareRich_0 : decode cX5_compareRich 0 = .ok (.iload_n 1, 1) := by decide +kernel
theorem dX5_compareRich_1 : decode cX5_compareRich 1 = .ok (.ifCond .eq 7, 3) := by decide +kernel
theorem dX5_compareRich_4 : decode cX5_compareRich 4 = .ok (.iload_n 3, 1) := by decide +kernel
theorem dX5_compareRich_5 : decode cX5_compareRich 5 = .ok (.ifCond .ne 25, 3) := by decide +kernel
theorem dX5_compareRich_8 : decode cX5_compareRich 8 = .ok (.iload_n 1, 1) := by decide +kernel
theorem dX5_compareRich_9 : decode cX5_compareRich 9 = .ok (.ifCond .ne 7, 3) := by decide +kernel
theorem dX5_compareRich_12 : decode cX5_compareRich 12 = .ok (.iconst 1, 1) := by decide +kernel
theorem dX5_compareRich_13 : decode cX5_compareRich 13 = .ok (.goto 4, 3) := by decide +kernel
theorem dX5_compareRich_16 : decode cX5_compareRich 16 = .ok (.iconst 0, 1) := by decide +kernel
theorem dX5_compareRich_17 : decode cX5_compareRich 17 = .ok (.iload_n 3, 1) := by decide +kernel
theorem dX5_compareRich_18 : decode cX5_compareRich 18 = .ok (.ifCond .ne 7, 3) := by decide +kernel
theorem dX5_compareRich_21 : decode cX5_compareRich 21 = .ok (.iconst 1, 1) := by decide +kernel
theorem dX5_compareRich_22 : decode cX5_compareRich 22 = .ok (.goto 4, 3) := by decide +kernel
theorem dX5_compareRich_25 : decode cX5_compareRich 25 = .ok (.iconst 0, 1) := by decide +kernel
theorem dX5_compareRich_26 : decode cX5_compareRich 26 = .ok (.invokestatic 72, 3) := by decide +kernel
theorem dX5_compareRich_29 : decode cX5_compareRich 29 = .ok (.ireturn, 1) := by decide +kernel
theorem dX5_compareRich_30 : decode cX5_compareRich 30 = .ok (.iload_n 0, 1) := by decide +kernel
theorem dX5_compareRich_31 : decode cX5_compareRich 31 = .ok (.iload_n 3, 1) := by decide +kernel
theorem dX5_compareRich_32 : decode cX5_compareRich 32 = .ok (.imul, 1) := by decide +kernel
theorem dX5_compareRich_33 : decode cX5_compareRich 33 = .ok (.iload_n 2, 1) := by decide +kernel
theorem dX5_compareRich_34 : decode cX5_compareRich 34 = .ok (.iload_n 1, 1) := by decide +kernel
theorem dX5_compareRich_35 : decode cX5_compareRich 35 = .ok (.imul, 1) := by decide +kernel
theorem dX5_compareRich_36 : decode cX5_compareRich 36 = .ok (.invokestatic 72, 3) := by decide +kernel
theorem dX5_compareRich_39 : decode cX5_compareRich 39 = .ok (.ireturn, 1) := by decide +kernel
theorem dX6_init_0 : decode cX6_init 0 = .ok (.aload_n 0, 1) := by decide +kernel
theorem dX6_init_1 : decode cX6_init 1 = .ok (.invokespecial 3, 3) := by decide +kernel
theorem dX6_init_4 : decode cX6_init 4 = .ok (.aload_n 0, 1) := by decide +kernel
theorem dX6_init_5 : decode cX6_init 5 = .ok (.iconst 5, 1) := by decide +kernel
theorem dX6_init_6 : decode cX6_init 6 = .ok (.newarray .long, 2) := by decide +kernel
theorem dX6_init_8 : decode cX6_init 8 = .ok (.putfield 9, 3) := by decide +kernel
theorem dX6_init_11 : decode cX6_init 11 = .ok (.aload_n 0, 1) := by decide +kernel
theorem dX6_init_12 : decode cX6_init 12 = .ok (.iconst 5, 1) := by decide +kernel
theorem dX6_init_13 : decode cX6_init 13 = .ok (.newarray .long, 2) := by decide +kernel
theorem dX6_init_15 : decode cX6_init 15 = .ok (.putfield 15, 3) := by decide +kernel
theorem dX6_init_18 : decode cX6_init 18 = .ok (.return_, 1) := by decide +kernel
theorem dX6_play_0 : decode cX6_play 0 = .ok (.aload_n 0, 1) := by decide +kernel
theorem dX6_play_1 : decode cX6_play 1 = .ok (.aload_n 1, 1) := by decide +kernel
theorem dX6_play_2 : decode cX6_play 2 = .ok (.getfield 18, 3) := by decide +kernel
theorem dX6_play_5 : decode cX6_play 5 = .ok (.putfield 24, 3) := by decide +kernel
theorem dX6_play_8 : decode cX6_play 8 = .ok (.aload_n 0, 1) := by decide +kernel
theorem dX6_play_9 : decode cX6_play 9 = .ok (.lconst 0, 1) := by decide +kernel
theorem dX6_play_10 : decode cX6_play 10 = .ok (.putfield 25, 3) := by decide +kernel
theorem dX6_play_13 : decode cX6_play 13 = .ok (.aload_n 0, 1) := by decide +kernel
theorem dX6_play_14 : decode cX6_play 14 = .ok (.lconst 0, 1) := by decide +kernel
theorem dX6_play_15 : decode cX6_play 15 = .ok (.putfield 29, 3) := by decide +kernel
theorem dX6_play_18 : decode cX6_play 18 = .ok (.aload_n 0, 1) := by decide +kernel
theorem dX6_play_19 : decode cX6_play 19 = .ok (.lconst 0, 1) := by decide +kernel
theorem dX6_play_20 : decode cX6_play 20 = .ok (.putfield 32, 3) := by decide +kernel
theorem dX6_play_23 : decode cX6_play 23 = .ok (.aload_n 0, 1) := by decide +kernel
theorem dX6_play_24 : decode cX6_play 24 = .ok (.lconst 0, 1) := by decide +kernel
theorem dX6_play_25 : decode cX6_play 25 = .ok (.putfield 35, 3) := by decide +kernel
theorem dX6_play_28 : decode cX6_play 28 = .ok (.lconst 0, 1) := by decide +kernel
theorem dX6_play_29 : decode cX6_play 29 = .ok (.lstore_n 3, 1) := by decide +kernel
theorem dX6_play_30 : decode cX6_play 30 = .ok (.iconst 0, 1) := by decide +kernel
theorem dX6_play_31 : decode cX6_play 31 = .ok (.istore 5, 2) := by decide +kernel
theorem dX6_play_33 : decode cX6_play 33 = .ok (.iload 5, 2) := by decide +kernel
theorem dX6_play_35 : decode cX6_play 35 = .ok (.aload_n 1, 1) := by decide +kernel
theorem dX6_play_36 : decode cX6_play 36 = .ok (.getfield 18, 3) := by decide +kernel
theorem dX6_play_39 : decode cX6_play 39 = .ok (.if_icmp .ge 186, 3) := by decide +kernel
theorem dX6_play_42 : decode cX6_play 42 = .ok (.lload_n 3, 1) := by decide +kernel
theorem dX6_play_43 : decode cX6_play 43 = .ok (.iconst 4, 1) := by decide +kernel
theorem dX6_play_44 : decode cX6_play 44 = .ok (.aload_n 1, 1) := by decide +kernel
theorem dX6_play_45 : decode cX6_play 45 = .ok (.getfield 38, 3) := by decide +kernel
theorem dX6_play_48 : decode cX6_play 48 = .ok (.iload 5, 2) := by decide +kernel
theorem dX6_play_50 : decode cX6_play 50 = .ok (.iaload, 1) := by decide +kernel
theorem dX6_play_51 : decode cX6_play 51 = .ok (.iadd, 1) := by decide +kernel
theorem dX6_play_52 : decode cX6_play 52 = .ok (.i2l, 1) := by decide +kernel
theorem dX6_play_53 : decode cX6_play 53 = .ok (.lmul, 1) := by decide +kernel
theorem dX6_play_54 : decode cX6_play 54 = .ok (.ldc2_w 42, 3) := by decide +kernel
theorem dX6_play_57 : decode cX6_play 57 = .ok (.ldiv, 1) := by decide +kernel
theorem dX6_play_58 : decode cX6_play 58 = .ok (.lstore 6, 2) := by decide +kernel
theorem dX6_play_60 : decode cX6_play 60 = .ok (.aload_n 1, 1) := by decide +kernel
theorem dX6_play_61 : decode cX6_play 61 = .ok (.aload_n 2, 1) := by decide +kernel
theorem dX6_play_62 : decode cX6_play 62 = .ok (.iload 5, 2) := by decide +kernel
theorem dX6_play_64 : decode cX6_play 64 = .ok (.invokevirtual 44, 3) := by decide +kernel
theorem dX6_play_67 : decode cX6_play 67 = .ok (.i2l, 1) := by decide +kernel
theorem dX6_play_68 : decode cX6_play 68 = .ok (.lstore 8, 2) := by decide +kernel
theorem dX6_play_70 : decode cX6_play 70 = .ok (.aload_n 0, 1) := by decide +kernel
theorem dX6_play_71 : decode cX6_play 71 = .ok (.dup, 1) := by decide +kernel
theorem dX6_play_72 : decode cX6_play 72 = .ok (.getfield 32, 3) := by decide +kernel
theorem dX6_play_75 : decode cX6_play 75 = .ok (.lload 6, 2) := by decide +kernel
theorem dX6_play_77 : decode cX6_play 77 = .ok (.lload_n 3, 1) := by decide +kernel
theorem dX6_play_78 : decode cX6_play 78 = .ok (.lsub, 1) := by decide +kernel
theorem dX6_play_79 : decode cX6_play 79 = .ok (.ladd, 1) := by decide +kernel
theorem dX6_play_80 : decode cX6_play 80 = .ok (.putfield 32, 3) := by decide +kernel
theorem dX6_play_83 : decode cX6_play 83 = .ok (.aload_n 0, 1) := by decide +kernel
theorem dX6_play_84 : decode cX6_play 84 = .ok (.dup, 1) := by decide +kernel
theorem dX6_play_85 : decode cX6_play 85 = .ok (.getfield 35, 3) := by decide +kernel
theorem dX6_play_88 : decode cX6_play 88 = .ok (.lload 8, 2) := by decide +kernel
theorem dX6_play_90 : decode cX6_play 90 = .ok (.ladd, 1) := by decide +kernel
theorem dX6_play_91 : decode cX6_play 91 = .ok (.putfield 35, 3) := by decide +kernel
theorem dX6_play_94 : decode cX6_play 94 = .ok (.lload 6, 2) := by decide +kernel
theorem dX6_play_96 : decode cX6_play 96 = .ok (.lload 8, 2) := by decide +kernel
theorem dX6_play_98 : decode cX6_play 98 = .ok (.ladd, 1) := by decide +kernel
theorem dX6_play_99 : decode cX6_play 99 = .ok (.aload_n 1, 1) := by decide +kernel
theorem dX6_play_100 : decode cX6_play 100 = .ok (.getfield 48, 3) := by decide +kernel
theorem dX6_play_103 : decode cX6_play 103 = .ok (.iload 5, 2) := by decide +kernel
theorem dX6_play_105 : decode cX6_play 105 = .ok (.iaload, 1) := by decide +kernel
theorem dX6_play_106 : decode cX6_play 106 = .ok (.i2l, 1) := by decide +kernel
theorem dX6_play_107 : decode cX6_play 107 = .ok (.lsub, 1) := by decide +kernel
theorem dX6_play_108 : decode cX6_play 108 = .ok (.lstore 10, 2) := by decide +kernel
theorem dX6_play_110 : decode cX6_play 110 = .ok (.aload_n 0, 1) := by decide +kernel
theorem dX6_play_111 : decode cX6_play 111 = .ok (.getfield 15, 3) := by decide +kernel
theorem dX6_play_114 : decode cX6_play 114 = .ok (.iload 5, 2) := by decide +kernel
theorem dX6_play_116 : decode cX6_play 116 = .ok (.lload 10, 2) := by decide +kernel
theorem dX6_play_118 : decode cX6_play 118 = .ok (.lconst 0, 1) := by decide +kernel
theorem dX6_play_119 : decode cX6_play 119 = .ok (.lcmp, 1) := by decide +kernel
theorem dX6_play_120 : decode cX6_play 120 = .ok (.ifCond .ge 9, 3) := by decide +kernel
theorem dX6_play_123 : decode cX6_play 123 = .ok (.lload 10, 2) := by decide +kernel
theorem dX6_play_125 : decode cX6_play 125 = .ok (.lneg, 1) := by decide +kernel
theorem dX6_play_126 : decode cX6_play 126 = .ok (.goto 4, 3) := by decide +kernel
theorem dX6_play_129 : decode cX6_play 129 = .ok (.lconst 0, 1) := by decide +kernel
theorem dX6_play_130 : decode cX6_play 130 = .ok (.lastore, 1) := by decide +kernel
theorem dX6_play_131 : decode cX6_play 131 = .ok (.aload_n 0, 1) := by decide +kernel
theorem dX6_play_132 : decode cX6_play 132 = .ok (.dup, 1) := by decide +kernel
theorem dX6_play_133 : decode cX6_play 133 = .ok (.getfield 25, 3) := by decide +kernel
theorem dX6_play_136 : decode cX6_play 136 = .ok (.aload_n 0, 1) := by decide +kernel
theorem dX6_play_137 : decode cX6_play 137 = .ok (.getfield 15, 3) := by decide +kernel
theorem dX6_play_140 : decode cX6_play 140 = .ok (.iload 5, 2) := by decide +kernel
theorem dX6_play_142 : decode cX6_play 142 = .ok (.laload, 1) := by decide +kernel
theorem dX6_play_143 : decode cX6_play 143 = .ok (.ladd, 1) := by decide +kernel
theorem dX6_play_144 : decode cX6_play 144 = .ok (.putfield 25, 3) := by decide +kernel
theorem dX6_play_147 : decode cX6_play 147 = .ok (.lload 10, 2) := by decide +kernel
theorem dX6_play_149 : decode cX6_play 149 = .ok (.lconst 0, 1) := by decide +kernel
theorem dX6_play_150 : decode cX6_play 150 = .ok (.lcmp, 1) := by decide +kernel
theorem dX6_play_151 : decode cX6_play 151 = .ok (.ifCond .ge 7, 3) := by decide +kernel
theorem dX6_play_154 : decode cX6_play 154 = .ok (.lconst 0, 1) := by decide +kernel
theorem dX6_play_155 : decode cX6_play 155 = .ok (.goto 5, 3) := by decide +kernel
theorem dX6_play_158 : decode cX6_play 158 = .ok (.lload 10, 2) := by decide +kernel
theorem dX6_play_160 : decode cX6_play 160 = .ok (.lstore_n 3, 1) := by decide +kernel
theorem dX6_play_161 : decode cX6_play 161 = .ok (.aload_n 1, 1) := by decide +kernel
theorem dX6_play_162 : decode cX6_play 162 = .ok (.iload 5, 2) := by decide +kernel
theorem dX6_play_164 : decode cX6_play 164 = .ok (.invokevirtual 51, 3) := by decide +kernel
theorem dX6_play_167 : decode cX6_play 167 = .ok (.ifCond .eq 44, 3) := by decide +kernel
theorem dX6_play_170 : decode cX6_play 170 = .ok (.lload_n 3, 1) := by decide +kernel
theorem dX6_play_171 : decode cX6_play 171 = .ok (.aload_n 1, 1) := by decide +kernel
theorem dX6_play_172 : decode cX6_play 172 = .ok (.getfield 55, 3) := by decide +kernel
theorem dX6_play_175 : decode cX6_play 175 = .ok (.iload 5, 2) := by decide +kernel
theorem dX6_play_177 : decode cX6_play 177 = .ok (.iaload, 1) := by decide +kernel
theorem dX6_play_178 : decode cX6_play 178 = .ok (.i2l, 1) := by decide +kernel
theorem dX6_play_179 : decode cX6_play 179 = .ok (.lcmp, 1) := by decide +kernel
theorem dX6_play_180 : decode cX6_play 180 = .ok (.ifCond .le 31, 3) := by decide +kernel
theorem dX6_play_183 : decode cX6_play 183 = .ok (.aload_n 0, 1) := by decide +kernel
theorem dX6_play_184 : decode cX6_play 184 = .ok (.dup, 1) := by decide +kernel
theorem dX6_play_185 : decode cX6_play 185 = .ok (.getfield 29, 3) := by decide +kernel
theorem dX6_play_188 : decode cX6_play 188 = .ok (.lload_n 3, 1) := by decide +kernel
theorem dX6_play_189 : decode cX6_play 189 = .ok (.aload_n 1, 1) := by decide +kernel
theorem dX6_play_190 : decode cX6_play 190 = .ok (.getfield 55, 3) := by decide +kernel
theorem dX6_play_193 : decode cX6_play 193 = .ok (.iload 5, 2) := by decide +kernel
theorem dX6_play_195 : decode cX6_play 195 = .ok (.iaload, 1) := by decide +kernel
theorem dX6_play_196 : decode cX6_play 196 = .ok (.i2l, 1) := by decide +kernel
theorem dX6_play_197 : decode cX6_play 197 = .ok (.lsub, 1) := by decide +kernel
theorem dX6_play_198 : decode cX6_play 198 = .ok (.ladd, 1) := by decide +kernel
theorem dX6_play_199 : decode cX6_play 199 = .ok (.putfield 29, 3) := by decide +kernel
theorem dX6_play_202 : decode cX6_play 202 = .ok (.aload_n 1, 1) := by decide +kernel
theorem dX6_play_203 : decode cX6_play 203 = .ok (.getfield 55, 3) := by decide +kernel
theorem dX6_play_206 : decode cX6_play 206 = .ok (.iload 5, 2) := by decide +kernel
theorem dX6_play_208 : decode cX6_play 208 = .ok (.iaload, 1) := by decide +kernel
theorem dX6_play_209 : decode cX6_play 209 = .ok (.i2l, 1) := by decide +kernel
theorem dX6_play_210 : decode cX6_play 210 = .ok (.lstore_n 3, 1) := by decide +kernel
theorem dX6_play_211 : decode cX6_play 211 = .ok (.aload_n 0, 1) := by decide +kernel
theorem dX6_play_212 : decode cX6_play 212 = .ok (.getfield 9, 3) := by decide +kernel
theorem dX6_play_215 : decode cX6_play 215 = .ok (.iload 5, 2) := by decide +kernel
theorem dX6_play_217 : decode cX6_play 217 = .ok (.lload_n 3, 1) := by decide +kernel
theorem dX6_play_218 : decode cX6_play 218 = .ok (.lastore, 1) := by decide +kernel
theorem dX6_play_219 : decode cX6_play 219 = .ok (.iinc 5 1, 3) := by decide +kernel
theorem dX6_play_222 : decode cX6_play 222 = .ok (.goto (-189), 3) := by decide +kernel
theorem dX6_play_225 : decode cX6_play 225 = .ok (.return_, 1) := by decide +kernel
theorem dX6_tell_0 : decode cX6_tell 0 = .ok (.iload_n 1, 1) := by decide +kernel
theorem dX6_tell_1 : decode cX6_tell 1 = .ok (.tableswitch 51 20 23 #[31, 36, 41, 46], 31) := by decide +kernel
theorem dX6_tell_32 : decode cX6_tell 32 = .ok (.aload_n 0, 1) := by decide +kernel
theorem dX6_tell_33 : decode cX6_tell 33 = .ok (.getfield 25, 3) := by decide +kernel
theorem dX6_tell_36 : decode cX6_tell 36 = .ok (.lreturn, 1) := by decide +kernel
theorem dX6_tell_37 : decode cX6_tell 37 = .ok (.aload_n 0, 1) := by decide +kernel
theorem dX6_tell_38 : decode cX6_tell 38 = .ok (.getfield 29, 3) := by decide +kernel
theorem dX6_tell_41 : decode cX6_tell 41 = .ok (.lreturn, 1) := by decide +kernel
theorem dX6_tell_42 : decode cX6_tell 42 = .ok (.aload_n 0, 1) := by decide +kernel
theorem dX6_tell_43 : decode cX6_tell 43 = .ok (.getfield 32, 3) := by decide +kernel
theorem dX6_tell_46 : decode cX6_tell 46 = .ok (.lreturn, 1) := by decide +kernel
theorem dX6_tell_47 : decode cX6_tell 47 = .ok (.aload_n 0, 1) := by decide +kernel
theorem dX6_tell_48 : decode cX6_tell 48 = .ok (.getfield 35, 3) := by decide +kernel
theorem dX6_tell_51 : decode cX6_tell 51 = .ok (.lreturn, 1) := by decide +kernel
theorem dX6_tell_52 : decode cX6_tell 52 = .ok (.iload_n 1, 1) := by decide +kernel
theorem dX6_tell_53 : decode cX6_tell 53 = .ok (.bipush 10, 2) := by decide +kernel
theorem dX6_tell_55 : decode cX6_tell 55 = .ok (.if_icmp .ge 12, 3) := by decide +kernel
theorem dX6_tell_58 : decode cX6_tell 58 = .ok (.aload_n 0, 1) := by decide +kernel
theorem dX6_tell_59 : decode cX6_tell 59 = .ok (.getfield 9, 3) := by decide +kernel
theorem dX6_tell_62 : decode cX6_tell 62 = .ok (.iload_n 1, 1) := by decide +kernel
theorem dX6_tell_63 : decode cX6_tell 63 = .ok (.laload, 1) := by decide +kernel
theorem dX6_tell_64 : decode cX6_tell 64 = .ok (.goto 12, 3) := by decide +kernel
theorem dX6_tell_67 : decode cX6_tell 67 = .ok (.aload_n 0, 1) := by decide +kernel
theorem dX6_tell_68 : decode cX6_tell 68 = .ok (.getfield 15, 3) := by decide +kernel
theorem dX6_tell_71 : decode cX6_tell 71 = .ok (.iload_n 1, 1) := by decide +kernel
theorem dX6_tell_72 : decode cX6_tell 72 = .ok (.bipush 10, 2) := by decide +kernel
theorem dX6_tell_74 : decode cX6_tell 74 = .ok (.isub, 1) := by decide +kernel
theorem dX6_tell_75 : decode cX6_tell 75 = .ok (.laload, 1) := by decide +kernel
theorem dX6_tell_76 : decode cX6_tell 76 = .ok (.lreturn, 1) := by decide +kernel
theorem dX6_firstOtherwise_0 : decode cX6_firstOtherwise 0 = .ok (.iconst 0, 1) := by decide +kernel
theorem dX6_firstOtherwise_1 : decode cX6_firstOtherwise 1 = .ok (.istore_n 2, 1) := by decide +kernel
theorem dX6_firstOtherwise_2 : decode cX6_firstOtherwise 2 = .ok (.iload_n 2, 1) := by decide +kernel
theorem dX6_firstOtherwise_3 : decode cX6_firstOtherwise 3 = .ok (.aload_n 1, 1) := by decide +kernel
theorem dX6_firstOtherwise_4 : decode cX6_firstOtherwise 4 = .ok (.getfield 58, 3) := by decide +kernel
theorem dX6_firstOtherwise_7 : decode cX6_firstOtherwise 7 = .ok (.if_icmp .ge 36, 3) := by decide +kernel
theorem dX6_firstOtherwise_10 : decode cX6_firstOtherwise 10 = .ok (.iload_n 2, 1) := by decide +kernel
theorem dX6_firstOtherwise_11 : decode cX6_firstOtherwise 11 = .ok (.aload_n 0, 1) := by decide +kernel
theorem dX6_firstOtherwise_12 : decode cX6_firstOtherwise 12 = .ok (.getfield 24, 3) := by decide +kernel
theorem dX6_firstOtherwise_15 : decode cX6_firstOtherwise 15 = .ok (.if_icmp .ge 20, 3) := by decide +kernel
theorem dX6_firstOtherwise_18 : decode cX6_firstOtherwise 18 = .ok (.aload_n 1, 1) := by decide +kernel
theorem dX6_firstOtherwise_19 : decode cX6_firstOtherwise 19 = .ok (.getfield 63, 3) := by decide +kernel
theorem dX6_firstOtherwise_22 : decode cX6_firstOtherwise 22 = .ok (.iload_n 2, 1) := by decide +kernel
theorem dX6_firstOtherwise_23 : decode cX6_firstOtherwise 23 = .ok (.iaload, 1) := by decide +kernel
theorem dX6_firstOtherwise_24 : decode cX6_firstOtherwise 24 = .ok (.i2l, 1) := by decide +kernel
theorem dX6_firstOtherwise_25 : decode cX6_firstOtherwise 25 = .ok (.aload_n 0, 1) := by decide +kernel
theorem dX6_firstOtherwise_26 : decode cX6_firstOtherwise 26 = .ok (.getfield 9, 3) := by decide +kernel
theorem dX6_firstOtherwise_29 : decode cX6_firstOtherwise 29 = .ok (.iload_n 2, 1) := by decide +kernel
theorem dX6_firstOtherwise_30 : decode cX6_firstOtherwise 30 = .ok (.laload, 1) := by decide +kernel
theorem dX6_firstOtherwise_31 : decode cX6_firstOtherwise 31 = .ok (.lcmp, 1) := by decide +kernel
theorem dX6_firstOtherwise_32 : decode cX6_firstOtherwise 32 = .ok (.ifCond .eq 5, 3) := by decide +kernel
theorem dX6_firstOtherwise_35 : decode cX6_firstOtherwise 35 = .ok (.iload_n 2, 1) := by decide +kernel
theorem dX6_firstOtherwise_36 : decode cX6_firstOtherwise 36 = .ok (.ireturn, 1) := by decide +kernel
theorem dX6_firstOtherwise_37 : decode cX6_firstOtherwise 37 = .ok (.iinc 2 1, 3) := by decide +kernel
theorem dX6_firstOtherwise_40 : decode cX6_firstOtherwise 40 = .ok (.goto (-38), 3) := by decide +kernel
theorem dX6_firstOtherwise_43 : decode cX6_firstOtherwise 43 = .ok (.iconst (-1), 1) := by decide +kernel
theorem dX6_firstOtherwise_44 : decode cX6_firstOtherwise 44 = .ok (.ireturn, 1) := by decide +kernel
theorem dX7_init_0 : decode cX7_init 0 = .ok (.aload_n 0, 1) := by decide +kernel
theorem dX7_init_1 : decode cX7_init 1 = .ok (.invokespecial 3, 3) := by decide +kernel
theorem dX7_init_4 : decode cX7_init 4 = .ok (.aload_n 0, 1) := by decide +kernel
theorem dX7_init_5 : decode cX7_init 5 = .ok (.new 9, 3) := by decide +kernel
theorem dX7_init_8 : decode cX7_init 8 = .ok (.dup, 1) := by decide +kernel
theorem dX7_init_9 : decode cX7_init 9 = .ok (.invokespecial 11, 3) := by decide +kernel
theorem dX7_init_12 : decode cX7_init 12 = .ok (.putfield 12, 3) := by decide +kernel
theorem dX7_init_15 : decode cX7_init 15 = .ok (.aload_n 0, 1) := by decide +kernel
theorem dX7_init_16 : decode cX7_init 16 = .ok (.iconst 5, 1) := by decide +kernel
theorem dX7_init_17 : decode cX7_init 17 = .ok (.anewarray 9, 3) := by decide +kernel
theorem dX7_init_20 : decode cX7_init 20 = .ok (.putfield 18, 3) := by decide +kernel
theorem dX7_init_23 : decode cX7_init 23 = .ok (.iconst 0, 1) := by decide +kernel
theorem dX7_init_24 : decode cX7_init 24 = .ok (.istore_n 1, 1) := by decide +kernel
theorem dX7_init_25 : decode cX7_init 25 = .ok (.iload_n 1, 1) := by decide +kernel
theorem dX7_init_26 : decode cX7_init 26 = .ok (.iconst 5, 1) := by decide +kernel
theorem dX7_init_27 : decode cX7_init 27 = .ok (.if_icmp .ge 22, 3) := by decide +kernel
theorem dX7_init_30 : decode cX7_init 30 = .ok (.aload_n 0, 1) := by decide +kernel
theorem dX7_init_31 : decode cX7_init 31 = .ok (.getfield 18, 3) := by decide +kernel
theorem dX7_init_34 : decode cX7_init 34 = .ok (.iload_n 1, 1) := by decide +kernel
theorem dX7_init_35 : decode cX7_init 35 = .ok (.new 9, 3) := by decide +kernel
theorem dX7_init_38 : decode cX7_init 38 = .ok (.dup, 1) := by decide +kernel
theorem dX7_init_39 : decode cX7_init 39 = .ok (.invokespecial 11, 3) := by decide +kernel
theorem dX7_init_42 : decode cX7_init 42 = .ok (.aastore, 1) := by decide +kernel
theorem dX7_init_43 : decode cX7_init 43 = .ok (.iinc 1 1, 3) := by decide +kernel
theorem dX7_init_46 : decode cX7_init 46 = .ok (.goto (-21), 3) := by decide +kernel
theorem dX7_init_49 : decode cX7_init 49 = .ok (.return_, 1) := by decide +kernel
theorem dX7_begin_0 : decode cX7_begin 0 = .ok (.aload_n 0, 1) := by decide +kernel
theorem dX7_begin_1 : decode cX7_begin 1 = .ok (.iload_n 1, 1) := by decide +kernel
theorem dX7_begin_2 : decode cX7_begin 2 = .ok (.putfield 22, 3) := by decide +kernel
theorem dX7_begin_5 : decode cX7_begin 5 = .ok (.aload_n 0, 1) := by decide +kernel
theorem dX7_begin_6 : decode cX7_begin 6 = .ok (.getfield 12, 3) := by decide +kernel
theorem dX7_begin_9 : decode cX7_begin 9 = .ok (.lconst 0, 1) := by decide +kernel
theorem dX7_begin_10 : decode cX7_begin 10 = .ok (.lconst 1, 1) := by decide +kernel
theorem dX7_begin_11 : decode cX7_begin 11 = .ok (.invokevirtual 26, 3) := by decide +kernel
theorem dX7_begin_14 : decode cX7_begin 14 = .ok (.iconst 0, 1) := by decide +kernel
theorem dX7_begin_15 : decode cX7_begin 15 = .ok (.istore_n 2, 1) := by decide +kernel
theorem dX7_begin_16 : decode cX7_begin 16 = .ok (.iload_n 2, 1) := by decide +kernel
theorem dX7_begin_17 : decode cX7_begin 17 = .ok (.iconst 5, 1) := by decide +kernel
theorem dX7_begin_18 : decode cX7_begin 18 = .ok (.if_icmp .ge 20, 3) := by decide +kernel
theorem dX7_begin_21 : decode cX7_begin 21 = .ok (.aload_n 0, 1) := by decide +kernel
theorem dX7_begin_22 : decode cX7_begin 22 = .ok (.getfield 18, 3) := by decide +kernel
theorem dX7_begin_25 : decode cX7_begin 25 = .ok (.iload_n 2, 1) := by decide +kernel
theorem dX7_begin_26 : decode cX7_begin 26 = .ok (.aaload, 1) := by decide +kernel
theorem dX7_begin_27 : decode cX7_begin 27 = .ok (.lconst 0, 1) := by decide +kernel
theorem dX7_begin_28 : decode cX7_begin 28 = .ok (.lconst 1, 1) := by decide +kernel
theorem dX7_begin_29 : decode cX7_begin 29 = .ok (.invokevirtual 26, 3) := by decide +kernel
theorem dX7_begin_32 : decode cX7_begin 32 = .ok (.iinc 2 1, 3) := by decide +kernel
theorem dX7_begin_35 : decode cX7_begin 35 = .ok (.goto (-19), 3) := by decide +kernel
theorem dX7_begin_38 : decode cX7_begin 38 = .ok (.return_, 1) := by decide +kernel
theorem dX7_become_0 : decode cX7_become 0 = .ok (.aload_n 0, 1) := by decide +kernel
theorem dX7_become_1 : decode cX7_become 1 = .ok (.getfield 12, 3) := by decide +kernel
theorem dX7_become_4 : decode cX7_become 4 = .ok (.aload_n 1, 1) := by decide +kernel
theorem dX7_become_5 : decode cX7_become 5 = .ok (.getfield 12, 3) := by decide +kernel
theorem dX7_become_8 : decode cX7_become 8 = .ok (.invokevirtual 30, 3) := by decide +kernel
theorem dX7_become_11 : decode cX7_become 11 = .ok (.iconst 0, 1) := by decide +kernel
theorem dX7_become_12 : decode cX7_become 12 = .ok (.istore_n 2, 1) := by decide +kernel
theorem dX7_become_13 : decode cX7_become 13 = .ok (.iload_n 2, 1) := by decide +kernel
theorem dX7_become_14 : decode cX7_become 14 = .ok (.iconst 5, 1) := by decide +kernel
theorem dX7_become_15 : decode cX7_become 15 = .ok (.if_icmp .ge 24, 3) := by decide +kernel
theorem dX7_become_18 : decode cX7_become 18 = .ok (.aload_n 0, 1) := by decide +kernel
theorem dX7_become_19 : decode cX7_become 19 = .ok (.getfield 18, 3) := by decide +kernel
theorem dX7_become_22 : decode cX7_become 22 = .ok (.iload_n 2, 1) := by decide +kernel
theorem dX7_become_23 : decode cX7_become 23 = .ok (.aaload, 1) := by decide +kernel
theorem dX7_become_24 : decode cX7_become 24 = .ok (.aload_n 1, 1) := by decide +kernel
theorem dX7_become_25 : decode cX7_become 25 = .ok (.getfield 18, 3) := by decide +kernel
theorem dX7_become_28 : decode cX7_become 28 = .ok (.iload_n 2, 1) := by decide +kernel
theorem dX7_become_29 : decode cX7_become 29 = .ok (.aaload, 1) := by decide +kernel
theorem dX7_become_30 : decode cX7_become 30 = .ok (.invokevirtual 30, 3) := by decide +kernel
theorem dX7_become_33 : decode cX7_become 33 = .ok (.iinc 2 1, 3) := by decide +kernel
theorem dX7_become_36 : decode cX7_become 36 = .ok (.goto (-23), 3) := by decide +kernel
theorem dX7_become_39 : decode cX7_become 39 = .ok (.return_, 1) := by decide +kernel
theorem dX7_multiply_0 : decode cX7_multiply 0 = .ok (.aload_n 0, 1) := by decide +kernel
theorem dX7_multiply_1 : decode cX7_multiply 1 = .ok (.getfield 12, 3) := by decide +kernel
theorem dX7_multiply_4 : decode cX7_multiply 4 = .ok (.aload_n 1, 1) := by decide +kernel
theorem dX7_multiply_5 : decode cX7_multiply 5 = .ok (.invokevirtual 33, 3) := by decide +kernel
theorem dX7_multiply_8 : decode cX7_multiply 8 = .ok (.iconst 0, 1) := by decide +kernel
theorem dX7_multiply_9 : decode cX7_multiply 9 = .ok (.istore_n 2, 1) := by decide +kernel
theorem dX7_multiply_10 : decode cX7_multiply 10 = .ok (.iload_n 2, 1) := by decide +kernel
theorem dX7_multiply_11 : decode cX7_multiply 11 = .ok (.iconst 5, 1) := by decide +kernel
theorem dX7_multiply_12 : decode cX7_multiply 12 = .ok (.if_icmp .ge 19, 3) := by decide +kernel
theorem dX7_multiply_15 : decode cX7_multiply 15 = .ok (.aload_n 0, 1) := by decide +kernel
theorem dX7_multiply_16 : decode cX7_multiply 16 = .ok (.getfield 18, 3) := by decide +kernel
theorem dX7_multiply_19 : decode cX7_multiply 19 = .ok (.iload_n 2, 1) := by decide +kernel
theorem dX7_multiply_20 : decode cX7_multiply 20 = .ok (.aaload, 1) := by decide +kernel
theorem dX7_multiply_21 : decode cX7_multiply 21 = .ok (.aload_n 1, 1) := by decide +kernel
theorem dX7_multiply_22 : decode cX7_multiply 22 = .ok (.invokevirtual 33, 3) := by decide +kernel
theorem dX7_multiply_25 : decode cX7_multiply 25 = .ok (.iinc 2 1, 3) := by decide +kernel
theorem dX7_multiply_28 : decode cX7_multiply 28 = .ok (.goto (-18), 3) := by decide +kernel
theorem dX7_multiply_31 : decode cX7_multiply 31 = .ok (.return_, 1) := by decide +kernel
theorem dX7_negate_0 : decode cX7_negate 0 = .ok (.aload_n 0, 1) := by decide +kernel
theorem dX7_negate_1 : decode cX7_negate 1 = .ok (.getfield 12, 3) := by decide +kernel
theorem dX7_negate_4 : decode cX7_negate 4 = .ok (.invokevirtual 36, 3) := by decide +kernel
theorem dX7_negate_7 : decode cX7_negate 7 = .ok (.iconst 0, 1) := by decide +kernel
theorem dX7_negate_8 : decode cX7_negate 8 = .ok (.istore_n 1, 1) := by decide +kernel
theorem dX7_negate_9 : decode cX7_negate 9 = .ok (.iload_n 1, 1) := by decide +kernel
theorem dX7_negate_10 : decode cX7_negate 10 = .ok (.iconst 5, 1) := by decide +kernel
theorem dX7_negate_11 : decode cX7_negate 11 = .ok (.if_icmp .ge 18, 3) := by decide +kernel
theorem dX7_negate_14 : decode cX7_negate 14 = .ok (.aload_n 0, 1) := by decide +kernel
theorem dX7_negate_15 : decode cX7_negate 15 = .ok (.getfield 18, 3) := by decide +kernel
theorem dX7_negate_18 : decode cX7_negate 18 = .ok (.iload_n 1, 1) := by decide +kernel
theorem dX7_negate_19 : decode cX7_negate 19 = .ok (.aaload, 1) := by decide +kernel
theorem dX7_negate_20 : decode cX7_negate 20 = .ok (.invokevirtual 36, 3) := by decide +kernel
theorem dX7_negate_23 : decode cX7_negate 23 = .ok (.iinc 1 1, 3) := by decide +kernel
theorem dX7_negate_26 : decode cX7_negate 26 = .ok (.goto (-17), 3) := by decide +kernel
theorem dX7_negate_29 : decode cX7_negate 29 = .ok (.return_, 1) := by decide +kernel
theorem dX7_isGreat_0 : decode cX7_isGreat 0 = .ok (.aload_n 0, 1) := by decide +kernel
theorem dX7_isGreat_1 : decode cX7_isGreat 1 = .ok (.getfield 12, 3) := by decide +kernel
theorem dX7_isGreat_4 : decode cX7_isGreat 4 = .ok (.getfield 39, 3) := by decide +kernel
theorem dX7_isGreat_7 : decode cX7_isGreat 7 = .ok (.istore_n 1, 1) := by decide +kernel
theorem dX7_isGreat_8 : decode cX7_isGreat 8 = .ok (.iconst 0, 1) := by decide +kernel
theorem dX7_isGreat_9 : decode cX7_isGreat 9 = .ok (.istore_n 2, 1) := by decide +kernel
theorem dX7_isGreat_10 : decode cX7_isGreat 10 = .ok (.iload_n 2, 1) := by decide +kernel
theorem dX7_isGreat_11 : decode cX7_isGreat 11 = .ok (.iconst 5, 1) := by decide +kernel
theorem dX7_isGreat_12 : decode cX7_isGreat 12 = .ok (.if_icmp .ge 31, 3) := by decide +kernel
theorem dX7_isGreat_15 : decode cX7_isGreat 15 = .ok (.iload_n 1, 1) := by decide +kernel
theorem dX7_isGreat_16 : decode cX7_isGreat 16 = .ok (.ifCond .ne 15, 3) := by decide +kernel
theorem dX7_isGreat_19 : decode cX7_isGreat 19 = .ok (.aload_n 0, 1) := by decide +kernel
theorem dX7_isGreat_20 : decode cX7_isGreat 20 = .ok (.getfield 18, 3) := by decide +kernel
theorem dX7_isGreat_23 : decode cX7_isGreat 23 = .ok (.iload_n 2, 1) := by decide +kernel
theorem dX7_isGreat_24 : decode cX7_isGreat 24 = .ok (.aaload, 1) := by decide +kernel
theorem dX7_isGreat_25 : decode cX7_isGreat 25 = .ok (.getfield 39, 3) := by decide +kernel
theorem dX7_isGreat_28 : decode cX7_isGreat 28 = .ok (.ifCond .eq 7, 3) := by decide +kernel
theorem dX7_isGreat_31 : decode cX7_isGreat 31 = .ok (.iconst 1, 1) := by decide +kernel
theorem dX7_isGreat_32 : decode cX7_isGreat 32 = .ok (.goto 4, 3) := by decide +kernel
theorem dX7_isGreat_35 : decode cX7_isGreat 35 = .ok (.iconst 0, 1) := by decide +kernel
theorem dX7_isGreat_36 : decode cX7_isGreat 36 = .ok (.istore_n 1, 1) := by decide +kernel
theorem dX7_isGreat_37 : decode cX7_isGreat 37 = .ok (.iinc 2 1, 3) := by decide +kernel
theorem dX7_isGreat_40 : decode cX7_isGreat 40 = .ok (.goto (-30), 3) := by decide +kernel
theorem dX7_isGreat_43 : decode cX7_isGreat 43 = .ok (.iload_n 1, 1) := by decide +kernel
theorem dX7_isGreat_44 : decode cX7_isGreat 44 = .ok (.ireturn, 1) := by decide +kernel
theorem dX8_init_0 : decode cX8_init 0 = .ok (.aload_n 0, 1) := by decide +kernel
theorem dX8_init_1 : decode cX8_init 1 = .ok (.invokespecial 3, 3) := by decide +kernel
theorem dX8_init_4 : decode cX8_init 4 = .ok (.aload_n 0, 1) := by decide +kernel
theorem dX8_init_5 : decode cX8_init 5 = .ok (.iconst 5, 1) := by decide +kernel
theorem dX8_init_6 : decode cX8_init 6 = .ok (.newarray .int, 2) := by decide +kernel
theorem dX8_init_8 : decode cX8_init 8 = .ok (.putfield 9, 3) := by decide +kernel
theorem dX8_init_11 : decode cX8_init 11 = .ok (.aload_n 0, 1) := by decide +kernel
theorem dX8_init_12 : decode cX8_init 12 = .ok (.iconst 5, 1) := by decide +kernel
theorem dX8_init_13 : decode cX8_init 13 = .ok (.newarray .int, 2) := by decide +kernel
theorem dX8_init_15 : decode cX8_init 15 = .ok (.putfield 15, 3) := by decide +kernel
theorem dX8_init_18 : decode cX8_init 18 = .ok (.aload_n 0, 1) := by decide +kernel
theorem dX8_init_19 : decode cX8_init 19 = .ok (.iconst 5, 1) := by decide +kernel
theorem dX8_init_20 : decode cX8_init 20 = .ok (.newarray .int, 2) := by decide +kernel
theorem dX8_init_22 : decode cX8_init 22 = .ok (.putfield 18, 3) := by decide +kernel
theorem dX8_init_25 : decode cX8_init 25 = .ok (.aload_n 0, 1) := by decide +kernel
theorem dX8_init_26 : decode cX8_init 26 = .ok (.iconst 5, 1) := by decide +kernel
theorem dX8_init_27 : decode cX8_init 27 = .ok (.newarray .int, 2) := by decide +kernel
theorem dX8_init_29 : decode cX8_init 29 = .ok (.putfield 21, 3) := by decide +kernel
theorem dX8_init_32 : decode cX8_init 32 = .ok (.aload_n 0, 1) := by decide +kernel
theorem dX8_init_33 : decode cX8_init 33 = .ok (.bipush 61, 2) := by decide +kernel
theorem dX8_init_35 : decode cX8_init 35 = .ok (.newarray .int, 2) := by decide +kernel
theorem dX8_init_37 : decode cX8_init 37 = .ok (.putfield 24, 3) := by decide +kernel
theorem dX8_init_40 : decode cX8_init 40 = .ok (.aload_n 0, 1) := by decide +kernel
theorem dX8_init_41 : decode cX8_init 41 = .ok (.bipush 61, 2) := by decide +kernel
theorem dX8_init_43 : decode cX8_init 43 = .ok (.newarray .int, 2) := by decide +kernel
theorem dX8_init_45 : decode cX8_init 45 = .ok (.putfield 27, 3) := by decide +kernel
theorem dX8_init_48 : decode cX8_init 48 = .ok (.aload_n 0, 1) := by decide +kernel
theorem dX8_init_49 : decode cX8_init 49 = .ok (.iconst 5, 1) := by decide +kernel
theorem dX8_init_50 : decode cX8_init 50 = .ok (.bipush 61, 2) := by decide +kernel
theorem dX8_init_52 : decode cX8_init 52 = .ok (.multianewarray 30 2, 4) := by decide +kernel
theorem dX8_init_56 : decode cX8_init 56 = .ok (.putfield 32, 3) := by decide +kernel
theorem dX8_init_59 : decode cX8_init 59 = .ok (.aload_n 0, 1) := by decide +kernel
theorem dX8_init_60 : decode cX8_init 60 = .ok (.iconst 5, 1) := by decide +kernel
theorem dX8_init_61 : decode cX8_init 61 = .ok (.iconst 5, 1) := by decide +kernel
theorem dX8_init_62 : decode cX8_init 62 = .ok (.multianewarray 30 2, 4) := by decide +kernel
theorem dX8_init_66 : decode cX8_init 66 = .ok (.putfield 35, 3) := by decide +kernel
theorem dX8_init_69 : decode cX8_init 69 = .ok (.aload_n 0, 1) := by decide +kernel
theorem dX8_init_70 : decode cX8_init 70 = .ok (.iconst 5, 1) := by decide +kernel
theorem dX8_init_71 : decode cX8_init 71 = .ok (.newarray .int, 2) := by decide +kernel
theorem dX8_init_73 : decode cX8_init 73 = .ok (.putfield 38, 3) := by decide +kernel
theorem dX8_init_76 : decode cX8_init 76 = .ok (.aload_n 0, 1) := by decide +kernel
theorem dX8_init_77 : decode cX8_init 77 = .ok (.iconst 5, 1) := by decide +kernel
theorem dX8_init_78 : decode cX8_init 78 = .ok (.newarray .int, 2) := by decide +kernel
theorem dX8_init_80 : decode cX8_init 80 = .ok (.putfield 41, 3) := by decide +kernel
theorem dX8_init_83 : decode cX8_init 83 = .ok (.return_, 1) := by decide +kernel
theorem dX8_lay_0 : decode cX8_lay 0 = .ok (.aload_n 0, 1) := by decide +kernel
theorem dX8_lay_1 : decode cX8_lay 1 = .ok (.aload_n 1, 1) := by decide +kernel
theorem dX8_lay_2 : decode cX8_lay 2 = .ok (.invokevirtual 44, 3) := by decide +kernel
theorem dX8_lay_5 : decode cX8_lay 5 = .ok (.aload_n 0, 1) := by decide +kernel
theorem dX8_lay_6 : decode cX8_lay 6 = .ok (.aload_n 1, 1) := by decide +kernel
theorem dX8_lay_7 : decode cX8_lay 7 = .ok (.getfield 48, 3) := by decide +kernel
theorem dX8_lay_10 : decode cX8_lay 10 = .ok (.getfield 54, 3) := by decide +kernel
theorem dX8_lay_13 : decode cX8_lay 13 = .ok (.aload_n 2, 1) := by decide +kernel
theorem dX8_lay_14 : decode cX8_lay 14 = .ok (.invokevirtual 59, 3) := by decide +kernel
theorem dX8_lay_17 : decode cX8_lay 17 = .ok (.iconst 0, 1) := by decide +kernel
theorem dX8_lay_18 : decode cX8_lay 18 = .ok (.istore_n 3, 1) := by decide +kernel
theorem dX8_lay_19 : decode cX8_lay 19 = .ok (.iload_n 3, 1) := by decide +kernel
theorem dX8_lay_20 : decode cX8_lay 20 = .ok (.aload_n 1, 1) := by decide +kernel
theorem dX8_lay_21 : decode cX8_lay 21 = .ok (.getfield 63, 3) := by decide +kernel
theorem dX8_lay_24 : decode cX8_lay 24 = .ok (.if_icmp .ge 33, 3) := by decide +kernel
theorem dX8_lay_27 : decode cX8_lay 27 = .ok (.aload_n 1, 1) := by decide +kernel
theorem dX8_lay_28 : decode cX8_lay 28 = .ok (.getfield 67, 3) := by decide +kernel
theorem dX8_lay_31 : decode cX8_lay 31 = .ok (.iload_n 3, 1) := by decide +kernel
theorem dX8_lay_32 : decode cX8_lay 32 = .ok (.aaload, 1) := by decide +kernel
theorem dX8_lay_33 : decode cX8_lay 33 = .ok (.aload_n 0, 1) := by decide +kernel
theorem dX8_lay_34 : decode cX8_lay 34 = .ok (.getfield 32, 3) := by decide +kernel
theorem dX8_lay_37 : decode cX8_lay 37 = .ok (.iload_n 3, 1) := by decide +kernel
theorem dX8_lay_38 : decode cX8_lay 38 = .ok (.aaload, 1) := by decide +kernel
theorem dX8_lay_39 : decode cX8_lay 39 = .ok (.aload_n 0, 1) := by decide +kernel
theorem dX8_lay_40 : decode cX8_lay 40 = .ok (.getfield 27, 3) := by decide +kernel
theorem dX8_lay_43 : decode cX8_lay 43 = .ok (.invokevirtual 71, 3) := by decide +kernel
theorem dX8_lay_46 : decode cX8_lay 46 = .ok (.aload_n 0, 1) := by decide +kernel
theorem dX8_lay_47 : decode cX8_lay 47 = .ok (.iload_n 3, 1) := by decide +kernel
theorem dX8_lay_48 : decode cX8_lay 48 = .ok (.invokevirtual 76, 3) := by decide +kernel
theorem dX8_lay_51 : decode cX8_lay 51 = .ok (.iinc 3 1, 3) := by decide +kernel
theorem dX8_lay_54 : decode cX8_lay 54 = .ok (.goto (-35), 3) := by decide +kernel
theorem dX8_lay_57 : decode cX8_lay 57 = .ok (.return_, 1) := by decide +kernel
theorem dX8_hasRung_0 : decode cX8_hasRung 0 = .ok (.iload_n 1, 1) := by decide +kernel
theorem dX8_hasRung_1 : decode cX8_hasRung 1 = .ok (.ifCond .lt 15, 3) := by decide +kernel
theorem dX8_hasRung_4 : decode cX8_hasRung 4 = .ok (.iload_n 1, 1) := by decide +kernel
theorem dX8_hasRung_5 : decode cX8_hasRung 5 = .ok (.aload_n 0, 1) := by decide +kernel
theorem dX8_hasRung_6 : decode cX8_hasRung 6 = .ok (.getfield 80, 3) := by decide +kernel
theorem dX8_hasRung_9 : decode cX8_hasRung 9 = .ok (.if_icmp .ge 7, 3) := by decide +kernel
theorem dX8_hasRung_12 : decode cX8_hasRung 12 = .ok (.iconst 1, 1) := by decide +kernel
theorem dX8_hasRung_13 : decode cX8_hasRung 13 = .ok (.goto 4, 3) := by decide +kernel
theorem dX8_hasRung_16 : decode cX8_hasRung 16 = .ok (.iconst 0, 1) := by decide +kernel
theorem dX8_hasRung_17 : decode cX8_hasRung 17 = .ok (.ireturn, 1) := by decide +kernel
theorem dX8_isLimited_0 : decode cX8_isLimited 0 = .ok (.iload_n 1, 1) := by decide +kernel
theorem dX8_isLimited_1 : decode cX8_isLimited 1 = .ok (.aload_n 0, 1) := by decide +kernel
theorem dX8_isLimited_2 : decode cX8_isLimited 2 = .ok (.getfield 80, 3) := by decide +kernel
theorem dX8_isLimited_5 : decode cX8_isLimited 5 = .ok (.iconst 1, 1) := by decide +kernel
theorem dX8_isLimited_6 : decode cX8_isLimited 6 = .ok (.isub, 1) := by decide +kernel
theorem dX8_isLimited_7 : decode cX8_isLimited 7 = .ok (.if_icmp .ge 17, 3) := by decide +kernel
theorem dX8_isLimited_10 : decode cX8_isLimited 10 = .ok (.aload_n 0, 1) := by decide +kernel
theorem dX8_isLimited_11 : decode cX8_isLimited 11 = .ok (.getfield 21, 3) := by decide +kernel
theorem dX8_isLimited_14 : decode cX8_isLimited 14 = .ok (.iload_n 1, 1) := by decide +kernel
theorem dX8_isLimited_15 : decode cX8_isLimited 15 = .ok (.iaload, 1) := by decide +kernel
theorem dX8_isLimited_16 : decode cX8_isLimited 16 = .ok (.iconst (-1), 1) := by decide +kernel
theorem dX8_isLimited_17 : decode cX8_isLimited 17 = .ok (.if_icmp .eq 7, 3) := by decide +kernel
theorem dX8_isLimited_20 : decode cX8_isLimited 20 = .ok (.iconst 1, 1) := by decide +kernel
theorem dX8_isLimited_21 : decode cX8_isLimited 21 = .ok (.goto 4, 3) := by decide +kernel
theorem dX8_isLimited_24 : decode cX8_isLimited 24 = .ok (.iconst 0, 1) := by decide +kernel
theorem dX8_isLimited_25 : decode cX8_isLimited 25 = .ok (.ireturn, 1) := by decide +kernel
theorem dX8_paidByAll_0 : decode cX8_paidByAll 0 = .ok (.iconst 0, 1) := by decide +kernel
theorem dX8_paidByAll_1 : decode cX8_paidByAll 1 = .ok (.istore_n 3, 1) := by decide +kernel
theorem dX8_paidByAll_2 : decode cX8_paidByAll 2 = .ok (.iconst 0, 1) := by decide +kernel
theorem dX8_paidByAll_3 : decode cX8_paidByAll 3 = .ok (.istore 4, 2) := by decide +kernel
theorem dX8_paidByAll_5 : decode cX8_paidByAll 5 = .ok (.iload 4, 2) := by decide +kernel
theorem dX8_paidByAll_7 : decode cX8_paidByAll 7 = .ok (.iconst 5, 1) := by decide +kernel
theorem dX8_paidByAll_8 : decode cX8_paidByAll 8 = .ok (.if_icmp .ge 26, 3) := by decide +kernel
theorem dX8_paidByAll_11 : decode cX8_paidByAll 11 = .ok (.iload_n 3, 1) := by decide +kernel
theorem dX8_paidByAll_12 : decode cX8_paidByAll 12 = .ok (.aload_n 1, 1) := by decide +kernel
theorem dX8_paidByAll_13 : decode cX8_paidByAll 13 = .ok (.iload 4, 2) := by decide +kernel
theorem dX8_paidByAll_15 : decode cX8_paidByAll 15 = .ok (.iaload, 1) := by decide +kernel
theorem dX8_paidByAll_16 : decode cX8_paidByAll 16 = .ok (.aload_n 0, 1) := by decide +kernel
theorem dX8_paidByAll_17 : decode cX8_paidByAll 17 = .ok (.getfield 35, 3) := by decide +kernel
theorem dX8_paidByAll_20 : decode cX8_paidByAll 20 = .ok (.iload 4, 2) := by decide +kernel
theorem dX8_paidByAll_22 : decode cX8_paidByAll 22 = .ok (.aaload, 1) := by decide +kernel
theorem dX8_paidByAll_23 : decode cX8_paidByAll 23 = .ok (.iload_n 2, 1) := by decide +kernel
theorem dX8_paidByAll_24 : decode cX8_paidByAll 24 = .ok (.iaload, 1) := by decide +kernel
theorem dX8_paidByAll_25 : decode cX8_paidByAll 25 = .ok (.imul, 1) := by decide +kernel
theorem dX8_paidByAll_26 : decode cX8_paidByAll 26 = .ok (.iadd, 1) := by decide +kernel
theorem dX8_paidByAll_27 : decode cX8_paidByAll 27 = .ok (.istore_n 3, 1) := by decide +kernel
theorem dX8_paidByAll_28 : decode cX8_paidByAll 28 = .ok (.iinc 4 1, 3) := by decide +kernel
theorem dX8_paidByAll_31 : decode cX8_paidByAll 31 = .ok (.goto (-26), 3) := by decide +kernel
theorem dX8_paidByAll_34 : decode cX8_paidByAll 34 = .ok (.iload_n 3, 1) := by decide +kernel
theorem dX8_paidByAll_35 : decode cX8_paidByAll 35 = .ok (.ireturn, 1) := by decide +kernel
theorem dX8_layRungs_0 : decode cX8_layRungs 0 = .ok (.aload_n 0, 1) := by decide +kernel
theorem dX8_layRungs_1 : decode cX8_layRungs 1 = .ok (.iconst 0, 1) := by decide +kernel
theorem dX8_layRungs_2 : decode cX8_layRungs 2 = .ok (.putfield 80, 3) := by decide +kernel
theorem dX8_layRungs_5 : decode cX8_layRungs 5 = .ok (.iconst 1, 1) := by decide +kernel
theorem dX8_layRungs_6 : decode cX8_layRungs 6 = .ok (.istore_n 2, 1) := by decide +kernel
theorem dX8_layRungs_7 : decode cX8_layRungs 7 = .ok (.iload_n 2, 1) := by decide +kernel
theorem dX8_layRungs_8 : decode cX8_layRungs 8 = .ok (.bipush 60, 2) := by decide +kernel
theorem dX8_layRungs_10 : decode cX8_layRungs 10 = .ok (.if_icmp .gt 95, 3) := by decide +kernel
theorem dX8_layRungs_13 : decode cX8_layRungs 13 = .ok (.aload_n 0, 1) := by decide +kernel
theorem dX8_layRungs_14 : decode cX8_layRungs 14 = .ok (.getfield 24, 3) := by decide +kernel
theorem dX8_layRungs_17 : decode cX8_layRungs 17 = .ok (.iload_n 2, 1) := by decide +kernel
theorem dX8_layRungs_18 : decode cX8_layRungs 18 = .ok (.aload_n 0, 1) := by decide +kernel
theorem dX8_layRungs_19 : decode cX8_layRungs 19 = .ok (.getfield 80, 3) := by decide +kernel
theorem dX8_layRungs_22 : decode cX8_layRungs 22 = .ok (.iastore, 1) := by decide +kernel
theorem dX8_layRungs_23 : decode cX8_layRungs 23 = .ok (.aload_n 1, 1) := by decide +kernel
theorem dX8_layRungs_24 : decode cX8_layRungs 24 = .ok (.getfield 83, 3) := by decide +kernel
theorem dX8_layRungs_27 : decode cX8_layRungs 27 = .ok (.getfield 54, 3) := by decide +kernel
theorem dX8_layRungs_30 : decode cX8_layRungs 30 = .ok (.iload_n 2, 1) := by decide +kernel
theorem dX8_layRungs_31 : decode cX8_layRungs 31 = .ok (.iaload, 1) := by decide +kernel
theorem dX8_layRungs_32 : decode cX8_layRungs 32 = .ok (.ifCond .le 67, 3) := by decide +kernel
theorem dX8_layRungs_35 : decode cX8_layRungs 35 = .ok (.aload_n 0, 1) := by decide +kernel
theorem dX8_layRungs_36 : decode cX8_layRungs 36 = .ok (.getfield 80, 3) := by decide +kernel
theorem dX8_layRungs_39 : decode cX8_layRungs 39 = .ok (.iconst 5, 1) := by decide +kernel
theorem dX8_layRungs_40 : decode cX8_layRungs 40 = .ok (.if_icmp .ge 59, 3) := by decide +kernel
theorem dX8_layRungs_43 : decode cX8_layRungs 43 = .ok (.aload_n 0, 1) := by decide +kernel
theorem dX8_layRungs_44 : decode cX8_layRungs 44 = .ok (.getfield 9, 3) := by decide +kernel
theorem dX8_layRungs_47 : decode cX8_layRungs 47 = .ok (.aload_n 0, 1) := by decide +kernel
theorem dX8_layRungs_48 : decode cX8_layRungs 48 = .ok (.getfield 80, 3) := by decide +kernel
theorem dX8_layRungs_51 : decode cX8_layRungs 51 = .ok (.iload_n 2, 1) := by decide +kernel
theorem dX8_layRungs_52 : decode cX8_layRungs 52 = .ok (.iastore, 1) := by decide +kernel
theorem dX8_layRungs_53 : decode cX8_layRungs 53 = .ok (.aload_n 0, 1) := by decide +kernel
theorem dX8_layRungs_54 : decode cX8_layRungs 54 = .ok (.getfield 15, 3) := by decide +kernel
theorem dX8_layRungs_57 : decode cX8_layRungs 57 = .ok (.aload_n 0, 1) := by decide +kernel
theorem dX8_layRungs_58 : decode cX8_layRungs 58 = .ok (.getfield 80, 3) := by decide +kernel
theorem dX8_layRungs_61 : decode cX8_layRungs 61 = .ok (.aload_n 1, 1) := by decide +kernel
theorem dX8_layRungs_62 : decode cX8_layRungs 62 = .ok (.getfield 83, 3) := by decide +kernel
theorem dX8_layRungs_65 : decode cX8_layRungs 65 = .ok (.getfield 54, 3) := by decide +kernel
theorem dX8_layRungs_68 : decode cX8_layRungs 68 = .ok (.iload_n 2, 1) := by decide +kernel
theorem dX8_layRungs_69 : decode cX8_layRungs 69 = .ok (.iaload, 1) := by decide +kernel
theorem dX8_layRungs_70 : decode cX8_layRungs 70 = .ok (.iastore, 1) := by decide +kernel
theorem dX8_layRungs_71 : decode cX8_layRungs 71 = .ok (.aload_n 0, 1) := by decide +kernel
theorem dX8_layRungs_72 : decode cX8_layRungs 72 = .ok (.getfield 21, 3) := by decide +kernel
theorem dX8_layRungs_75 : decode cX8_layRungs 75 = .ok (.aload_n 0, 1) := by decide +kernel
theorem dX8_layRungs_76 : decode cX8_layRungs 76 = .ok (.getfield 80, 3) := by decide +kernel
theorem dX8_layRungs_79 : decode cX8_layRungs 79 = .ok (.aload_n 1, 1) := by decide +kernel
theorem dX8_layRungs_80 : decode cX8_layRungs 80 = .ok (.getfield 86, 3) := by decide +kernel
theorem dX8_layRungs_83 : decode cX8_layRungs 83 = .ok (.getfield 54, 3) := by decide +kernel
theorem dX8_layRungs_86 : decode cX8_layRungs 86 = .ok (.iload_n 2, 1) := by decide +kernel
theorem dX8_layRungs_87 : decode cX8_layRungs 87 = .ok (.iaload, 1) := by decide +kernel
theorem dX8_layRungs_88 : decode cX8_layRungs 88 = .ok (.iastore, 1) := by decide +kernel
theorem dX8_layRungs_89 : decode cX8_layRungs 89 = .ok (.aload_n 0, 1) := by decide +kernel
theorem dX8_layRungs_90 : decode cX8_layRungs 90 = .ok (.dup, 1) := by decide +kernel
theorem dX8_layRungs_91 : decode cX8_layRungs 91 = .ok (.getfield 80, 3) := by decide +kernel
theorem dX8_layRungs_94 : decode cX8_layRungs 94 = .ok (.iconst 1, 1) := by decide +kernel
theorem dX8_layRungs_95 : decode cX8_layRungs 95 = .ok (.iadd, 1) := by decide +kernel
theorem dX8_layRungs_96 : decode cX8_layRungs 96 = .ok (.putfield 80, 3) := by decide +kernel
theorem dX8_layRungs_99 : decode cX8_layRungs 99 = .ok (.iinc 2 1, 3) := by decide +kernel
theorem dX8_layRungs_102 : decode cX8_layRungs 102 = .ok (.goto (-95), 3) := by decide +kernel
theorem dX8_layRungs_105 : decode cX8_layRungs 105 = .ok (.bipush 60, 2) := by decide +kernel
theorem dX8_layRungs_107 : decode cX8_layRungs 107 = .ok (.istore_n 2, 1) := by decide +kernel
theorem dX8_layRungs_108 : decode cX8_layRungs 108 = .ok (.iload_n 2, 1) := by decide +kernel
theorem dX8_layRungs_109 : decode cX8_layRungs 109 = .ok (.iconst 1, 1) := by decide +kernel
theorem dX8_layRungs_110 : decode cX8_layRungs 110 = .ok (.if_icmp .lt 29, 3) := by decide +kernel
theorem dX8_layRungs_113 : decode cX8_layRungs 113 = .ok (.aload_n 0, 1) := by decide +kernel
theorem dX8_layRungs_114 : decode cX8_layRungs 114 = .ok (.getfield 24, 3) := by decide +kernel
theorem dX8_layRungs_117 : decode cX8_layRungs 117 = .ok (.iload_n 2, 1) := by decide +kernel
theorem dX8_layRungs_118 : decode cX8_layRungs 118 = .ok (.iaload, 1) := by decide +kernel
theorem dX8_layRungs_119 : decode cX8_layRungs 119 = .ok (.aload_n 0, 1) := by decide +kernel
theorem dX8_layRungs_120 : decode cX8_layRungs 120 = .ok (.getfield 80, 3) := by decide +kernel
theorem dX8_layRungs_123 : decode cX8_layRungs 123 = .ok (.if_icmp .ne 16, 3) := by decide +kernel
theorem dX8_layRungs_126 : decode cX8_layRungs 126 = .ok (.aload_n 0, 1) := by decide +kernel
theorem dX8_layRungs_127 : decode cX8_layRungs 127 = .ok (.getfield 24, 3) := by decide +kernel
theorem dX8_layRungs_130 : decode cX8_layRungs 130 = .ok (.iload_n 2, 1) := by decide +kernel
theorem dX8_layRungs_131 : decode cX8_layRungs 131 = .ok (.iconst (-1), 1) := by decide +kernel
theorem dX8_layRungs_132 : decode cX8_layRungs 132 = .ok (.iastore, 1) := by decide +kernel
theorem dX8_layRungs_133 : decode cX8_layRungs 133 = .ok (.iinc 2 (-1), 3) := by decide +kernel
theorem dX8_layRungs_136 : decode cX8_layRungs 136 = .ok (.goto (-28), 3) := by decide +kernel
theorem dX8_layRungs_139 : decode cX8_layRungs 139 = .ok (.return_, 1) := by decide +kernel
theorem dX8_layRates_0 : decode cX8_layRates 0 = .ok (.iconst 0, 1) := by decide +kernel
theorem dX8_layRates_1 : decode cX8_layRates 1 = .ok (.istore_n 3, 1) := by decide +kernel
theorem dX8_layRates_2 : decode cX8_layRates 2 = .ok (.iconst 1, 1) := by decide +kernel
theorem dX8_layRates_3 : decode cX8_layRates 3 = .ok (.istore 4, 2) := by decide +kernel
theorem dX8_layRates_5 : decode cX8_layRates 5 = .ok (.iload 4, 2) := by decide +kernel
theorem dX8_layRates_7 : decode cX8_layRates 7 = .ok (.bipush 60, 2) := by decide +kernel
theorem dX8_layRates_9 : decode cX8_layRates 9 = .ok (.if_icmp .gt 64, 3) := by decide +kernel
theorem dX8_layRates_12 : decode cX8_layRates 12 = .ok (.aload_n 1, 1) := by decide +kernel
theorem dX8_layRates_13 : decode cX8_layRates 13 = .ok (.iload 4, 2) := by decide +kernel
theorem dX8_layRates_15 : decode cX8_layRates 15 = .ok (.iaload, 1) := by decide +kernel
theorem dX8_layRates_16 : decode cX8_layRates 16 = .ok (.iconst (-1), 1) := by decide +kernel
theorem dX8_layRates_17 : decode cX8_layRates 17 = .ok (.if_icmp .ne 7, 3) := by decide +kernel
theorem dX8_layRates_20 : decode cX8_layRates 20 = .ok (.iload_n 3, 1) := by decide +kernel
theorem dX8_layRates_21 : decode cX8_layRates 21 = .ok (.goto 7, 3) := by decide +kernel
theorem dX8_layRates_24 : decode cX8_layRates 24 = .ok (.aload_n 1, 1) := by decide +kernel
theorem dX8_layRates_25 : decode cX8_layRates 25 = .ok (.iload 4, 2) := by decide +kernel
theorem dX8_layRates_27 : decode cX8_layRates 27 = .ok (.iaload, 1) := by decide +kernel
theorem dX8_layRates_28 : decode cX8_layRates 28 = .ok (.istore_n 3, 1) := by decide +kernel
theorem dX8_layRates_29 : decode cX8_layRates 29 = .ok (.aload_n 0, 1) := by decide +kernel
theorem dX8_layRates_30 : decode cX8_layRates 30 = .ok (.getfield 24, 3) := by decide +kernel
theorem dX8_layRates_33 : decode cX8_layRates 33 = .ok (.iload 4, 2) := by decide +kernel
theorem dX8_layRates_35 : decode cX8_layRates 35 = .ok (.iaload, 1) := by decide +kernel
theorem dX8_layRates_36 : decode cX8_layRates 36 = .ok (.istore 5, 2) := by decide +kernel
theorem dX8_layRates_38 : decode cX8_layRates 38 = .ok (.aload_n 0, 1) := by decide +kernel
theorem dX8_layRates_39 : decode cX8_layRates 39 = .ok (.getfield 27, 3) := by decide +kernel
theorem dX8_layRates_42 : decode cX8_layRates 42 = .ok (.iload 4, 2) := by decide +kernel
theorem dX8_layRates_44 : decode cX8_layRates 44 = .ok (.iload 5, 2) := by decide +kernel
theorem dX8_layRates_46 : decode cX8_layRates 46 = .ok (.iconst (-1), 1) := by decide +kernel
theorem dX8_layRates_47 : decode cX8_layRates 47 = .ok (.if_icmp .eq 11, 3) := by decide +kernel
theorem dX8_layRates_50 : decode cX8_layRates 50 = .ok (.aload_n 2, 1) := by decide +kernel
theorem dX8_layRates_51 : decode cX8_layRates 51 = .ok (.iload 5, 2) := by decide +kernel
theorem dX8_layRates_53 : decode cX8_layRates 53 = .ok (.iaload, 1) := by decide +kernel
theorem dX8_layRates_54 : decode cX8_layRates 54 = .ok (.iconst (-1), 1) := by decide +kernel
theorem dX8_layRates_55 : decode cX8_layRates 55 = .ok (.if_icmp .ne 7, 3) := by decide +kernel
theorem dX8_layRates_58 : decode cX8_layRates 58 = .ok (.iload_n 3, 1) := by decide +kernel
theorem dX8_layRates_59 : decode cX8_layRates 59 = .ok (.goto 7, 3) := by decide +kernel
theorem dX8_layRates_62 : decode cX8_layRates 62 = .ok (.aload_n 2, 1) := by decide +kernel
theorem dX8_layRates_63 : decode cX8_layRates 63 = .ok (.iload 5, 2) := by decide +kernel
theorem dX8_layRates_65 : decode cX8_layRates 65 = .ok (.iaload, 1) := by decide +kernel
theorem dX8_layRates_66 : decode cX8_layRates 66 = .ok (.iastore, 1) := by decide +kernel
theorem dX8_layRates_67 : decode cX8_layRates 67 = .ok (.iinc 4 1, 3) := by decide +kernel
theorem dX8_layRates_70 : decode cX8_layRates 70 = .ok (.goto (-65), 3) := by decide +kernel
theorem dX8_layRates_73 : decode cX8_layRates 73 = .ok (.iconst 0, 1) := by decide +kernel
theorem dX8_layRates_74 : decode cX8_layRates 74 = .ok (.istore 4, 2) := by decide +kernel
theorem dX8_layRates_76 : decode cX8_layRates 76 = .ok (.iload 4, 2) := by decide +kernel
theorem dX8_layRates_78 : decode cX8_layRates 78 = .ok (.aload_n 0, 1) := by decide +kernel
theorem dX8_layRates_79 : decode cX8_layRates 79 = .ok (.getfield 80, 3) := by decide +kernel
theorem dX8_layRates_82 : decode cX8_layRates 82 = .ok (.if_icmp .ge 28, 3) := by decide +kernel
theorem dX8_layRates_85 : decode cX8_layRates 85 = .ok (.aload_n 0, 1) := by decide +kernel
theorem dX8_layRates_86 : decode cX8_layRates 86 = .ok (.getfield 18, 3) := by decide +kernel
theorem dX8_layRates_89 : decode cX8_layRates 89 = .ok (.iload 4, 2) := by decide +kernel
theorem dX8_layRates_91 : decode cX8_layRates 91 = .ok (.aload_n 0, 1) := by decide +kernel
theorem dX8_layRates_92 : decode cX8_layRates 92 = .ok (.getfield 27, 3) := by decide +kernel
theorem dX8_layRates_95 : decode cX8_layRates 95 = .ok (.aload_n 0, 1) := by decide +kernel
theorem dX8_layRates_96 : decode cX8_layRates 96 = .ok (.getfield 9, 3) := by decide +kernel
theorem dX8_layRates_99 : decode cX8_layRates 99 = .ok (.iload 4, 2) := by decide +kernel
theorem dX8_layRates_101 : decode cX8_layRates 101 = .ok (.iaload, 1) := by decide +kernel
theorem dX8_layRates_102 : decode cX8_layRates 102 = .ok (.iaload, 1) := by decide +kernel
theorem dX8_layRates_103 : decode cX8_layRates 103 = .ok (.iastore, 1) := by decide +kernel
theorem dX8_layRates_104 : decode cX8_layRates 104 = .ok (.iinc 4 1, 3) := by decide +kernel
theorem dX8_layRates_107 : decode cX8_layRates 107 = .ok (.goto (-31), 3) := by decide +kernel
theorem dX8_layRates_110 : decode cX8_layRates 110 = .ok (.return_, 1) := by decide +kernel
theorem dX8_gatherPayings_0 : decode cX8_gatherPayings 0 = .ok (.aload_n 0, 1) := by decide +kernel
theorem dX8_gatherPayings_1 : decode cX8_gatherPayings 1 = .ok (.getfield 35, 3) := by decide +kernel
theorem dX8_gatherPayings_4 : decode cX8_gatherPayings 4 = .ok (.iload_n 1, 1) := by decide +kernel
theorem dX8_gatherPayings_5 : decode cX8_gatherPayings 5 = .ok (.aaload, 1) := by decide +kernel
theorem dX8_gatherPayings_6 : decode cX8_gatherPayings 6 = .ok (.iconst 0, 1) := by decide +kernel
theorem dX8_gatherPayings_7 : decode cX8_gatherPayings 7 = .ok (.invokestatic 89, 3) := by decide +kernel
theorem dX8_gatherPayings_10 : decode cX8_gatherPayings 10 = .ok (.aload_n 0, 1) := by decide +kernel
theorem dX8_gatherPayings_11 : decode cX8_gatherPayings 11 = .ok (.getfield 38, 3) := by decide +kernel
theorem dX8_gatherPayings_14 : decode cX8_gatherPayings 14 = .ok (.iload_n 1, 1) := by decide +kernel
theorem dX8_gatherPayings_15 : decode cX8_gatherPayings 15 = .ok (.iconst 0, 1) := by decide +kernel
theorem dX8_gatherPayings_16 : decode cX8_gatherPayings 16 = .ok (.iastore, 1) := by decide +kernel
theorem dX8_gatherPayings_17 : decode cX8_gatherPayings 17 = .ok (.aload_n 0, 1) := by decide +kernel
theorem dX8_gatherPayings_18 : decode cX8_gatherPayings 18 = .ok (.getfield 41, 3) := by decide +kernel
theorem dX8_gatherPayings_21 : decode cX8_gatherPayings 21 = .ok (.iload_n 1, 1) := by decide +kernel
theorem dX8_gatherPayings_22 : decode cX8_gatherPayings 22 = .ok (.iconst (-1), 1) := by decide +kernel
theorem dX8_gatherPayings_23 : decode cX8_gatherPayings 23 = .ok (.iastore, 1) := by decide +kernel
theorem dX8_gatherPayings_24 : decode cX8_gatherPayings 24 = .ok (.iconst 1, 1) := by decide +kernel
theorem dX8_gatherPayings_25 : decode cX8_gatherPayings 25 = .ok (.istore_n 2, 1) := by decide +kernel
theorem dX8_gatherPayings_26 : decode cX8_gatherPayings 26 = .ok (.iload_n 2, 1) := by decide +kernel
theorem dX8_gatherPayings_27 : decode cX8_gatherPayings 27 = .ok (.bipush 60, 2) := by decide +kernel
theorem dX8_gatherPayings_29 : decode cX8_gatherPayings 29 = .ok (.if_icmp .gt 75, 3) := by decide +kernel
theorem dX8_gatherPayings_32 : decode cX8_gatherPayings 32 = .ok (.aload_n 0, 1) := by decide +kernel
theorem dX8_gatherPayings_33 : decode cX8_gatherPayings 33 = .ok (.getfield 24, 3) := by decide +kernel
theorem dX8_gatherPayings_36 : decode cX8_gatherPayings 36 = .ok (.iload_n 2, 1) := by decide +kernel
theorem dX8_gatherPayings_37 : decode cX8_gatherPayings 37 = .ok (.iaload, 1) := by decide +kernel
theorem dX8_gatherPayings_38 : decode cX8_gatherPayings 38 = .ok (.istore_n 3, 1) := by decide +kernel
theorem dX8_gatherPayings_39 : decode cX8_gatherPayings 39 = .ok (.iload_n 3, 1) := by decide +kernel
theorem dX8_gatherPayings_40 : decode cX8_gatherPayings 40 = .ok (.iconst (-1), 1) := by decide +kernel
theorem dX8_gatherPayings_41 : decode cX8_gatherPayings 41 = .ok (.if_icmp .eq 57, 3) := by decide +kernel
theorem dX8_gatherPayings_44 : decode cX8_gatherPayings 44 = .ok (.aload_n 0, 1) := by decide +kernel
theorem dX8_gatherPayings_45 : decode cX8_gatherPayings 45 = .ok (.getfield 32, 3) := by decide +kernel
theorem dX8_gatherPayings_48 : decode cX8_gatherPayings 48 = .ok (.iload_n 1, 1) := by decide +kernel
theorem dX8_gatherPayings_49 : decode cX8_gatherPayings 49 = .ok (.aaload, 1) := by decide +kernel
theorem dX8_gatherPayings_50 : decode cX8_gatherPayings 50 = .ok (.iload_n 2, 1) := by decide +kernel
theorem dX8_gatherPayings_51 : decode cX8_gatherPayings 51 = .ok (.iaload, 1) := by decide +kernel
theorem dX8_gatherPayings_52 : decode cX8_gatherPayings 52 = .ok (.ifCond .le 46, 3) := by decide +kernel
theorem dX8_gatherPayings_55 : decode cX8_gatherPayings 55 = .ok (.aload_n 0, 1) := by decide +kernel
theorem dX8_gatherPayings_56 : decode cX8_gatherPayings 56 = .ok (.getfield 35, 3) := by decide +kernel
theorem dX8_gatherPayings_59 : decode cX8_gatherPayings 59 = .ok (.iload_n 1, 1) := by decide +kernel
theorem dX8_gatherPayings_60 : decode cX8_gatherPayings 60 = .ok (.aaload, 1) := by decide +kernel
theorem dX8_gatherPayings_61 : decode cX8_gatherPayings 61 = .ok (.iload_n 3, 1) := by decide +kernel
theorem dX8_gatherPayings_62 : decode cX8_gatherPayings 62 = .ok (.dup2, 1) := by decide +kernel
theorem dX8_gatherPayings_63 : decode cX8_gatherPayings 63 = .ok (.iaload, 1) := by decide +kernel
theorem dX8_gatherPayings_64 : decode cX8_gatherPayings 64 = .ok (.aload_n 0, 1) := by decide +kernel
theorem dX8_gatherPayings_65 : decode cX8_gatherPayings 65 = .ok (.getfield 32, 3) := by decide +kernel
theorem dX8_gatherPayings_68 : decode cX8_gatherPayings 68 = .ok (.iload_n 1, 1) := by decide +kernel
theorem dX8_gatherPayings_69 : decode cX8_gatherPayings 69 = .ok (.aaload, 1) := by decide +kernel
theorem dX8_gatherPayings_70 : decode cX8_gatherPayings 70 = .ok (.iload_n 2, 1) := by decide +kernel
theorem dX8_gatherPayings_71 : decode cX8_gatherPayings 71 = .ok (.iaload, 1) := by decide +kernel
theorem dX8_gatherPayings_72 : decode cX8_gatherPayings 72 = .ok (.iadd, 1) := by decide +kernel
theorem dX8_gatherPayings_73 : decode cX8_gatherPayings 73 = .ok (.iastore, 1) := by decide +kernel
theorem dX8_gatherPayings_74 : decode cX8_gatherPayings 74 = .ok (.aload_n 0, 1) := by decide +kernel
theorem dX8_gatherPayings_75 : decode cX8_gatherPayings 75 = .ok (.getfield 38, 3) := by decide +kernel
theorem dX8_gatherPayings_78 : decode cX8_gatherPayings 78 = .ok (.iload_n 1, 1) := by decide +kernel
theorem dX8_gatherPayings_79 : decode cX8_gatherPayings 79 = .ok (.dup2, 1) := by decide +kernel
theorem dX8_gatherPayings_80 : decode cX8_gatherPayings 80 = .ok (.iaload, 1) := by decide +kernel
theorem dX8_gatherPayings_81 : decode cX8_gatherPayings 81 = .ok (.aload_n 0, 1) := by decide +kernel
theorem dX8_gatherPayings_82 : decode cX8_gatherPayings 82 = .ok (.getfield 32, 3) := by decide +kernel
theorem dX8_gatherPayings_85 : decode cX8_gatherPayings 85 = .ok (.iload_n 1, 1) := by decide +kernel
theorem dX8_gatherPayings_86 : decode cX8_gatherPayings 86 = .ok (.aaload, 1) := by decide +kernel
theorem dX8_gatherPayings_87 : decode cX8_gatherPayings 87 = .ok (.iload_n 2, 1) := by decide +kernel
theorem dX8_gatherPayings_88 : decode cX8_gatherPayings 88 = .ok (.iaload, 1) := by decide +kernel
theorem dX8_gatherPayings_89 : decode cX8_gatherPayings 89 = .ok (.iadd, 1) := by decide +kernel
theorem dX8_gatherPayings_90 : decode cX8_gatherPayings 90 = .ok (.iastore, 1) := by decide +kernel
theorem dX8_gatherPayings_91 : decode cX8_gatherPayings 91 = .ok (.aload_n 0, 1) := by decide +kernel
theorem dX8_gatherPayings_92 : decode cX8_gatherPayings 92 = .ok (.getfield 41, 3) := by decide +kernel
theorem dX8_gatherPayings_95 : decode cX8_gatherPayings 95 = .ok (.iload_n 1, 1) := by decide +kernel
theorem dX8_gatherPayings_96 : decode cX8_gatherPayings 96 = .ok (.iload_n 3, 1) := by decide +kernel
theorem dX8_gatherPayings_97 : decode cX8_gatherPayings 97 = .ok (.iastore, 1) := by decide +kernel
theorem dX8_gatherPayings_98 : decode cX8_gatherPayings 98 = .ok (.iinc 2 1, 3) := by decide +kernel
theorem dX8_gatherPayings_101 : decode cX8_gatherPayings 101 = .ok (.goto (-75), 3) := by decide +kernel
theorem dX8_gatherPayings_104 : decode cX8_gatherPayings 104 = .ok (.return_, 1) := by decide +kernel
theorem dX9_init_0 : decode cX9_init 0 = .ok (.aload_n 0, 1) := by decide +kernel
theorem dX9_init_1 : decode cX9_init 1 = .ok (.invokespecial 3, 3) := by decide +kernel
theorem dX9_init_4 : decode cX9_init 4 = .ok (.aload_n 0, 1) := by decide +kernel
theorem dX9_init_5 : decode cX9_init 5 = .ok (.bipush 40, 2) := by decide +kernel
theorem dX9_init_7 : decode cX9_init 7 = .ok (.newarray .int, 2) := by decide +kernel
theorem dX9_init_9 : decode cX9_init 9 = .ok (.putfield 9, 3) := by decide +kernel
theorem dX9_init_12 : decode cX9_init 12 = .ok (.aload_n 0, 1) := by decide +kernel
theorem dX9_init_13 : decode cX9_init 13 = .ok (.iconst (-1), 1) := by decide +kernel
theorem dX9_init_14 : decode cX9_init 14 = .ok (.putfield 15, 3) := by decide +kernel
theorem dX9_init_17 : decode cX9_init 17 = .ok (.return_, 1) := by decide +kernel
theorem dX9_begin_0 : decode cX9_begin 0 = .ok (.aload_n 0, 1) := by decide +kernel
theorem dX9_begin_1 : decode cX9_begin 1 = .ok (.iload_n 1, 1) := by decide +kernel
theorem dX9_begin_2 : decode cX9_begin 2 = .ok (.putfield 15, 3) := by decide +kernel
theorem dX9_begin_5 : decode cX9_begin 5 = .ok (.aload_n 0, 1) := by decide +kernel
theorem dX9_begin_6 : decode cX9_begin 6 = .ok (.iload_n 2, 1) := by decide +kernel
theorem dX9_begin_7 : decode cX9_begin 7 = .ok (.putfield 19, 3) := by decide +kernel
theorem dX9_begin_10 : decode cX9_begin 10 = .ok (.aload_n 0, 1) := by decide +kernel
theorem dX9_begin_11 : decode cX9_begin 11 = .ok (.getfield 9, 3) := by decide +kernel
theorem dX9_begin_14 : decode cX9_begin 14 = .ok (.iconst 0, 1) := by decide +kernel
theorem dX9_begin_15 : decode cX9_begin 15 = .ok (.invokestatic 22, 3) := by decide +kernel
theorem dX9_begin_18 : decode cX9_begin 18 = .ok (.return_, 1) := by decide +kernel
theorem dX9_isMissing_0 : decode cX9_isMissing 0 = .ok (.aload_n 0, 1) := by decide +kernel
theorem dX9_isMissing_1 : decode cX9_isMissing 1 = .ok (.getfield 15, 3) := by decide +kernel
theorem dX9_isMissing_4 : decode cX9_isMissing 4 = .ok (.iconst (-1), 1) := by decide +kernel
theorem dX9_isMissing_5 : decode cX9_isMissing 5 = .ok (.if_icmp .ne 7, 3) := by decide +kernel
theorem dX9_isMissing_8 : decode cX9_isMissing 8 = .ok (.iconst 1, 1) := by decide +kernel
theorem dX9_isMissing_9 : decode cX9_isMissing 9 = .ok (.goto 4, 3) := by decide +kernel
theorem dX9_isMissing_12 : decode cX9_isMissing 12 = .ok (.iconst 0, 1) := by decide +kernel
theorem dX9_isMissing_13 : decode cX9_isMissing 13 = .ok (.ireturn, 1) := by decide +kernel
theorem dX9_hasItem_0 : decode cX9_hasItem 0 = .ok (.iload_n 1, 1) := by decide +kernel
theorem dX9_hasItem_1 : decode cX9_hasItem 1 = .ok (.ifCond .lt 15, 3) := by decide +kernel
theorem dX9_hasItem_4 : decode cX9_hasItem 4 = .ok (.iload_n 1, 1) := by decide +kernel
theorem dX9_hasItem_5 : decode cX9_hasItem 5 = .ok (.aload_n 0, 1) := by decide +kernel
theorem dX9_hasItem_6 : decode cX9_hasItem 6 = .ok (.getfield 19, 3) := by decide +kernel
theorem dX9_hasItem_9 : decode cX9_hasItem 9 = .ok (.if_icmp .ge 7, 3) := by decide +kernel
theorem dX9_hasItem_12 : decode cX9_hasItem 12 = .ok (.iconst 1, 1) := by decide +kernel
theorem dX9_hasItem_13 : decode cX9_hasItem 13 = .ok (.goto 4, 3) := by decide +kernel
theorem dX9_hasItem_16 : decode cX9_hasItem 16 = .ok (.iconst 0, 1) := by decide +kernel
theorem dX9_hasItem_17 : decode cX9_hasItem 17 = .ok (.ireturn, 1) := by decide +kernel
theorem dX9_hasItems_0 : decode cX9_hasItems 0 = .ok (.iload_n 1, 1) := by decide +kernel
theorem dX9_hasItems_1 : decode cX9_hasItems 1 = .ok (.ifCond .lt 21, 3) := by decide +kernel
theorem dX9_hasItems_4 : decode cX9_hasItems 4 = .ok (.iload_n 2, 1) := by decide +kernel
theorem dX9_hasItems_5 : decode cX9_hasItems 5 = .ok (.ifCond .lt 17, 3) := by decide +kernel
theorem dX9_hasItems_8 : decode cX9_hasItems 8 = .ok (.iload_n 1, 1) := by decide +kernel
theorem dX9_hasItems_9 : decode cX9_hasItems 9 = .ok (.aload_n 0, 1) := by decide +kernel
theorem dX9_hasItems_10 : decode cX9_hasItems 10 = .ok (.getfield 19, 3) := by decide +kernel
theorem dX9_hasItems_13 : decode cX9_hasItems 13 = .ok (.iload_n 2, 1) := by decide +kernel
theorem dX9_hasItems_14 : decode cX9_hasItems 14 = .ok (.isub, 1) := by decide +kernel
theorem dX9_hasItems_15 : decode cX9_hasItems 15 = .ok (.if_icmp .gt 7, 3) := by decide +kernel
theorem dX9_hasItems_18 : decode cX9_hasItems 18 = .ok (.iconst 1, 1) := by decide +kernel
theorem dX9_hasItems_19 : decode cX9_hasItems 19 = .ok (.goto 4, 3) := by decide +kernel
theorem dX9_hasItems_22 : decode cX9_hasItems 22 = .ok (.iconst 0, 1) := by decide +kernel
theorem dX9_hasItems_23 : decode cX9_hasItems 23 = .ok (.ireturn, 1) := by decide +kernel
theorem dX9_write_0 : decode cX9_write 0 = .ok (.aload_n 0, 1) := by decide +kernel
theorem dX9_write_1 : decode cX9_write 1 = .ok (.getfield 9, 3) := by decide +kernel
theorem dX9_write_4 : decode cX9_write 4 = .ok (.iload_n 1, 1) := by decide +kernel
theorem dX9_write_5 : decode cX9_write 5 = .ok (.aload_n 0, 1) := by decide +kernel
theorem dX9_write_6 : decode cX9_write 6 = .ok (.getfield 15, 3) := by decide +kernel
theorem dX9_write_9 : decode cX9_write 9 = .ok (.ifCond .ne 8, 3) := by decide +kernel
theorem dX9_write_12 : decode cX9_write 12 = .ok (.iload_n 2, 1) := by decide +kernel
theorem dX9_write_13 : decode cX9_write 13 = .ok (.i2b, 1) := by decide +kernel
theorem dX9_write_14 : decode cX9_write 14 = .ok (.goto 4, 3) := by decide +kernel
theorem dX9_write_17 : decode cX9_write 17 = .ok (.iload_n 2, 1) := by decide +kernel
theorem dX9_write_18 : decode cX9_write 18 = .ok (.iastore, 1) := by decide +kernel
theorem dX9_write_19 : decode cX9_write 19 = .ok (.return_, 1) := by decide +kernel
theorem dX10_init_0 : decode cX10_init 0 = .ok (.aload_n 0, 1) := by decide +kernel
theorem dX10_init_1 : decode cX10_init 1 = .ok (.invokespecial 3, 3) := by decide +kernel
theorem dX10_init_4 : decode cX10_init 4 = .ok (.aload_n 0, 1) := by decide +kernel
theorem dX10_init_5 : decode cX10_init 5 = .ok (.new 9, 3) := by decide +kernel
theorem dX10_init_8 : decode cX10_init 8 = .ok (.dup, 1) := by decide +kernel
theorem dX10_init_9 : decode cX10_init 9 = .ok (.invokespecial 11, 3) := by decide +kernel
theorem dX10_init_12 : decode cX10_init 12 = .ok (.putfield 12, 3) := by decide +kernel
theorem dX10_init_15 : decode cX10_init 15 = .ok (.aload_n 0, 1) := by decide +kernel
theorem dX10_init_16 : decode cX10_init 16 = .ok (.new 9, 3) := by decide +kernel
theorem dX10_init_19 : decode cX10_init 19 = .ok (.dup, 1) := by decide +kernel
theorem dX10_init_20 : decode cX10_init 20 = .ok (.invokespecial 11, 3) := by decide +kernel
theorem dX10_init_23 : decode cX10_init 23 = .ok (.putfield 18, 3) := by decide +kernel
theorem dX10_init_26 : decode cX10_init 26 = .ok (.aload_n 0, 1) := by decide +kernel
theorem dX10_init_27 : decode cX10_init 27 = .ok (.new 9, 3) := by decide +kernel
theorem dX10_init_30 : decode cX10_init 30 = .ok (.dup, 1) := by decide +kernel
theorem dX10_init_31 : decode cX10_init 31 = .ok (.invokespecial 11, 3) := by decide +kernel
theorem dX10_init_34 : decode cX10_init 34 = .ok (.putfield 21, 3) := by decide +kernel
theorem dX10_init_37 : decode cX10_init 37 = .ok (.aload_n 0, 1) := by decide +kernel
theorem dX10_init_38 : decode cX10_init 38 = .ok (.iconst 5, 1) := by decide +kernel
theorem dX10_init_39 : decode cX10_init 39 = .ok (.anewarray 9, 3) := by decide +kernel
theorem dX10_init_42 : decode cX10_init 42 = .ok (.putfield 24, 3) := by decide +kernel
theorem dX10_init_45 : decode cX10_init 45 = .ok (.aload_n 0, 1) := by decide +kernel
theorem dX10_init_46 : decode cX10_init 46 = .ok (.new 9, 3) := by decide +kernel
theorem dX10_init_49 : decode cX10_init 49 = .ok (.dup, 1) := by decide +kernel
theorem dX10_init_50 : decode cX10_init 50 = .ok (.invokespecial 11, 3) := by decide +kernel
theorem dX10_init_53 : decode cX10_init 53 = .ok (.putfield 28, 3) := by decide +kernel
theorem dX10_init_56 : decode cX10_init 56 = .ok (.aload_n 0, 1) := by decide +kernel
theorem dX10_init_57 : decode cX10_init 57 = .ok (.new 9, 3) := by decide +kernel
theorem dX10_init_60 : decode cX10_init 60 = .ok (.dup, 1) := by decide +kernel
theorem dX10_init_61 : decode cX10_init 61 = .ok (.invokespecial 11, 3) := by decide +kernel
theorem dX10_init_64 : decode cX10_init 64 = .ok (.putfield 31, 3) := by decide +kernel
theorem dX10_init_67 : decode cX10_init 67 = .ok (.aload_n 0, 1) := by decide +kernel
theorem dX10_init_68 : decode cX10_init 68 = .ok (.new 9, 3) := by decide +kernel
theorem dX10_init_71 : decode cX10_init 71 = .ok (.dup, 1) := by decide +kernel
theorem dX10_init_72 : decode cX10_init 72 = .ok (.invokespecial 11, 3) := by decide +kernel
theorem dX10_init_75 : decode cX10_init 75 = .ok (.putfield 34, 3) := by decide +kernel
theorem dX10_init_78 : decode cX10_init 78 = .ok (.iconst 0, 1) := by decide +kernel
theorem dX10_init_79 : decode cX10_init 79 = .ok (.istore_n 1, 1) := by decide +kernel
theorem dX10_init_80 : decode cX10_init 80 = .ok (.iload_n 1, 1) := by decide +kernel
theorem dX10_init_81 : decode cX10_init 81 = .ok (.iconst 5, 1) := by decide +kernel
theorem dX10_init_82 : decode cX10_init 82 = .ok (.if_icmp .ge 22, 3) := by decide +kernel
theorem dX10_init_85 : decode cX10_init 85 = .ok (.aload_n 0, 1) := by decide +kernel
theorem dX10_init_86 : decode cX10_init 86 = .ok (.getfield 24, 3) := by decide +kernel
theorem dX10_init_89 : decode cX10_init 89 = .ok (.iload_n 1, 1) := by decide +kernel
theorem dX10_init_90 : decode cX10_init 90 = .ok (.new 9, 3) := by decide +kernel
theorem dX10_init_93 : decode cX10_init 93 = .ok (.dup, 1) := by decide +kernel
theorem dX10_init_94 : decode cX10_init 94 = .ok (.invokespecial 11, 3) := by decide +kernel
theorem dX10_init_97 : decode cX10_init 97 = .ok (.aastore, 1) := by decide +kernel
theorem dX10_init_98 : decode cX10_init 98 = .ok (.iinc 1 1, 3) := by decide +kernel
theorem dX10_init_101 : decode cX10_init 101 = .ok (.goto (-21), 3) := by decide +kernel
theorem dX10_init_104 : decode cX10_init 104 = .ok (.return_, 1) := by decide +kernel
theorem dX10_reckonWorth_0 : decode cX10_reckonWorth 0 = .ok (.aload_n 0, 1) := by decide +kernel
theorem dX10_reckonWorth_1 : decode cX10_reckonWorth 1 = .ok (.getfield 12, 3) := by decide +kernel
theorem dX10_reckonWorth_4 : decode cX10_reckonWorth 4 = .ok (.lconst 0, 1) := by decide +kernel
theorem dX10_reckonWorth_5 : decode cX10_reckonWorth 5 = .ok (.lconst 1, 1) := by decide +kernel
theorem dX10_reckonWorth_6 : decode cX10_reckonWorth 6 = .ok (.invokevirtual 37, 3) := by decide +kernel
theorem dX10_reckonWorth_9 : decode cX10_reckonWorth 9 = .ok (.iconst 0, 1) := by decide +kernel
theorem dX10_reckonWorth_10 : decode cX10_reckonWorth 10 = .ok (.istore_n 3, 1) := by decide +kernel
theorem dX10_reckonWorth_11 : decode cX10_reckonWorth 11 = .ok (.iload_n 3, 1) := by decide +kernel
theorem dX10_reckonWorth_12 : decode cX10_reckonWorth 12 = .ok (.aload_n 2, 1) := by decide +kernel
theorem dX10_reckonWorth_13 : decode cX10_reckonWorth 13 = .ok (.getfield 41, 3) := by decide +kernel
theorem dX10_reckonWorth_16 : decode cX10_reckonWorth 16 = .ok (.if_icmp .ge 78, 3) := by decide +kernel
theorem dX10_reckonWorth_19 : decode cX10_reckonWorth 19 = .ok (.aload_n 0, 1) := by decide +kernel
theorem dX10_reckonWorth_20 : decode cX10_reckonWorth 20 = .ok (.getfield 24, 3) := by decide +kernel
theorem dX10_reckonWorth_23 : decode cX10_reckonWorth 23 = .ok (.iload_n 3, 1) := by decide +kernel
theorem dX10_reckonWorth_24 : decode cX10_reckonWorth 24 = .ok (.aaload, 1) := by decide +kernel
theorem dX10_reckonWorth_25 : decode cX10_reckonWorth 25 = .ok (.aload_n 1, 1) := by decide +kernel
theorem dX10_reckonWorth_26 : decode cX10_reckonWorth 26 = .ok (.iload_n 3, 1) := by decide +kernel
theorem dX10_reckonWorth_27 : decode cX10_reckonWorth 27 = .ok (.iaload, 1) := by decide +kernel
theorem dX10_reckonWorth_28 : decode cX10_reckonWorth 28 = .ok (.i2l, 1) := by decide +kernel
theorem dX10_reckonWorth_29 : decode cX10_reckonWorth 29 = .ok (.lconst 1, 1) := by decide +kernel
theorem dX10_reckonWorth_30 : decode cX10_reckonWorth 30 = .ok (.invokevirtual 37, 3) := by decide +kernel
theorem dX10_reckonWorth_33 : decode cX10_reckonWorth 33 = .ok (.iconst 0, 1) := by decide +kernel
theorem dX10_reckonWorth_34 : decode cX10_reckonWorth 34 = .ok (.istore 4, 2) := by decide +kernel
theorem dX10_reckonWorth_36 : decode cX10_reckonWorth 36 = .ok (.iload 4, 2) := by decide +kernel
theorem dX10_reckonWorth_38 : decode cX10_reckonWorth 38 = .ok (.iload_n 3, 1) := by decide +kernel
theorem dX10_reckonWorth_39 : decode cX10_reckonWorth 39 = .ok (.if_icmp .gt 36, 3) := by decide +kernel
theorem dX10_reckonWorth_42 : decode cX10_reckonWorth 42 = .ok (.aload_n 0, 1) := by decide +kernel
theorem dX10_reckonWorth_43 : decode cX10_reckonWorth 43 = .ok (.getfield 28, 3) := by decide +kernel
theorem dX10_reckonWorth_46 : decode cX10_reckonWorth 46 = .ok (.aload_n 2, 1) := by decide +kernel
theorem dX10_reckonWorth_47 : decode cX10_reckonWorth 47 = .ok (.getfield 47, 3) := by decide +kernel
theorem dX10_reckonWorth_50 : decode cX10_reckonWorth 50 = .ok (.iload 4, 2) := by decide +kernel
theorem dX10_reckonWorth_52 : decode cX10_reckonWorth 52 = .ok (.iaload, 1) := by decide +kernel
theorem dX10_reckonWorth_53 : decode cX10_reckonWorth 53 = .ok (.invokevirtual 51, 3) := by decide +kernel
theorem dX10_reckonWorth_56 : decode cX10_reckonWorth 56 = .ok (.aload_n 0, 1) := by decide +kernel
theorem dX10_reckonWorth_57 : decode cX10_reckonWorth 57 = .ok (.getfield 24, 3) := by decide +kernel
theorem dX10_reckonWorth_60 : decode cX10_reckonWorth 60 = .ok (.iload_n 3, 1) := by decide +kernel
theorem dX10_reckonWorth_61 : decode cX10_reckonWorth 61 = .ok (.aaload, 1) := by decide +kernel
theorem dX10_reckonWorth_62 : decode cX10_reckonWorth 62 = .ok (.aload_n 0, 1) := by decide +kernel
theorem dX10_reckonWorth_63 : decode cX10_reckonWorth 63 = .ok (.getfield 28, 3) := by decide +kernel
theorem dX10_reckonWorth_66 : decode cX10_reckonWorth 66 = .ok (.invokevirtual 55, 3) := by decide +kernel
theorem dX10_reckonWorth_69 : decode cX10_reckonWorth 69 = .ok (.iinc 4 1, 3) := by decide +kernel
theorem dX10_reckonWorth_72 : decode cX10_reckonWorth 72 = .ok (.goto (-36), 3) := by decide +kernel
theorem dX10_reckonWorth_75 : decode cX10_reckonWorth 75 = .ok (.aload_n 0, 1) := by decide +kernel
theorem dX10_reckonWorth_76 : decode cX10_reckonWorth 76 = .ok (.getfield 12, 3) := by decide +kernel
theorem dX10_reckonWorth_79 : decode cX10_reckonWorth 79 = .ok (.aload_n 0, 1) := by decide +kernel
theorem dX10_reckonWorth_80 : decode cX10_reckonWorth 80 = .ok (.getfield 24, 3) := by decide +kernel
theorem dX10_reckonWorth_83 : decode cX10_reckonWorth 83 = .ok (.iload_n 3, 1) := by decide +kernel
theorem dX10_reckonWorth_84 : decode cX10_reckonWorth 84 = .ok (.aaload, 1) := by decide +kernel
theorem dX10_reckonWorth_85 : decode cX10_reckonWorth 85 = .ok (.invokevirtual 59, 3) := by decide +kernel
theorem dX10_reckonWorth_88 : decode cX10_reckonWorth 88 = .ok (.iinc 3 1, 3) := by decide +kernel
theorem dX10_reckonWorth_91 : decode cX10_reckonWorth 91 = .ok (.goto (-80), 3) := by decide +kernel
theorem dX10_reckonWorth_94 : decode cX10_reckonWorth 94 = .ok (.return_, 1) := by decide +kernel
theorem dX10_reckonLength_0 : decode cX10_reckonLength 0 = .ok (.aload_n 0, 1) := by decide +kernel
theorem dX10_reckonLength_1 : decode cX10_reckonLength 1 = .ok (.getfield 18, 3) := by decide +kernel
theorem dX10_reckonLength_4 : decode cX10_reckonLength 4 = .ok (.lconst 0, 1) := by decide +kernel
theorem dX10_reckonLength_5 : decode cX10_reckonLength 5 = .ok (.lconst 1, 1) := by decide +kernel
theorem dX10_reckonLength_6 : decode cX10_reckonLength 6 = .ok (.invokevirtual 37, 3) := by decide +kernel
theorem dX10_reckonLength_9 : decode cX10_reckonLength 9 = .ok (.iconst 0, 1) := by decide +kernel
theorem dX10_reckonLength_10 : decode cX10_reckonLength 10 = .ok (.istore_n 2, 1) := by decide +kernel
theorem dX10_reckonLength_11 : decode cX10_reckonLength 11 = .ok (.iload_n 2, 1) := by decide +kernel
theorem dX10_reckonLength_12 : decode cX10_reckonLength 12 = .ok (.iload_n 1, 1) := by decide +kernel
theorem dX10_reckonLength_13 : decode cX10_reckonLength 13 = .ok (.if_icmp .ge 45, 3) := by decide +kernel
theorem dX10_reckonLength_16 : decode cX10_reckonLength 16 = .ok (.aload_n 0, 1) := by decide +kernel
theorem dX10_reckonLength_17 : decode cX10_reckonLength 17 = .ok (.getfield 31, 3) := by decide +kernel
theorem dX10_reckonLength_20 : decode cX10_reckonLength 20 = .ok (.iload_n 2, 1) := by decide +kernel
theorem dX10_reckonLength_21 : decode cX10_reckonLength 21 = .ok (.iconst 1, 1) := by decide +kernel
theorem dX10_reckonLength_22 : decode cX10_reckonLength 22 = .ok (.iadd, 1) := by decide +kernel
theorem dX10_reckonLength_23 : decode cX10_reckonLength 23 = .ok (.i2l, 1) := by decide +kernel
theorem dX10_reckonLength_24 : decode cX10_reckonLength 24 = .ok (.lconst 1, 1) := by decide +kernel
theorem dX10_reckonLength_25 : decode cX10_reckonLength 25 = .ok (.invokevirtual 37, 3) := by decide +kernel
theorem dX10_reckonLength_28 : decode cX10_reckonLength 28 = .ok (.aload_n 0, 1) := by decide +kernel
theorem dX10_reckonLength_29 : decode cX10_reckonLength 29 = .ok (.getfield 31, 3) := by decide +kernel
theorem dX10_reckonLength_32 : decode cX10_reckonLength 32 = .ok (.aload_n 0, 1) := by decide +kernel
theorem dX10_reckonLength_33 : decode cX10_reckonLength 33 = .ok (.getfield 24, 3) := by decide +kernel
theorem dX10_reckonLength_36 : decode cX10_reckonLength 36 = .ok (.iload_n 2, 1) := by decide +kernel
theorem dX10_reckonLength_37 : decode cX10_reckonLength 37 = .ok (.aaload, 1) := by decide +kernel
theorem dX10_reckonLength_38 : decode cX10_reckonLength 38 = .ok (.invokevirtual 62, 3) := by decide +kernel
theorem dX10_reckonLength_41 : decode cX10_reckonLength 41 = .ok (.aload_n 0, 1) := by decide +kernel
theorem dX10_reckonLength_42 : decode cX10_reckonLength 42 = .ok (.getfield 18, 3) := by decide +kernel
theorem dX10_reckonLength_45 : decode cX10_reckonLength 45 = .ok (.aload_n 0, 1) := by decide +kernel
theorem dX10_reckonLength_46 : decode cX10_reckonLength 46 = .ok (.getfield 31, 3) := by decide +kernel
theorem dX10_reckonLength_49 : decode cX10_reckonLength 49 = .ok (.invokevirtual 59, 3) := by decide +kernel
theorem dX10_reckonLength_52 : decode cX10_reckonLength 52 = .ok (.iinc 2 1, 3) := by decide +kernel
theorem dX10_reckonLength_55 : decode cX10_reckonLength 55 = .ok (.goto (-44), 3) := by decide +kernel
theorem dX10_reckonLength_58 : decode cX10_reckonLength 58 = .ok (.aload_n 0, 1) := by decide +kernel
theorem dX10_reckonLength_59 : decode cX10_reckonLength 59 = .ok (.getfield 18, 3) := by decide +kernel
theorem dX10_reckonLength_62 : decode cX10_reckonLength 62 = .ok (.aload_n 0, 1) := by decide +kernel
theorem dX10_reckonLength_63 : decode cX10_reckonLength 63 = .ok (.getfield 12, 3) := by decide +kernel
theorem dX10_reckonLength_66 : decode cX10_reckonLength 66 = .ok (.invokevirtual 55, 3) := by decide +kernel
theorem dX10_reckonLength_69 : decode cX10_reckonLength 69 = .ok (.return_, 1) := by decide +kernel
theorem dX10_reckonSpread_0 : decode cX10_reckonSpread 0 = .ok (.aload_n 0, 1) := by decide +kernel
theorem dX10_reckonSpread_1 : decode cX10_reckonSpread 1 = .ok (.getfield 21, 3) := by decide +kernel
theorem dX10_reckonSpread_4 : decode cX10_reckonSpread 4 = .ok (.lconst 0, 1) := by decide +kernel
theorem dX10_reckonSpread_5 : decode cX10_reckonSpread 5 = .ok (.lconst 1, 1) := by decide +kernel
theorem dX10_reckonSpread_6 : decode cX10_reckonSpread 6 = .ok (.invokevirtual 37, 3) := by decide +kernel
theorem dX10_reckonSpread_9 : decode cX10_reckonSpread 9 = .ok (.iconst 0, 1) := by decide +kernel
theorem dX10_reckonSpread_10 : decode cX10_reckonSpread 10 = .ok (.istore_n 2, 1) := by decide +kernel
theorem dX10_reckonSpread_11 : decode cX10_reckonSpread 11 = .ok (.iload_n 2, 1) := by decide +kernel
theorem dX10_reckonSpread_12 : decode cX10_reckonSpread 12 = .ok (.iload_n 1, 1) := by decide +kernel
theorem dX10_reckonSpread_13 : decode cX10_reckonSpread 13 = .ok (.if_icmp .ge 96, 3) := by decide +kernel
theorem dX10_reckonSpread_16 : decode cX10_reckonSpread 16 = .ok (.aload_n 0, 1) := by decide +kernel
theorem dX10_reckonSpread_17 : decode cX10_reckonSpread 17 = .ok (.getfield 31, 3) := by decide +kernel
theorem dX10_reckonSpread_20 : decode cX10_reckonSpread 20 = .ok (.aload_n 0, 1) := by decide +kernel
theorem dX10_reckonSpread_21 : decode cX10_reckonSpread 21 = .ok (.getfield 18, 3) := by decide +kernel
theorem dX10_reckonSpread_24 : decode cX10_reckonSpread 24 = .ok (.invokevirtual 65, 3) := by decide +kernel
theorem dX10_reckonSpread_27 : decode cX10_reckonSpread 27 = .ok (.aload_n 0, 1) := by decide +kernel
theorem dX10_reckonSpread_28 : decode cX10_reckonSpread 28 = .ok (.getfield 31, 3) := by decide +kernel
theorem dX10_reckonSpread_31 : decode cX10_reckonSpread 31 = .ok (.invokevirtual 67, 3) := by decide +kernel
theorem dX10_reckonSpread_34 : decode cX10_reckonSpread 34 = .ok (.aload_n 0, 1) := by decide +kernel
theorem dX10_reckonSpread_35 : decode cX10_reckonSpread 35 = .ok (.getfield 34, 3) := by decide +kernel
theorem dX10_reckonSpread_38 : decode cX10_reckonSpread 38 = .ok (.iload_n 2, 1) := by decide +kernel
theorem dX10_reckonSpread_39 : decode cX10_reckonSpread 39 = .ok (.iconst 1, 1) := by decide +kernel
theorem dX10_reckonSpread_40 : decode cX10_reckonSpread 40 = .ok (.iadd, 1) := by decide +kernel
theorem dX10_reckonSpread_41 : decode cX10_reckonSpread 41 = .ok (.i2l, 1) := by decide +kernel
theorem dX10_reckonSpread_42 : decode cX10_reckonSpread 42 = .ok (.lconst 1, 1) := by decide +kernel
theorem dX10_reckonSpread_43 : decode cX10_reckonSpread 43 = .ok (.invokevirtual 37, 3) := by decide +kernel
theorem dX10_reckonSpread_46 : decode cX10_reckonSpread 46 = .ok (.aload_n 0, 1) := by decide +kernel
theorem dX10_reckonSpread_47 : decode cX10_reckonSpread 47 = .ok (.getfield 34, 3) := by decide +kernel
theorem dX10_reckonSpread_50 : decode cX10_reckonSpread 50 = .ok (.aload_n 0, 1) := by decide +kernel
theorem dX10_reckonSpread_51 : decode cX10_reckonSpread 51 = .ok (.getfield 31, 3) := by decide +kernel
theorem dX10_reckonSpread_54 : decode cX10_reckonSpread 54 = .ok (.invokevirtual 59, 3) := by decide +kernel
theorem dX10_reckonSpread_57 : decode cX10_reckonSpread 57 = .ok (.aload_n 0, 1) := by decide +kernel
theorem dX10_reckonSpread_58 : decode cX10_reckonSpread 58 = .ok (.getfield 31, 3) := by decide +kernel
theorem dX10_reckonSpread_61 : decode cX10_reckonSpread 61 = .ok (.aload_n 0, 1) := by decide +kernel
theorem dX10_reckonSpread_62 : decode cX10_reckonSpread 62 = .ok (.getfield 34, 3) := by decide +kernel
theorem dX10_reckonSpread_65 : decode cX10_reckonSpread 65 = .ok (.invokevirtual 65, 3) := by decide +kernel
theorem dX10_reckonSpread_68 : decode cX10_reckonSpread 68 = .ok (.aload_n 0, 1) := by decide +kernel
theorem dX10_reckonSpread_69 : decode cX10_reckonSpread 69 = .ok (.getfield 31, 3) := by decide +kernel
theorem dX10_reckonSpread_72 : decode cX10_reckonSpread 72 = .ok (.aload_n 0, 1) := by decide +kernel
theorem dX10_reckonSpread_73 : decode cX10_reckonSpread 73 = .ok (.getfield 34, 3) := by decide +kernel
theorem dX10_reckonSpread_76 : decode cX10_reckonSpread 76 = .ok (.invokevirtual 62, 3) := by decide +kernel
theorem dX10_reckonSpread_79 : decode cX10_reckonSpread 79 = .ok (.aload_n 0, 1) := by decide +kernel
theorem dX10_reckonSpread_80 : decode cX10_reckonSpread 80 = .ok (.getfield 31, 3) := by decide +kernel
theorem dX10_reckonSpread_83 : decode cX10_reckonSpread 83 = .ok (.aload_n 0, 1) := by decide +kernel
theorem dX10_reckonSpread_84 : decode cX10_reckonSpread 84 = .ok (.getfield 24, 3) := by decide +kernel
theorem dX10_reckonSpread_87 : decode cX10_reckonSpread 87 = .ok (.iload_n 2, 1) := by decide +kernel
theorem dX10_reckonSpread_88 : decode cX10_reckonSpread 88 = .ok (.aaload, 1) := by decide +kernel
theorem dX10_reckonSpread_89 : decode cX10_reckonSpread 89 = .ok (.invokevirtual 62, 3) := by decide +kernel
theorem dX10_reckonSpread_92 : decode cX10_reckonSpread 92 = .ok (.aload_n 0, 1) := by decide +kernel
theorem dX10_reckonSpread_93 : decode cX10_reckonSpread 93 = .ok (.getfield 21, 3) := by decide +kernel
theorem dX10_reckonSpread_96 : decode cX10_reckonSpread 96 = .ok (.aload_n 0, 1) := by decide +kernel
theorem dX10_reckonSpread_97 : decode cX10_reckonSpread 97 = .ok (.getfield 31, 3) := by decide +kernel
theorem dX10_reckonSpread_100 : decode cX10_reckonSpread 100 = .ok (.invokevirtual 59, 3) := by decide +kernel
theorem dX10_reckonSpread_103 : decode cX10_reckonSpread 103 = .ok (.iinc 2 1, 3) := by decide +kernel
theorem dX10_reckonSpread_106 : decode cX10_reckonSpread 106 = .ok (.goto (-95), 3) := by decide +kernel
theorem dX10_reckonSpread_109 : decode cX10_reckonSpread 109 = .ok (.aload_n 0, 1) := by decide +kernel
theorem dX10_reckonSpread_110 : decode cX10_reckonSpread 110 = .ok (.getfield 21, 3) := by decide +kernel
theorem dX10_reckonSpread_113 : decode cX10_reckonSpread 113 = .ok (.aload_n 0, 1) := by decide +kernel
theorem dX10_reckonSpread_114 : decode cX10_reckonSpread 114 = .ok (.getfield 12, 3) := by decide +kernel
theorem dX10_reckonSpread_117 : decode cX10_reckonSpread 117 = .ok (.invokevirtual 55, 3) := by decide +kernel
theorem dX10_reckonSpread_120 : decode cX10_reckonSpread 120 = .ok (.return_, 1) := by decide +kernel
theorem dJ6_compare_7cf53_0 : decode cJ6_compare_7cf53 0 = .ok (.iload_n 0, 1) := by decide +kernel
theorem dJ6_compare_7cf53_1 : decode cJ6_compare_7cf53 1 = .ok (.iload_n 1, 1) := by decide +kernel
theorem dJ6_compare_7cf53_2 : decode cJ6_compare_7cf53 2 = .ok (.if_icmp .ge 7, 3) := by decide +kernel
theorem dJ6_compare_7cf53_5 : decode cJ6_compare_7cf53 5 = .ok (.iconst (-1), 1) := by decide +kernel
theorem dJ6_compare_7cf53_6 : decode cJ6_compare_7cf53 6 = .ok (.goto 13, 3) := by decide +kernel
theorem dJ6_compare_7cf53_9 : decode cJ6_compare_7cf53 9 = .ok (.iload_n 0, 1) := by decide +kernel
theorem dJ6_compare_7cf53_10 : decode cJ6_compare_7cf53 10 = .ok (.iload_n 1, 1) := by decide +kernel
theorem dJ6_compare_7cf53_11 : decode cJ6_compare_7cf53 11 = .ok (.if_icmp .ne 7, 3) := by decide +kernel
theorem dJ6_compare_7cf53_14 : decode cJ6_compare_7cf53 14 = .ok (.iconst 0, 1) := by decide +kernel
theorem dJ6_compare_7cf53_15 : decode cJ6_compare_7cf53 15 = .ok (.goto 4, 3) := by decide +kernel
theorem dJ6_compare_7cf53_18 : decode cJ6_compare_7cf53 18 = .ok (.iconst 1, 1) := by decide +kernel
theorem dJ6_compare_7cf53_19 : decode cJ6_compare_7cf53 19 = .ok (.ireturn, 1) := by decide +kernel
theorem dJ9_floorDiv_f86c9_0 : decode cJ9_floorDiv_f86c9 0 = .ok (.lload_n 0, 1) := by decide +kernel
theorem dJ9_floorDiv_f86c9_1 : decode cJ9_floorDiv_f86c9 1 = .ok (.lload_n 2, 1) := by decide +kernel
theorem dJ9_floorDiv_f86c9_2 : decode cJ9_floorDiv_f86c9 2 = .ok (.ldiv, 1) := by decide +kernel
theorem dJ9_floorDiv_f86c9_3 : decode cJ9_floorDiv_f86c9 3 = .ok (.lstore 4, 2) := by decide +kernel
theorem dJ9_floorDiv_f86c9_5 : decode cJ9_floorDiv_f86c9 5 = .ok (.lload_n 0, 1) := by decide +kernel
theorem dJ9_floorDiv_f86c9_6 : decode cJ9_floorDiv_f86c9 6 = .ok (.lload_n 2, 1) := by decide +kernel
theorem dJ9_floorDiv_f86c9_7 : decode cJ9_floorDiv_f86c9 7 = .ok (.lxor, 1) := by decide +kernel
theorem dJ9_floorDiv_f86c9_8 : decode cJ9_floorDiv_f86c9 8 = .ok (.lconst 0, 1) := by decide +kernel
theorem dJ9_floorDiv_f86c9_9 : decode cJ9_floorDiv_f86c9 9 = .ok (.lcmp, 1) := by decide +kernel
theorem dJ9_floorDiv_f86c9_10 : decode cJ9_floorDiv_f86c9 10 = .ok (.ifCond .ge 17, 3) := by decide +kernel
theorem dJ9_floorDiv_f86c9_13 : decode cJ9_floorDiv_f86c9 13 = .ok (.lload 4, 2) := by decide +kernel
theorem dJ9_floorDiv_f86c9_15 : decode cJ9_floorDiv_f86c9 15 = .ok (.lload_n 2, 1) := by decide +kernel
theorem dJ9_floorDiv_f86c9_16 : decode cJ9_floorDiv_f86c9 16 = .ok (.lmul, 1) := by decide +kernel
theorem dJ9_floorDiv_f86c9_17 : decode cJ9_floorDiv_f86c9 17 = .ok (.lload_n 0, 1) := by decide +kernel
theorem dJ9_floorDiv_f86c9_18 : decode cJ9_floorDiv_f86c9 18 = .ok (.lcmp, 1) := by decide +kernel
theorem dJ9_floorDiv_f86c9_19 : decode cJ9_floorDiv_f86c9 19 = .ok (.ifCond .eq 8, 3) := by decide +kernel
theorem dJ9_floorDiv_f86c9_22 : decode cJ9_floorDiv_f86c9 22 = .ok (.lload 4, 2) := by decide +kernel
theorem dJ9_floorDiv_f86c9_24 : decode cJ9_floorDiv_f86c9 24 = .ok (.lconst 1, 1) := by decide +kernel
theorem dJ9_floorDiv_f86c9_25 : decode cJ9_floorDiv_f86c9 25 = .ok (.lsub, 1) := by decide +kernel
theorem dJ9_floorDiv_f86c9_26 : decode cJ9_floorDiv_f86c9 26 = .ok (.lreturn, 1) := by decide +kernel
theorem dJ9_floorDiv_f86c9_27 : decode cJ9_floorDiv_f86c9 27 = .ok (.lload 4, 2) := by decide +kernel
theorem dJ9_floorDiv_f86c9_29 : decode cJ9_floorDiv_f86c9 29 = .ok (.lreturn, 1) := by decide +kernel
theorem dJ9_abs_067f4_0 : decode cJ9_abs_067f4 0 = .ok (.lload_n 0, 1) := by decide +kernel
theorem dJ9_abs_067f4_1 : decode cJ9_abs_067f4 1 = .ok (.lconst 0, 1) := by decide +kernel
theorem dJ9_abs_067f4_2 : decode cJ9_abs_067f4 2 = .ok (.lcmp, 1) := by decide +kernel
theorem dJ9_abs_067f4_3 : decode cJ9_abs_067f4 3 = .ok (.ifCond .ge 8, 3) := by decide +kernel
theorem dJ9_abs_067f4_6 : decode cJ9_abs_067f4 6 = .ok (.lload_n 0, 1) := by decide +kernel
theorem dJ9_abs_067f4_7 : decode cJ9_abs_067f4 7 = .ok (.lneg, 1) := by decide +kernel
theorem dJ9_abs_067f4_8 : decode cJ9_abs_067f4 8 = .ok (.goto 4, 3) := by decide +kernel
theorem dJ9_abs_067f4_11 : decode cJ9_abs_067f4 11 = .ok (.lload_n 0, 1) := by decide +kernel
theorem dJ9_abs_067f4_12 : decode cJ9_abs_067f4 12 = .ok (.lreturn, 1) := by decide +kernel
theorem dJ9_max_f86c9_0 : decode cJ9_max_f86c9 0 = .ok (.lload_n 0, 1) := by decide +kernel
theorem dJ9_max_f86c9_1 : decode cJ9_max_f86c9 1 = .ok (.lload_n 2, 1) := by decide +kernel
theorem dJ9_max_f86c9_2 : decode cJ9_max_f86c9 2 = .ok (.lcmp, 1) := by decide +kernel
theorem dJ9_max_f86c9_3 : decode cJ9_max_f86c9 3 = .ok (.ifCond .lt 7, 3) := by decide +kernel
theorem dJ9_max_f86c9_6 : decode cJ9_max_f86c9 6 = .ok (.lload_n 0, 1) := by decide +kernel
theorem dJ9_max_f86c9_7 : decode cJ9_max_f86c9 7 = .ok (.goto 4, 3) := by decide +kernel
theorem dJ9_max_f86c9_10 : decode cJ9_max_f86c9 10 = .ok (.lload_n 2, 1) := by decide +kernel
theorem dJ9_max_f86c9_11 : decode cJ9_max_f86c9 11 = .ok (.lreturn, 1) := by decide +kernel
theorem dJ7_fill_53178_0 : decode cJ7_fill_53178 0 = .ok (.iconst 0, 1) := by decide +kernel
theorem dJ7_fill_53178_1 : decode cJ7_fill_53178 1 = .ok (.istore_n 2, 1) := by decide +kernel
theorem dJ7_fill_53178_2 : decode cJ7_fill_53178 2 = .ok (.aload_n 0, 1) := by decide +kernel
theorem dJ7_fill_53178_3 : decode cJ7_fill_53178 3 = .ok (.arraylength, 1) := by decide +kernel
theorem dJ7_fill_53178_4 : decode cJ7_fill_53178 4 = .ok (.istore_n 3, 1) := by decide +kernel
theorem dJ7_fill_53178_5 : decode cJ7_fill_53178 5 = .ok (.iload_n 2, 1) := by decide +kernel
theorem dJ7_fill_53178_6 : decode cJ7_fill_53178 6 = .ok (.iload_n 3, 1) := by decide +kernel
theorem dJ7_fill_53178_7 : decode cJ7_fill_53178 7 = .ok (.if_icmp .ge 13, 3) := by decide +kernel
theorem dJ7_fill_53178_10 : decode cJ7_fill_53178 10 = .ok (.aload_n 0, 1) := by decide +kernel
theorem dJ7_fill_53178_11 : decode cJ7_fill_53178 11 = .ok (.iload_n 2, 1) := by decide +kernel
theorem dJ7_fill_53178_12 : decode cJ7_fill_53178 12 = .ok (.iload_n 1, 1) := by decide +kernel
theorem dJ7_fill_53178_13 : decode cJ7_fill_53178 13 = .ok (.iastore, 1) := by decide +kernel
theorem dJ7_fill_53178_14 : decode cJ7_fill_53178 14 = .ok (.iinc 2 1, 3) := by decide +kernel
theorem dJ7_fill_53178_17 : decode cJ7_fill_53178 17 = .ok (.goto (-12), 3) := by decide +kernel
theorem dJ7_fill_53178_20 : decode cJ7_fill_53178 20 = .ok (.return_, 1) := by decide +kernel
theorem dX11_init_0 : decode cX11_init 0 = .ok (.aload_n 0, 1) := by decide +kernel
theorem dX11_init_1 : decode cX11_init 1 = .ok (.invokespecial 5, 3) := by decide +kernel
theorem dX11_init_4 : decode cX11_init 4 = .ok (.aload_n 0, 1) := by decide +kernel
theorem dX11_init_5 : decode cX11_init 5 = .ok (.new 11, 3) := by decide +kernel
theorem dX11_init_8 : decode cX11_init 8 = .ok (.dup, 1) := by decide +kernel
theorem dX11_init_9 : decode cX11_init 9 = .ok (.invokespecial 13, 3) := by decide +kernel
theorem dX11_init_12 : decode cX11_init 12 = .ok (.putfield 14, 3) := by decide +kernel
theorem dX11_init_15 : decode cX11_init 15 = .ok (.aload_n 0, 1) := by decide +kernel
theorem dX11_init_16 : decode cX11_init 16 = .ok (.new 11, 3) := by decide +kernel
theorem dX11_init_19 : decode cX11_init 19 = .ok (.dup, 1) := by decide +kernel
theorem dX11_init_20 : decode cX11_init 20 = .ok (.invokespecial 13, 3) := by decide +kernel
theorem dX11_init_23 : decode cX11_init 23 = .ok (.putfield 18, 3) := by decide +kernel
theorem dX11_init_26 : decode cX11_init 26 = .ok (.aload_n 0, 1) := by decide +kernel
theorem dX11_init_27 : decode cX11_init 27 = .ok (.new 21, 3) := by decide +kernel
theorem dX11_init_30 : decode cX11_init 30 = .ok (.dup, 1) := by decide +kernel
theorem dX11_init_31 : decode cX11_init 31 = .ok (.invokespecial 23, 3) := by decide +kernel
theorem dX11_init_34 : decode cX11_init 34 = .ok (.putfield 24, 3) := by decide +kernel
theorem dX11_init_37 : decode cX11_init 37 = .ok (.aload_n 0, 1) := by decide +kernel
theorem dX11_init_38 : decode cX11_init 38 = .ok (.new 21, 3) := by decide +kernel
theorem dX11_init_41 : decode cX11_init 41 = .ok (.dup, 1) := by decide +kernel
theorem dX11_init_42 : decode cX11_init 42 = .ok (.invokespecial 23, 3) := by decide +kernel
theorem dX11_init_45 : decode cX11_init 45 = .ok (.putfield 28, 3) := by decide +kernel
theorem dX11_init_48 : decode cX11_init 48 = .ok (.aload_n 0, 1) := by decide +kernel
theorem dX11_init_49 : decode cX11_init 49 = .ok (.iconst 1, 1) := by decide +kernel
theorem dX11_init_50 : decode cX11_init 50 = .ok (.putfield 31, 3) := by decide +kernel
theorem dX11_init_53 : decode cX11_init 53 = .ok (.aload_n 0, 1) := by decide +kernel
theorem dX11_init_54 : decode cX11_init 54 = .ok (.iconst 5, 1) := by decide +kernel
theorem dX11_init_55 : decode cX11_init 55 = .ok (.newarray .int, 2) := by decide +kernel
theorem dX11_init_57 : decode cX11_init 57 = .ok (.putfield 35, 3) := by decide +kernel
theorem dX11_init_60 : decode cX11_init 60 = .ok (.aload_n 0, 1) := by decide +kernel
theorem dX11_init_61 : decode cX11_init 61 = .ok (.iconst 5, 1) := by decide +kernel
theorem dX11_init_62 : decode cX11_init 62 = .ok (.newarray .int, 2) := by decide +kernel
theorem dX11_init_64 : decode cX11_init 64 = .ok (.putfield 39, 3) := by decide +kernel
theorem dX11_init_67 : decode cX11_init 67 = .ok (.aload_n 0, 1) := by decide +kernel
theorem dX11_init_68 : decode cX11_init 68 = .ok (.iconst 5, 1) := by decide +kernel
theorem dX11_init_69 : decode cX11_init 69 = .ok (.newarray .int, 2) := by decide +kernel
theorem dX11_init_71 : decode cX11_init 71 = .ok (.putfield 42, 3) := by decide +kernel
theorem dX11_init_74 : decode cX11_init 74 = .ok (.aload_n 0, 1) := by decide +kernel
theorem dX11_init_75 : decode cX11_init 75 = .ok (.iconst 5, 1) := by decide +kernel
theorem dX11_init_76 : decode cX11_init 76 = .ok (.newarray .int, 2) := by decide +kernel
theorem dX11_init_78 : decode cX11_init 78 = .ok (.putfield 45, 3) := by decide +kernel
theorem dX11_init_81 : decode cX11_init 81 = .ok (.aload_n 0, 1) := by decide +kernel
theorem dX11_init_82 : decode cX11_init 82 = .ok (.new 48, 3) := by decide +kernel
theorem dX11_init_85 : decode cX11_init 85 = .ok (.dup, 1) := by decide +kernel
theorem dX11_init_86 : decode cX11_init 86 = .ok (.invokespecial 50, 3) := by decide +kernel
theorem dX11_init_89 : decode cX11_init 89 = .ok (.putfield 51, 3) := by decide +kernel
theorem dX11_init_92 : decode cX11_init 92 = .ok (.aload_n 0, 1) := by decide +kernel
theorem dX11_init_93 : decode cX11_init 93 = .ok (.new 55, 3) := by decide +kernel
theorem dX11_init_96 : decode cX11_init 96 = .ok (.dup, 1) := by decide +kernel
theorem dX11_init_97 : decode cX11_init 97 = .ok (.invokespecial 57, 3) := by decide +kernel
theorem dX11_init_100 : decode cX11_init 100 = .ok (.putfield 58, 3) := by decide +kernel
theorem dX11_init_103 : decode cX11_init 103 = .ok (.aload_n 0, 1) := by decide +kernel
theorem dX11_init_104 : decode cX11_init 104 = .ok (.new 62, 3) := by decide +kernel
theorem dX11_init_107 : decode cX11_init 107 = .ok (.dup, 1) := by decide +kernel
theorem dX11_init_108 : decode cX11_init 108 = .ok (.invokespecial 64, 3) := by decide +kernel
theorem dX11_init_111 : decode cX11_init 111 = .ok (.putfield 65, 3) := by decide +kernel
theorem dX11_init_114 : decode cX11_init 114 = .ok (.aload_n 0, 1) := by decide +kernel
theorem dX11_init_115 : decode cX11_init 115 = .ok (.new 69, 3) := by decide +kernel
theorem dX11_init_118 : decode cX11_init 118 = .ok (.dup, 1) := by decide +kernel
theorem dX11_init_119 : decode cX11_init 119 = .ok (.invokespecial 71, 3) := by decide +kernel
theorem dX11_init_122 : decode cX11_init 122 = .ok (.putfield 72, 3) := by decide +kernel
theorem dX11_init_125 : decode cX11_init 125 = .ok (.aload_n 0, 1) := by decide +kernel
theorem dX11_init_126 : decode cX11_init 126 = .ok (.new 76, 3) := by decide +kernel
theorem dX11_init_129 : decode cX11_init 129 = .ok (.dup, 1) := by decide +kernel
theorem dX11_init_130 : decode cX11_init 130 = .ok (.invokespecial 78, 3) := by decide +kernel
theorem dX11_init_133 : decode cX11_init 133 = .ok (.putfield 79, 3) := by decide +kernel
theorem dX11_init_136 : decode cX11_init 136 = .ok (.aload_n 0, 1) := by decide +kernel
theorem dX11_init_137 : decode cX11_init 137 = .ok (.iconst 4, 1) := by decide +kernel
theorem dX11_init_138 : decode cX11_init 138 = .ok (.anewarray 83, 3) := by decide +kernel
theorem dX11_init_141 : decode cX11_init 141 = .ok (.putfield 85, 3) := by decide +kernel
theorem dX11_init_144 : decode cX11_init 144 = .ok (.aload_n 0, 1) := by decide +kernel
theorem dX11_init_145 : decode cX11_init 145 = .ok (.getfield 35, 3) := by decide +kernel
theorem dX11_init_148 : decode cX11_init 148 = .ok (.iconst (-1), 1) := by decide +kernel
theorem dX11_init_149 : decode cX11_init 149 = .ok (.invokestatic 89, 3) := by decide +kernel
theorem dX11_init_152 : decode cX11_init 152 = .ok (.iconst 0, 1) := by decide +kernel
theorem dX11_init_153 : decode cX11_init 153 = .ok (.istore_n 1, 1) := by decide +kernel
theorem dX11_init_154 : decode cX11_init 154 = .ok (.iload_n 1, 1) := by decide +kernel
theorem dX11_init_155 : decode cX11_init 155 = .ok (.iconst 4, 1) := by decide +kernel
theorem dX11_init_156 : decode cX11_init 156 = .ok (.if_icmp .ge 22, 3) := by decide +kernel
theorem dX11_init_159 : decode cX11_init 159 = .ok (.aload_n 0, 1) := by decide +kernel
theorem dX11_init_160 : decode cX11_init 160 = .ok (.getfield 85, 3) := by decide +kernel
theorem dX11_init_163 : decode cX11_init 163 = .ok (.iload_n 1, 1) := by decide +kernel
theorem dX11_init_164 : decode cX11_init 164 = .ok (.new 83, 3) := by decide +kernel
theorem dX11_init_167 : decode cX11_init 167 = .ok (.dup, 1) := by decide +kernel
theorem dX11_init_168 : decode cX11_init 168 = .ok (.invokespecial 95, 3) := by decide +kernel
theorem dX11_init_171 : decode cX11_init 171 = .ok (.aastore, 1) := by decide +kernel
theorem dX11_init_172 : decode cX11_init 172 = .ok (.iinc 1 1, 3) := by decide +kernel
theorem dX11_init_175 : decode cX11_init 175 = .ok (.goto (-21), 3) := by decide +kernel
theorem dX11_init_178 : decode cX11_init 178 = .ok (.return_, 1) := by decide +kernel
theorem dX11_due_0 : decode cX11_due 0 = .ok (.iload_n 1, 1) := by decide +kernel
theorem dX11_due_1 : decode cX11_due 1 = .ok (.invokestatic 96, 3) := by decide +kernel
theorem dX11_due_4 : decode cX11_due 4 = .ok (.ifCond .eq 13, 3) := by decide +kernel
theorem dX11_due_7 : decode cX11_due 7 = .ok (.iload_n 2, 1) := by decide +kernel
theorem dX11_due_8 : decode cX11_due 8 = .ok (.iconst 0, 1) := by decide +kernel
theorem dX11_due_9 : decode cX11_due 9 = .ok (.bipush 99, 2) := by decide +kernel
theorem dX11_due_11 : decode cX11_due 11 = .ok (.invokestatic 100, 3) := by decide +kernel
theorem dX11_due_14 : decode cX11_due 14 = .ok (.ifCond .ne 6, 3) := by decide +kernel
theorem dX11_due_17 : decode cX11_due 17 = .ok (.bipush (-2), 2) := by decide +kernel
theorem dX11_due_19 : decode cX11_due 19 = .ok (.ireturn, 1) := by decide +kernel
theorem dX11_due_20 : decode cX11_due 20 = .ok (.aload_n 0, 1) := by decide +kernel
theorem dX11_due_21 : decode cX11_due 21 = .ok (.iconst 1, 1) := by decide +kernel
theorem dX11_due_22 : decode cX11_due 22 = .ok (.putfield 31, 3) := by decide +kernel
theorem dX11_due_25 : decode cX11_due 25 = .ok (.aload_n 0, 1) := by decide +kernel
theorem dX11_due_26 : decode cX11_due 26 = .ok (.getfield 14, 3) := by decide +kernel
theorem dX11_due_29 : decode cX11_due 29 = .ok (.getfield 104, 3) := by decide +kernel
theorem dX11_due_32 : decode cX11_due 32 = .ok (.iload_n 1, 1) := by decide +kernel
theorem dX11_due_33 : decode cX11_due 33 = .ok (.iload_n 2, 1) := by decide +kernel
theorem dX11_due_34 : decode cX11_due 34 = .ok (.invokevirtual 108, 3) := by decide +kernel
theorem dX11_due_37 : decode cX11_due 37 = .ok (.ireturn, 1) := by decide +kernel
theorem dX11_rate_0 : decode cX11_rate 0 = .ok (.iload_n 1, 1) := by decide +kernel
theorem dX11_rate_1 : decode cX11_rate 1 = .ok (.invokestatic 96, 3) := by decide +kernel
theorem dX11_rate_4 : decode cX11_rate 4 = .ok (.ifCond .eq 12, 3) := by decide +kernel
theorem dX11_rate_7 : decode cX11_rate 7 = .ok (.iload_n 2, 1) := by decide +kernel
theorem dX11_rate_8 : decode cX11_rate 8 = .ok (.iconst (-1), 1) := by decide +kernel
theorem dX11_rate_9 : decode cX11_rate 9 = .ok (.iconst 3, 1) := by decide +kernel
theorem dX11_rate_10 : decode cX11_rate 10 = .ok (.invokestatic 100, 3) := by decide +kernel
theorem dX11_rate_13 : decode cX11_rate 13 = .ok (.ifCond .ne 6, 3) := by decide +kernel
theorem dX11_rate_16 : decode cX11_rate 16 = .ok (.bipush (-2), 2) := by decide +kernel
theorem dX11_rate_18 : decode cX11_rate 18 = .ok (.ireturn, 1) := by decide +kernel
theorem dX11_rate_19 : decode cX11_rate 19 = .ok (.aload_n 0, 1) := by decide +kernel
theorem dX11_rate_20 : decode cX11_rate 20 = .ok (.iconst 1, 1) := by decide +kernel
theorem dX11_rate_21 : decode cX11_rate 21 = .ok (.putfield 31, 3) := by decide +kernel
theorem dX11_rate_24 : decode cX11_rate 24 = .ok (.aload_n 0, 1) := by decide +kernel
theorem dX11_rate_25 : decode cX11_rate 25 = .ok (.getfield 14, 3) := by decide +kernel
theorem dX11_rate_28 : decode cX11_rate 28 = .ok (.getfield 114, 3) := by decide +kernel
theorem dX11_rate_31 : decode cX11_rate 31 = .ok (.iload_n 1, 1) := by decide +kernel
theorem dX11_rate_32 : decode cX11_rate 32 = .ok (.iload_n 2, 1) := by decide +kernel
theorem dX11_rate_33 : decode cX11_rate 33 = .ok (.invokevirtual 108, 3) := by decide +kernel
theorem dX11_rate_36 : decode cX11_rate 36 = .ok (.ireturn, 1) := by decide +kernel
theorem dX11_limit_0 : decode cX11_limit 0 = .ok (.iload_n 1, 1) := by decide +kernel
theorem dX11_limit_1 : decode cX11_limit 1 = .ok (.invokestatic 96, 3) := by decide +kernel
theorem dX11_limit_4 : decode cX11_limit 4 = .ok (.ifCond .eq 13, 3) := by decide +kernel
theorem dX11_limit_7 : decode cX11_limit 7 = .ok (.iload_n 2, 1) := by decide +kernel
theorem dX11_limit_8 : decode cX11_limit 8 = .ok (.iconst (-1), 1) := by decide +kernel
theorem dX11_limit_9 : decode cX11_limit 9 = .ok (.bipush 99, 2) := by decide +kernel
theorem dX11_limit_11 : decode cX11_limit 11 = .ok (.invokestatic 100, 3) := by decide +kernel
theorem dX11_limit_14 : decode cX11_limit 14 = .ok (.ifCond .ne 6, 3) := by decide +kernel
theorem dX11_limit_17 : decode cX11_limit 17 = .ok (.bipush (-2), 2) := by decide +kernel
theorem dX11_limit_19 : decode cX11_limit 19 = .ok (.ireturn, 1) := by decide +kernel
theorem dX11_limit_20 : decode cX11_limit 20 = .ok (.aload_n 0, 1) := by decide +kernel
theorem dX11_limit_21 : decode cX11_limit 21 = .ok (.iconst 1, 1) := by decide +kernel
theorem dX11_limit_22 : decode cX11_limit 22 = .ok (.putfield 31, 3) := by decide +kernel
theorem dX11_limit_25 : decode cX11_limit 25 = .ok (.aload_n 0, 1) := by decide +kernel
theorem dX11_limit_26 : decode cX11_limit 26 = .ok (.getfield 14, 3) := by decide +kernel
theorem dX11_limit_29 : decode cX11_limit 29 = .ok (.getfield 117, 3) := by decide +kernel
theorem dX11_limit_32 : decode cX11_limit 32 = .ok (.iload_n 1, 1) := by decide +kernel
theorem dX11_limit_33 : decode cX11_limit 33 = .ok (.iload_n 2, 1) := by decide +kernel
theorem dX11_limit_34 : decode cX11_limit 34 = .ok (.invokevirtual 108, 3) := by decide +kernel
theorem dX11_limit_37 : decode cX11_limit 37 = .ok (.ireturn, 1) := by decide +kernel
theorem dX11_rung_0 : decode cX11_rung 0 = .ok (.iload_n 2, 1) := by decide +kernel
theorem dX11_rung_1 : decode cX11_rung 1 = .ok (.iconst 0, 1) := by decide +kernel
theorem dX11_rung_2 : decode cX11_rung 2 = .ok (.iconst 3, 1) := by decide +kernel
theorem dX11_rung_3 : decode cX11_rung 3 = .ok (.invokestatic 100, 3) := by decide +kernel
theorem dX11_rung_6 : decode cX11_rung 6 = .ok (.ifCond .ne 6, 3) := by decide +kernel
theorem dX11_rung_9 : decode cX11_rung 9 = .ok (.bipush (-2), 2) := by decide +kernel
theorem dX11_rung_11 : decode cX11_rung 11 = .ok (.ireturn, 1) := by decide +kernel
theorem dX11_rung_12 : decode cX11_rung 12 = .ok (.aload_n 0, 1) := by decide +kernel
theorem dX11_rung_13 : decode cX11_rung 13 = .ok (.invokevirtual 120, 3) := by decide +kernel
theorem dX11_rung_16 : decode cX11_rung 16 = .ok (.aload_n 0, 1) := by decide +kernel
theorem dX11_rung_17 : decode cX11_rung 17 = .ok (.getfield 24, 3) := by decide +kernel
theorem dX11_rung_20 : decode cX11_rung 20 = .ok (.iload_n 1, 1) := by decide +kernel
theorem dX11_rung_21 : decode cX11_rung 21 = .ok (.invokevirtual 123, 3) := by decide +kernel
theorem dX11_rung_24 : decode cX11_rung 24 = .ok (.ifCond .ne 6, 3) := by decide +kernel
theorem dX11_rung_27 : decode cX11_rung 27 = .ok (.bipush (-12), 2) := by decide +kernel
theorem dX11_rung_29 : decode cX11_rung 29 = .ok (.ireturn, 1) := by decide +kernel
theorem dX11_rung_30 : decode cX11_rung 30 = .ok (.iload_n 2, 1) := by decide +kernel
theorem dX11_rung_31 : decode cX11_rung 31 = .ok (.tableswitch 55 0 2 #[25, 35, 45], 25) := by decide +kernel
theorem dX11_rung_56 : decode cX11_rung 56 = .ok (.aload_n 0, 1) := by decide +kernel
theorem dX11_rung_57 : decode cX11_rung 57 = .ok (.getfield 24, 3) := by decide +kernel
theorem dX11_rung_60 : decode cX11_rung 60 = .ok (.getfield 126, 3) := by decide +kernel
theorem dX11_rung_63 : decode cX11_rung 63 = .ok (.iload_n 1, 1) := by decide +kernel
theorem dX11_rung_64 : decode cX11_rung 64 = .ok (.iaload, 1) := by decide +kernel
theorem dX11_rung_65 : decode cX11_rung 65 = .ok (.ireturn, 1) := by decide +kernel
theorem dX11_rung_66 : decode cX11_rung 66 = .ok (.aload_n 0, 1) := by decide +kernel
theorem dX11_rung_67 : decode cX11_rung 67 = .ok (.getfield 24, 3) := by decide +kernel
theorem dX11_rung_70 : decode cX11_rung 70 = .ok (.getfield 129, 3) := by decide +kernel
theorem dX11_rung_73 : decode cX11_rung 73 = .ok (.iload_n 1, 1) := by decide +kernel
theorem dX11_rung_74 : decode cX11_rung 74 = .ok (.iaload, 1) := by decide +kernel
theorem dX11_rung_75 : decode cX11_rung 75 = .ok (.ireturn, 1) := by decide +kernel
theorem dX11_rung_76 : decode cX11_rung 76 = .ok (.aload_n 0, 1) := by decide +kernel
theorem dX11_rung_77 : decode cX11_rung 77 = .ok (.getfield 24, 3) := by decide +kernel
theorem dX11_rung_80 : decode cX11_rung 80 = .ok (.getfield 132, 3) := by decide +kernel
theorem dX11_rung_83 : decode cX11_rung 83 = .ok (.iload_n 1, 1) := by decide +kernel
theorem dX11_rung_84 : decode cX11_rung 84 = .ok (.iaload, 1) := by decide +kernel
theorem dX11_rung_85 : decode cX11_rung 85 = .ok (.ireturn, 1) := by decide +kernel
theorem dX11_rung_86 : decode cX11_rung 86 = .ok (.aload_n 0, 1) := by decide +kernel
theorem dX11_rung_87 : decode cX11_rung 87 = .ok (.getfield 24, 3) := by decide +kernel
theorem dX11_rung_90 : decode cX11_rung 90 = .ok (.getfield 135, 3) := by decide +kernel
theorem dX11_rung_93 : decode cX11_rung 93 = .ok (.iload_n 1, 1) := by decide +kernel
theorem dX11_rung_94 : decode cX11_rung 94 = .ok (.iaload, 1) := by decide +kernel
theorem dX11_rung_95 : decode cX11_rung 95 = .ok (.ireturn, 1) := by decide +kernel
theorem dX11_day_0 : decode cX11_day 0 = .ok (.iload_n 1, 1) := by decide +kernel
theorem dX11_day_1 : decode cX11_day 1 = .ok (.invokestatic 96, 3) := by decide +kernel
theorem dX11_day_4 : decode cX11_day 4 = .ok (.ifCond .eq 12, 3) := by decide +kernel
theorem dX11_day_7 : decode cX11_day 7 = .ok (.iload_n 2, 1) := by decide +kernel
theorem dX11_day_8 : decode cX11_day 8 = .ok (.iconst 0, 1) := by decide +kernel
theorem dX11_day_9 : decode cX11_day 9 = .ok (.iconst 1, 1) := by decide +kernel
theorem dX11_day_10 : decode cX11_day 10 = .ok (.invokestatic 100, 3) := by decide +kernel
theorem dX11_day_13 : decode cX11_day 13 = .ok (.ifCond .ne 6, 3) := by decide +kernel
theorem dX11_day_16 : decode cX11_day 16 = .ok (.bipush (-2), 2) := by decide +kernel
theorem dX11_day_18 : decode cX11_day 18 = .ok (.ireturn, 1) := by decide +kernel
theorem dX11_day_19 : decode cX11_day 19 = .ok (.aload_n 0, 1) := by decide +kernel
theorem dX11_day_20 : decode cX11_day 20 = .ok (.invokevirtual 120, 3) := by decide +kernel
theorem dX11_day_23 : decode cX11_day 23 = .ok (.iload_n 2, 1) := by decide +kernel
theorem dX11_day_24 : decode cX11_day 24 = .ok (.ifCond .ne 15, 3) := by decide +kernel
theorem dX11_day_27 : decode cX11_day 27 = .ok (.aload_n 0, 1) := by decide +kernel
theorem dX11_day_28 : decode cX11_day 28 = .ok (.getfield 24, 3) := by decide +kernel
theorem dX11_day_31 : decode cX11_day 31 = .ok (.getfield 138, 3) := by decide +kernel
theorem dX11_day_34 : decode cX11_day 34 = .ok (.iload_n 1, 1) := by decide +kernel
theorem dX11_day_35 : decode cX11_day 35 = .ok (.iaload, 1) := by decide +kernel
theorem dX11_day_36 : decode cX11_day 36 = .ok (.goto 12, 3) := by decide +kernel
theorem dX11_day_39 : decode cX11_day 39 = .ok (.aload_n 0, 1) := by decide +kernel
theorem dX11_day_40 : decode cX11_day 40 = .ok (.getfield 24, 3) := by decide +kernel
theorem dX11_day_43 : decode cX11_day 43 = .ok (.getfield 141, 3) := by decide +kernel
theorem dX11_day_46 : decode cX11_day 46 = .ok (.iload_n 1, 1) := by decide +kernel
theorem dX11_day_47 : decode cX11_day 47 = .ok (.iaload, 1) := by decide +kernel
theorem dX11_day_48 : decode cX11_day 48 = .ok (.ireturn, 1) := by decide +kernel
theorem dX11_bond_0 : decode cX11_bond 0 = .ok (.iload_n 1, 1) := by decide +kernel
theorem dX11_bond_1 : decode cX11_bond 1 = .ok (.invokestatic 144, 3) := by decide +kernel
theorem dX11_bond_4 : decode cX11_bond 4 = .ok (.ifCond .eq 53, 3) := by decide +kernel
theorem dX11_bond_7 : decode cX11_bond 7 = .ok (.iload_n 2, 1) := by decide +kernel
theorem dX11_bond_8 : decode cX11_bond 8 = .ok (.iconst 1, 1) := by decide +kernel
theorem dX11_bond_9 : decode cX11_bond 9 = .ok (.bipush 99, 2) := by decide +kernel
theorem dX11_bond_11 : decode cX11_bond 11 = .ok (.invokestatic 100, 3) := by decide +kernel
theorem dX11_bond_14 : decode cX11_bond 14 = .ok (.ifCond .eq 43, 3) := by decide +kernel
theorem dX11_bond_17 : decode cX11_bond 17 = .ok (.iload_n 3, 1) := by decide +kernel
theorem dX11_bond_18 : decode cX11_bond 18 = .ok (.iconst 0, 1) := by decide +kernel
theorem dX11_bond_19 : decode cX11_bond 19 = .ok (.bipush 9, 2) := by decide +kernel
theorem dX11_bond_21 : decode cX11_bond 21 = .ok (.invokestatic 100, 3) := by decide +kernel
theorem dX11_bond_24 : decode cX11_bond 24 = .ok (.ifCond .eq 33, 3) := by decide +kernel
theorem dX11_bond_27 : decode cX11_bond 27 = .ok (.iload 4, 2) := by decide +kernel
theorem dX11_bond_29 : decode cX11_bond 29 = .ok (.iconst 1, 1) := by decide +kernel
theorem dX11_bond_30 : decode cX11_bond 30 = .ok (.bipush 30, 2) := by decide +kernel
theorem dX11_bond_32 : decode cX11_bond 32 = .ok (.invokestatic 100, 3) := by decide +kernel
theorem dX11_bond_35 : decode cX11_bond 35 = .ok (.ifCond .eq 22, 3) := by decide +kernel
theorem dX11_bond_38 : decode cX11_bond 38 = .ok (.iload 5, 2) := by decide +kernel
theorem dX11_bond_40 : decode cX11_bond 40 = .ok (.invokestatic 96, 3) := by decide +kernel
theorem dX11_bond_43 : decode cX11_bond 43 = .ok (.ifCond .eq 14, 3) := by decide +kernel
theorem dX11_bond_46 : decode cX11_bond 46 = .ok (.iload 6, 2) := by decide +kernel
theorem dX11_bond_48 : decode cX11_bond 48 = .ok (.iconst 1, 1) := by decide +kernel
theorem dX11_bond_49 : decode cX11_bond 49 = .ok (.bipush 60, 2) := by decide +kernel
theorem dX11_bond_51 : decode cX11_bond 51 = .ok (.invokestatic 100, 3) := by decide +kernel
theorem dX11_bond_54 : decode cX11_bond 54 = .ok (.ifCond .ne 6, 3) := by decide +kernel
theorem dX11_bond_57 : decode cX11_bond 57 = .ok (.bipush (-2), 2) := by decide +kernel
theorem dX11_bond_59 : decode cX11_bond 59 = .ok (.ireturn, 1) := by decide +kernel
theorem dX11_bond_60 : decode cX11_bond 60 = .ok (.aload_n 0, 1) := by decide +kernel
theorem dX11_bond_61 : decode cX11_bond 61 = .ok (.getfield 14, 3) := by decide +kernel
theorem dX11_bond_64 : decode cX11_bond 64 = .ok (.getfield 147, 3) := by decide +kernel
theorem dX11_bond_67 : decode cX11_bond 67 = .ok (.iconst 5, 1) := by decide +kernel
theorem dX11_bond_68 : decode cX11_bond 68 = .ok (.if_icmp .lt 6, 3) := by decide +kernel
theorem dX11_bond_71 : decode cX11_bond 71 = .ok (.bipush (-4), 2) := by decide +kernel
theorem dX11_bond_73 : decode cX11_bond 73 = .ok (.ireturn, 1) := by decide +kernel
theorem dX11_bond_74 : decode cX11_bond 74 = .ok (.aload_n 0, 1) := by decide +kernel
theorem dX11_bond_75 : decode cX11_bond 75 = .ok (.iconst 1, 1) := by decide +kernel
theorem dX11_bond_76 : decode cX11_bond 76 = .ok (.putfield 31, 3) := by decide +kernel
theorem dX11_bond_79 : decode cX11_bond 79 = .ok (.aload_n 0, 1) := by decide +kernel
theorem dX11_bond_80 : decode cX11_bond 80 = .ok (.getfield 14, 3) := by decide +kernel
theorem dX11_bond_83 : decode cX11_bond 83 = .ok (.getfield 147, 3) := by decide +kernel
theorem dX11_bond_86 : decode cX11_bond 86 = .ok (.istore 7, 2) := by decide +kernel
theorem dX11_bond_88 : decode cX11_bond 88 = .ok (.aload_n 0, 1) := by decide +kernel
theorem dX11_bond_89 : decode cX11_bond 89 = .ok (.getfield 14, 3) := by decide +kernel
theorem dX11_bond_92 : decode cX11_bond 92 = .ok (.getfield 151, 3) := by decide +kernel
theorem dX11_bond_95 : decode cX11_bond 95 = .ok (.iload 7, 2) := by decide +kernel
theorem dX11_bond_97 : decode cX11_bond 97 = .ok (.aaload, 1) := by decide +kernel
theorem dX11_bond_98 : decode cX11_bond 98 = .ok (.iload_n 1, 1) := by decide +kernel
theorem dX11_bond_99 : decode cX11_bond 99 = .ok (.iload_n 2, 1) := by decide +kernel
theorem dX11_bond_100 : decode cX11_bond 100 = .ok (.iload_n 3, 1) := by decide +kernel
theorem dX11_bond_101 : decode cX11_bond 101 = .ok (.iload 4, 2) := by decide +kernel
theorem dX11_bond_103 : decode cX11_bond 103 = .ok (.iload 5, 2) := by decide +kernel
theorem dX11_bond_105 : decode cX11_bond 105 = .ok (.iload 6, 2) := by decide +kernel
theorem dX11_bond_107 : decode cX11_bond 107 = .ok (.invokevirtual 155, 3) := by decide +kernel
theorem dX11_bond_110 : decode cX11_bond 110 = .ok (.aload_n 0, 1) := by decide +kernel
theorem dX11_bond_111 : decode cX11_bond 111 = .ok (.getfield 14, 3) := by decide +kernel
theorem dX11_bond_114 : decode cX11_bond 114 = .ok (.iload 7, 2) := by decide +kernel
theorem dX11_bond_116 : decode cX11_bond 116 = .ok (.iconst 1, 1) := by decide +kernel
theorem dX11_bond_117 : decode cX11_bond 117 = .ok (.iadd, 1) := by decide +kernel
theorem dX11_bond_118 : decode cX11_bond 118 = .ok (.putfield 147, 3) := by decide +kernel
theorem dX11_bond_121 : decode cX11_bond 121 = .ok (.iload 7, 2) := by decide +kernel
theorem dX11_bond_123 : decode cX11_bond 123 = .ok (.ireturn, 1) := by decide +kernel
theorem dX11_hold_0 : decode cX11_hold 0 = .ok (.aload_n 0, 1) := by decide +kernel
theorem dX11_hold_1 : decode cX11_hold 1 = .ok (.getfield 14, 3) := by decide +kernel
theorem dX11_hold_4 : decode cX11_hold 4 = .ok (.iload_n 1, 1) := by decide +kernel
theorem dX11_hold_5 : decode cX11_hold 5 = .ok (.invokevirtual 161, 3) := by decide +kernel
theorem dX11_hold_8 : decode cX11_hold 8 = .ok (.ifCond .eq 13, 3) := by decide +kernel
theorem dX11_hold_11 : decode cX11_hold 11 = .ok (.iload_n 2, 1) := by decide +kernel
theorem dX11_hold_12 : decode cX11_hold 12 = .ok (.iconst 0, 1) := by decide +kernel
theorem dX11_hold_13 : decode cX11_hold 13 = .ok (.bipush 99, 2) := by decide +kernel
theorem dX11_hold_15 : decode cX11_hold 15 = .ok (.invokestatic 100, 3) := by decide +kernel
theorem dX11_hold_18 : decode cX11_hold 18 = .ok (.ifCond .ne 6, 3) := by decide +kernel
theorem dX11_hold_21 : decode cX11_hold 21 = .ok (.bipush (-2), 2) := by decide +kernel
theorem dX11_hold_23 : decode cX11_hold 23 = .ok (.ireturn, 1) := by decide +kernel
theorem dX11_hold_24 : decode cX11_hold 24 = .ok (.aload_n 0, 1) := by decide +kernel
theorem dX11_hold_25 : decode cX11_hold 25 = .ok (.getfield 14, 3) := by decide +kernel
theorem dX11_hold_28 : decode cX11_hold 28 = .ok (.getfield 151, 3) := by decide +kernel
theorem dX11_hold_31 : decode cX11_hold 31 = .ok (.iload_n 1, 1) := by decide +kernel
theorem dX11_hold_32 : decode cX11_hold 32 = .ok (.aaload, 1) := by decide +kernel
theorem dX11_hold_33 : decode cX11_hold 33 = .ok (.getfield 164, 3) := by decide +kernel
theorem dX11_hold_36 : decode cX11_hold 36 = .ok (.istore_n 3, 1) := by decide +kernel
theorem dX11_hold_37 : decode cX11_hold 37 = .ok (.aload_n 0, 1) := by decide +kernel
theorem dX11_hold_38 : decode cX11_hold 38 = .ok (.getfield 14, 3) := by decide +kernel
theorem dX11_hold_41 : decode cX11_hold 41 = .ok (.getfield 151, 3) := by decide +kernel
theorem dX11_hold_44 : decode cX11_hold 44 = .ok (.iload_n 1, 1) := by decide +kernel
theorem dX11_hold_45 : decode cX11_hold 45 = .ok (.aaload, 1) := by decide +kernel
theorem dX11_hold_46 : decode cX11_hold 46 = .ok (.iload_n 2, 1) := by decide +kernel
theorem dX11_hold_47 : decode cX11_hold 47 = .ok (.putfield 164, 3) := by decide +kernel
theorem dX11_hold_50 : decode cX11_hold 50 = .ok (.iload_n 3, 1) := by decide +kernel
theorem dX11_hold_51 : decode cX11_hold 51 = .ok (.ireturn, 1) := by decide +kernel
theorem dX11_told_0 : decode cX11_told 0 = .ok (.aload_n 0, 1) := by decide +kernel
theorem dX11_told_1 : decode cX11_told 1 = .ok (.getfield 14, 3) := by decide +kernel
theorem dX11_told_4 : decode cX11_told 4 = .ok (.iload_n 1, 1) := by decide +kernel
theorem dX11_told_5 : decode cX11_told 5 = .ok (.invokevirtual 161, 3) := by decide +kernel
theorem dX11_told_8 : decode cX11_told 8 = .ok (.ifCond .eq 13, 3) := by decide +kernel
theorem dX11_told_11 : decode cX11_told 11 = .ok (.iload_n 2, 1) := by decide +kernel
theorem dX11_told_12 : decode cX11_told 12 = .ok (.iconst 0, 1) := by decide +kernel
theorem dX11_told_13 : decode cX11_told 13 = .ok (.bipush 8, 2) := by decide +kernel
theorem dX11_told_15 : decode cX11_told 15 = .ok (.invokestatic 100, 3) := by decide +kernel
theorem dX11_told_18 : decode cX11_told 18 = .ok (.ifCond .ne 6, 3) := by decide +kernel
theorem dX11_told_21 : decode cX11_told 21 = .ok (.bipush (-2), 2) := by decide +kernel
theorem dX11_told_23 : decode cX11_told 23 = .ok (.ireturn, 1) := by decide +kernel
theorem dX11_told_24 : decode cX11_told 24 = .ok (.aload_n 0, 1) := by decide +kernel
theorem dX11_told_25 : decode cX11_told 25 = .ok (.invokevirtual 120, 3) := by decide +kernel
theorem dX11_told_28 : decode cX11_told 28 = .ok (.iload_n 2, 1) := by decide +kernel
theorem dX11_told_29 : decode cX11_told 29 = .ok (.bipush 7, 2) := by decide +kernel
theorem dX11_told_31 : decode cX11_told 31 = .ok (.if_icmp .ne 13, 3) := by decide +kernel
theorem dX11_told_34 : decode cX11_told 34 = .ok (.aload_n 0, 1) := by decide +kernel
theorem dX11_told_35 : decode cX11_told 35 = .ok (.getfield 24, 3) := by decide +kernel
theorem dX11_told_38 : decode cX11_told 38 = .ok (.getfield 166, 3) := by decide +kernel
theorem dX11_told_41 : decode cX11_told 41 = .ok (.iload_n 1, 1) := by decide +kernel
theorem dX11_told_42 : decode cX11_told 42 = .ok (.iaload, 1) := by decide +kernel
theorem dX11_told_43 : decode cX11_told 43 = .ok (.ireturn, 1) := by decide +kernel
theorem dX11_told_44 : decode cX11_told 44 = .ok (.iload_n 2, 1) := by decide +kernel
theorem dX11_told_45 : decode cX11_told 45 = .ok (.bipush 8, 2) := by decide +kernel
theorem dX11_told_47 : decode cX11_told 47 = .ok (.if_icmp .ne 15, 3) := by decide +kernel
theorem dX11_told_50 : decode cX11_told 50 = .ok (.aload_n 0, 1) := by decide +kernel
theorem dX11_told_51 : decode cX11_told 51 = .ok (.getfield 24, 3) := by decide +kernel
theorem dX11_told_54 : decode cX11_told 54 = .ok (.getfield 169, 3) := by decide +kernel
theorem dX11_told_57 : decode cX11_told 57 = .ok (.iload_n 1, 1) := by decide +kernel
theorem dX11_told_58 : decode cX11_told 58 = .ok (.iaload, 1) := by decide +kernel
theorem dX11_told_59 : decode cX11_told 59 = .ok (.goto 16, 3) := by decide +kernel
theorem dX11_told_62 : decode cX11_told 62 = .ok (.aload_n 0, 1) := by decide +kernel
theorem dX11_told_63 : decode cX11_told 63 = .ok (.getfield 14, 3) := by decide +kernel
theorem dX11_told_66 : decode cX11_told 66 = .ok (.getfield 151, 3) := by decide +kernel
theorem dX11_told_69 : decode cX11_told 69 = .ok (.iload_n 1, 1) := by decide +kernel
theorem dX11_told_70 : decode cX11_told 70 = .ok (.aaload, 1) := by decide +kernel
theorem dX11_told_71 : decode cX11_told 71 = .ok (.iload_n 2, 1) := by decide +kernel
theorem dX11_told_72 : decode cX11_told 72 = .ok (.invokevirtual 172, 3) := by decide +kernel
theorem dX11_told_75 : decode cX11_told 75 = .ok (.ireturn, 1) := by decide +kernel
theorem dX11_pays_0 : decode cX11_pays 0 = .ok (.aload_n 0, 1) := by decide +kernel
theorem dX11_pays_1 : decode cX11_pays 1 = .ok (.getfield 14, 3) := by decide +kernel
theorem dX11_pays_4 : decode cX11_pays 4 = .ok (.iload_n 1, 1) := by decide +kernel
theorem dX11_pays_5 : decode cX11_pays 5 = .ok (.invokevirtual 161, 3) := by decide +kernel
theorem dX11_pays_8 : decode cX11_pays 8 = .ok (.ifCond .eq 10, 3) := by decide +kernel
theorem dX11_pays_11 : decode cX11_pays 11 = .ok (.iload_n 2, 1) := by decide +kernel
theorem dX11_pays_12 : decode cX11_pays 12 = .ok (.invokestatic 96, 3) := by decide +kernel
theorem dX11_pays_15 : decode cX11_pays 15 = .ok (.ifCond .ne 6, 3) := by decide +kernel
theorem dX11_pays_18 : decode cX11_pays 18 = .ok (.bipush (-2), 2) := by decide +kernel
theorem dX11_pays_20 : decode cX11_pays 20 = .ok (.ireturn, 1) := by decide +kernel
theorem dX11_pays_21 : decode cX11_pays 21 = .ok (.aload_n 0, 1) := by decide +kernel
theorem dX11_pays_22 : decode cX11_pays 22 = .ok (.invokevirtual 120, 3) := by decide +kernel
theorem dX11_pays_25 : decode cX11_pays 25 = .ok (.aload_n 0, 1) := by decide +kernel
theorem dX11_pays_26 : decode cX11_pays 26 = .ok (.getfield 24, 3) := by decide +kernel
theorem dX11_pays_29 : decode cX11_pays 29 = .ok (.getfield 176, 3) := by decide +kernel
theorem dX11_pays_32 : decode cX11_pays 32 = .ok (.iload_n 1, 1) := by decide +kernel
theorem dX11_pays_33 : decode cX11_pays 33 = .ok (.aaload, 1) := by decide +kernel
theorem dX11_pays_34 : decode cX11_pays 34 = .ok (.iload_n 2, 1) := by decide +kernel
theorem dX11_pays_35 : decode cX11_pays 35 = .ok (.iaload, 1) := by decide +kernel
theorem dX11_pays_36 : decode cX11_pays 36 = .ok (.ireturn, 1) := by decide +kernel
theorem dX11_paysAt_0 : decode cX11_paysAt 0 = .ok (.aload_n 0, 1) := by decide +kernel
theorem dX11_paysAt_1 : decode cX11_paysAt 1 = .ok (.getfield 14, 3) := by decide +kernel
theorem dX11_paysAt_4 : decode cX11_paysAt 4 = .ok (.iload_n 1, 1) := by decide +kernel
theorem dX11_paysAt_5 : decode cX11_paysAt 5 = .ok (.invokevirtual 161, 3) := by decide +kernel
theorem dX11_paysAt_8 : decode cX11_paysAt 8 = .ok (.ifCond .ne 6, 3) := by decide +kernel
theorem dX11_paysAt_11 : decode cX11_paysAt 11 = .ok (.bipush (-2), 2) := by decide +kernel
theorem dX11_paysAt_13 : decode cX11_paysAt 13 = .ok (.ireturn, 1) := by decide +kernel
theorem dX11_paysAt_14 : decode cX11_paysAt 14 = .ok (.aload_n 0, 1) := by decide +kernel
theorem dX11_paysAt_15 : decode cX11_paysAt 15 = .ok (.invokevirtual 120, 3) := by decide +kernel
theorem dX11_paysAt_18 : decode cX11_paysAt 18 = .ok (.aload_n 0, 1) := by decide +kernel
theorem dX11_paysAt_19 : decode cX11_paysAt 19 = .ok (.getfield 24, 3) := by decide +kernel
theorem dX11_paysAt_22 : decode cX11_paysAt 22 = .ok (.iload_n 2, 1) := by decide +kernel
theorem dX11_paysAt_23 : decode cX11_paysAt 23 = .ok (.invokevirtual 123, 3) := by decide +kernel
theorem dX11_paysAt_26 : decode cX11_paysAt 26 = .ok (.ifCond .eq 17, 3) := by decide +kernel
theorem dX11_paysAt_29 : decode cX11_paysAt 29 = .ok (.aload_n 0, 1) := by decide +kernel
theorem dX11_paysAt_30 : decode cX11_paysAt 30 = .ok (.getfield 24, 3) := by decide +kernel
theorem dX11_paysAt_33 : decode cX11_paysAt 33 = .ok (.getfield 180, 3) := by decide +kernel
theorem dX11_paysAt_36 : decode cX11_paysAt 36 = .ok (.iload_n 1, 1) := by decide +kernel
theorem dX11_paysAt_37 : decode cX11_paysAt 37 = .ok (.aaload, 1) := by decide +kernel
theorem dX11_paysAt_38 : decode cX11_paysAt 38 = .ok (.iload_n 2, 1) := by decide +kernel
theorem dX11_paysAt_39 : decode cX11_paysAt 39 = .ok (.iaload, 1) := by decide +kernel
theorem dX11_paysAt_40 : decode cX11_paysAt 40 = .ok (.goto 5, 3) := by decide +kernel
theorem dX11_paysAt_43 : decode cX11_paysAt 43 = .ok (.bipush (-12), 2) := by decide +kernel
theorem dX11_paysAt_45 : decode cX11_paysAt 45 = .ok (.ireturn, 1) := by decide +kernel
theorem dX11_taken_0 : decode cX11_taken 0 = .ok (.aload_n 0, 1) := by decide +kernel
theorem dX11_taken_1 : decode cX11_taken 1 = .ok (.getfield 14, 3) := by decide +kernel
theorem dX11_taken_4 : decode cX11_taken 4 = .ok (.iload_n 1, 1) := by decide +kernel
theorem dX11_taken_5 : decode cX11_taken 5 = .ok (.invokevirtual 161, 3) := by decide +kernel
theorem dX11_taken_8 : decode cX11_taken 8 = .ok (.ifCond .eq 10, 3) := by decide +kernel
theorem dX11_taken_11 : decode cX11_taken 11 = .ok (.iload_n 2, 1) := by decide +kernel
theorem dX11_taken_12 : decode cX11_taken 12 = .ok (.invokestatic 144, 3) := by decide +kernel
theorem dX11_taken_15 : decode cX11_taken 15 = .ok (.ifCond .ne 6, 3) := by decide +kernel
theorem dX11_taken_18 : decode cX11_taken 18 = .ok (.bipush (-2), 2) := by decide +kernel
theorem dX11_taken_20 : decode cX11_taken 20 = .ok (.ireturn, 1) := by decide +kernel
theorem dX11_taken_21 : decode cX11_taken 21 = .ok (.aload_n 0, 1) := by decide +kernel
theorem dX11_taken_22 : decode cX11_taken 22 = .ok (.getfield 14, 3) := by decide +kernel
theorem dX11_taken_25 : decode cX11_taken 25 = .ok (.getfield 151, 3) := by decide +kernel
theorem dX11_taken_28 : decode cX11_taken 28 = .ok (.iload_n 1, 1) := by decide +kernel
theorem dX11_taken_29 : decode cX11_taken 29 = .ok (.aaload, 1) := by decide +kernel
theorem dX11_taken_30 : decode cX11_taken 30 = .ok (.iload_n 2, 1) := by decide +kernel
theorem dX11_taken_31 : decode cX11_taken 31 = .ok (.invokevirtual 183, 3) := by decide +kernel
theorem dX11_taken_34 : decode cX11_taken 34 = .ok (.ifCond .eq 18, 3) := by decide +kernel
theorem dX11_taken_37 : decode cX11_taken 37 = .ok (.aload_n 0, 1) := by decide +kernel
theorem dX11_taken_38 : decode cX11_taken 38 = .ok (.getfield 14, 3) := by decide +kernel
theorem dX11_taken_41 : decode cX11_taken 41 = .ok (.getfield 151, 3) := by decide +kernel
theorem dX11_taken_44 : decode cX11_taken 44 = .ok (.iload_n 1, 1) := by decide +kernel
theorem dX11_taken_45 : decode cX11_taken 45 = .ok (.aaload, 1) := by decide +kernel
theorem dX11_taken_46 : decode cX11_taken 46 = .ok (.getfield 186, 3) := by decide +kernel
theorem dX11_taken_49 : decode cX11_taken 49 = .ok (.goto 5, 3) := by decide +kernel
theorem dX11_taken_52 : decode cX11_taken 52 = .ok (.bipush (-13), 2) := by decide +kernel
theorem dX11_taken_54 : decode cX11_taken 54 = .ok (.ireturn, 1) := by decide +kernel
theorem dX11_ranked_0 : decode cX11_ranked 0 = .ok (.iload_n 1, 1) := by decide +kernel
theorem dX11_ranked_1 : decode cX11_ranked 1 = .ok (.invokestatic 189, 3) := by decide +kernel
theorem dX11_ranked_4 : decode cX11_ranked 4 = .ok (.ifCond .ne 6, 3) := by decide +kernel
theorem dX11_ranked_7 : decode cX11_ranked 7 = .ok (.bipush (-2), 2) := by decide +kernel
theorem dX11_ranked_9 : decode cX11_ranked 9 = .ok (.ireturn, 1) := by decide +kernel
theorem dX11_ranked_10 : decode cX11_ranked 10 = .ok (.aload_n 0, 1) := by decide +kernel
theorem dX11_ranked_11 : decode cX11_ranked 11 = .ok (.getfield 14, 3) := by decide +kernel
theorem dX11_ranked_14 : decode cX11_ranked 14 = .ok (.iload_n 2, 1) := by decide +kernel
theorem dX11_ranked_15 : decode cX11_ranked 15 = .ok (.invokevirtual 161, 3) := by decide +kernel
theorem dX11_ranked_18 : decode cX11_ranked 18 = .ok (.ifCond .ne 6, 3) := by decide +kernel
theorem dX11_ranked_21 : decode cX11_ranked 21 = .ok (.bipush (-12), 2) := by decide +kernel
theorem dX11_ranked_23 : decode cX11_ranked 23 = .ok (.ireturn, 1) := by decide +kernel
theorem dX11_ranked_24 : decode cX11_ranked 24 = .ok (.aload_n 0, 1) := by decide +kernel
theorem dX11_ranked_25 : decode cX11_ranked 25 = .ok (.invokevirtual 120, 3) := by decide +kernel
theorem dX11_ranked_28 : decode cX11_ranked 28 = .ok (.aload_n 0, 1) := by decide +kernel
theorem dX11_ranked_29 : decode cX11_ranked 29 = .ok (.getfield 72, 3) := by decide +kernel
theorem dX11_ranked_32 : decode cX11_ranked 32 = .ok (.iload_n 1, 1) := by decide +kernel
theorem dX11_ranked_33 : decode cX11_ranked 33 = .ok (.aload_n 0, 1) := by decide +kernel
theorem dX11_ranked_34 : decode cX11_ranked 34 = .ok (.getfield 14, 3) := by decide +kernel
theorem dX11_ranked_37 : decode cX11_ranked 37 = .ok (.aload_n 0, 1) := by decide +kernel
theorem dX11_ranked_38 : decode cX11_ranked 38 = .ok (.getfield 24, 3) := by decide +kernel
theorem dX11_ranked_41 : decode cX11_ranked 41 = .ok (.invokevirtual 192, 3) := by decide +kernel
theorem dX11_ranked_44 : decode cX11_ranked 44 = .ok (.aload_n 0, 1) := by decide +kernel
theorem dX11_ranked_45 : decode cX11_ranked 45 = .ok (.getfield 72, 3) := by decide +kernel
theorem dX11_ranked_48 : decode cX11_ranked 48 = .ok (.getfield 196, 3) := by decide +kernel
theorem dX11_ranked_51 : decode cX11_ranked 51 = .ok (.iload_n 2, 1) := by decide +kernel
theorem dX11_ranked_52 : decode cX11_ranked 52 = .ok (.iaload, 1) := by decide +kernel
theorem dX11_ranked_53 : decode cX11_ranked 53 = .ok (.ireturn, 1) := by decide +kernel
theorem dX11_worth_0 : decode cX11_worth 0 = .ok (.aload_n 0, 1) := by decide +kernel
theorem dX11_worth_1 : decode cX11_worth 1 = .ok (.iload_n 1, 1) := by decide +kernel
theorem dX11_worth_2 : decode cX11_worth 2 = .ok (.invokevirtual 199, 3) := by decide +kernel
theorem dX11_worth_5 : decode cX11_worth 5 = .ok (.ifCond .eq 10, 3) := by decide +kernel
theorem dX11_worth_8 : decode cX11_worth 8 = .ok (.iload_n 2, 1) := by decide +kernel
theorem dX11_worth_9 : decode cX11_worth 9 = .ok (.invokestatic 202, 3) := by decide +kernel
theorem dX11_worth_12 : decode cX11_worth 12 = .ok (.ifCond .ne 7, 3) := by decide +kernel
theorem dX11_worth_15 : decode cX11_worth 15 = .ok (.ldc2_w 205, 3) := by decide +kernel
theorem dX11_worth_18 : decode cX11_worth 18 = .ok (.lreturn, 1) := by decide +kernel
theorem dX11_worth_19 : decode cX11_worth 19 = .ok (.aload_n 0, 1) := by decide +kernel
theorem dX11_worth_20 : decode cX11_worth 20 = .ok (.iload_n 1, 1) := by decide +kernel
theorem dX11_worth_21 : decode cX11_worth 21 = .ok (.invokevirtual 207, 3) := by decide +kernel
theorem dX11_worth_24 : decode cX11_worth 24 = .ok (.aload_n 0, 1) := by decide +kernel
theorem dX11_worth_25 : decode cX11_worth 25 = .ok (.getfield 51, 3) := by decide +kernel
theorem dX11_worth_28 : decode cX11_worth 28 = .ok (.getfield 211, 3) := by decide +kernel
theorem dX11_worth_31 : decode cX11_worth 31 = .ok (.iload_n 2, 1) := by decide +kernel
theorem dX11_worth_32 : decode cX11_worth 32 = .ok (.invokevirtual 214, 3) := by decide +kernel
theorem dX11_worth_35 : decode cX11_worth 35 = .ok (.lreturn, 1) := by decide +kernel
theorem dX11_length_0 : decode cX11_length 0 = .ok (.aload_n 0, 1) := by decide +kernel
theorem dX11_length_1 : decode cX11_length 1 = .ok (.iload_n 1, 1) := by decide +kernel
theorem dX11_length_2 : decode cX11_length 2 = .ok (.invokevirtual 199, 3) := by decide +kernel
theorem dX11_length_5 : decode cX11_length 5 = .ok (.ifCond .eq 19, 3) := by decide +kernel
theorem dX11_length_8 : decode cX11_length 8 = .ok (.iload_n 2, 1) := by decide +kernel
theorem dX11_length_9 : decode cX11_length 9 = .ok (.iconst 0, 1) := by decide +kernel
theorem dX11_length_10 : decode cX11_length 10 = .ok (.iconst 1, 1) := by decide +kernel
theorem dX11_length_11 : decode cX11_length 11 = .ok (.invokestatic 100, 3) := by decide +kernel
theorem dX11_length_14 : decode cX11_length 14 = .ok (.ifCond .eq 10, 3) := by decide +kernel
theorem dX11_length_17 : decode cX11_length 17 = .ok (.iload_n 3, 1) := by decide +kernel
theorem dX11_length_18 : decode cX11_length 18 = .ok (.invokestatic 202, 3) := by decide +kernel
theorem dX11_length_21 : decode cX11_length 21 = .ok (.ifCond .ne 7, 3) := by decide +kernel
theorem dX11_length_24 : decode cX11_length 24 = .ok (.ldc2_w 205, 3) := by decide +kernel
theorem dX11_length_27 : decode cX11_length 27 = .ok (.lreturn, 1) := by decide +kernel
theorem dX11_length_28 : decode cX11_length 28 = .ok (.aload_n 0, 1) := by decide +kernel
theorem dX11_length_29 : decode cX11_length 29 = .ok (.iload_n 1, 1) := by decide +kernel
theorem dX11_length_30 : decode cX11_length 30 = .ok (.invokevirtual 207, 3) := by decide +kernel
theorem dX11_length_33 : decode cX11_length 33 = .ok (.aload_n 0, 1) := by decide +kernel
theorem dX11_length_34 : decode cX11_length 34 = .ok (.getfield 51, 3) := by decide +kernel
theorem dX11_length_37 : decode cX11_length 37 = .ok (.getfield 211, 3) := by decide +kernel
theorem dX11_length_40 : decode cX11_length 40 = .ok (.getfield 218, 3) := by decide +kernel
theorem dX11_length_43 : decode cX11_length 43 = .ok (.lconst 0, 1) := by decide +kernel
theorem dX11_length_44 : decode cX11_length 44 = .ok (.lcmp, 1) := by decide +kernel
theorem dX11_length_45 : decode cX11_length 45 = .ok (.ifCond .ne 7, 3) := by decide +kernel
theorem dX11_length_48 : decode cX11_length 48 = .ok (.ldc2_w 205, 3) := by decide +kernel
theorem dX11_length_51 : decode cX11_length 51 = .ok (.lreturn, 1) := by decide +kernel
theorem dX11_length_52 : decode cX11_length 52 = .ok (.aload_n 0, 1) := by decide +kernel
theorem dX11_length_53 : decode cX11_length 53 = .ok (.getfield 51, 3) := by decide +kernel
theorem dX11_length_56 : decode cX11_length 56 = .ok (.aload_n 0, 1) := by decide +kernel
theorem dX11_length_57 : decode cX11_length 57 = .ok (.getfield 24, 3) := by decide +kernel
theorem dX11_length_60 : decode cX11_length 60 = .ok (.getfield 222, 3) := by decide +kernel
theorem dX11_length_63 : decode cX11_length 63 = .ok (.invokevirtual 225, 3) := by decide +kernel
theorem dX11_length_66 : decode cX11_length 66 = .ok (.iload_n 2, 1) := by decide +kernel
theorem dX11_length_67 : decode cX11_length 67 = .ok (.ifCond .ne 15, 3) := by decide +kernel
theorem dX11_length_70 : decode cX11_length 70 = .ok (.aload_n 0, 1) := by decide +kernel
theorem dX11_length_71 : decode cX11_length 71 = .ok (.getfield 51, 3) := by decide +kernel
theorem dX11_length_74 : decode cX11_length 74 = .ok (.getfield 228, 3) := by decide +kernel
theorem dX11_length_77 : decode cX11_length 77 = .ok (.iload_n 3, 1) := by decide +kernel
theorem dX11_length_78 : decode cX11_length 78 = .ok (.invokevirtual 214, 3) := by decide +kernel
theorem dX11_length_81 : decode cX11_length 81 = .ok (.lreturn, 1) := by decide +kernel
theorem dX11_length_82 : decode cX11_length 82 = .ok (.aload_n 0, 1) := by decide +kernel
theorem dX11_length_83 : decode cX11_length 83 = .ok (.getfield 51, 3) := by decide +kernel
theorem dX11_length_86 : decode cX11_length 86 = .ok (.aload_n 0, 1) := by decide +kernel
theorem dX11_length_87 : decode cX11_length 87 = .ok (.getfield 24, 3) := by decide +kernel
theorem dX11_length_90 : decode cX11_length 90 = .ok (.getfield 222, 3) := by decide +kernel
theorem dX11_length_93 : decode cX11_length 93 = .ok (.invokevirtual 231, 3) := by decide +kernel
theorem dX11_length_96 : decode cX11_length 96 = .ok (.aload_n 0, 1) := by decide +kernel
theorem dX11_length_97 : decode cX11_length 97 = .ok (.getfield 51, 3) := by decide +kernel
theorem dX11_length_100 : decode cX11_length 100 = .ok (.getfield 234, 3) := by decide +kernel
theorem dX11_length_103 : decode cX11_length 103 = .ok (.iload_n 3, 1) := by decide +kernel
theorem dX11_length_104 : decode cX11_length 104 = .ok (.invokevirtual 214, 3) := by decide +kernel
theorem dX11_length_107 : decode cX11_length 107 = .ok (.lreturn, 1) := by decide +kernel
theorem dX11_surplus_0 : decode cX11_surplus 0 = .ok (.iload_n 1, 1) := by decide +kernel
theorem dX11_surplus_1 : decode cX11_surplus 1 = .ok (.invokestatic 202, 3) := by decide +kernel
theorem dX11_surplus_4 : decode cX11_surplus 4 = .ok (.ifCond .ne 7, 3) := by decide +kernel
theorem dX11_surplus_7 : decode cX11_surplus 7 = .ok (.ldc2_w 205, 3) := by decide +kernel
theorem dX11_surplus_10 : decode cX11_surplus 10 = .ok (.lreturn, 1) := by decide +kernel
theorem dX11_surplus_11 : decode cX11_surplus 11 = .ok (.aload_n 0, 1) := by decide +kernel
theorem dX11_surplus_12 : decode cX11_surplus 12 = .ok (.bipush (-2), 2) := by decide +kernel
theorem dX11_surplus_14 : decode cX11_surplus 14 = .ok (.invokevirtual 207, 3) := by decide +kernel
theorem dX11_surplus_17 : decode cX11_surplus 17 = .ok (.aload_n 0, 1) := by decide +kernel
theorem dX11_surplus_18 : decode cX11_surplus 18 = .ok (.getfield 58, 3) := by decide +kernel
theorem dX11_surplus_21 : decode cX11_surplus 21 = .ok (.aload_n 0, 1) := by decide +kernel
theorem dX11_surplus_22 : decode cX11_surplus 22 = .ok (.getfield 51, 3) := by decide +kernel
theorem dX11_surplus_25 : decode cX11_surplus 25 = .ok (.getfield 211, 3) := by decide +kernel
theorem dX11_surplus_28 : decode cX11_surplus 28 = .ok (.invokevirtual 237, 3) := by decide +kernel
theorem dX11_surplus_31 : decode cX11_surplus 31 = .ok (.aload_n 0, 1) := by decide +kernel
theorem dX11_surplus_32 : decode cX11_surplus 32 = .ok (.iconst (-1), 1) := by decide +kernel
theorem dX11_surplus_33 : decode cX11_surplus 33 = .ok (.invokevirtual 207, 3) := by decide +kernel
theorem dX11_surplus_36 : decode cX11_surplus 36 = .ok (.aload_n 0, 1) := by decide +kernel
theorem dX11_surplus_37 : decode cX11_surplus 37 = .ok (.getfield 51, 3) := by decide +kernel
theorem dX11_surplus_40 : decode cX11_surplus 40 = .ok (.getfield 211, 3) := by decide +kernel
theorem dX11_surplus_43 : decode cX11_surplus 43 = .ok (.invokevirtual 241, 3) := by decide +kernel
theorem dX11_surplus_46 : decode cX11_surplus 46 = .ok (.aload_n 0, 1) := by decide +kernel
theorem dX11_surplus_47 : decode cX11_surplus 47 = .ok (.getfield 58, 3) := by decide +kernel
theorem dX11_surplus_50 : decode cX11_surplus 50 = .ok (.aload_n 0, 1) := by decide +kernel
theorem dX11_surplus_51 : decode cX11_surplus 51 = .ok (.getfield 51, 3) := by decide +kernel
theorem dX11_surplus_54 : decode cX11_surplus 54 = .ok (.getfield 211, 3) := by decide +kernel
theorem dX11_surplus_57 : decode cX11_surplus 57 = .ok (.invokevirtual 244, 3) := by decide +kernel
theorem dX11_surplus_60 : decode cX11_surplus 60 = .ok (.aload_n 0, 1) := by decide +kernel
theorem dX11_surplus_61 : decode cX11_surplus 61 = .ok (.getfield 58, 3) := by decide +kernel
theorem dX11_surplus_64 : decode cX11_surplus 64 = .ok (.iload_n 1, 1) := by decide +kernel
theorem dX11_surplus_65 : decode cX11_surplus 65 = .ok (.invokevirtual 214, 3) := by decide +kernel
theorem dX11_surplus_68 : decode cX11_surplus 68 = .ok (.lreturn, 1) := by decide +kernel
theorem dX11_least_0 : decode cX11_least 0 = .ok (.aload_n 0, 1) := by decide +kernel
theorem dX11_least_1 : decode cX11_least 1 = .ok (.invokevirtual 247, 3) := by decide +kernel
theorem dX11_least_4 : decode cX11_least 4 = .ok (.aload_n 0, 1) := by decide +kernel
theorem dX11_least_5 : decode cX11_least 5 = .ok (.getfield 250, 3) := by decide +kernel
theorem dX11_least_8 : decode cX11_least 8 = .ok (.ireturn, 1) := by decide +kernel
theorem dX11_amount_0 : decode cX11_amount 0 = .ok (.iload_n 1, 1) := by decide +kernel
theorem dX11_amount_1 : decode cX11_amount 1 = .ok (.iconst (-1), 1) := by decide +kernel
theorem dX11_amount_2 : decode cX11_amount 2 = .ok (.if_icmp .eq 14, 3) := by decide +kernel
theorem dX11_amount_5 : decode cX11_amount 5 = .ok (.aload_n 0, 1) := by decide +kernel
theorem dX11_amount_6 : decode cX11_amount 6 = .ok (.getfield 14, 3) := by decide +kernel
theorem dX11_amount_9 : decode cX11_amount 9 = .ok (.iload_n 1, 1) := by decide +kernel
theorem dX11_amount_10 : decode cX11_amount 10 = .ok (.invokevirtual 161, 3) := by decide +kernel
theorem dX11_amount_13 : decode cX11_amount 13 = .ok (.ifCond .eq 10, 3) := by decide +kernel
theorem dX11_amount_16 : decode cX11_amount 16 = .ok (.iload_n 2, 1) := by decide +kernel
theorem dX11_amount_17 : decode cX11_amount 17 = .ok (.invokestatic 202, 3) := by decide +kernel
theorem dX11_amount_20 : decode cX11_amount 20 = .ok (.ifCond .ne 7, 3) := by decide +kernel
theorem dX11_amount_23 : decode cX11_amount 23 = .ok (.ldc2_w 205, 3) := by decide +kernel
theorem dX11_amount_26 : decode cX11_amount 26 = .ok (.lreturn, 1) := by decide +kernel
theorem dX11_amount_27 : decode cX11_amount 27 = .ok (.aload_n 0, 1) := by decide +kernel
theorem dX11_amount_28 : decode cX11_amount 28 = .ok (.invokevirtual 247, 3) := by decide +kernel
theorem dX11_amount_31 : decode cX11_amount 31 = .ok (.aload_n 0, 1) := by decide +kernel
theorem dX11_amount_32 : decode cX11_amount 32 = .ok (.getfield 250, 3) := by decide +kernel
theorem dX11_amount_35 : decode cX11_amount 35 = .ok (.ifCond .ge 7, 3) := by decide +kernel
theorem dX11_amount_38 : decode cX11_amount 38 = .ok (.ldc2_w 205, 3) := by decide +kernel
theorem dX11_amount_41 : decode cX11_amount 41 = .ok (.lreturn, 1) := by decide +kernel
theorem dX11_amount_42 : decode cX11_amount 42 = .ok (.iload_n 1, 1) := by decide +kernel
theorem dX11_amount_43 : decode cX11_amount 43 = .ok (.iconst (-1), 1) := by decide +kernel
theorem dX11_amount_44 : decode cX11_amount 44 = .ok (.if_icmp .ne 18, 3) := by decide +kernel
theorem dX11_amount_47 : decode cX11_amount 47 = .ok (.aload_n 0, 1) := by decide +kernel
theorem dX11_amount_48 : decode cX11_amount 48 = .ok (.getfield 65, 3) := by decide +kernel
theorem dX11_amount_51 : decode cX11_amount 51 = .ok (.getfield 253, 3) := by decide +kernel
theorem dX11_amount_54 : decode cX11_amount 54 = .ok (.getfield 257, 3) := by decide +kernel
theorem dX11_amount_57 : decode cX11_amount 57 = .ok (.iload_n 2, 1) := by decide +kernel
theorem dX11_amount_58 : decode cX11_amount 58 = .ok (.invokevirtual 214, 3) := by decide +kernel
theorem dX11_amount_61 : decode cX11_amount 61 = .ok (.lreturn, 1) := by decide +kernel
theorem dX11_amount_62 : decode cX11_amount 62 = .ok (.aload_n 0, 1) := by decide +kernel
theorem dX11_amount_63 : decode cX11_amount 63 = .ok (.getfield 65, 3) := by decide +kernel
theorem dX11_amount_66 : decode cX11_amount 66 = .ok (.iload_n 1, 1) := by decide +kernel
theorem dX11_amount_67 : decode cX11_amount 67 = .ok (.aload_n 0, 1) := by decide +kernel
theorem dX11_amount_68 : decode cX11_amount 68 = .ok (.getfield 58, 3) := by decide +kernel
theorem dX11_amount_71 : decode cX11_amount 71 = .ok (.invokevirtual 262, 3) := by decide +kernel
theorem dX11_amount_74 : decode cX11_amount 74 = .ok (.aload_n 0, 1) := by decide +kernel
theorem dX11_amount_75 : decode cX11_amount 75 = .ok (.getfield 58, 3) := by decide +kernel
theorem dX11_amount_78 : decode cX11_amount 78 = .ok (.iload_n 2, 1) := by decide +kernel
theorem dX11_amount_79 : decode cX11_amount 79 = .ok (.invokevirtual 214, 3) := by decide +kernel
theorem dX11_amount_82 : decode cX11_amount 82 = .ok (.lreturn, 1) := by decide +kernel
theorem dX11_proof_0 : decode cX11_proof 0 = .ok (.aload_n 0, 1) := by decide +kernel
theorem dX11_proof_1 : decode cX11_proof 1 = .ok (.invokevirtual 120, 3) := by decide +kernel
theorem dX11_proof_4 : decode cX11_proof 4 = .ok (.aload_n 0, 1) := by decide +kernel
theorem dX11_proof_5 : decode cX11_proof 5 = .ok (.getfield 24, 3) := by decide +kernel
theorem dX11_proof_8 : decode cX11_proof 8 = .ok (.iload_n 1, 1) := by decide +kernel
theorem dX11_proof_9 : decode cX11_proof 9 = .ok (.invokevirtual 123, 3) := by decide +kernel
theorem dX11_proof_12 : decode cX11_proof 12 = .ok (.ifCond .eq 19, 3) := by decide +kernel
theorem dX11_proof_15 : decode cX11_proof 15 = .ok (.iload_n 2, 1) := by decide +kernel
theorem dX11_proof_16 : decode cX11_proof 16 = .ok (.iconst 0, 1) := by decide +kernel
theorem dX11_proof_17 : decode cX11_proof 17 = .ok (.iconst 3, 1) := by decide +kernel
theorem dX11_proof_18 : decode cX11_proof 18 = .ok (.invokestatic 100, 3) := by decide +kernel
theorem dX11_proof_21 : decode cX11_proof 21 = .ok (.ifCond .eq 10, 3) := by decide +kernel
theorem dX11_proof_24 : decode cX11_proof 24 = .ok (.iload_n 3, 1) := by decide +kernel
theorem dX11_proof_25 : decode cX11_proof 25 = .ok (.invokestatic 202, 3) := by decide +kernel
theorem dX11_proof_28 : decode cX11_proof 28 = .ok (.ifCond .ne 7, 3) := by decide +kernel
theorem dX11_proof_31 : decode cX11_proof 31 = .ok (.ldc2_w 205, 3) := by decide +kernel
theorem dX11_proof_34 : decode cX11_proof 34 = .ok (.lreturn, 1) := by decide +kernel
theorem dX11_proof_35 : decode cX11_proof 35 = .ok (.aload_n 0, 1) := by decide +kernel
theorem dX11_proof_36 : decode cX11_proof 36 = .ok (.invokevirtual 247, 3) := by decide +kernel
theorem dX11_proof_39 : decode cX11_proof 39 = .ok (.aload_n 0, 1) := by decide +kernel
theorem dX11_proof_40 : decode cX11_proof 40 = .ok (.getfield 250, 3) := by decide +kernel
theorem dX11_proof_43 : decode cX11_proof 43 = .ok (.ifCond .ge 7, 3) := by decide +kernel
theorem dX11_proof_46 : decode cX11_proof 46 = .ok (.ldc2_w 205, 3) := by decide +kernel
theorem dX11_proof_49 : decode cX11_proof 49 = .ok (.lreturn, 1) := by decide +kernel
theorem dX11_proof_50 : decode cX11_proof 50 = .ok (.iload_n 2, 1) := by decide +kernel
theorem dX11_proof_51 : decode cX11_proof 51 = .ok (.tableswitch 79 0 2 #[25, 43, 61], 25) := by decide +kernel
theorem dX11_proof_76 : decode cX11_proof 76 = .ok (.aload_n 0, 1) := by decide +kernel
theorem dX11_proof_77 : decode cX11_proof 77 = .ok (.getfield 65, 3) := by decide +kernel
theorem dX11_proof_80 : decode cX11_proof 80 = .ok (.bipush 10, 2) := by decide +kernel
theorem dX11_proof_82 : decode cX11_proof 82 = .ok (.iload_n 1, 1) := by decide +kernel
theorem dX11_proof_83 : decode cX11_proof 83 = .ok (.iadd, 1) := by decide +kernel
theorem dX11_proof_84 : decode cX11_proof 84 = .ok (.aload_n 0, 1) := by decide +kernel
theorem dX11_proof_85 : decode cX11_proof 85 = .ok (.getfield 58, 3) := by decide +kernel
theorem dX11_proof_88 : decode cX11_proof 88 = .ok (.invokevirtual 262, 3) := by decide +kernel
theorem dX11_proof_91 : decode cX11_proof 91 = .ok (.goto 55, 3) := by decide +kernel
theorem dX11_proof_94 : decode cX11_proof 94 = .ok (.aload_n 0, 1) := by decide +kernel
theorem dX11_proof_95 : decode cX11_proof 95 = .ok (.getfield 65, 3) := by decide +kernel
theorem dX11_proof_98 : decode cX11_proof 98 = .ok (.bipush 10, 2) := by decide +kernel
theorem dX11_proof_100 : decode cX11_proof 100 = .ok (.iload_n 1, 1) := by decide +kernel
theorem dX11_proof_101 : decode cX11_proof 101 = .ok (.iadd, 1) := by decide +kernel
theorem dX11_proof_102 : decode cX11_proof 102 = .ok (.aload_n 0, 1) := by decide +kernel
theorem dX11_proof_103 : decode cX11_proof 103 = .ok (.getfield 58, 3) := by decide +kernel
theorem dX11_proof_106 : decode cX11_proof 106 = .ok (.invokevirtual 266, 3) := by decide +kernel
theorem dX11_proof_109 : decode cX11_proof 109 = .ok (.goto 37, 3) := by decide +kernel
theorem dX11_proof_112 : decode cX11_proof 112 = .ok (.aload_n 0, 1) := by decide +kernel
theorem dX11_proof_113 : decode cX11_proof 113 = .ok (.getfield 65, 3) := by decide +kernel
theorem dX11_proof_116 : decode cX11_proof 116 = .ok (.bipush 20, 2) := by decide +kernel
theorem dX11_proof_118 : decode cX11_proof 118 = .ok (.iload_n 1, 1) := by decide +kernel
theorem dX11_proof_119 : decode cX11_proof 119 = .ok (.iadd, 1) := by decide +kernel
theorem dX11_proof_120 : decode cX11_proof 120 = .ok (.aload_n 0, 1) := by decide +kernel
theorem dX11_proof_121 : decode cX11_proof 121 = .ok (.getfield 58, 3) := by decide +kernel
theorem dX11_proof_124 : decode cX11_proof 124 = .ok (.invokevirtual 266, 3) := by decide +kernel
theorem dX11_proof_127 : decode cX11_proof 127 = .ok (.goto 19, 3) := by decide +kernel
theorem dX11_proof_130 : decode cX11_proof 130 = .ok (.aload_n 0, 1) := by decide +kernel
theorem dX11_proof_131 : decode cX11_proof 131 = .ok (.getfield 65, 3) := by decide +kernel
theorem dX11_proof_134 : decode cX11_proof 134 = .ok (.iload_n 1, 1) := by decide +kernel
theorem dX11_proof_135 : decode cX11_proof 135 = .ok (.aload_n 0, 1) := by decide +kernel
theorem dX11_proof_136 : decode cX11_proof 136 = .ok (.getfield 24, 3) := by decide +kernel
theorem dX11_proof_139 : decode cX11_proof 139 = .ok (.aload_n 0, 1) := by decide +kernel
theorem dX11_proof_140 : decode cX11_proof 140 = .ok (.getfield 58, 3) := by decide +kernel
theorem dX11_proof_143 : decode cX11_proof 143 = .ok (.invokevirtual 269, 3) := by decide +kernel
theorem dX11_proof_146 : decode cX11_proof 146 = .ok (.aload_n 0, 1) := by decide +kernel
theorem dX11_proof_147 : decode cX11_proof 147 = .ok (.getfield 58, 3) := by decide +kernel
theorem dX11_proof_150 : decode cX11_proof 150 = .ok (.iload_n 3, 1) := by decide +kernel
theorem dX11_proof_151 : decode cX11_proof 151 = .ok (.invokevirtual 214, 3) := by decide +kernel
theorem dX11_proof_154 : decode cX11_proof 154 = .ok (.lreturn, 1) := by decide +kernel
theorem dX11_ladder_0 : decode cX11_ladder 0 = .ok (.iload_n 1, 1) := by decide +kernel
theorem dX11_ladder_1 : decode cX11_ladder 1 = .ok (.invokestatic 189, 3) := by decide +kernel
theorem dX11_ladder_4 : decode cX11_ladder 4 = .ok (.ifCond .eq 26, 3) := by decide +kernel
theorem dX11_ladder_7 : decode cX11_ladder 7 = .ok (.aload_n 0, 1) := by decide +kernel
theorem dX11_ladder_8 : decode cX11_ladder 8 = .ok (.getfield 14, 3) := by decide +kernel
theorem dX11_ladder_11 : decode cX11_ladder 11 = .ok (.iload_n 2, 1) := by decide +kernel
theorem dX11_ladder_12 : decode cX11_ladder 12 = .ok (.invokevirtual 161, 3) := by decide +kernel
theorem dX11_ladder_15 : decode cX11_ladder 15 = .ok (.ifCond .ne 18, 3) := by decide +kernel
theorem dX11_ladder_18 : decode cX11_ladder 18 = .ok (.iload_n 2, 1) := by decide +kernel
theorem dX11_ladder_19 : decode cX11_ladder 19 = .ok (.bipush 10, 2) := by decide +kernel
theorem dX11_ladder_21 : decode cX11_ladder 21 = .ok (.if_icmp .eq 12, 3) := by decide +kernel
theorem dX11_ladder_24 : decode cX11_ladder 24 = .ok (.iload_n 2, 1) := by decide +kernel
theorem dX11_ladder_25 : decode cX11_ladder 25 = .ok (.bipush 11, 2) := by decide +kernel
theorem dX11_ladder_27 : decode cX11_ladder 27 = .ok (.if_icmp .eq 6, 3) := by decide +kernel
theorem dX11_ladder_30 : decode cX11_ladder 30 = .ok (.bipush (-2), 2) := by decide +kernel
theorem dX11_ladder_32 : decode cX11_ladder 32 = .ok (.ireturn, 1) := by decide +kernel
theorem dX11_ladder_33 : decode cX11_ladder 33 = .ok (.aload_n 0, 1) := by decide +kernel
theorem dX11_ladder_34 : decode cX11_ladder 34 = .ok (.invokevirtual 120, 3) := by decide +kernel
theorem dX11_ladder_37 : decode cX11_ladder 37 = .ok (.aload_n 0, 1) := by decide +kernel
theorem dX11_ladder_38 : decode cX11_ladder 38 = .ok (.getfield 72, 3) := by decide +kernel
theorem dX11_ladder_41 : decode cX11_ladder 41 = .ok (.iload_n 1, 1) := by decide +kernel
theorem dX11_ladder_42 : decode cX11_ladder 42 = .ok (.aload_n 0, 1) := by decide +kernel
theorem dX11_ladder_43 : decode cX11_ladder 43 = .ok (.getfield 14, 3) := by decide +kernel
theorem dX11_ladder_46 : decode cX11_ladder 46 = .ok (.aload_n 0, 1) := by decide +kernel
theorem dX11_ladder_47 : decode cX11_ladder 47 = .ok (.getfield 24, 3) := by decide +kernel
theorem dX11_ladder_50 : decode cX11_ladder 50 = .ok (.invokevirtual 192, 3) := by decide +kernel
theorem dX11_ladder_53 : decode cX11_ladder 53 = .ok (.aload_n 0, 1) := by decide +kernel
theorem dX11_ladder_54 : decode cX11_ladder 54 = .ok (.getfield 72, 3) := by decide +kernel
theorem dX11_ladder_57 : decode cX11_ladder 57 = .ok (.aload_n 0, 1) := by decide +kernel
theorem dX11_ladder_58 : decode cX11_ladder 58 = .ok (.getfield 14, 3) := by decide +kernel
theorem dX11_ladder_61 : decode cX11_ladder 61 = .ok (.aload_n 0, 1) := by decide +kernel
theorem dX11_ladder_62 : decode cX11_ladder 62 = .ok (.getfield 24, 3) := by decide +kernel
theorem dX11_ladder_65 : decode cX11_ladder 65 = .ok (.invokevirtual 273, 3) := by decide +kernel
theorem dX11_ladder_68 : decode cX11_ladder 68 = .ok (.iload_n 2, 1) := by decide +kernel
theorem dX11_ladder_69 : decode cX11_ladder 69 = .ok (.bipush 10, 2) := by decide +kernel
theorem dX11_ladder_71 : decode cX11_ladder 71 = .ok (.if_icmp .ne 11, 3) := by decide +kernel
theorem dX11_ladder_74 : decode cX11_ladder 74 = .ok (.aload_n 0, 1) := by decide +kernel
theorem dX11_ladder_75 : decode cX11_ladder 75 = .ok (.getfield 72, 3) := by decide +kernel
theorem dX11_ladder_78 : decode cX11_ladder 78 = .ok (.getfield 277, 3) := by decide +kernel
theorem dX11_ladder_81 : decode cX11_ladder 81 = .ok (.ireturn, 1) := by decide +kernel
theorem dX11_ladder_82 : decode cX11_ladder 82 = .ok (.iload_n 2, 1) := by decide +kernel
theorem dX11_ladder_83 : decode cX11_ladder 83 = .ok (.bipush 11, 2) := by decide +kernel
theorem dX11_ladder_85 : decode cX11_ladder 85 = .ok (.if_icmp .ne 13, 3) := by decide +kernel
theorem dX11_ladder_88 : decode cX11_ladder 88 = .ok (.aload_n 0, 1) := by decide +kernel
theorem dX11_ladder_89 : decode cX11_ladder 89 = .ok (.getfield 72, 3) := by decide +kernel
theorem dX11_ladder_92 : decode cX11_ladder 92 = .ok (.getfield 279, 3) := by decide +kernel
theorem dX11_ladder_95 : decode cX11_ladder 95 = .ok (.goto 12, 3) := by decide +kernel
theorem dX11_ladder_98 : decode cX11_ladder 98 = .ok (.aload_n 0, 1) := by decide +kernel
theorem dX11_ladder_99 : decode cX11_ladder 99 = .ok (.getfield 72, 3) := by decide +kernel
theorem dX11_ladder_102 : decode cX11_ladder 102 = .ok (.getfield 282, 3) := by decide +kernel
theorem dX11_ladder_105 : decode cX11_ladder 105 = .ok (.iload_n 2, 1) := by decide +kernel
theorem dX11_ladder_106 : decode cX11_ladder 106 = .ok (.iaload, 1) := by decide +kernel
theorem dX11_ladder_107 : decode cX11_ladder 107 = .ok (.ireturn, 1) := by decide +kernel
theorem dX11_replay_0 : decode cX11_replay 0 = .ok (.iload_n 1, 1) := by decide +kernel
theorem dX11_replay_1 : decode cX11_replay 1 = .ok (.iconst (-1), 1) := by decide +kernel
theorem dX11_replay_2 : decode cX11_replay 2 = .ok (.if_icmp .eq 10, 3) := by decide +kernel
theorem dX11_replay_5 : decode cX11_replay 5 = .ok (.iload_n 1, 1) := by decide +kernel
theorem dX11_replay_6 : decode cX11_replay 6 = .ok (.invokestatic 285, 3) := by decide +kernel
theorem dX11_replay_9 : decode cX11_replay 9 = .ok (.ifCond .eq 10, 3) := by decide +kernel
theorem dX11_replay_12 : decode cX11_replay 12 = .ok (.iload_n 2, 1) := by decide +kernel
theorem dX11_replay_13 : decode cX11_replay 13 = .ok (.invokestatic 288, 3) := by decide +kernel
theorem dX11_replay_16 : decode cX11_replay 16 = .ok (.ifCond .ne 6, 3) := by decide +kernel
theorem dX11_replay_19 : decode cX11_replay 19 = .ok (.bipush (-2), 2) := by decide +kernel
theorem dX11_replay_21 : decode cX11_replay 21 = .ok (.ireturn, 1) := by decide +kernel
theorem dX11_replay_22 : decode cX11_replay 22 = .ok (.aload_n 0, 1) := by decide +kernel
theorem dX11_replay_23 : decode cX11_replay 23 = .ok (.getfield 39, 3) := by decide +kernel
theorem dX11_replay_26 : decode cX11_replay 26 = .ok (.iconst (-1), 1) := by decide +kernel
theorem dX11_replay_27 : decode cX11_replay 27 = .ok (.invokestatic 89, 3) := by decide +kernel
theorem dX11_replay_30 : decode cX11_replay 30 = .ok (.iload_n 1, 1) := by decide +kernel
theorem dX11_replay_31 : decode cX11_replay 31 = .ok (.iconst (-1), 1) := by decide +kernel
theorem dX11_replay_32 : decode cX11_replay 32 = .ok (.if_icmp .eq 34, 3) := by decide +kernel
theorem dX11_replay_35 : decode cX11_replay 35 = .ok (.aload_n 0, 1) := by decide +kernel
theorem dX11_replay_36 : decode cX11_replay 36 = .ok (.getfield 85, 3) := by decide +kernel
theorem dX11_replay_39 : decode cX11_replay 39 = .ok (.iload_n 1, 1) := by decide +kernel
theorem dX11_replay_40 : decode cX11_replay 40 = .ok (.aaload, 1) := by decide +kernel
theorem dX11_replay_41 : decode cX11_replay 41 = .ok (.invokevirtual 291, 3) := by decide +kernel
theorem dX11_replay_44 : decode cX11_replay 44 = .ok (.ifCond .eq 6, 3) := by decide +kernel
theorem dX11_replay_47 : decode cX11_replay 47 = .ok (.bipush (-11), 2) := by decide +kernel
theorem dX11_replay_49 : decode cX11_replay 49 = .ok (.ireturn, 1) := by decide +kernel
theorem dX11_replay_50 : decode cX11_replay 50 = .ok (.aload_n 0, 1) := by decide +kernel
theorem dX11_replay_51 : decode cX11_replay 51 = .ok (.aload_n 0, 1) := by decide +kernel
theorem dX11_replay_52 : decode cX11_replay 52 = .ok (.getfield 85, 3) := by decide +kernel
theorem dX11_replay_55 : decode cX11_replay 55 = .ok (.iload_n 1, 1) := by decide +kernel
theorem dX11_replay_56 : decode cX11_replay 56 = .ok (.aaload, 1) := by decide +kernel
theorem dX11_replay_57 : decode cX11_replay 57 = .ok (.invokevirtual 295, 3) := by decide +kernel
theorem dX11_replay_60 : decode cX11_replay 60 = .ok (.ifCond .ne 6, 3) := by decide +kernel
theorem dX11_replay_63 : decode cX11_replay 63 = .ok (.bipush (-2), 2) := by decide +kernel
theorem dX11_replay_65 : decode cX11_replay 65 = .ok (.ireturn, 1) := by decide +kernel
theorem dX11_replay_66 : decode cX11_replay 66 = .ok (.aload_n 0, 1) := by decide +kernel
theorem dX11_replay_67 : decode cX11_replay 67 = .ok (.invokevirtual 120, 3) := by decide +kernel
theorem dX11_replay_70 : decode cX11_replay 70 = .ok (.iload_n 2, 1) := by decide +kernel
theorem dX11_replay_71 : decode cX11_replay 71 = .ok (.bipush 20, 2) := by decide +kernel
theorem dX11_replay_73 : decode cX11_replay 73 = .ok (.if_icmp .ge 20, 3) := by decide +kernel
theorem dX11_replay_76 : decode cX11_replay 76 = .ok (.aload_n 0, 1) := by decide +kernel
theorem dX11_replay_77 : decode cX11_replay 77 = .ok (.getfield 24, 3) := by decide +kernel
theorem dX11_replay_80 : decode cX11_replay 80 = .ok (.iload_n 2, 1) := by decide +kernel
theorem dX11_replay_81 : decode cX11_replay 81 = .ok (.bipush 10, 2) := by decide +kernel
theorem dX11_replay_83 : decode cX11_replay 83 = .ok (.irem, 1) := by decide +kernel
theorem dX11_replay_84 : decode cX11_replay 84 = .ok (.invokevirtual 123, 3) := by decide +kernel
theorem dX11_replay_87 : decode cX11_replay 87 = .ok (.ifCond .ne 6, 3) := by decide +kernel
theorem dX11_replay_90 : decode cX11_replay 90 = .ok (.bipush (-12), 2) := by decide +kernel
theorem dX11_replay_92 : decode cX11_replay 92 = .ok (.ireturn, 1) := by decide +kernel
theorem dX11_replay_93 : decode cX11_replay 93 = .ok (.aload_n 0, 1) := by decide +kernel
theorem dX11_replay_94 : decode cX11_replay 94 = .ok (.aload_n 0, 1) := by decide +kernel
theorem dX11_replay_95 : decode cX11_replay 95 = .ok (.getfield 39, 3) := by decide +kernel
theorem dX11_replay_98 : decode cX11_replay 98 = .ok (.invokevirtual 299, 3) := by decide +kernel
theorem dX11_replay_101 : decode cX11_replay 101 = .ok (.aload_n 0, 1) := by decide +kernel
theorem dX11_replay_102 : decode cX11_replay 102 = .ok (.getfield 79, 3) := by decide +kernel
theorem dX11_replay_105 : decode cX11_replay 105 = .ok (.iload_n 2, 1) := by decide +kernel
theorem dX11_replay_106 : decode cX11_replay 106 = .ok (.invokevirtual 303, 3) := by decide +kernel
theorem dX11_replay_109 : decode cX11_replay 109 = .ok (.l2i, 1) := by decide +kernel
theorem dX11_replay_110 : decode cX11_replay 110 = .ok (.ireturn, 1) := by decide +kernel
theorem dX11_worst_0 : decode cX11_worst 0 = .ok (.iload_n 1, 1) := by decide +kernel
theorem dX11_worst_1 : decode cX11_worst 1 = .ok (.iconst 0, 1) := by decide +kernel
theorem dX11_worst_2 : decode cX11_worst 2 = .ok (.iconst 1, 1) := by decide +kernel
theorem dX11_worst_3 : decode cX11_worst 3 = .ok (.invokestatic 100, 3) := by decide +kernel
theorem dX11_worst_6 : decode cX11_worst 6 = .ok (.ifCond .ne 6, 3) := by decide +kernel
theorem dX11_worst_9 : decode cX11_worst 9 = .ok (.bipush (-2), 2) := by decide +kernel
theorem dX11_worst_11 : decode cX11_worst 11 = .ok (.ireturn, 1) := by decide +kernel
theorem dX11_worst_12 : decode cX11_worst 12 = .ok (.aload_n 0, 1) := by decide +kernel
theorem dX11_worst_13 : decode cX11_worst 13 = .ok (.invokevirtual 120, 3) := by decide +kernel
theorem dX11_worst_16 : decode cX11_worst 16 = .ok (.iconst (-1), 1) := by decide +kernel
theorem dX11_worst_17 : decode cX11_worst 17 = .ok (.istore_n 2, 1) := by decide +kernel
theorem dX11_worst_18 : decode cX11_worst 18 = .ok (.lconst 0, 1) := by decide +kernel
theorem dX11_worst_19 : decode cX11_worst 19 = .ok (.lstore_n 3, 1) := by decide +kernel
theorem dX11_worst_20 : decode cX11_worst 20 = .ok (.iconst 0, 1) := by decide +kernel
theorem dX11_worst_21 : decode cX11_worst 21 = .ok (.istore 5, 2) := by decide +kernel
theorem dX11_worst_23 : decode cX11_worst 23 = .ok (.iload 5, 2) := by decide +kernel
theorem dX11_worst_25 : decode cX11_worst 25 = .ok (.aload_n 0, 1) := by decide +kernel
theorem dX11_worst_26 : decode cX11_worst 26 = .ok (.getfield 24, 3) := by decide +kernel
theorem dX11_worst_29 : decode cX11_worst 29 = .ok (.getfield 222, 3) := by decide +kernel
theorem dX11_worst_32 : decode cX11_worst 32 = .ok (.if_icmp .ge 62, 3) := by decide +kernel
theorem dX11_worst_35 : decode cX11_worst 35 = .ok (.aload_n 0, 1) := by decide +kernel
theorem dX11_worst_36 : decode cX11_worst 36 = .ok (.getfield 39, 3) := by decide +kernel
theorem dX11_worst_39 : decode cX11_worst 39 = .ok (.iconst (-1), 1) := by decide +kernel
theorem dX11_worst_40 : decode cX11_worst 40 = .ok (.invokestatic 89, 3) := by decide +kernel
theorem dX11_worst_43 : decode cX11_worst 43 = .ok (.aload_n 0, 1) := by decide +kernel
theorem dX11_worst_44 : decode cX11_worst 44 = .ok (.getfield 39, 3) := by decide +kernel
theorem dX11_worst_47 : decode cX11_worst 47 = .ok (.iload 5, 2) := by decide +kernel
theorem dX11_worst_49 : decode cX11_worst 49 = .ok (.bipush 9, 2) := by decide +kernel
theorem dX11_worst_51 : decode cX11_worst 51 = .ok (.iastore, 1) := by decide +kernel
theorem dX11_worst_52 : decode cX11_worst 52 = .ok (.aload_n 0, 1) := by decide +kernel
theorem dX11_worst_53 : decode cX11_worst 53 = .ok (.aload_n 0, 1) := by decide +kernel
theorem dX11_worst_54 : decode cX11_worst 54 = .ok (.getfield 39, 3) := by decide +kernel
theorem dX11_worst_57 : decode cX11_worst 57 = .ok (.invokevirtual 299, 3) := by decide +kernel
theorem dX11_worst_60 : decode cX11_worst 60 = .ok (.iload_n 2, 1) := by decide +kernel
theorem dX11_worst_61 : decode cX11_worst 61 = .ok (.iconst (-1), 1) := by decide +kernel
theorem dX11_worst_62 : decode cX11_worst 62 = .ok (.if_icmp .eq 15, 3) := by decide +kernel
theorem dX11_worst_65 : decode cX11_worst 65 = .ok (.aload_n 0, 1) := by decide +kernel
theorem dX11_worst_66 : decode cX11_worst 66 = .ok (.getfield 79, 3) := by decide +kernel
theorem dX11_worst_69 : decode cX11_worst 69 = .ok (.getfield 305, 3) := by decide +kernel
theorem dX11_worst_72 : decode cX11_worst 72 = .ok (.lload_n 3, 1) := by decide +kernel
theorem dX11_worst_73 : decode cX11_worst 73 = .ok (.lcmp, 1) := by decide +kernel
theorem dX11_worst_74 : decode cX11_worst 74 = .ok (.ifCond .le 14, 3) := by decide +kernel
theorem dX11_worst_77 : decode cX11_worst 77 = .ok (.iload 5, 2) := by decide +kernel
theorem dX11_worst_79 : decode cX11_worst 79 = .ok (.istore_n 2, 1) := by decide +kernel
theorem dX11_worst_80 : decode cX11_worst 80 = .ok (.aload_n 0, 1) := by decide +kernel
theorem dX11_worst_81 : decode cX11_worst 81 = .ok (.getfield 79, 3) := by decide +kernel
theorem dX11_worst_84 : decode cX11_worst 84 = .ok (.getfield 305, 3) := by decide +kernel
theorem dX11_worst_87 : decode cX11_worst 87 = .ok (.lstore_n 3, 1) := by decide +kernel
theorem dX11_worst_88 : decode cX11_worst 88 = .ok (.iinc 5 1, 3) := by decide +kernel
theorem dX11_worst_91 : decode cX11_worst 91 = .ok (.goto (-68), 3) := by decide +kernel
theorem dX11_worst_94 : decode cX11_worst 94 = .ok (.iload_n 1, 1) := by decide +kernel
theorem dX11_worst_95 : decode cX11_worst 95 = .ok (.ifCond .ne 7, 3) := by decide +kernel
theorem dX11_worst_98 : decode cX11_worst 98 = .ok (.iload_n 2, 1) := by decide +kernel
theorem dX11_worst_99 : decode cX11_worst 99 = .ok (.goto 5, 3) := by decide +kernel
theorem dX11_worst_102 : decode cX11_worst 102 = .ok (.lload_n 3, 1) := by decide +kernel
theorem dX11_worst_103 : decode cX11_worst 103 = .ok (.l2i, 1) := by decide +kernel
theorem dX11_worst_104 : decode cX11_worst 104 = .ok (.ireturn, 1) := by decide +kernel
theorem dX11_drawn_0 : decode cX11_drawn 0 = .ok (.aload_n 0, 1) := by decide +kernel
theorem dX11_drawn_1 : decode cX11_drawn 1 = .ok (.iload_n 1, 1) := by decide +kernel
theorem dX11_drawn_2 : decode cX11_drawn 2 = .ok (.invokevirtual 308, 3) := by decide +kernel
theorem dX11_drawn_5 : decode cX11_drawn 5 = .ok (.l2i, 1) := by decide +kernel
theorem dX11_drawn_6 : decode cX11_drawn 6 = .ok (.ireturn, 1) := by decide +kernel
theorem dX11_chance_0 : decode cX11_chance 0 = .ok (.iload_n 2, 1) := by decide +kernel
theorem dX11_chance_1 : decode cX11_chance 1 = .ok (.iconst 1, 1) := by decide +kernel
theorem dX11_chance_2 : decode cX11_chance 2 = .ok (.bipush 20, 2) := by decide +kernel
theorem dX11_chance_4 : decode cX11_chance 4 = .ok (.invokestatic 100, 3) := by decide +kernel
theorem dX11_chance_7 : decode cX11_chance 7 = .ok (.ifCond .eq 10, 3) := by decide +kernel
theorem dX11_chance_10 : decode cX11_chance 10 = .ok (.iload_n 3, 1) := by decide +kernel
theorem dX11_chance_11 : decode cX11_chance 11 = .ok (.invokestatic 202, 3) := by decide +kernel
theorem dX11_chance_14 : decode cX11_chance 14 = .ok (.ifCond .ne 6, 3) := by decide +kernel
theorem dX11_chance_17 : decode cX11_chance 17 = .ok (.bipush (-2), 2) := by decide +kernel
theorem dX11_chance_19 : decode cX11_chance 19 = .ok (.ireturn, 1) := by decide +kernel
theorem dX11_chance_20 : decode cX11_chance 20 = .ok (.iconst 0, 1) := by decide +kernel
theorem dX11_chance_21 : decode cX11_chance 21 = .ok (.istore 4, 2) := by decide +kernel
theorem dX11_chance_23 : decode cX11_chance 23 = .ok (.iconst 0, 1) := by decide +kernel
theorem dX11_chance_24 : decode cX11_chance 24 = .ok (.istore 5, 2) := by decide +kernel
theorem dX11_chance_26 : decode cX11_chance 26 = .ok (.iload 5, 2) := by decide +kernel
theorem dX11_chance_28 : decode cX11_chance 28 = .ok (.iload_n 2, 1) := by decide +kernel
theorem dX11_chance_29 : decode cX11_chance 29 = .ok (.if_icmp .ge 25, 3) := by decide +kernel
theorem dX11_chance_32 : decode cX11_chance 32 = .ok (.aload_n 0, 1) := by decide +kernel
theorem dX11_chance_33 : decode cX11_chance 33 = .ok (.iload_n 1, 1) := by decide +kernel
theorem dX11_chance_34 : decode cX11_chance 34 = .ok (.iload 5, 2) := by decide +kernel
theorem dX11_chance_36 : decode cX11_chance 36 = .ok (.iadd, 1) := by decide +kernel
theorem dX11_chance_37 : decode cX11_chance 37 = .ok (.invokevirtual 308, 3) := by decide +kernel
theorem dX11_chance_40 : decode cX11_chance 40 = .ok (.lconst 0, 1) := by decide +kernel
theorem dX11_chance_41 : decode cX11_chance 41 = .ok (.lcmp, 1) := by decide +kernel
theorem dX11_chance_42 : decode cX11_chance 42 = .ok (.ifCond .ne 6, 3) := by decide +kernel
theorem dX11_chance_45 : decode cX11_chance 45 = .ok (.iinc 4 1, 3) := by decide +kernel
theorem dX11_chance_48 : decode cX11_chance 48 = .ok (.iinc 5 1, 3) := by decide +kernel
theorem dX11_chance_51 : decode cX11_chance 51 = .ok (.goto (-25), 3) := by decide +kernel
theorem dX11_chance_54 : decode cX11_chance 54 = .ok (.aload_n 0, 1) := by decide +kernel
theorem dX11_chance_55 : decode cX11_chance 55 = .ok (.getfield 58, 3) := by decide +kernel
theorem dX11_chance_58 : decode cX11_chance 58 = .ok (.iload 4, 2) := by decide +kernel
theorem dX11_chance_60 : decode cX11_chance 60 = .ok (.i2l, 1) := by decide +kernel
theorem dX11_chance_61 : decode cX11_chance 61 = .ok (.iload_n 2, 1) := by decide +kernel
theorem dX11_chance_62 : decode cX11_chance 62 = .ok (.i2l, 1) := by decide +kernel
theorem dX11_chance_63 : decode cX11_chance 63 = .ok (.invokevirtual 311, 3) := by decide +kernel
theorem dX11_chance_66 : decode cX11_chance 66 = .ok (.aload_n 0, 1) := by decide +kernel
theorem dX11_chance_67 : decode cX11_chance 67 = .ok (.getfield 58, 3) := by decide +kernel
theorem dX11_chance_70 : decode cX11_chance 70 = .ok (.iload_n 3, 1) := by decide +kernel
theorem dX11_chance_71 : decode cX11_chance 71 = .ok (.invokevirtual 214, 3) := by decide +kernel
theorem dX11_chance_74 : decode cX11_chance 74 = .ok (.l2i, 1) := by decide +kernel
theorem dX11_chance_75 : decode cX11_chance 75 = .ok (.ireturn, 1) := by decide +kernel
theorem dX11_tells_0 : decode cX11_tells 0 = .ok (.iload_n 1, 1) := by decide +kernel
theorem dX11_tells_1 : decode cX11_tells 1 = .ok (.invokestatic 285, 3) := by decide +kernel
theorem dX11_tells_4 : decode cX11_tells 4 = .ok (.ifCond .eq 27, 3) := by decide +kernel
theorem dX11_tells_7 : decode cX11_tells 7 = .ok (.iload_n 2, 1) := by decide +kernel
theorem dX11_tells_8 : decode cX11_tells 8 = .ok (.iconst 0, 1) := by decide +kernel
theorem dX11_tells_9 : decode cX11_tells 9 = .ok (.iconst 2, 1) := by decide +kernel
theorem dX11_tells_10 : decode cX11_tells 10 = .ok (.invokestatic 100, 3) := by decide +kernel
theorem dX11_tells_13 : decode cX11_tells 13 = .ok (.ifCond .eq 18, 3) := by decide +kernel
theorem dX11_tells_16 : decode cX11_tells 16 = .ok (.iload_n 2, 1) := by decide +kernel
theorem dX11_tells_17 : decode cX11_tells 17 = .ok (.ifCond .eq 17, 3) := by decide +kernel
theorem dX11_tells_20 : decode cX11_tells 20 = .ok (.aload_n 0, 1) := by decide +kernel
theorem dX11_tells_21 : decode cX11_tells 21 = .ok (.getfield 14, 3) := by decide +kernel
theorem dX11_tells_24 : decode cX11_tells 24 = .ok (.iload_n 3, 1) := by decide +kernel
theorem dX11_tells_25 : decode cX11_tells 25 = .ok (.invokevirtual 161, 3) := by decide +kernel
theorem dX11_tells_28 : decode cX11_tells 28 = .ok (.ifCond .ne 6, 3) := by decide +kernel
theorem dX11_tells_31 : decode cX11_tells 31 = .ok (.bipush (-2), 2) := by decide +kernel
theorem dX11_tells_33 : decode cX11_tells 33 = .ok (.ireturn, 1) := by decide +kernel
theorem dX11_tells_34 : decode cX11_tells 34 = .ok (.aload_n 0, 1) := by decide +kernel
theorem dX11_tells_35 : decode cX11_tells 35 = .ok (.getfield 85, 3) := by decide +kernel
theorem dX11_tells_38 : decode cX11_tells 38 = .ok (.iload_n 1, 1) := by decide +kernel
theorem dX11_tells_39 : decode cX11_tells 39 = .ok (.aaload, 1) := by decide +kernel
theorem dX11_tells_40 : decode cX11_tells 40 = .ok (.astore 4, 2) := by decide +kernel
theorem dX11_tells_42 : decode cX11_tells 42 = .ok (.aload 4, 2) := by decide +kernel
theorem dX11_tells_44 : decode cX11_tells 44 = .ok (.invokevirtual 291, 3) := by decide +kernel
theorem dX11_tells_47 : decode cX11_tells 47 = .ok (.ifCond .eq 6, 3) := by decide +kernel
theorem dX11_tells_50 : decode cX11_tells 50 = .ok (.bipush (-11), 2) := by decide +kernel
theorem dX11_tells_52 : decode cX11_tells 52 = .ok (.ireturn, 1) := by decide +kernel
theorem dX11_tells_53 : decode cX11_tells 53 = .ok (.aload 4, 2) := by decide +kernel
theorem dX11_tells_55 : decode cX11_tells 55 = .ok (.getfield 314, 3) := by decide +kernel
theorem dX11_tells_58 : decode cX11_tells 58 = .ok (.iconst 5, 1) := by decide +kernel
theorem dX11_tells_59 : decode cX11_tells 59 = .ok (.if_icmp .le 6, 3) := by decide +kernel
theorem dX11_tells_62 : decode cX11_tells 62 = .ok (.bipush (-2), 2) := by decide +kernel
theorem dX11_tells_64 : decode cX11_tells 64 = .ok (.ireturn, 1) := by decide +kernel
theorem dX11_tells_65 : decode cX11_tells 65 = .ok (.aload_n 0, 1) := by decide +kernel
theorem dX11_tells_66 : decode cX11_tells 66 = .ok (.invokevirtual 120, 3) := by decide +kernel
theorem dX11_tells_69 : decode cX11_tells 69 = .ok (.aload_n 0, 1) := by decide +kernel
theorem dX11_tells_70 : decode cX11_tells 70 = .ok (.invokevirtual 317, 3) := by decide +kernel
theorem dX11_tells_73 : decode cX11_tells 73 = .ok (.iload_n 2, 1) := by decide +kernel
theorem dX11_tells_74 : decode cX11_tells 74 = .ok (.ifCond .ne 28, 3) := by decide +kernel
theorem dX11_tells_77 : decode cX11_tells 77 = .ok (.aload_n 0, 1) := by decide +kernel
theorem dX11_tells_78 : decode cX11_tells 78 = .ok (.getfield 79, 3) := by decide +kernel
theorem dX11_tells_81 : decode cX11_tells 81 = .ok (.aload_n 0, 1) := by decide +kernel
theorem dX11_tells_82 : decode cX11_tells 82 = .ok (.getfield 24, 3) := by decide +kernel
theorem dX11_tells_85 : decode cX11_tells 85 = .ok (.aload_n 0, 1) := by decide +kernel
theorem dX11_tells_86 : decode cX11_tells 86 = .ok (.getfield 42, 3) := by decide +kernel
theorem dX11_tells_89 : decode cX11_tells 89 = .ok (.invokevirtual 320, 3) := by decide +kernel
theorem dX11_tells_92 : decode cX11_tells 92 = .ok (.aload_n 0, 1) := by decide +kernel
theorem dX11_tells_93 : decode cX11_tells 93 = .ok (.getfield 79, 3) := by decide +kernel
theorem dX11_tells_96 : decode cX11_tells 96 = .ok (.aload 4, 2) := by decide +kernel
theorem dX11_tells_98 : decode cX11_tells 98 = .ok (.invokevirtual 324, 3) := by decide +kernel
theorem dX11_tells_101 : decode cX11_tells 101 = .ok (.ireturn, 1) := by decide +kernel
theorem dX11_tells_102 : decode cX11_tells 102 = .ok (.iconst 0, 1) := by decide +kernel
theorem dX11_tells_103 : decode cX11_tells 103 = .ok (.istore 5, 2) := by decide +kernel
theorem dX11_tells_105 : decode cX11_tells 105 = .ok (.iconst (-1), 1) := by decide +kernel
theorem dX11_tells_106 : decode cX11_tells 106 = .ok (.istore 6, 2) := by decide +kernel
theorem dX11_tells_108 : decode cX11_tells 108 = .ok (.iconst 0, 1) := by decide +kernel
theorem dX11_tells_109 : decode cX11_tells 109 = .ok (.istore 7, 2) := by decide +kernel
theorem dX11_tells_111 : decode cX11_tells 111 = .ok (.iload 7, 2) := by decide +kernel
theorem dX11_tells_113 : decode cX11_tells 113 = .ok (.bipush 99, 2) := by decide +kernel
theorem dX11_tells_115 : decode cX11_tells 115 = .ok (.if_icmp .gt 63, 3) := by decide +kernel
theorem dX11_tells_118 : decode cX11_tells 118 = .ok (.aload_n 0, 1) := by decide +kernel
theorem dX11_tells_119 : decode cX11_tells 119 = .ok (.getfield 42, 3) := by decide +kernel
theorem dX11_tells_122 : decode cX11_tells 122 = .ok (.iload_n 3, 1) := by decide +kernel
theorem dX11_tells_123 : decode cX11_tells 123 = .ok (.iload 7, 2) := by decide +kernel
theorem dX11_tells_125 : decode cX11_tells 125 = .ok (.iastore, 1) := by decide +kernel
theorem dX11_tells_126 : decode cX11_tells 126 = .ok (.aload_n 0, 1) := by decide +kernel
theorem dX11_tells_127 : decode cX11_tells 127 = .ok (.getfield 79, 3) := by decide +kernel
theorem dX11_tells_130 : decode cX11_tells 130 = .ok (.aload_n 0, 1) := by decide +kernel
theorem dX11_tells_131 : decode cX11_tells 131 = .ok (.getfield 24, 3) := by decide +kernel
theorem dX11_tells_134 : decode cX11_tells 134 = .ok (.aload_n 0, 1) := by decide +kernel
theorem dX11_tells_135 : decode cX11_tells 135 = .ok (.getfield 42, 3) := by decide +kernel
theorem dX11_tells_138 : decode cX11_tells 138 = .ok (.invokevirtual 320, 3) := by decide +kernel
theorem dX11_tells_141 : decode cX11_tells 141 = .ok (.aload_n 0, 1) := by decide +kernel
theorem dX11_tells_142 : decode cX11_tells 142 = .ok (.getfield 79, 3) := by decide +kernel
theorem dX11_tells_145 : decode cX11_tells 145 = .ok (.aload 4, 2) := by decide +kernel
theorem dX11_tells_147 : decode cX11_tells 147 = .ok (.invokevirtual 324, 3) := by decide +kernel
theorem dX11_tells_150 : decode cX11_tells 150 = .ok (.iconst (-1), 1) := by decide +kernel
theorem dX11_tells_151 : decode cX11_tells 151 = .ok (.if_icmp .ne 21, 3) := by decide +kernel
theorem dX11_tells_154 : decode cX11_tells 154 = .ok (.iinc 5 1, 3) := by decide +kernel
theorem dX11_tells_157 : decode cX11_tells 157 = .ok (.iload 6, 2) := by decide +kernel
theorem dX11_tells_159 : decode cX11_tells 159 = .ok (.iconst (-1), 1) := by decide +kernel
theorem dX11_tells_160 : decode cX11_tells 160 = .ok (.if_icmp .ne 8, 3) := by decide +kernel
theorem dX11_tells_163 : decode cX11_tells 163 = .ok (.iload 7, 2) := by decide +kernel
theorem dX11_tells_165 : decode cX11_tells 165 = .ok (.goto 5, 3) := by decide +kernel
theorem dX11_tells_168 : decode cX11_tells 168 = .ok (.iload 6, 2) := by decide +kernel
theorem dX11_tells_170 : decode cX11_tells 170 = .ok (.istore 6, 2) := by decide +kernel
theorem dX11_tells_172 : decode cX11_tells 172 = .ok (.iinc 7 1, 3) := by decide +kernel
theorem dX11_tells_175 : decode cX11_tells 175 = .ok (.goto (-64), 3) := by decide +kernel
theorem dX11_tells_178 : decode cX11_tells 178 = .ok (.iload_n 2, 1) := by decide +kernel
theorem dX11_tells_179 : decode cX11_tells 179 = .ok (.iconst 1, 1) := by decide +kernel
theorem dX11_tells_180 : decode cX11_tells 180 = .ok (.if_icmp .ne 8, 3) := by decide +kernel
theorem dX11_tells_183 : decode cX11_tells 183 = .ok (.iload 5, 2) := by decide +kernel
theorem dX11_tells_185 : decode cX11_tells 185 = .ok (.goto 5, 3) := by decide +kernel
theorem dX11_tells_188 : decode cX11_tells 188 = .ok (.iload 6, 2) := by decide +kernel
theorem dX11_tells_190 : decode cX11_tells 190 = .ok (.ireturn, 1) := by decide +kernel
theorem dX11_film_0 : decode cX11_film 0 = .ok (.iload_n 1, 1) := by decide +kernel
theorem dX11_film_1 : decode cX11_film 1 = .ok (.invokestatic 285, 3) := by decide +kernel
theorem dX11_film_4 : decode cX11_film 4 = .ok (.ifCond .ne 6, 3) := by decide +kernel
theorem dX11_film_7 : decode cX11_film 7 = .ok (.bipush (-2), 2) := by decide +kernel
theorem dX11_film_9 : decode cX11_film 9 = .ok (.ireturn, 1) := by decide +kernel
theorem dX11_film_10 : decode cX11_film 10 = .ok (.aload_n 0, 1) := by decide +kernel
theorem dX11_film_11 : decode cX11_film 11 = .ok (.invokevirtual 120, 3) := by decide +kernel
theorem dX11_film_14 : decode cX11_film 14 = .ok (.aload_n 0, 1) := by decide +kernel
theorem dX11_film_15 : decode cX11_film 15 = .ok (.invokevirtual 317, 3) := by decide +kernel
theorem dX11_film_18 : decode cX11_film 18 = .ok (.aload_n 0, 1) := by decide +kernel
theorem dX11_film_19 : decode cX11_film 19 = .ok (.getfield 79, 3) := by decide +kernel
theorem dX11_film_22 : decode cX11_film 22 = .ok (.aload_n 0, 1) := by decide +kernel
theorem dX11_film_23 : decode cX11_film 23 = .ok (.getfield 24, 3) := by decide +kernel
theorem dX11_film_26 : decode cX11_film 26 = .ok (.aload_n 0, 1) := by decide +kernel
theorem dX11_film_27 : decode cX11_film 27 = .ok (.getfield 42, 3) := by decide +kernel
theorem dX11_film_30 : decode cX11_film 30 = .ok (.invokevirtual 320, 3) := by decide +kernel
theorem dX11_film_33 : decode cX11_film 33 = .ok (.aload_n 0, 1) := by decide +kernel
theorem dX11_film_34 : decode cX11_film 34 = .ok (.getfield 85, 3) := by decide +kernel
theorem dX11_film_37 : decode cX11_film 37 = .ok (.iload_n 1, 1) := by decide +kernel
theorem dX11_film_38 : decode cX11_film 38 = .ok (.aaload, 1) := by decide +kernel
theorem dX11_film_39 : decode cX11_film 39 = .ok (.iconst 1, 1) := by decide +kernel
theorem dX11_film_40 : decode cX11_film 40 = .ok (.aload_n 0, 1) := by decide +kernel
theorem dX11_film_41 : decode cX11_film 41 = .ok (.getfield 24, 3) := by decide +kernel
theorem dX11_film_44 : decode cX11_film 44 = .ok (.getfield 222, 3) := by decide +kernel
theorem dX11_film_47 : decode cX11_film 47 = .ok (.invokevirtual 328, 3) := by decide +kernel
theorem dX11_film_50 : decode cX11_film 50 = .ok (.iconst 0, 1) := by decide +kernel
theorem dX11_film_51 : decode cX11_film 51 = .ok (.istore_n 2, 1) := by decide +kernel
theorem dX11_film_52 : decode cX11_film 52 = .ok (.iload_n 2, 1) := by decide +kernel
theorem dX11_film_53 : decode cX11_film 53 = .ok (.aload_n 0, 1) := by decide +kernel
theorem dX11_film_54 : decode cX11_film 54 = .ok (.getfield 24, 3) := by decide +kernel
theorem dX11_film_57 : decode cX11_film 57 = .ok (.getfield 222, 3) := by decide +kernel
theorem dX11_film_60 : decode cX11_film 60 = .ok (.if_icmp .ge 30, 3) := by decide +kernel
theorem dX11_film_63 : decode cX11_film 63 = .ok (.aload_n 0, 1) := by decide +kernel
theorem dX11_film_64 : decode cX11_film 64 = .ok (.getfield 85, 3) := by decide +kernel
theorem dX11_film_67 : decode cX11_film 67 = .ok (.iload_n 1, 1) := by decide +kernel
theorem dX11_film_68 : decode cX11_film 68 = .ok (.aaload, 1) := by decide +kernel
theorem dX11_film_69 : decode cX11_film 69 = .ok (.getfield 331, 3) := by decide +kernel
theorem dX11_film_72 : decode cX11_film 72 = .ok (.iload_n 2, 1) := by decide +kernel
theorem dX11_film_73 : decode cX11_film 73 = .ok (.aload_n 0, 1) := by decide +kernel
theorem dX11_film_74 : decode cX11_film 74 = .ok (.getfield 79, 3) := by decide +kernel
theorem dX11_film_77 : decode cX11_film 77 = .ok (.getfield 334, 3) := by decide +kernel
theorem dX11_film_80 : decode cX11_film 80 = .ok (.iload_n 2, 1) := by decide +kernel
theorem dX11_film_81 : decode cX11_film 81 = .ok (.laload, 1) := by decide +kernel
theorem dX11_film_82 : decode cX11_film 82 = .ok (.l2i, 1) := by decide +kernel
theorem dX11_film_83 : decode cX11_film 83 = .ok (.iastore, 1) := by decide +kernel
theorem dX11_film_84 : decode cX11_film 84 = .ok (.iinc 2 1, 3) := by decide +kernel
theorem dX11_film_87 : decode cX11_film 87 = .ok (.goto (-35), 3) := by decide +kernel
theorem dX11_film_90 : decode cX11_film 90 = .ok (.aload_n 0, 1) := by decide +kernel
theorem dX11_film_91 : decode cX11_film 91 = .ok (.getfield 24, 3) := by decide +kernel
theorem dX11_film_94 : decode cX11_film 94 = .ok (.getfield 222, 3) := by decide +kernel
theorem dX11_film_97 : decode cX11_film 97 = .ok (.ireturn, 1) := by decide +kernel
theorem dX11_image_0 : decode cX11_image 0 = .ok (.aload_n 0, 1) := by decide +kernel
theorem dX11_image_1 : decode cX11_image 1 = .ok (.getfield 18, 3) := by decide +kernel
theorem dX11_image_4 : decode cX11_image 4 = .ok (.aload_n 0, 1) := by decide +kernel
theorem dX11_image_5 : decode cX11_image 5 = .ok (.getfield 14, 3) := by decide +kernel
theorem dX11_image_8 : decode cX11_image 8 = .ok (.invokevirtual 338, 3) := by decide +kernel
theorem dX11_image_11 : decode cX11_image 11 = .ok (.aload_n 0, 1) := by decide +kernel
theorem dX11_image_12 : decode cX11_image 12 = .ok (.iconst 1, 1) := by decide +kernel
theorem dX11_image_13 : decode cX11_image 13 = .ok (.putfield 341, 3) := by decide +kernel
theorem dX11_image_16 : decode cX11_image 16 = .ok (.aload_n 0, 1) := by decide +kernel
theorem dX11_image_17 : decode cX11_image 17 = .ok (.getfield 14, 3) := by decide +kernel
theorem dX11_image_20 : decode cX11_image 20 = .ok (.getfield 147, 3) := by decide +kernel
theorem dX11_image_23 : decode cX11_image 23 = .ok (.ireturn, 1) := by decide +kernel
theorem dX11_back_0 : decode cX11_back 0 = .ok (.aload_n 0, 1) := by decide +kernel
theorem dX11_back_1 : decode cX11_back 1 = .ok (.getfield 341, 3) := by decide +kernel
theorem dX11_back_4 : decode cX11_back 4 = .ok (.ifCond .ne 6, 3) := by decide +kernel
theorem dX11_back_7 : decode cX11_back 7 = .ok (.bipush (-3), 2) := by decide +kernel
theorem dX11_back_9 : decode cX11_back 9 = .ok (.ireturn, 1) := by decide +kernel
theorem dX11_back_10 : decode cX11_back 10 = .ok (.aload_n 0, 1) := by decide +kernel
theorem dX11_back_11 : decode cX11_back 11 = .ok (.iconst 1, 1) := by decide +kernel
theorem dX11_back_12 : decode cX11_back 12 = .ok (.putfield 31, 3) := by decide +kernel
theorem dX11_back_15 : decode cX11_back 15 = .ok (.aload_n 0, 1) := by decide +kernel
theorem dX11_back_16 : decode cX11_back 16 = .ok (.getfield 14, 3) := by decide +kernel
theorem dX11_back_19 : decode cX11_back 19 = .ok (.aload_n 0, 1) := by decide +kernel
theorem dX11_back_20 : decode cX11_back 20 = .ok (.getfield 18, 3) := by decide +kernel
theorem dX11_back_23 : decode cX11_back 23 = .ok (.invokevirtual 338, 3) := by decide +kernel
theorem dX11_back_26 : decode cX11_back 26 = .ok (.aload_n 0, 1) := by decide +kernel
theorem dX11_back_27 : decode cX11_back 27 = .ok (.getfield 14, 3) := by decide +kernel
theorem dX11_back_30 : decode cX11_back 30 = .ok (.getfield 147, 3) := by decide +kernel
theorem dX11_back_33 : decode cX11_back 33 = .ok (.ireturn, 1) := by decide +kernel
theorem dX11_count_0 : decode cX11_count 0 = .ok (.iload_n 1, 1) := by decide +kernel
theorem dX11_count_1 : decode cX11_count 1 = .ok (.tableswitch 84 0 4 #[35, 46, 57, 68, 76], 35) := by decide +kernel
theorem dX11_count_36 : decode cX11_count 36 = .ok (.aload_n 0, 1) := by decide +kernel
theorem dX11_count_37 : decode cX11_count 37 = .ok (.getfield 14, 3) := by decide +kernel
theorem dX11_count_40 : decode cX11_count 40 = .ok (.getfield 104, 3) := by decide +kernel
theorem dX11_count_43 : decode cX11_count 43 = .ok (.invokevirtual 344, 3) := by decide +kernel
theorem dX11_count_46 : decode cX11_count 46 = .ok (.ireturn, 1) := by decide +kernel
theorem dX11_count_47 : decode cX11_count 47 = .ok (.aload_n 0, 1) := by decide +kernel
theorem dX11_count_48 : decode cX11_count 48 = .ok (.getfield 14, 3) := by decide +kernel
theorem dX11_count_51 : decode cX11_count 51 = .ok (.getfield 114, 3) := by decide +kernel
theorem dX11_count_54 : decode cX11_count 54 = .ok (.invokevirtual 344, 3) := by decide +kernel
theorem dX11_count_57 : decode cX11_count 57 = .ok (.ireturn, 1) := by decide +kernel
theorem dX11_count_58 : decode cX11_count 58 = .ok (.aload_n 0, 1) := by decide +kernel
theorem dX11_count_59 : decode cX11_count 59 = .ok (.getfield 14, 3) := by decide +kernel
theorem dX11_count_62 : decode cX11_count 62 = .ok (.getfield 117, 3) := by decide +kernel
theorem dX11_count_65 : decode cX11_count 65 = .ok (.invokevirtual 344, 3) := by decide +kernel
theorem dX11_count_68 : decode cX11_count 68 = .ok (.ireturn, 1) := by decide +kernel
theorem dX11_count_69 : decode cX11_count 69 = .ok (.aload_n 0, 1) := by decide +kernel
theorem dX11_count_70 : decode cX11_count 70 = .ok (.getfield 14, 3) := by decide +kernel
theorem dX11_count_73 : decode cX11_count 73 = .ok (.getfield 147, 3) := by decide +kernel
theorem dX11_count_76 : decode cX11_count 76 = .ok (.ireturn, 1) := by decide +kernel
theorem dX11_count_77 : decode cX11_count 77 = .ok (.aload_n 0, 1) := by decide +kernel
theorem dX11_count_78 : decode cX11_count 78 = .ok (.getfield 14, 3) := by decide +kernel
theorem dX11_count_81 : decode cX11_count 81 = .ok (.invokevirtual 348, 3) := by decide +kernel
theorem dX11_count_84 : decode cX11_count 84 = .ok (.ireturn, 1) := by decide +kernel
theorem dX11_count_85 : decode cX11_count 85 = .ok (.bipush (-2), 2) := by decide +kernel
theorem dX11_count_87 : decode cX11_count 87 = .ok (.ireturn, 1) := by decide +kernel
theorem dX11_sheet_0 : decode cX11_sheet 0 = .ok (.iload_n 1, 1) := by decide +kernel
theorem dX11_sheet_1 : decode cX11_sheet 1 = .ok (.invokestatic 285, 3) := by decide +kernel
theorem dX11_sheet_4 : decode cX11_sheet 4 = .ok (.ifCond .eq 15, 3) := by decide +kernel
theorem dX11_sheet_7 : decode cX11_sheet 7 = .ok (.iload_n 2, 1) := by decide +kernel
theorem dX11_sheet_8 : decode cX11_sheet 8 = .ok (.iconst (-1), 1) := by decide +kernel
theorem dX11_sheet_9 : decode cX11_sheet 9 = .ok (.if_icmp .eq 13, 3) := by decide +kernel
theorem dX11_sheet_12 : decode cX11_sheet 12 = .ok (.iload_n 2, 1) := by decide +kernel
theorem dX11_sheet_13 : decode cX11_sheet 13 = .ok (.invokestatic 351, 3) := by decide +kernel
theorem dX11_sheet_16 : decode cX11_sheet 16 = .ok (.ifCond .ne 6, 3) := by decide +kernel
theorem dX11_sheet_19 : decode cX11_sheet 19 = .ok (.bipush (-2), 2) := by decide +kernel
theorem dX11_sheet_21 : decode cX11_sheet 21 = .ok (.ireturn, 1) := by decide +kernel
theorem dX11_sheet_22 : decode cX11_sheet 22 = .ok (.iload_n 2, 1) := by decide +kernel
theorem dX11_sheet_23 : decode cX11_sheet 23 = .ok (.iconst (-1), 1) := by decide +kernel
theorem dX11_sheet_24 : decode cX11_sheet 24 = .ok (.if_icmp .ne 16, 3) := by decide +kernel
theorem dX11_sheet_27 : decode cX11_sheet 27 = .ok (.aload_n 0, 1) := by decide +kernel
theorem dX11_sheet_28 : decode cX11_sheet 28 = .ok (.getfield 85, 3) := by decide +kernel
theorem dX11_sheet_31 : decode cX11_sheet 31 = .ok (.iload_n 1, 1) := by decide +kernel
theorem dX11_sheet_32 : decode cX11_sheet 32 = .ok (.aaload, 1) := by decide +kernel
theorem dX11_sheet_33 : decode cX11_sheet 33 = .ok (.iconst (-1), 1) := by decide +kernel
theorem dX11_sheet_34 : decode cX11_sheet 34 = .ok (.iconst 0, 1) := by decide +kernel
theorem dX11_sheet_35 : decode cX11_sheet 35 = .ok (.invokevirtual 328, 3) := by decide +kernel
theorem dX11_sheet_38 : decode cX11_sheet 38 = .ok (.iconst 1, 1) := by decide +kernel
theorem dX11_sheet_39 : decode cX11_sheet 39 = .ok (.ireturn, 1) := by decide +kernel
theorem dX11_sheet_40 : decode cX11_sheet 40 = .ok (.iload_n 3, 1) := by decide +kernel
theorem dX11_sheet_41 : decode cX11_sheet 41 = .ok (.bipush 40, 2) := by decide +kernel
theorem dX11_sheet_43 : decode cX11_sheet 43 = .ok (.if_icmp .le 6, 3) := by decide +kernel
theorem dX11_sheet_46 : decode cX11_sheet 46 = .ok (.bipush (-2), 2) := by decide +kernel
theorem dX11_sheet_48 : decode cX11_sheet 48 = .ok (.ireturn, 1) := by decide +kernel
theorem dX11_sheet_49 : decode cX11_sheet 49 = .ok (.iload_n 3, 1) := by decide +kernel
theorem dX11_sheet_50 : decode cX11_sheet 50 = .ok (.ifCond .ge 6, 3) := by decide +kernel
theorem dX11_sheet_53 : decode cX11_sheet 53 = .ok (.bipush (-14), 2) := by decide +kernel
theorem dX11_sheet_55 : decode cX11_sheet 55 = .ok (.ireturn, 1) := by decide +kernel
theorem dX11_sheet_56 : decode cX11_sheet 56 = .ok (.aload_n 0, 1) := by decide +kernel
theorem dX11_sheet_57 : decode cX11_sheet 57 = .ok (.getfield 85, 3) := by decide +kernel
theorem dX11_sheet_60 : decode cX11_sheet 60 = .ok (.iload_n 1, 1) := by decide +kernel
theorem dX11_sheet_61 : decode cX11_sheet 61 = .ok (.aaload, 1) := by decide +kernel
theorem dX11_sheet_62 : decode cX11_sheet 62 = .ok (.iload_n 2, 1) := by decide +kernel
theorem dX11_sheet_63 : decode cX11_sheet 63 = .ok (.iload_n 3, 1) := by decide +kernel
theorem dX11_sheet_64 : decode cX11_sheet 64 = .ok (.invokevirtual 328, 3) := by decide +kernel
theorem dX11_sheet_67 : decode cX11_sheet 67 = .ok (.iconst 1, 1) := by decide +kernel
theorem dX11_sheet_68 : decode cX11_sheet 68 = .ok (.ireturn, 1) := by decide +kernel
theorem dX11_put_0 : decode cX11_put 0 = .ok (.iload_n 1, 1) := by decide +kernel
theorem dX11_put_1 : decode cX11_put 1 = .ok (.invokestatic 285, 3) := by decide +kernel
theorem dX11_put_4 : decode cX11_put 4 = .ok (.ifCond .ne 6, 3) := by decide +kernel
theorem dX11_put_7 : decode cX11_put 7 = .ok (.bipush (-2), 2) := by decide +kernel
theorem dX11_put_9 : decode cX11_put 9 = .ok (.ireturn, 1) := by decide +kernel
theorem dX11_put_10 : decode cX11_put 10 = .ok (.aload_n 0, 1) := by decide +kernel
theorem dX11_put_11 : decode cX11_put 11 = .ok (.getfield 85, 3) := by decide +kernel
theorem dX11_put_14 : decode cX11_put 14 = .ok (.iload_n 1, 1) := by decide +kernel
theorem dX11_put_15 : decode cX11_put 15 = .ok (.aaload, 1) := by decide +kernel
theorem dX11_put_16 : decode cX11_put 16 = .ok (.invokevirtual 291, 3) := by decide +kernel
theorem dX11_put_19 : decode cX11_put 19 = .ok (.ifCond .eq 6, 3) := by decide +kernel
theorem dX11_put_22 : decode cX11_put 22 = .ok (.bipush (-11), 2) := by decide +kernel
theorem dX11_put_24 : decode cX11_put 24 = .ok (.ireturn, 1) := by decide +kernel
theorem dX11_put_25 : decode cX11_put 25 = .ok (.aload_n 0, 1) := by decide +kernel
theorem dX11_put_26 : decode cX11_put 26 = .ok (.getfield 85, 3) := by decide +kernel
theorem dX11_put_29 : decode cX11_put 29 = .ok (.iload_n 1, 1) := by decide +kernel
theorem dX11_put_30 : decode cX11_put 30 = .ok (.aaload, 1) := by decide +kernel
theorem dX11_put_31 : decode cX11_put 31 = .ok (.iload_n 2, 1) := by decide +kernel
theorem dX11_put_32 : decode cX11_put 32 = .ok (.invokevirtual 354, 3) := by decide +kernel
theorem dX11_put_35 : decode cX11_put 35 = .ok (.ifCond .ne 6, 3) := by decide +kernel
theorem dX11_put_38 : decode cX11_put 38 = .ok (.bipush (-12), 2) := by decide +kernel
theorem dX11_put_40 : decode cX11_put 40 = .ok (.ireturn, 1) := by decide +kernel
theorem dX11_put_41 : decode cX11_put 41 = .ok (.aload_n 0, 1) := by decide +kernel
theorem dX11_put_42 : decode cX11_put 42 = .ok (.getfield 85, 3) := by decide +kernel
theorem dX11_put_45 : decode cX11_put 45 = .ok (.iload_n 1, 1) := by decide +kernel
theorem dX11_put_46 : decode cX11_put 46 = .ok (.aaload, 1) := by decide +kernel
theorem dX11_put_47 : decode cX11_put 47 = .ok (.iload_n 2, 1) := by decide +kernel
theorem dX11_put_48 : decode cX11_put 48 = .ok (.iload_n 3, 1) := by decide +kernel
theorem dX11_put_49 : decode cX11_put 49 = .ok (.invokevirtual 357, 3) := by decide +kernel
theorem dX11_put_52 : decode cX11_put 52 = .ok (.iconst 1, 1) := by decide +kernel
theorem dX11_put_53 : decode cX11_put 53 = .ok (.ireturn, 1) := by decide +kernel
theorem dX11_copy_0 : decode cX11_copy 0 = .ok (.iload_n 1, 1) := by decide +kernel
theorem dX11_copy_1 : decode cX11_copy 1 = .ok (.invokestatic 285, 3) := by decide +kernel
theorem dX11_copy_4 : decode cX11_copy 4 = .ok (.ifCond .eq 10, 3) := by decide +kernel
theorem dX11_copy_7 : decode cX11_copy 7 = .ok (.iload_n 3, 1) := by decide +kernel
theorem dX11_copy_8 : decode cX11_copy 8 = .ok (.invokestatic 285, 3) := by decide +kernel
theorem dX11_copy_11 : decode cX11_copy 11 = .ok (.ifCond .ne 6, 3) := by decide +kernel
theorem dX11_copy_14 : decode cX11_copy 14 = .ok (.bipush (-2), 2) := by decide +kernel
theorem dX11_copy_16 : decode cX11_copy 16 = .ok (.ireturn, 1) := by decide +kernel
theorem dX11_copy_17 : decode cX11_copy 17 = .ok (.aload_n 0, 1) := by decide +kernel
theorem dX11_copy_18 : decode cX11_copy 18 = .ok (.getfield 85, 3) := by decide +kernel
theorem dX11_copy_21 : decode cX11_copy 21 = .ok (.iload_n 1, 1) := by decide +kernel
theorem dX11_copy_22 : decode cX11_copy 22 = .ok (.aaload, 1) := by decide +kernel
theorem dX11_copy_23 : decode cX11_copy 23 = .ok (.astore 6, 2) := by decide +kernel
theorem dX11_copy_25 : decode cX11_copy 25 = .ok (.aload_n 0, 1) := by decide +kernel
theorem dX11_copy_26 : decode cX11_copy 26 = .ok (.getfield 85, 3) := by decide +kernel
theorem dX11_copy_29 : decode cX11_copy 29 = .ok (.iload_n 3, 1) := by decide +kernel
theorem dX11_copy_30 : decode cX11_copy 30 = .ok (.aaload, 1) := by decide +kernel
theorem dX11_copy_31 : decode cX11_copy 31 = .ok (.astore 7, 2) := by decide +kernel
theorem dX11_copy_33 : decode cX11_copy 33 = .ok (.aload 6, 2) := by decide +kernel
theorem dX11_copy_35 : decode cX11_copy 35 = .ok (.invokevirtual 291, 3) := by decide +kernel
theorem dX11_copy_38 : decode cX11_copy 38 = .ok (.ifCond .ne 11, 3) := by decide +kernel
theorem dX11_copy_41 : decode cX11_copy 41 = .ok (.aload 7, 2) := by decide +kernel
theorem dX11_copy_43 : decode cX11_copy 43 = .ok (.invokevirtual 291, 3) := by decide +kernel
theorem dX11_copy_46 : decode cX11_copy 46 = .ok (.ifCond .eq 6, 3) := by decide +kernel
theorem dX11_copy_49 : decode cX11_copy 49 = .ok (.bipush (-11), 2) := by decide +kernel
theorem dX11_copy_51 : decode cX11_copy 51 = .ok (.ireturn, 1) := by decide +kernel
theorem dX11_copy_52 : decode cX11_copy 52 = .ok (.aload 6, 2) := by decide +kernel
theorem dX11_copy_54 : decode cX11_copy 54 = .ok (.getfield 360, 3) := by decide +kernel
theorem dX11_copy_57 : decode cX11_copy 57 = .ok (.aload 7, 2) := by decide +kernel
theorem dX11_copy_59 : decode cX11_copy 59 = .ok (.getfield 360, 3) := by decide +kernel
theorem dX11_copy_62 : decode cX11_copy 62 = .ok (.if_icmp .eq 6, 3) := by decide +kernel
theorem dX11_copy_65 : decode cX11_copy 65 = .ok (.bipush (-13), 2) := by decide +kernel
theorem dX11_copy_67 : decode cX11_copy 67 = .ok (.ireturn, 1) := by decide +kernel
theorem dX11_copy_68 : decode cX11_copy 68 = .ok (.aload 6, 2) := by decide +kernel
theorem dX11_copy_70 : decode cX11_copy 70 = .ok (.iload_n 2, 1) := by decide +kernel
theorem dX11_copy_71 : decode cX11_copy 71 = .ok (.iload 5, 2) := by decide +kernel
theorem dX11_copy_73 : decode cX11_copy 73 = .ok (.invokevirtual 363, 3) := by decide +kernel
theorem dX11_copy_76 : decode cX11_copy 76 = .ok (.ifCond .eq 15, 3) := by decide +kernel
theorem dX11_copy_79 : decode cX11_copy 79 = .ok (.aload 7, 2) := by decide +kernel
theorem dX11_copy_81 : decode cX11_copy 81 = .ok (.iload 4, 2) := by decide +kernel
theorem dX11_copy_83 : decode cX11_copy 83 = .ok (.iload 5, 2) := by decide +kernel
theorem dX11_copy_85 : decode cX11_copy 85 = .ok (.invokevirtual 363, 3) := by decide +kernel
theorem dX11_copy_88 : decode cX11_copy 88 = .ok (.ifCond .ne 6, 3) := by decide +kernel
theorem dX11_copy_91 : decode cX11_copy 91 = .ok (.bipush (-12), 2) := by decide +kernel
theorem dX11_copy_93 : decode cX11_copy 93 = .ok (.ireturn, 1) := by decide +kernel
theorem dX11_copy_94 : decode cX11_copy 94 = .ok (.aload 6, 2) := by decide +kernel
theorem dX11_copy_96 : decode cX11_copy 96 = .ok (.getfield 331, 3) := by decide +kernel
theorem dX11_copy_99 : decode cX11_copy 99 = .ok (.iload_n 2, 1) := by decide +kernel
theorem dX11_copy_100 : decode cX11_copy 100 = .ok (.aload 7, 2) := by decide +kernel
theorem dX11_copy_102 : decode cX11_copy 102 = .ok (.getfield 331, 3) := by decide +kernel
theorem dX11_copy_105 : decode cX11_copy 105 = .ok (.iload 4, 2) := by decide +kernel
theorem dX11_copy_107 : decode cX11_copy 107 = .ok (.iload 5, 2) := by decide +kernel
theorem dX11_copy_109 : decode cX11_copy 109 = .ok (.invokestatic 367, 3) := by decide +kernel
theorem dX11_copy_112 : decode cX11_copy 112 = .ok (.iload 5, 2) := by decide +kernel
theorem dX11_copy_114 : decode cX11_copy 114 = .ok (.ireturn, 1) := by decide +kernel
theorem dX11_load_0 : decode cX11_load 0 = .ok (.iload_n 1, 1) := by decide +kernel
theorem dX11_load_1 : decode cX11_load 1 = .ok (.invokestatic 285, 3) := by decide +kernel
theorem dX11_load_4 : decode cX11_load 4 = .ok (.ifCond .eq 20, 3) := by decide +kernel
theorem dX11_load_7 : decode cX11_load 7 = .ok (.iload_n 2, 1) := by decide +kernel
theorem dX11_load_8 : decode cX11_load 8 = .ok (.invokestatic 351, 3) := by decide +kernel
theorem dX11_load_11 : decode cX11_load 11 = .ok (.ifCond .eq 13, 3) := by decide +kernel
theorem dX11_load_14 : decode cX11_load 14 = .ok (.iload 4, 2) := by decide +kernel
theorem dX11_load_16 : decode cX11_load 16 = .ok (.iconst 0, 1) := by decide +kernel
theorem dX11_load_17 : decode cX11_load 17 = .ok (.iconst 5, 1) := by decide +kernel
theorem dX11_load_18 : decode cX11_load 18 = .ok (.invokestatic 100, 3) := by decide +kernel
theorem dX11_load_21 : decode cX11_load 21 = .ok (.ifCond .ne 6, 3) := by decide +kernel
theorem dX11_load_24 : decode cX11_load 24 = .ok (.bipush (-2), 2) := by decide +kernel
theorem dX11_load_26 : decode cX11_load 26 = .ok (.ireturn, 1) := by decide +kernel
theorem dX11_load_27 : decode cX11_load 27 = .ok (.aload_n 0, 1) := by decide +kernel
theorem dX11_load_28 : decode cX11_load 28 = .ok (.getfield 85, 3) := by decide +kernel
theorem dX11_load_31 : decode cX11_load 31 = .ok (.iload_n 1, 1) := by decide +kernel
theorem dX11_load_32 : decode cX11_load 32 = .ok (.aaload, 1) := by decide +kernel
theorem dX11_load_33 : decode cX11_load 33 = .ok (.astore 5, 2) := by decide +kernel
theorem dX11_load_35 : decode cX11_load 35 = .ok (.aload 5, 2) := by decide +kernel
theorem dX11_load_37 : decode cX11_load 37 = .ok (.invokevirtual 291, 3) := by decide +kernel
theorem dX11_load_40 : decode cX11_load 40 = .ok (.ifCond .ne 15, 3) := by decide +kernel
theorem dX11_load_43 : decode cX11_load 43 = .ok (.aload 5, 2) := by decide +kernel
theorem dX11_load_45 : decode cX11_load 45 = .ok (.getfield 360, 3) := by decide +kernel
theorem dX11_load_48 : decode cX11_load 48 = .ok (.iload_n 2, 1) := by decide +kernel
theorem dX11_load_49 : decode cX11_load 49 = .ok (.if_icmp .eq 6, 3) := by decide +kernel
theorem dX11_load_52 : decode cX11_load 52 = .ok (.bipush (-13), 2) := by decide +kernel
theorem dX11_load_54 : decode cX11_load 54 = .ok (.ireturn, 1) := by decide +kernel
theorem dX11_load_55 : decode cX11_load 55 = .ok (.aload 5, 2) := by decide +kernel
theorem dX11_load_57 : decode cX11_load 57 = .ok (.invokevirtual 291, 3) := by decide +kernel
theorem dX11_load_60 : decode cX11_load 60 = .ok (.ifCond .eq 6, 3) := by decide +kernel
theorem dX11_load_63 : decode cX11_load 63 = .ok (.bipush (-11), 2) := by decide +kernel
theorem dX11_load_65 : decode cX11_load 65 = .ok (.ireturn, 1) := by decide +kernel
theorem dX11_load_66 : decode cX11_load 66 = .ok (.iconst 0, 1) := by decide +kernel
theorem dX11_load_67 : decode cX11_load 67 = .ok (.istore 6, 2) := by decide +kernel
theorem dX11_load_69 : decode cX11_load 69 = .ok (.iconst 0, 1) := by decide +kernel
theorem dX11_load_70 : decode cX11_load 70 = .ok (.istore 7, 2) := by decide +kernel
theorem dX11_load_72 : decode cX11_load 72 = .ok (.iload 7, 2) := by decide +kernel
theorem dX11_load_74 : decode cX11_load 74 = .ok (.iload 4, 2) := by decide +kernel
theorem dX11_load_76 : decode cX11_load 76 = .ok (.if_icmp .ge 72, 3) := by decide +kernel
theorem dX11_load_79 : decode cX11_load 79 = .ok (.aload 5, 2) := by decide +kernel
theorem dX11_load_81 : decode cX11_load 81 = .ok (.iload_n 3, 1) := by decide +kernel
theorem dX11_load_82 : decode cX11_load 82 = .ok (.invokevirtual 354, 3) := by decide +kernel
theorem dX11_load_85 : decode cX11_load 85 = .ok (.ifCond .eq 18, 3) := by decide +kernel
theorem dX11_load_88 : decode cX11_load 88 = .ok (.aload 5, 2) := by decide +kernel
theorem dX11_load_90 : decode cX11_load 90 = .ok (.iload_n 3, 1) := by decide +kernel
theorem dX11_load_91 : decode cX11_load 91 = .ok (.iconst 2, 1) := by decide +kernel
theorem dX11_load_92 : decode cX11_load 92 = .ok (.iload 7, 2) := by decide +kernel
theorem dX11_load_94 : decode cX11_load 94 = .ok (.imul, 1) := by decide +kernel
theorem dX11_load_95 : decode cX11_load 95 = .ok (.iadd, 1) := by decide +kernel
theorem dX11_load_96 : decode cX11_load 96 = .ok (.iconst 2, 1) := by decide +kernel
theorem dX11_load_97 : decode cX11_load 97 = .ok (.invokevirtual 363, 3) := by decide +kernel
theorem dX11_load_100 : decode cX11_load 100 = .ok (.ifCond .ne 6, 3) := by decide +kernel
theorem dX11_load_103 : decode cX11_load 103 = .ok (.bipush (-12), 2) := by decide +kernel
theorem dX11_load_105 : decode cX11_load 105 = .ok (.ireturn, 1) := by decide +kernel
theorem dX11_load_106 : decode cX11_load 106 = .ok (.aload_n 0, 1) := by decide +kernel
theorem dX11_load_107 : decode cX11_load 107 = .ok (.aload 5, 2) := by decide +kernel
theorem dX11_load_109 : decode cX11_load 109 = .ok (.getfield 331, 3) := by decide +kernel
theorem dX11_load_112 : decode cX11_load 112 = .ok (.iload_n 3, 1) := by decide +kernel
theorem dX11_load_113 : decode cX11_load 113 = .ok (.iconst 2, 1) := by decide +kernel
theorem dX11_load_114 : decode cX11_load 114 = .ok (.iload 7, 2) := by decide +kernel
theorem dX11_load_116 : decode cX11_load 116 = .ok (.imul, 1) := by decide +kernel
theorem dX11_load_117 : decode cX11_load 117 = .ok (.iadd, 1) := by decide +kernel
theorem dX11_load_118 : decode cX11_load 118 = .ok (.iaload, 1) := by decide +kernel
theorem dX11_load_119 : decode cX11_load 119 = .ok (.aload 5, 2) := by decide +kernel
theorem dX11_load_121 : decode cX11_load 121 = .ok (.getfield 331, 3) := by decide +kernel
theorem dX11_load_124 : decode cX11_load 124 = .ok (.iload_n 3, 1) := by decide +kernel
theorem dX11_load_125 : decode cX11_load 125 = .ok (.iconst 2, 1) := by decide +kernel
theorem dX11_load_126 : decode cX11_load 126 = .ok (.iload 7, 2) := by decide +kernel
theorem dX11_load_128 : decode cX11_load 128 = .ok (.imul, 1) := by decide +kernel
theorem dX11_load_129 : decode cX11_load 129 = .ok (.iadd, 1) := by decide +kernel
theorem dX11_load_130 : decode cX11_load 130 = .ok (.iconst 1, 1) := by decide +kernel
theorem dX11_load_131 : decode cX11_load 131 = .ok (.iadd, 1) := by decide +kernel
theorem dX11_load_132 : decode cX11_load 132 = .ok (.iaload, 1) := by decide +kernel
theorem dX11_load_133 : decode cX11_load 133 = .ok (.invokevirtual 373, 3) := by decide +kernel
theorem dX11_load_136 : decode cX11_load 136 = .ok (.ifCond .lt 6, 3) := by decide +kernel
theorem dX11_load_139 : decode cX11_load 139 = .ok (.iinc 6 1, 3) := by decide +kernel
theorem dX11_load_142 : decode cX11_load 142 = .ok (.iinc 7 1, 3) := by decide +kernel
theorem dX11_load_145 : decode cX11_load 145 = .ok (.goto (-73), 3) := by decide +kernel
theorem dX11_load_148 : decode cX11_load 148 = .ok (.iload 6, 2) := by decide +kernel
theorem dX11_load_150 : decode cX11_load 150 = .ok (.ireturn, 1) := by decide +kernel
theorem dX11_within_0 : decode cX11_within 0 = .ok (.iload_n 0, 1) := by decide +kernel
theorem dX11_within_1 : decode cX11_within 1 = .ok (.iload_n 1, 1) := by decide +kernel
theorem dX11_within_2 : decode cX11_within 2 = .ok (.if_icmp .lt 12, 3) := by decide +kernel
theorem dX11_within_5 : decode cX11_within 5 = .ok (.iload_n 0, 1) := by decide +kernel
theorem dX11_within_6 : decode cX11_within 6 = .ok (.iload_n 2, 1) := by decide +kernel
theorem dX11_within_7 : decode cX11_within 7 = .ok (.if_icmp .gt 7, 3) := by decide +kernel
theorem dX11_within_10 : decode cX11_within 10 = .ok (.iconst 1, 1) := by decide +kernel
theorem dX11_within_11 : decode cX11_within 11 = .ok (.goto 4, 3) := by decide +kernel
theorem dX11_within_14 : decode cX11_within 14 = .ok (.iconst 0, 1) := by decide +kernel
theorem dX11_within_15 : decode cX11_within 15 = .ok (.ireturn, 1) := by decide +kernel
theorem dX11_isDay_0 : decode cX11_isDay 0 = .ok (.iload_n 0, 1) := by decide +kernel
theorem dX11_isDay_1 : decode cX11_isDay 1 = .ok (.iconst 1, 1) := by decide +kernel
theorem dX11_isDay_2 : decode cX11_isDay 2 = .ok (.bipush 60, 2) := by decide +kernel
theorem dX11_isDay_4 : decode cX11_isDay 4 = .ok (.invokestatic 100, 3) := by decide +kernel
theorem dX11_isDay_7 : decode cX11_isDay 7 = .ok (.ireturn, 1) := by decide +kernel
theorem dX11_isKind_0 : decode cX11_isKind 0 = .ok (.iload_n 0, 1) := by decide +kernel
theorem dX11_isKind_1 : decode cX11_isKind 1 = .ok (.iconst 0, 1) := by decide +kernel
theorem dX11_isKind_2 : decode cX11_isKind 2 = .ok (.iconst 5, 1) := by decide +kernel
theorem dX11_isKind_3 : decode cX11_isKind 3 = .ok (.invokestatic 100, 3) := by decide +kernel
theorem dX11_isKind_6 : decode cX11_isKind 6 = .ok (.ireturn, 1) := by decide +kernel
theorem dX11_isRanking_0 : decode cX11_isRanking 0 = .ok (.iload_n 0, 1) := by decide +kernel
theorem dX11_isRanking_1 : decode cX11_isRanking 1 = .ok (.iconst 0, 1) := by decide +kernel
theorem dX11_isRanking_2 : decode cX11_isRanking 2 = .ok (.iconst 3, 1) := by decide +kernel
theorem dX11_isRanking_3 : decode cX11_isRanking 3 = .ok (.invokestatic 100, 3) := by decide +kernel
theorem dX11_isRanking_6 : decode cX11_isRanking 6 = .ok (.ireturn, 1) := by decide +kernel
theorem dX11_isPart_0 : decode cX11_isPart 0 = .ok (.iload_n 0, 1) := by decide +kernel
theorem dX11_isPart_1 : decode cX11_isPart 1 = .ok (.iconst 0, 1) := by decide +kernel
theorem dX11_isPart_2 : decode cX11_isPart 2 = .ok (.iconst 1, 1) := by decide +kernel
theorem dX11_isPart_3 : decode cX11_isPart 3 = .ok (.invokestatic 100, 3) := by decide +kernel
theorem dX11_isPart_6 : decode cX11_isPart 6 = .ok (.ireturn, 1) := by decide +kernel
theorem dX11_isSheet_0 : decode cX11_isSheet 0 = .ok (.iload_n 0, 1) := by decide +kernel
theorem dX11_isSheet_1 : decode cX11_isSheet 1 = .ok (.iconst 0, 1) := by decide +kernel
theorem dX11_isSheet_2 : decode cX11_isSheet 2 = .ok (.iconst 3, 1) := by decide +kernel
theorem dX11_isSheet_3 : decode cX11_isSheet 3 = .ok (.invokestatic 100, 3) := by decide +kernel
theorem dX11_isSheet_6 : decode cX11_isSheet 6 = .ok (.ireturn, 1) := by decide +kernel
theorem dX11_isSort_0 : decode cX11_isSort 0 = .ok (.iload_n 0, 1) := by decide +kernel
theorem dX11_isSort_1 : decode cX11_isSort 1 = .ok (.ifCond .eq 8, 3) := by decide +kernel
theorem dX11_isSort_4 : decode cX11_isSort 4 = .ok (.iload_n 0, 1) := by decide +kernel
theorem dX11_isSort_5 : decode cX11_isSort 5 = .ok (.iconst 1, 1) := by decide +kernel
theorem dX11_isSort_6 : decode cX11_isSort 6 = .ok (.if_icmp .ne 7, 3) := by decide +kernel
theorem dX11_isSort_9 : decode cX11_isSort 9 = .ok (.iconst 1, 1) := by decide +kernel
theorem dX11_isSort_10 : decode cX11_isSort 10 = .ok (.goto 4, 3) := by decide +kernel
theorem dX11_isSort_13 : decode cX11_isSort 13 = .ok (.iconst 0, 1) := by decide +kernel
theorem dX11_isSort_14 : decode cX11_isSort 14 = .ok (.ireturn, 1) := by decide +kernel
theorem dX11_isAskedOfReplay_0 : decode cX11_isAskedOfReplay 0 = .ok (.iload_n 0, 1) := by decide +kernel
theorem dX11_isAskedOfReplay_1 : decode cX11_isAskedOfReplay 1 = .ok (.iconst 0, 1) := by decide +kernel
theorem dX11_isAskedOfReplay_2 : decode cX11_isAskedOfReplay 2 = .ok (.iconst 4, 1) := by decide +kernel
theorem dX11_isAskedOfReplay_3 : decode cX11_isAskedOfReplay 3 = .ok (.invokestatic 100, 3) := by decide +kernel
theorem dX11_isAskedOfReplay_6 : decode cX11_isAskedOfReplay 6 = .ok (.ifCond .ne 25, 3) := by decide +kernel
theorem dX11_isAskedOfReplay_9 : decode cX11_isAskedOfReplay 9 = .ok (.iload_n 0, 1) := by decide +kernel
theorem dX11_isAskedOfReplay_10 : decode cX11_isAskedOfReplay 10 = .ok (.bipush 10, 2) := by decide +kernel
theorem dX11_isAskedOfReplay_12 : decode cX11_isAskedOfReplay 12 = .ok (.bipush 14, 2) := by decide +kernel
theorem dX11_isAskedOfReplay_14 : decode cX11_isAskedOfReplay 14 = .ok (.invokestatic 100, 3) := by decide +kernel
theorem dX11_isAskedOfReplay_17 : decode cX11_isAskedOfReplay 17 = .ok (.ifCond .ne 14, 3) := by decide +kernel
theorem dX11_isAskedOfReplay_20 : decode cX11_isAskedOfReplay 20 = .ok (.iload_n 0, 1) := by decide +kernel
theorem dX11_isAskedOfReplay_21 : decode cX11_isAskedOfReplay 21 = .ok (.bipush 20, 2) := by decide +kernel
theorem dX11_isAskedOfReplay_23 : decode cX11_isAskedOfReplay 23 = .ok (.bipush 23, 2) := by decide +kernel
theorem dX11_isAskedOfReplay_25 : decode cX11_isAskedOfReplay 25 = .ok (.invokestatic 100, 3) := by decide +kernel
theorem dX11_isAskedOfReplay_28 : decode cX11_isAskedOfReplay 28 = .ok (.ifCond .eq 7, 3) := by decide +kernel
theorem dX11_isAskedOfReplay_31 : decode cX11_isAskedOfReplay 31 = .ok (.iconst 1, 1) := by decide +kernel
theorem dX11_isAskedOfReplay_32 : decode cX11_isAskedOfReplay 32 = .ok (.goto 4, 3) := by decide +kernel
theorem dX11_isAskedOfReplay_35 : decode cX11_isAskedOfReplay 35 = .ok (.iconst 0, 1) := by decide +kernel
theorem dX11_isAskedOfReplay_36 : decode cX11_isAskedOfReplay 36 = .ok (.ireturn, 1) := by decide +kernel
theorem dX11_isRow_0 : decode cX11_isRow 0 = .ok (.iload_n 1, 1) := by decide +kernel
theorem dX11_isRow_1 : decode cX11_isRow 1 = .ok (.iconst (-1), 1) := by decide +kernel
theorem dX11_isRow_2 : decode cX11_isRow 2 = .ok (.if_icmp .eq 20, 3) := by decide +kernel
theorem dX11_isRow_5 : decode cX11_isRow 5 = .ok (.iload_n 1, 1) := by decide +kernel
theorem dX11_isRow_6 : decode cX11_isRow 6 = .ok (.bipush (-2), 2) := by decide +kernel
theorem dX11_isRow_8 : decode cX11_isRow 8 = .ok (.if_icmp .eq 14, 3) := by decide +kernel
theorem dX11_isRow_11 : decode cX11_isRow 11 = .ok (.aload_n 0, 1) := by decide +kernel
theorem dX11_isRow_12 : decode cX11_isRow 12 = .ok (.getfield 14, 3) := by decide +kernel
theorem dX11_isRow_15 : decode cX11_isRow 15 = .ok (.iload_n 1, 1) := by decide +kernel
theorem dX11_isRow_16 : decode cX11_isRow 16 = .ok (.invokevirtual 161, 3) := by decide +kernel
theorem dX11_isRow_19 : decode cX11_isRow 19 = .ok (.ifCond .eq 7, 3) := by decide +kernel
theorem dX11_isRow_22 : decode cX11_isRow 22 = .ok (.iconst 1, 1) := by decide +kernel
theorem dX11_isRow_23 : decode cX11_isRow 23 = .ok (.goto 4, 3) := by decide +kernel
theorem dX11_isRow_26 : decode cX11_isRow 26 = .ok (.iconst 0, 1) := by decide +kernel
theorem dX11_isRow_27 : decode cX11_isRow 27 = .ok (.ireturn, 1) := by decide +kernel
theorem dX11_look_0 : decode cX11_look 0 = .ok (.aload_n 0, 1) := by decide +kernel
theorem dX11_look_1 : decode cX11_look 1 = .ok (.getfield 31, 3) := by decide +kernel
theorem dX11_look_4 : decode cX11_look 4 = .ok (.ifCond .eq 28, 3) := by decide +kernel
theorem dX11_look_7 : decode cX11_look 7 = .ok (.aload_n 0, 1) := by decide +kernel
theorem dX11_look_8 : decode cX11_look 8 = .ok (.getfield 24, 3) := by decide +kernel
theorem dX11_look_11 : decode cX11_look 11 = .ok (.aload_n 0, 1) := by decide +kernel
theorem dX11_look_12 : decode cX11_look 12 = .ok (.getfield 14, 3) := by decide +kernel
theorem dX11_look_15 : decode cX11_look 15 = .ok (.aload_n 0, 1) := by decide +kernel
theorem dX11_look_16 : decode cX11_look 16 = .ok (.getfield 35, 3) := by decide +kernel
theorem dX11_look_19 : decode cX11_look 19 = .ok (.invokevirtual 376, 3) := by decide +kernel
theorem dX11_look_22 : decode cX11_look 22 = .ok (.aload_n 0, 1) := by decide +kernel
theorem dX11_look_23 : decode cX11_look 23 = .ok (.iconst 0, 1) := by decide +kernel
theorem dX11_look_24 : decode cX11_look 24 = .ok (.putfield 380, 3) := by decide +kernel
theorem dX11_look_27 : decode cX11_look 27 = .ok (.aload_n 0, 1) := by decide +kernel
theorem dX11_look_28 : decode cX11_look 28 = .ok (.iconst 0, 1) := by decide +kernel
theorem dX11_look_29 : decode cX11_look 29 = .ok (.putfield 31, 3) := by decide +kernel
theorem dX11_look_32 : decode cX11_look 32 = .ok (.return_, 1) := by decide +kernel
theorem dX11_solve_0 : decode cX11_solve 0 = .ok (.aload_n 0, 1) := by decide +kernel
theorem dX11_solve_1 : decode cX11_solve 1 = .ok (.invokevirtual 120, 3) := by decide +kernel
theorem dX11_solve_4 : decode cX11_solve 4 = .ok (.aload_n 0, 1) := by decide +kernel
theorem dX11_solve_5 : decode cX11_solve 5 = .ok (.getfield 380, 3) := by decide +kernel
theorem dX11_solve_8 : decode cX11_solve 8 = .ok (.ifCond .ne 34, 3) := by decide +kernel
theorem dX11_solve_11 : decode cX11_solve 11 = .ok (.aload_n 0, 1) := by decide +kernel
theorem dX11_solve_12 : decode cX11_solve 12 = .ok (.getfield 65, 3) := by decide +kernel
theorem dX11_solve_15 : decode cX11_solve 15 = .ok (.aload_n 0, 1) := by decide +kernel
theorem dX11_solve_16 : decode cX11_solve 16 = .ok (.getfield 14, 3) := by decide +kernel
theorem dX11_solve_19 : decode cX11_solve 19 = .ok (.aload_n 0, 1) := by decide +kernel
theorem dX11_solve_20 : decode cX11_solve 20 = .ok (.getfield 24, 3) := by decide +kernel
theorem dX11_solve_23 : decode cX11_solve 23 = .ok (.invokevirtual 383, 3) := by decide +kernel
theorem dX11_solve_26 : decode cX11_solve 26 = .ok (.aload_n 0, 1) := by decide +kernel
theorem dX11_solve_27 : decode cX11_solve 27 = .ok (.aload_n 0, 1) := by decide +kernel
theorem dX11_solve_28 : decode cX11_solve 28 = .ok (.getfield 65, 3) := by decide +kernel
theorem dX11_solve_31 : decode cX11_solve 31 = .ok (.invokevirtual 385, 3) := by decide +kernel
theorem dX11_solve_34 : decode cX11_solve 34 = .ok (.putfield 250, 3) := by decide +kernel
theorem dX11_solve_37 : decode cX11_solve 37 = .ok (.aload_n 0, 1) := by decide +kernel
theorem dX11_solve_38 : decode cX11_solve 38 = .ok (.iconst 1, 1) := by decide +kernel
theorem dX11_solve_39 : decode cX11_solve 39 = .ok (.putfield 380, 3) := by decide +kernel
theorem dX11_solve_42 : decode cX11_solve 42 = .ok (.return_, 1) := by decide +kernel
theorem dX11_readHeld_0 : decode cX11_readHeld 0 = .ok (.iconst 0, 1) := by decide +kernel
theorem dX11_readHeld_1 : decode cX11_readHeld 1 = .ok (.istore_n 1, 1) := by decide +kernel
theorem dX11_readHeld_2 : decode cX11_readHeld 2 = .ok (.iload_n 1, 1) := by decide +kernel
theorem dX11_readHeld_3 : decode cX11_readHeld 3 = .ok (.iconst 5, 1) := by decide +kernel
theorem dX11_readHeld_4 : decode cX11_readHeld 4 = .ok (.if_icmp .ge 42, 3) := by decide +kernel
theorem dX11_readHeld_7 : decode cX11_readHeld 7 = .ok (.aload_n 0, 1) := by decide +kernel
theorem dX11_readHeld_8 : decode cX11_readHeld 8 = .ok (.getfield 42, 3) := by decide +kernel
theorem dX11_readHeld_11 : decode cX11_readHeld 11 = .ok (.iload_n 1, 1) := by decide +kernel
theorem dX11_readHeld_12 : decode cX11_readHeld 12 = .ok (.aload_n 0, 1) := by decide +kernel
theorem dX11_readHeld_13 : decode cX11_readHeld 13 = .ok (.getfield 14, 3) := by decide +kernel
theorem dX11_readHeld_16 : decode cX11_readHeld 16 = .ok (.iload_n 1, 1) := by decide +kernel
theorem dX11_readHeld_17 : decode cX11_readHeld 17 = .ok (.invokevirtual 161, 3) := by decide +kernel
theorem dX11_readHeld_20 : decode cX11_readHeld 20 = .ok (.ifCond .eq 18, 3) := by decide +kernel
theorem dX11_readHeld_23 : decode cX11_readHeld 23 = .ok (.aload_n 0, 1) := by decide +kernel
theorem dX11_readHeld_24 : decode cX11_readHeld 24 = .ok (.getfield 14, 3) := by decide +kernel
theorem dX11_readHeld_27 : decode cX11_readHeld 27 = .ok (.getfield 151, 3) := by decide +kernel
theorem dX11_readHeld_30 : decode cX11_readHeld 30 = .ok (.iload_n 1, 1) := by decide +kernel
theorem dX11_readHeld_31 : decode cX11_readHeld 31 = .ok (.aaload, 1) := by decide +kernel
theorem dX11_readHeld_32 : decode cX11_readHeld 32 = .ok (.getfield 164, 3) := by decide +kernel
theorem dX11_readHeld_35 : decode cX11_readHeld 35 = .ok (.goto 4, 3) := by decide +kernel
theorem dX11_readHeld_38 : decode cX11_readHeld 38 = .ok (.iconst 0, 1) := by decide +kernel
theorem dX11_readHeld_39 : decode cX11_readHeld 39 = .ok (.iastore, 1) := by decide +kernel
theorem dX11_readHeld_40 : decode cX11_readHeld 40 = .ok (.iinc 1 1, 3) := by decide +kernel
theorem dX11_readHeld_43 : decode cX11_readHeld 43 = .ok (.goto (-41), 3) := by decide +kernel
theorem dX11_readHeld_46 : decode cX11_readHeld 46 = .ok (.return_, 1) := by decide +kernel
theorem dX11_reckonRow_0 : decode cX11_reckonRow 0 = .ok (.aload_n 0, 1) := by decide +kernel
theorem dX11_reckonRow_1 : decode cX11_reckonRow 1 = .ok (.invokevirtual 120, 3) := by decide +kernel
theorem dX11_reckonRow_4 : decode cX11_reckonRow 4 = .ok (.iconst 0, 1) := by decide +kernel
theorem dX11_reckonRow_5 : decode cX11_reckonRow 5 = .ok (.istore_n 2, 1) := by decide +kernel
theorem dX11_reckonRow_6 : decode cX11_reckonRow 6 = .ok (.iload_n 2, 1) := by decide +kernel
theorem dX11_reckonRow_7 : decode cX11_reckonRow 7 = .ok (.aload_n 0, 1) := by decide +kernel
theorem dX11_reckonRow_8 : decode cX11_reckonRow 8 = .ok (.getfield 24, 3) := by decide +kernel
theorem dX11_reckonRow_11 : decode cX11_reckonRow 11 = .ok (.getfield 222, 3) := by decide +kernel
theorem dX11_reckonRow_14 : decode cX11_reckonRow 14 = .ok (.if_icmp .ge 80, 3) := by decide +kernel
theorem dX11_reckonRow_17 : decode cX11_reckonRow 17 = .ok (.iload_n 1, 1) := by decide +kernel
theorem dX11_reckonRow_18 : decode cX11_reckonRow 18 = .ok (.iconst (-1), 1) := by decide +kernel
theorem dX11_reckonRow_19 : decode cX11_reckonRow 19 = .ok (.if_icmp .ne 21, 3) := by decide +kernel
theorem dX11_reckonRow_22 : decode cX11_reckonRow 22 = .ok (.aload_n 0, 1) := by decide +kernel
theorem dX11_reckonRow_23 : decode cX11_reckonRow 23 = .ok (.getfield 45, 3) := by decide +kernel
theorem dX11_reckonRow_26 : decode cX11_reckonRow 26 = .ok (.iload_n 2, 1) := by decide +kernel
theorem dX11_reckonRow_27 : decode cX11_reckonRow 27 = .ok (.aload_n 0, 1) := by decide +kernel
theorem dX11_reckonRow_28 : decode cX11_reckonRow 28 = .ok (.getfield 24, 3) := by decide +kernel
theorem dX11_reckonRow_31 : decode cX11_reckonRow 31 = .ok (.getfield 129, 3) := by decide +kernel
theorem dX11_reckonRow_34 : decode cX11_reckonRow 34 = .ok (.iload_n 2, 1) := by decide +kernel
theorem dX11_reckonRow_35 : decode cX11_reckonRow 35 = .ok (.iaload, 1) := by decide +kernel
theorem dX11_reckonRow_36 : decode cX11_reckonRow 36 = .ok (.iastore, 1) := by decide +kernel
theorem dX11_reckonRow_37 : decode cX11_reckonRow 37 = .ok (.goto 51, 3) := by decide +kernel
theorem dX11_reckonRow_40 : decode cX11_reckonRow 40 = .ok (.iload_n 1, 1) := by decide +kernel
theorem dX11_reckonRow_41 : decode cX11_reckonRow 41 = .ok (.bipush (-2), 2) := by decide +kernel
theorem dX11_reckonRow_43 : decode cX11_reckonRow 43 = .ok (.if_icmp .ne 28, 3) := by decide +kernel
theorem dX11_reckonRow_46 : decode cX11_reckonRow 46 = .ok (.aload_n 0, 1) := by decide +kernel
theorem dX11_reckonRow_47 : decode cX11_reckonRow 47 = .ok (.invokevirtual 317, 3) := by decide +kernel
theorem dX11_reckonRow_50 : decode cX11_reckonRow 50 = .ok (.aload_n 0, 1) := by decide +kernel
theorem dX11_reckonRow_51 : decode cX11_reckonRow 51 = .ok (.getfield 45, 3) := by decide +kernel
theorem dX11_reckonRow_54 : decode cX11_reckonRow 54 = .ok (.iload_n 2, 1) := by decide +kernel
theorem dX11_reckonRow_55 : decode cX11_reckonRow 55 = .ok (.aload_n 0, 1) := by decide +kernel
theorem dX11_reckonRow_56 : decode cX11_reckonRow 56 = .ok (.getfield 24, 3) := by decide +kernel
theorem dX11_reckonRow_59 : decode cX11_reckonRow 59 = .ok (.aload_n 0, 1) := by decide +kernel
theorem dX11_reckonRow_60 : decode cX11_reckonRow 60 = .ok (.getfield 42, 3) := by decide +kernel
theorem dX11_reckonRow_63 : decode cX11_reckonRow 63 = .ok (.iload_n 2, 1) := by decide +kernel
theorem dX11_reckonRow_64 : decode cX11_reckonRow 64 = .ok (.invokevirtual 387, 3) := by decide +kernel
theorem dX11_reckonRow_67 : decode cX11_reckonRow 67 = .ok (.iastore, 1) := by decide +kernel
theorem dX11_reckonRow_68 : decode cX11_reckonRow 68 = .ok (.goto 20, 3) := by decide +kernel
theorem dX11_reckonRow_71 : decode cX11_reckonRow 71 = .ok (.aload_n 0, 1) := by decide +kernel
theorem dX11_reckonRow_72 : decode cX11_reckonRow 72 = .ok (.getfield 45, 3) := by decide +kernel
theorem dX11_reckonRow_75 : decode cX11_reckonRow 75 = .ok (.iload_n 2, 1) := by decide +kernel
theorem dX11_reckonRow_76 : decode cX11_reckonRow 76 = .ok (.aload_n 0, 1) := by decide +kernel
theorem dX11_reckonRow_77 : decode cX11_reckonRow 77 = .ok (.getfield 24, 3) := by decide +kernel
theorem dX11_reckonRow_80 : decode cX11_reckonRow 80 = .ok (.getfield 180, 3) := by decide +kernel
theorem dX11_reckonRow_83 : decode cX11_reckonRow 83 = .ok (.iload_n 1, 1) := by decide +kernel
theorem dX11_reckonRow_84 : decode cX11_reckonRow 84 = .ok (.aaload, 1) := by decide +kernel
theorem dX11_reckonRow_85 : decode cX11_reckonRow 85 = .ok (.iload_n 2, 1) := by decide +kernel
theorem dX11_reckonRow_86 : decode cX11_reckonRow 86 = .ok (.iaload, 1) := by decide +kernel
theorem dX11_reckonRow_87 : decode cX11_reckonRow 87 = .ok (.iastore, 1) := by decide +kernel
theorem dX11_reckonRow_88 : decode cX11_reckonRow 88 = .ok (.iinc 2 1, 3) := by decide +kernel
theorem dX11_reckonRow_91 : decode cX11_reckonRow 91 = .ok (.goto (-85), 3) := by decide +kernel
theorem dX11_reckonRow_94 : decode cX11_reckonRow 94 = .ok (.aload_n 0, 1) := by decide +kernel
theorem dX11_reckonRow_95 : decode cX11_reckonRow 95 = .ok (.getfield 51, 3) := by decide +kernel
theorem dX11_reckonRow_98 : decode cX11_reckonRow 98 = .ok (.aload_n 0, 1) := by decide +kernel
theorem dX11_reckonRow_99 : decode cX11_reckonRow 99 = .ok (.getfield 45, 3) := by decide +kernel
theorem dX11_reckonRow_102 : decode cX11_reckonRow 102 = .ok (.aload_n 0, 1) := by decide +kernel
theorem dX11_reckonRow_103 : decode cX11_reckonRow 103 = .ok (.getfield 24, 3) := by decide +kernel
theorem dX11_reckonRow_106 : decode cX11_reckonRow 106 = .ok (.invokevirtual 391, 3) := by decide +kernel
theorem dX11_reckonRow_109 : decode cX11_reckonRow 109 = .ok (.return_, 1) := by decide +kernel
theorem dX11_readRates_0 : decode cX11_readRates 0 = .ok (.aload_n 1, 1) := by decide +kernel
theorem dX11_readRates_1 : decode cX11_readRates 1 = .ok (.getfield 314, 3) := by decide +kernel
theorem dX11_readRates_4 : decode cX11_readRates 4 = .ok (.iconst 5, 1) := by decide +kernel
theorem dX11_readRates_5 : decode cX11_readRates 5 = .ok (.if_icmp .le 5, 3) := by decide +kernel
theorem dX11_readRates_8 : decode cX11_readRates 8 = .ok (.iconst 0, 1) := by decide +kernel
theorem dX11_readRates_9 : decode cX11_readRates 9 = .ok (.ireturn, 1) := by decide +kernel
theorem dX11_readRates_10 : decode cX11_readRates 10 = .ok (.iconst 0, 1) := by decide +kernel
theorem dX11_readRates_11 : decode cX11_readRates 11 = .ok (.istore_n 2, 1) := by decide +kernel
theorem dX11_readRates_12 : decode cX11_readRates 12 = .ok (.iload_n 2, 1) := by decide +kernel
theorem dX11_readRates_13 : decode cX11_readRates 13 = .ok (.aload_n 1, 1) := by decide +kernel
theorem dX11_readRates_14 : decode cX11_readRates 14 = .ok (.getfield 314, 3) := by decide +kernel
theorem dX11_readRates_17 : decode cX11_readRates 17 = .ok (.if_icmp .ge 38, 3) := by decide +kernel
theorem dX11_readRates_20 : decode cX11_readRates 20 = .ok (.aload_n 1, 1) := by decide +kernel
theorem dX11_readRates_21 : decode cX11_readRates 21 = .ok (.getfield 331, 3) := by decide +kernel
theorem dX11_readRates_24 : decode cX11_readRates 24 = .ok (.iload_n 2, 1) := by decide +kernel
theorem dX11_readRates_25 : decode cX11_readRates 25 = .ok (.iaload, 1) := by decide +kernel
theorem dX11_readRates_26 : decode cX11_readRates 26 = .ok (.iconst 0, 1) := by decide +kernel
theorem dX11_readRates_27 : decode cX11_readRates 27 = .ok (.bipush 9, 2) := by decide +kernel
theorem dX11_readRates_29 : decode cX11_readRates 29 = .ok (.invokestatic 100, 3) := by decide +kernel
theorem dX11_readRates_32 : decode cX11_readRates 32 = .ok (.ifCond .ne 5, 3) := by decide +kernel
theorem dX11_readRates_35 : decode cX11_readRates 35 = .ok (.iconst 0, 1) := by decide +kernel
theorem dX11_readRates_36 : decode cX11_readRates 36 = .ok (.ireturn, 1) := by decide +kernel
theorem dX11_readRates_37 : decode cX11_readRates 37 = .ok (.aload_n 0, 1) := by decide +kernel
theorem dX11_readRates_38 : decode cX11_readRates 38 = .ok (.getfield 39, 3) := by decide +kernel
theorem dX11_readRates_41 : decode cX11_readRates 41 = .ok (.iload_n 2, 1) := by decide +kernel
theorem dX11_readRates_42 : decode cX11_readRates 42 = .ok (.aload_n 1, 1) := by decide +kernel
theorem dX11_readRates_43 : decode cX11_readRates 43 = .ok (.getfield 331, 3) := by decide +kernel
theorem dX11_readRates_46 : decode cX11_readRates 46 = .ok (.iload_n 2, 1) := by decide +kernel
theorem dX11_readRates_47 : decode cX11_readRates 47 = .ok (.iaload, 1) := by decide +kernel
theorem dX11_readRates_48 : decode cX11_readRates 48 = .ok (.iastore, 1) := by decide +kernel
theorem dX11_readRates_49 : decode cX11_readRates 49 = .ok (.iinc 2 1, 3) := by decide +kernel
theorem dX11_readRates_52 : decode cX11_readRates 52 = .ok (.goto (-40), 3) := by decide +kernel
theorem dX11_readRates_55 : decode cX11_readRates 55 = .ok (.iconst 1, 1) := by decide +kernel
theorem dX11_readRates_56 : decode cX11_readRates 56 = .ok (.ireturn, 1) := by decide +kernel
theorem dX11_playBy_0 : decode cX11_playBy 0 = .ok (.aload_n 0, 1) := by decide +kernel
theorem dX11_playBy_1 : decode cX11_playBy 1 = .ok (.getfield 28, 3) := by decide +kernel
theorem dX11_playBy_4 : decode cX11_playBy 4 = .ok (.aload_n 0, 1) := by decide +kernel
theorem dX11_playBy_5 : decode cX11_playBy 5 = .ok (.getfield 14, 3) := by decide +kernel
theorem dX11_playBy_8 : decode cX11_playBy 8 = .ok (.aload_n 1, 1) := by decide +kernel
theorem dX11_playBy_9 : decode cX11_playBy 9 = .ok (.invokevirtual 376, 3) := by decide +kernel
theorem dX11_playBy_12 : decode cX11_playBy 12 = .ok (.aload_n 0, 1) := by decide +kernel
theorem dX11_playBy_13 : decode cX11_playBy 13 = .ok (.invokevirtual 317, 3) := by decide +kernel
theorem dX11_playBy_16 : decode cX11_playBy 16 = .ok (.aload_n 0, 1) := by decide +kernel
theorem dX11_playBy_17 : decode cX11_playBy 17 = .ok (.getfield 79, 3) := by decide +kernel
theorem dX11_playBy_20 : decode cX11_playBy 20 = .ok (.aload_n 0, 1) := by decide +kernel
theorem dX11_playBy_21 : decode cX11_playBy 21 = .ok (.getfield 28, 3) := by decide +kernel
theorem dX11_playBy_24 : decode cX11_playBy 24 = .ok (.aload_n 0, 1) := by decide +kernel
theorem dX11_playBy_25 : decode cX11_playBy 25 = .ok (.getfield 42, 3) := by decide +kernel
theorem dX11_playBy_28 : decode cX11_playBy 28 = .ok (.invokevirtual 320, 3) := by decide +kernel
theorem dX11_playBy_31 : decode cX11_playBy 31 = .ok (.return_, 1) := by decide +kernel
theorem dX11_shortBySeed_0 : decode cX11_shortBySeed 0 = .ok (.iload_n 1, 1) := by decide +kernel
theorem dX11_shortBySeed_1 : decode cX11_shortBySeed 1 = .ok (.istore_n 2, 1) := by decide +kernel
theorem dX11_shortBySeed_2 : decode cX11_shortBySeed 2 = .ok (.iconst 0, 1) := by decide +kernel
theorem dX11_shortBySeed_3 : decode cX11_shortBySeed 3 = .ok (.istore_n 3, 1) := by decide +kernel
theorem dX11_shortBySeed_4 : decode cX11_shortBySeed 4 = .ok (.iload_n 3, 1) := by decide +kernel
theorem dX11_shortBySeed_5 : decode cX11_shortBySeed 5 = .ok (.iconst 5, 1) := by decide +kernel
theorem dX11_shortBySeed_6 : decode cX11_shortBySeed 6 = .ok (.if_icmp .ge 31, 3) := by decide +kernel
theorem dX11_shortBySeed_9 : decode cX11_shortBySeed 9 = .ok (.iload_n 2, 1) := by decide +kernel
theorem dX11_shortBySeed_10 : decode cX11_shortBySeed 10 = .ok (.ldc_w 395, 3) := by decide +kernel
theorem dX11_shortBySeed_13 : decode cX11_shortBySeed 13 = .ok (.imul, 1) := by decide +kernel
theorem dX11_shortBySeed_14 : decode cX11_shortBySeed 14 = .ok (.sipush 12345, 3) := by decide +kernel
theorem dX11_shortBySeed_17 : decode cX11_shortBySeed 17 = .ok (.iadd, 1) := by decide +kernel
theorem dX11_shortBySeed_18 : decode cX11_shortBySeed 18 = .ok (.istore_n 2, 1) := by decide +kernel
theorem dX11_shortBySeed_19 : decode cX11_shortBySeed 19 = .ok (.aload_n 0, 1) := by decide +kernel
theorem dX11_shortBySeed_20 : decode cX11_shortBySeed 20 = .ok (.getfield 39, 3) := by decide +kernel
theorem dX11_shortBySeed_23 : decode cX11_shortBySeed 23 = .ok (.iload_n 3, 1) := by decide +kernel
theorem dX11_shortBySeed_24 : decode cX11_shortBySeed 24 = .ok (.iload_n 2, 1) := by decide +kernel
theorem dX11_shortBySeed_25 : decode cX11_shortBySeed 25 = .ok (.bipush 9, 2) := by decide +kernel
theorem dX11_shortBySeed_27 : decode cX11_shortBySeed 27 = .ok (.iushr, 1) := by decide +kernel
theorem dX11_shortBySeed_28 : decode cX11_shortBySeed 28 = .ok (.iconst 4, 1) := by decide +kernel
theorem dX11_shortBySeed_29 : decode cX11_shortBySeed 29 = .ok (.irem, 1) := by decide +kernel
theorem dX11_shortBySeed_30 : decode cX11_shortBySeed 30 = .ok (.iastore, 1) := by decide +kernel
theorem dX11_shortBySeed_31 : decode cX11_shortBySeed 31 = .ok (.iinc 3 1, 3) := by decide +kernel
theorem dX11_shortBySeed_34 : decode cX11_shortBySeed 34 = .ok (.goto (-30), 3) := by decide +kernel
theorem dX11_shortBySeed_37 : decode cX11_shortBySeed 37 = .ok (.aload_n 0, 1) := by decide +kernel
theorem dX11_shortBySeed_38 : decode cX11_shortBySeed 38 = .ok (.aload_n 0, 1) := by decide +kernel
theorem dX11_shortBySeed_39 : decode cX11_shortBySeed 39 = .ok (.getfield 39, 3) := by decide +kernel
theorem dX11_shortBySeed_42 : decode cX11_shortBySeed 42 = .ok (.invokevirtual 299, 3) := by decide +kernel
theorem dX11_shortBySeed_45 : decode cX11_shortBySeed 45 = .ok (.aload_n 0, 1) := by decide +kernel
theorem dX11_shortBySeed_46 : decode cX11_shortBySeed 46 = .ok (.getfield 79, 3) := by decide +kernel
theorem dX11_shortBySeed_49 : decode cX11_shortBySeed 49 = .ok (.getfield 305, 3) := by decide +kernel
theorem dX11_shortBySeed_52 : decode cX11_shortBySeed 52 = .ok (.lreturn, 1) := by decide +kernel
