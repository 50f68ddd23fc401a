theorem dX6_begin_59 : decode cX6_begin 59 = .ok (.iinc 4 1, 3) := by decide +kernel
theorem dX6_begin_62 : decode cX6_begin 62 = .ok (.goto (-42), 3) := by decide +kernel
theorem dX6_begin_65 : decode cX6_begin 65 = .ok (.aload_n 0, 1) := by decide +kernel
theorem dX6_begin_66 : decode cX6_begin 66 = .ok (.getfield 36, 3) := by decide +kernel
theorem dX6_begin_69 : decode cX6_begin 69 = .ok (.iload_n 3, 1) := by decide +kernel
theorem dX6_begin_70 : decode cX6_begin 70 = .ok (.sipush 30000, 3) := by decide +kernel
theorem dX6_begin_73 : decode cX6_begin 73 = .ok (.iastore, 1) := by decide +kernel
theorem dX6_begin_74 : decode cX6_begin 74 = .ok (.aload_n 0, 1) := by decide +kernel
theorem dX6_begin_75 : decode cX6_begin 75 = .ok (.getfield 40, 3) := by decide +kernel
theorem dX6_begin_78 : decode cX6_begin 78 = .ok (.iload_n 3, 1) := by decide +kernel
theorem dX6_begin_79 : decode cX6_begin 79 = .ok (.iload_n 2, 1) := by decide +kernel
theorem dX6_begin_80 : decode cX6_begin 80 = .ok (.iastore, 1) := by decide +kernel
theorem dX6_begin_81 : decode cX6_begin 81 = .ok (.return_, 1) := by decide +kernel
theorem dX6_beginsToken_0 : decode cX6_beginsToken 0 = .ok (.aload_n 0, 1) := by decide +kernel
theorem dX6_beginsToken_1 : decode cX6_beginsToken 1 = .ok (.iload_n 1, 1) := by decide +kernel
theorem dX6_beginsToken_2 : decode cX6_beginsToken 2 = .ok (.iaload, 1) := by decide +kernel
theorem dX6_beginsToken_3 : decode cX6_beginsToken 3 = .ok (.invokestatic 57, 3) := by decide +kernel
theorem dX6_beginsToken_6 : decode cX6_beginsToken 6 = .ok (.istore_n 2, 1) := by decide +kernel
theorem dX6_beginsToken_7 : decode cX6_beginsToken 7 = .ok (.iload_n 2, 1) := by decide +kernel
theorem dX6_beginsToken_8 : decode cX6_beginsToken 8 = .ok (.ifCond .eq 8, 3) := by decide +kernel
theorem dX6_beginsToken_11 : decode cX6_beginsToken 11 = .ok (.iload_n 2, 1) := by decide +kernel
theorem dX6_beginsToken_12 : decode cX6_beginsToken 12 = .ok (.iconst 3, 1) := by decide +kernel
theorem dX6_beginsToken_13 : decode cX6_beginsToken 13 = .ok (.if_icmp .ne 14, 3) := by decide +kernel
theorem dX6_beginsToken_16 : decode cX6_beginsToken 16 = .ok (.iload_n 2, 1) := by decide +kernel
theorem dX6_beginsToken_17 : decode cX6_beginsToken 17 = .ok (.iconst 3, 1) := by decide +kernel
theorem dX6_beginsToken_18 : decode cX6_beginsToken 18 = .ok (.if_icmp .ne 7, 3) := by decide +kernel
theorem dX6_beginsToken_21 : decode cX6_beginsToken 21 = .ok (.iconst 1, 1) := by decide +kernel
theorem dX6_beginsToken_22 : decode cX6_beginsToken 22 = .ok (.goto 4, 3) := by decide +kernel
theorem dX6_beginsToken_25 : decode cX6_beginsToken 25 = .ok (.iconst 0, 1) := by decide +kernel
theorem dX6_beginsToken_26 : decode cX6_beginsToken 26 = .ok (.ireturn, 1) := by decide +kernel
theorem dX6_beginsToken_27 : decode cX6_beginsToken 27 = .ok (.iload_n 1, 1) := by decide +kernel
theorem dX6_beginsToken_28 : decode cX6_beginsToken 28 = .ok (.ifCond .eq 15, 3) := by decide +kernel
theorem dX6_beginsToken_31 : decode cX6_beginsToken 31 = .ok (.aload_n 0, 1) := by decide +kernel
theorem dX6_beginsToken_32 : decode cX6_beginsToken 32 = .ok (.iload_n 1, 1) := by decide +kernel
theorem dX6_beginsToken_33 : decode cX6_beginsToken 33 = .ok (.iconst 1, 1) := by decide +kernel
theorem dX6_beginsToken_34 : decode cX6_beginsToken 34 = .ok (.isub, 1) := by decide +kernel
theorem dX6_beginsToken_35 : decode cX6_beginsToken 35 = .ok (.iaload, 1) := by decide +kernel
theorem dX6_beginsToken_36 : decode cX6_beginsToken 36 = .ok (.invokestatic 57, 3) := by decide +kernel
theorem dX6_beginsToken_39 : decode cX6_beginsToken 39 = .ok (.iload_n 2, 1) := by decide +kernel
theorem dX6_beginsToken_40 : decode cX6_beginsToken 40 = .ok (.if_icmp .eq 7, 3) := by decide +kernel
theorem dX6_beginsToken_43 : decode cX6_beginsToken 43 = .ok (.iconst 1, 1) := by decide +kernel
theorem dX6_beginsToken_44 : decode cX6_beginsToken 44 = .ok (.goto 4, 3) := by decide +kernel
theorem dX6_beginsToken_47 : decode cX6_beginsToken 47 = .ok (.iconst 0, 1) := by decide +kernel
theorem dX6_beginsToken_48 : decode cX6_beginsToken 48 = .ok (.ireturn, 1) := by decide +kernel
theorem dX6_sightOf_0 : decode cX6_sightOf 0 = .ok (.iload_n 0, 1) := by decide +kernel
theorem dX6_sightOf_1 : decode cX6_sightOf 1 = .ok (.bipush 32, 2) := by decide +kernel
theorem dX6_sightOf_3 : decode cX6_sightOf 3 = .ok (.if_icmp .eq 9, 3) := by decide +kernel
theorem dX6_sightOf_6 : decode cX6_sightOf 6 = .ok (.iload_n 0, 1) := by decide +kernel
theorem dX6_sightOf_7 : decode cX6_sightOf 7 = .ok (.bipush 10, 2) := by decide +kernel
theorem dX6_sightOf_9 : decode cX6_sightOf 9 = .ok (.if_icmp .ne 5, 3) := by decide +kernel
theorem dX6_sightOf_12 : decode cX6_sightOf 12 = .ok (.iconst 0, 1) := by decide +kernel
theorem dX6_sightOf_13 : decode cX6_sightOf 13 = .ok (.ireturn, 1) := by decide +kernel
theorem dX6_sightOf_14 : decode cX6_sightOf 14 = .ok (.iload_n 0, 1) := by decide +kernel
theorem dX6_sightOf_15 : decode cX6_sightOf 15 = .ok (.bipush 97, 2) := by decide +kernel
theorem dX6_sightOf_17 : decode cX6_sightOf 17 = .ok (.if_icmp .lt 9, 3) := by decide +kernel
theorem dX6_sightOf_20 : decode cX6_sightOf 20 = .ok (.iload_n 0, 1) := by decide +kernel
theorem dX6_sightOf_21 : decode cX6_sightOf 21 = .ok (.bipush 122, 2) := by decide +kernel
theorem dX6_sightOf_23 : decode cX6_sightOf 23 = .ok (.if_icmp .le 15, 3) := by decide +kernel
theorem dX6_sightOf_26 : decode cX6_sightOf 26 = .ok (.iload_n 0, 1) := by decide +kernel
theorem dX6_sightOf_27 : decode cX6_sightOf 27 = .ok (.bipush 65, 2) := by decide +kernel
theorem dX6_sightOf_29 : decode cX6_sightOf 29 = .ok (.if_icmp .lt 11, 3) := by decide +kernel
theorem dX6_sightOf_32 : decode cX6_sightOf 32 = .ok (.iload_n 0, 1) := by decide +kernel
theorem dX6_sightOf_33 : decode cX6_sightOf 33 = .ok (.bipush 90, 2) := by decide +kernel
theorem dX6_sightOf_35 : decode cX6_sightOf 35 = .ok (.if_icmp .gt 5, 3) := by decide +kernel
theorem dX6_sightOf_38 : decode cX6_sightOf 38 = .ok (.iconst 1, 1) := by decide +kernel
theorem dX6_sightOf_39 : decode cX6_sightOf 39 = .ok (.ireturn, 1) := by decide +kernel
theorem dX6_sightOf_40 : decode cX6_sightOf 40 = .ok (.iload_n 0, 1) := by decide +kernel
theorem dX6_sightOf_41 : decode cX6_sightOf 41 = .ok (.bipush 48, 2) := by decide +kernel
theorem dX6_sightOf_43 : decode cX6_sightOf 43 = .ok (.if_icmp .lt 13, 3) := by decide +kernel
theorem dX6_sightOf_46 : decode cX6_sightOf 46 = .ok (.iload_n 0, 1) := by decide +kernel
theorem dX6_sightOf_47 : decode cX6_sightOf 47 = .ok (.bipush 57, 2) := by decide +kernel
theorem dX6_sightOf_49 : decode cX6_sightOf 49 = .ok (.if_icmp .gt 7, 3) := by decide +kernel
theorem dX6_sightOf_52 : decode cX6_sightOf 52 = .ok (.iconst 2, 1) := by decide +kernel
theorem dX6_sightOf_53 : decode cX6_sightOf 53 = .ok (.goto 4, 3) := by decide +kernel
theorem dX6_sightOf_56 : decode cX6_sightOf 56 = .ok (.iconst 3, 1) := by decide +kernel
theorem dX6_sightOf_57 : decode cX6_sightOf 57 = .ok (.ireturn, 1) := by decide +kernel
theorem dX6_tokenFrom_0 : decode cX6_tokenFrom 0 = .ok (.aload_n 0, 1) := by decide +kernel
theorem dX6_tokenFrom_1 : decode cX6_tokenFrom 1 = .ok (.iload_n 1, 1) := by decide +kernel
theorem dX6_tokenFrom_2 : decode cX6_tokenFrom 2 = .ok (.iaload, 1) := by decide +kernel
theorem dX6_tokenFrom_3 : decode cX6_tokenFrom 3 = .ok (.invokestatic 57, 3) := by decide +kernel
theorem dX6_tokenFrom_6 : decode cX6_tokenFrom 6 = .ok (.istore_n 3, 1) := by decide +kernel
theorem dX6_tokenFrom_7 : decode cX6_tokenFrom 7 = .ok (.iload_n 1, 1) := by decide +kernel
theorem dX6_tokenFrom_8 : decode cX6_tokenFrom 8 = .ok (.iconst 1, 1) := by decide +kernel
theorem dX6_tokenFrom_9 : decode cX6_tokenFrom 9 = .ok (.iadd, 1) := by decide +kernel
theorem dX6_tokenFrom_10 : decode cX6_tokenFrom 10 = .ok (.istore 4, 2) := by decide +kernel
theorem dX6_tokenFrom_12 : decode cX6_tokenFrom 12 = .ok (.iload 4, 2) := by decide +kernel
theorem dX6_tokenFrom_14 : decode cX6_tokenFrom 14 = .ok (.iload_n 2, 1) := by decide +kernel
theorem dX6_tokenFrom_15 : decode cX6_tokenFrom 15 = .ok (.if_icmp .ge 20, 3) := by decide +kernel
theorem dX6_tokenFrom_18 : decode cX6_tokenFrom 18 = .ok (.aload_n 0, 1) := by decide +kernel
theorem dX6_tokenFrom_19 : decode cX6_tokenFrom 19 = .ok (.iload 4, 2) := by decide +kernel
theorem dX6_tokenFrom_21 : decode cX6_tokenFrom 21 = .ok (.iaload, 1) := by decide +kernel
theorem dX6_tokenFrom_22 : decode cX6_tokenFrom 22 = .ok (.invokestatic 57, 3) := by decide +kernel
theorem dX6_tokenFrom_25 : decode cX6_tokenFrom 25 = .ok (.iload_n 3, 1) := by decide +kernel
theorem dX6_tokenFrom_26 : decode cX6_tokenFrom 26 = .ok (.if_icmp .ne 9, 3) := by decide +kernel
theorem dX6_tokenFrom_29 : decode cX6_tokenFrom 29 = .ok (.iinc 4 1, 3) := by decide +kernel
theorem dX6_tokenFrom_32 : decode cX6_tokenFrom 32 = .ok (.goto (-20), 3) := by decide +kernel
theorem dX6_tokenFrom_35 : decode cX6_tokenFrom 35 = .ok (.iload_n 3, 1) := by decide +kernel
theorem dX6_tokenFrom_36 : decode cX6_tokenFrom 36 = .ok (.lookupswitch 44 #[(1, 28), (2, 36)], 28) := by decide +kernel
theorem dX6_tokenFrom_64 : decode cX6_tokenFrom 64 = .ok (.aload_n 0, 1) := by decide +kernel
theorem dX6_tokenFrom_65 : decode cX6_tokenFrom 65 = .ok (.iload_n 1, 1) := by decide +kernel
theorem dX6_tokenFrom_66 : decode cX6_tokenFrom 66 = .ok (.iload 4, 2) := by decide +kernel
theorem dX6_tokenFrom_68 : decode cX6_tokenFrom 68 = .ok (.invokestatic 61, 3) := by decide +kernel
theorem dX6_tokenFrom_71 : decode cX6_tokenFrom 71 = .ok (.ireturn, 1) := by decide +kernel
theorem dX6_tokenFrom_72 : decode cX6_tokenFrom 72 = .ok (.aload_n 0, 1) := by decide +kernel
theorem dX6_tokenFrom_73 : decode cX6_tokenFrom 73 = .ok (.iload_n 1, 1) := by decide +kernel
theorem dX6_tokenFrom_74 : decode cX6_tokenFrom 74 = .ok (.iload 4, 2) := by decide +kernel
theorem dX6_tokenFrom_76 : decode cX6_tokenFrom 76 = .ok (.invokestatic 64, 3) := by decide +kernel
theorem dX6_tokenFrom_79 : decode cX6_tokenFrom 79 = .ok (.ireturn, 1) := by decide +kernel
theorem dX6_tokenFrom_80 : decode cX6_tokenFrom 80 = .ok (.aload_n 0, 1) := by decide +kernel
theorem dX6_tokenFrom_81 : decode cX6_tokenFrom 81 = .ok (.iload_n 1, 1) := by decide +kernel
theorem dX6_tokenFrom_82 : decode cX6_tokenFrom 82 = .ok (.iaload, 1) := by decide +kernel
theorem dX6_tokenFrom_83 : decode cX6_tokenFrom 83 = .ok (.invokestatic 67, 3) := by decide +kernel
theorem dX6_tokenFrom_86 : decode cX6_tokenFrom 86 = .ok (.ireturn, 1) := by decide +kernel
theorem dX6_numberFrom_0 : decode cX6_numberFrom 0 = .ok (.iload_n 2, 1) := by decide +kernel
theorem dX6_numberFrom_1 : decode cX6_numberFrom 1 = .ok (.iload_n 1, 1) := by decide +kernel
theorem dX6_numberFrom_2 : decode cX6_numberFrom 2 = .ok (.isub, 1) := by decide +kernel
theorem dX6_numberFrom_3 : decode cX6_numberFrom 3 = .ok (.iconst 4, 1) := by decide +kernel
theorem dX6_numberFrom_4 : decode cX6_numberFrom 4 = .ok (.if_icmp .le 7, 3) := by decide +kernel
theorem dX6_numberFrom_7 : decode cX6_numberFrom 7 = .ok (.sipush 30001, 3) := by decide +kernel
theorem dX6_numberFrom_10 : decode cX6_numberFrom 10 = .ok (.ireturn, 1) := by decide +kernel
theorem dX6_numberFrom_11 : decode cX6_numberFrom 11 = .ok (.iconst 0, 1) := by decide +kernel
theorem dX6_numberFrom_12 : decode cX6_numberFrom 12 = .ok (.istore_n 3, 1) := by decide +kernel
theorem dX6_numberFrom_13 : decode cX6_numberFrom 13 = .ok (.iload_n 1, 1) := by decide +kernel
theorem dX6_numberFrom_14 : decode cX6_numberFrom 14 = .ok (.istore 4, 2) := by decide +kernel
theorem dX6_numberFrom_16 : decode cX6_numberFrom 16 = .ok (.iload 4, 2) := by decide +kernel
theorem dX6_numberFrom_18 : decode cX6_numberFrom 18 = .ok (.iload_n 2, 1) := by decide +kernel
theorem dX6_numberFrom_19 : decode cX6_numberFrom 19 = .ok (.if_icmp .ge 22, 3) := by decide +kernel
theorem dX6_numberFrom_22 : decode cX6_numberFrom 22 = .ok (.iload_n 3, 1) := by decide +kernel
theorem dX6_numberFrom_23 : decode cX6_numberFrom 23 = .ok (.bipush 10, 2) := by decide +kernel
theorem dX6_numberFrom_25 : decode cX6_numberFrom 25 = .ok (.imul, 1) := by decide +kernel
theorem dX6_numberFrom_26 : decode cX6_numberFrom 26 = .ok (.aload_n 0, 1) := by decide +kernel
theorem dX6_numberFrom_27 : decode cX6_numberFrom 27 = .ok (.iload 4, 2) := by decide +kernel
theorem dX6_numberFrom_29 : decode cX6_numberFrom 29 = .ok (.iaload, 1) := by decide +kernel
theorem dX6_numberFrom_30 : decode cX6_numberFrom 30 = .ok (.iadd, 1) := by decide +kernel
theorem dX6_numberFrom_31 : decode cX6_numberFrom 31 = .ok (.bipush 48, 2) := by decide +kernel
theorem dX6_numberFrom_33 : decode cX6_numberFrom 33 = .ok (.isub, 1) := by decide +kernel
theorem dX6_numberFrom_34 : decode cX6_numberFrom 34 = .ok (.istore_n 3, 1) := by decide +kernel
theorem dX6_numberFrom_35 : decode cX6_numberFrom 35 = .ok (.iinc 4 1, 3) := by decide +kernel
theorem dX6_numberFrom_38 : decode cX6_numberFrom 38 = .ok (.goto (-22), 3) := by decide +kernel
theorem dX6_numberFrom_41 : decode cX6_numberFrom 41 = .ok (.iload_n 3, 1) := by decide +kernel
theorem dX6_numberFrom_42 : decode cX6_numberFrom 42 = .ok (.ireturn, 1) := by decide +kernel
theorem dX6_signFrom_0 : decode cX6_signFrom 0 = .ok (.iload_n 0, 1) := by decide +kernel
theorem dX6_signFrom_1 : decode cX6_signFrom 1 = .ok (.tableswitch 113 40 62 #[107, 107, 107, 107, 113, 107, 113, 107, 113, 113, 113, 113, 113, 113, 113, 113, 113, 113, 113, 107, 107, 107, 107], 107) := by decide +kernel
theorem dX6_signFrom_108 : decode cX6_signFrom 108 = .ok (.sipush 20000, 3) := by decide +kernel
theorem dX6_signFrom_111 : decode cX6_signFrom 111 = .ok (.iload_n 0, 1) := by decide +kernel
theorem dX6_signFrom_112 : decode cX6_signFrom 112 = .ok (.iadd, 1) := by decide +kernel
theorem dX6_signFrom_113 : decode cX6_signFrom 113 = .ok (.ireturn, 1) := by decide +kernel
theorem dX6_signFrom_114 : decode cX6_signFrom 114 = .ok (.sipush 30001, 3) := by decide +kernel
theorem dX6_signFrom_117 : decode cX6_signFrom 117 = .ok (.ireturn, 1) := by decide +kernel
theorem dX6_wordFrom_0 : decode cX6_wordFrom 0 = .ok (.iconst 0, 1) := by decide +kernel
theorem dX6_wordFrom_1 : decode cX6_wordFrom 1 = .ok (.istore_n 3, 1) := by decide +kernel
theorem dX6_wordFrom_2 : decode cX6_wordFrom 2 = .ok (.iconst 0, 1) := by decide +kernel
theorem dX6_wordFrom_3 : decode cX6_wordFrom 3 = .ok (.istore 4, 2) := by decide +kernel
theorem dX6_wordFrom_5 : decode cX6_wordFrom 5 = .ok (.iconst 0, 1) := by decide +kernel
theorem dX6_wordFrom_6 : decode cX6_wordFrom 6 = .ok (.istore 5, 2) := by decide +kernel
theorem dX6_wordFrom_8 : decode cX6_wordFrom 8 = .ok (.iload 5, 2) := by decide +kernel
theorem dX6_wordFrom_10 : decode cX6_wordFrom 10 = .ok (.ldc 70, 2) := by decide +kernel
theorem dX6_wordFrom_12 : decode cX6_wordFrom 12 = .ok (.invokevirtual 72, 3) := by decide +kernel
theorem dX6_wordFrom_15 : decode cX6_wordFrom 15 = .ok (.if_icmp .gt 73, 3) := by decide +kernel
theorem dX6_wordFrom_18 : decode cX6_wordFrom 18 = .ok (.iload 5, 2) := by decide +kernel
theorem dX6_wordFrom_20 : decode cX6_wordFrom 20 = .ok (.ldc 70, 2) := by decide +kernel
theorem dX6_wordFrom_22 : decode cX6_wordFrom 22 = .ok (.invokevirtual 72, 3) := by decide +kernel
theorem dX6_wordFrom_25 : decode cX6_wordFrom 25 = .ok (.if_icmp .ge 18, 3) := by decide +kernel
theorem dX6_wordFrom_28 : decode cX6_wordFrom 28 = .ok (.ldc 70, 2) := by decide +kernel
theorem dX6_wordFrom_30 : decode cX6_wordFrom 30 = .ok (.iload 5, 2) := by decide +kernel
theorem dX6_wordFrom_32 : decode cX6_wordFrom 32 = .ok (.invokevirtual 78, 3) := by decide +kernel
theorem dX6_wordFrom_35 : decode cX6_wordFrom 35 = .ok (.bipush 32, 2) := by decide +kernel
theorem dX6_wordFrom_37 : decode cX6_wordFrom 37 = .ok (.if_icmp .eq 6, 3) := by decide +kernel
theorem dX6_wordFrom_40 : decode cX6_wordFrom 40 = .ok (.goto 42, 3) := by decide +kernel
theorem dX6_wordFrom_43 : decode cX6_wordFrom 43 = .ok (.iload 5, 2) := by decide +kernel
theorem dX6_wordFrom_45 : decode cX6_wordFrom 45 = .ok (.iload 4, 2) := by decide +kernel
theorem dX6_wordFrom_47 : decode cX6_wordFrom 47 = .ok (.isub, 1) := by decide +kernel
theorem dX6_wordFrom_48 : decode cX6_wordFrom 48 = .ok (.iload_n 2, 1) := by decide +kernel
theorem dX6_wordFrom_49 : decode cX6_wordFrom 49 = .ok (.iload_n 1, 1) := by decide +kernel
theorem dX6_wordFrom_50 : decode cX6_wordFrom 50 = .ok (.isub, 1) := by decide +kernel
theorem dX6_wordFrom_51 : decode cX6_wordFrom 51 = .ok (.if_icmp .ne 22, 3) := by decide +kernel
theorem dX6_wordFrom_54 : decode cX6_wordFrom 54 = .ok (.aload_n 0, 1) := by decide +kernel
theorem dX6_wordFrom_55 : decode cX6_wordFrom 55 = .ok (.iload_n 1, 1) := by decide +kernel
theorem dX6_wordFrom_56 : decode cX6_wordFrom 56 = .ok (.iload 4, 2) := by decide +kernel
theorem dX6_wordFrom_58 : decode cX6_wordFrom 58 = .ok (.iload_n 2, 1) := by decide +kernel
theorem dX6_wordFrom_59 : decode cX6_wordFrom 59 = .ok (.iload_n 1, 1) := by decide +kernel
theorem dX6_wordFrom_60 : decode cX6_wordFrom 60 = .ok (.isub, 1) := by decide +kernel
theorem dX6_wordFrom_61 : decode cX6_wordFrom 61 = .ok (.invokestatic 82, 3) := by decide +kernel
theorem dX6_wordFrom_64 : decode cX6_wordFrom 64 = .ok (.ifCond .eq 9, 3) := by decide +kernel
theorem dX6_wordFrom_67 : decode cX6_wordFrom 67 = .ok (.sipush 10000, 3) := by decide +kernel
theorem dX6_wordFrom_70 : decode cX6_wordFrom 70 = .ok (.iload_n 3, 1) := by decide +kernel
theorem dX6_wordFrom_71 : decode cX6_wordFrom 71 = .ok (.iadd, 1) := by decide +kernel
theorem dX6_wordFrom_72 : decode cX6_wordFrom 72 = .ok (.ireturn, 1) := by decide +kernel
theorem dX6_wordFrom_73 : decode cX6_wordFrom 73 = .ok (.iinc 3 1, 3) := by decide +kernel
theorem dX6_wordFrom_76 : decode cX6_wordFrom 76 = .ok (.iload 5, 2) := by decide +kernel
theorem dX6_wordFrom_78 : decode cX6_wordFrom 78 = .ok (.iconst 1, 1) := by decide +kernel
theorem dX6_wordFrom_79 : decode cX6_wordFrom 79 = .ok (.iadd, 1) := by decide +kernel
theorem dX6_wordFrom_80 : decode cX6_wordFrom 80 = .ok (.istore 4, 2) := by decide +kernel
theorem dX6_wordFrom_82 : decode cX6_wordFrom 82 = .ok (.iinc 5 1, 3) := by decide +kernel
theorem dX6_wordFrom_85 : decode cX6_wordFrom 85 = .ok (.goto (-77), 3) := by decide +kernel
theorem dX6_wordFrom_88 : decode cX6_wordFrom 88 = .ok (.sipush 30001, 3) := by decide +kernel
theorem dX6_wordFrom_91 : decode cX6_wordFrom 91 = .ok (.ireturn, 1) := by decide +kernel
theorem dX6_isSame_0 : decode cX6_isSame 0 = .ok (.iconst 0, 1) := by decide +kernel
theorem dX6_isSame_1 : decode cX6_isSame 1 = .ok (.istore 4, 2) := by decide +kernel
theorem dX6_isSame_3 : decode cX6_isSame 3 = .ok (.iload 4, 2) := by decide +kernel
theorem dX6_isSame_5 : decode cX6_isSame 5 = .ok (.iload_n 3, 1) := by decide +kernel
theorem dX6_isSame_6 : decode cX6_isSame 6 = .ok (.if_icmp .ge 29, 3) := by decide +kernel
theorem dX6_isSame_9 : decode cX6_isSame 9 = .ok (.aload_n 0, 1) := by decide +kernel
theorem dX6_isSame_10 : decode cX6_isSame 10 = .ok (.iload_n 1, 1) := by decide +kernel
theorem dX6_isSame_11 : decode cX6_isSame 11 = .ok (.iload 4, 2) := by decide +kernel
theorem dX6_isSame_13 : decode cX6_isSame 13 = .ok (.iadd, 1) := by decide +kernel
theorem dX6_isSame_14 : decode cX6_isSame 14 = .ok (.iaload, 1) := by decide +kernel
theorem dX6_isSame_15 : decode cX6_isSame 15 = .ok (.ldc 70, 2) := by decide +kernel
theorem dX6_isSame_17 : decode cX6_isSame 17 = .ok (.iload_n 2, 1) := by decide +kernel
theorem dX6_isSame_18 : decode cX6_isSame 18 = .ok (.iload 4, 2) := by decide +kernel
theorem dX6_isSame_20 : decode cX6_isSame 20 = .ok (.iadd, 1) := by decide +kernel
theorem dX6_isSame_21 : decode cX6_isSame 21 = .ok (.invokevirtual 78, 3) := by decide +kernel
theorem dX6_isSame_24 : decode cX6_isSame 24 = .ok (.if_icmp .eq 5, 3) := by decide +kernel
theorem dX6_isSame_27 : decode cX6_isSame 27 = .ok (.iconst 0, 1) := by decide +kernel
theorem dX6_isSame_28 : decode cX6_isSame 28 = .ok (.ireturn, 1) := by decide +kernel
theorem dX6_isSame_29 : decode cX6_isSame 29 = .ok (.iinc 4 1, 3) := by decide +kernel
theorem dX6_isSame_32 : decode cX6_isSame 32 = .ok (.goto (-29), 3) := by decide +kernel
theorem dX6_isSame_35 : decode cX6_isSame 35 = .ok (.iconst 1, 1) := by decide +kernel
theorem dX6_isSame_36 : decode cX6_isSame 36 = .ok (.ireturn, 1) := by decide +kernel
theorem dX6_readsLaw_0 : decode cX6_readsLaw 0 = .ok (.aload_n 0, 1) := by decide +kernel
theorem dX6_readsLaw_1 : decode cX6_readsLaw 1 = .ok (.getfield 18, 3) := by decide +kernel
theorem dX6_readsLaw_4 : decode cX6_readsLaw 4 = .ok (.invokevirtual 86, 3) := by decide +kernel
theorem dX6_readsLaw_7 : decode cX6_readsLaw 7 = .ok (.iconst 0, 1) := by decide +kernel
theorem dX6_readsLaw_8 : decode cX6_readsLaw 8 = .ok (.istore_n 2, 1) := by decide +kernel
theorem dX6_readsLaw_9 : decode cX6_readsLaw 9 = .ok (.iload_n 2, 1) := by decide +kernel
theorem dX6_readsLaw_10 : decode cX6_readsLaw 10 = .ok (.bipush 16, 2) := by decide +kernel
theorem dX6_readsLaw_12 : decode cX6_readsLaw 12 = .ok (.if_icmp .gt 36, 3) := by decide +kernel
theorem dX6_readsLaw_15 : decode cX6_readsLaw 15 = .ok (.aload_n 0, 1) := by decide +kernel
theorem dX6_readsLaw_16 : decode cX6_readsLaw 16 = .ok (.getfield 36, 3) := by decide +kernel
theorem dX6_readsLaw_19 : decode cX6_readsLaw 19 = .ok (.aload_n 0, 1) := by decide +kernel
theorem dX6_readsLaw_20 : decode cX6_readsLaw 20 = .ok (.getfield 46, 3) := by decide +kernel
theorem dX6_readsLaw_23 : decode cX6_readsLaw 23 = .ok (.iaload, 1) := by decide +kernel
theorem dX6_readsLaw_24 : decode cX6_readsLaw 24 = .ok (.sipush 30000, 3) := by decide +kernel
theorem dX6_readsLaw_27 : decode cX6_readsLaw 27 = .ok (.if_icmp .ne 5, 3) := by decide +kernel
theorem dX6_readsLaw_30 : decode cX6_readsLaw 30 = .ok (.iconst 1, 1) := by decide +kernel
theorem dX6_readsLaw_31 : decode cX6_readsLaw 31 = .ok (.ireturn, 1) := by decide +kernel
theorem dX6_readsLaw_32 : decode cX6_readsLaw 32 = .ok (.aload_n 0, 1) := by decide +kernel
theorem dX6_readsLaw_33 : decode cX6_readsLaw 33 = .ok (.iload_n 1, 1) := by decide +kernel
theorem dX6_readsLaw_34 : decode cX6_readsLaw 34 = .ok (.invokevirtual 89, 3) := by decide +kernel
theorem dX6_readsLaw_37 : decode cX6_readsLaw 37 = .ok (.ifCond .ne 5, 3) := by decide +kernel
theorem dX6_readsLaw_40 : decode cX6_readsLaw 40 = .ok (.iconst 0, 1) := by decide +kernel
theorem dX6_readsLaw_41 : decode cX6_readsLaw 41 = .ok (.ireturn, 1) := by decide +kernel
theorem dX6_readsLaw_42 : decode cX6_readsLaw 42 = .ok (.iinc 2 1, 3) := by decide +kernel
theorem dX6_readsLaw_45 : decode cX6_readsLaw 45 = .ok (.goto (-36), 3) := by decide +kernel
theorem dX6_readsLaw_48 : decode cX6_readsLaw 48 = .ok (.iconst 0, 1) := by decide +kernel
theorem dX6_readsLaw_49 : decode cX6_readsLaw 49 = .ok (.ireturn, 1) := by decide +kernel
theorem dX6_readsLawLine_0 : decode cX6_readsLawLine 0 = .ok (.aload_n 0, 1) := by decide +kernel
theorem dX6_readsLawLine_1 : decode cX6_readsLawLine 1 = .ok (.getfield 36, 3) := by decide +kernel
theorem dX6_readsLawLine_4 : decode cX6_readsLawLine 4 = .ok (.aload_n 0, 1) := by decide +kernel
theorem dX6_readsLawLine_5 : decode cX6_readsLawLine 5 = .ok (.getfield 46, 3) := by decide +kernel
theorem dX6_readsLawLine_8 : decode cX6_readsLawLine 8 = .ok (.iaload, 1) := by decide +kernel
theorem dX6_readsLawLine_9 : decode cX6_readsLawLine 9 = .ok (.istore_n 2, 1) := by decide +kernel
theorem dX6_readsLawLine_10 : decode cX6_readsLawLine 10 = .ok (.iload_n 2, 1) := by decide +kernel
theorem dX6_readsLawLine_11 : decode cX6_readsLawLine 11 = .ok (.sipush 10011, 3) := by decide +kernel
theorem dX6_readsLawLine_14 : decode cX6_readsLawLine 14 = .ok (.if_icmp .eq 17, 3) := by decide +kernel
theorem dX6_readsLawLine_17 : decode cX6_readsLawLine 17 = .ok (.iload_n 2, 1) := by decide +kernel
theorem dX6_readsLawLine_18 : decode cX6_readsLawLine 18 = .ok (.sipush 10012, 3) := by decide +kernel
theorem dX6_readsLawLine_21 : decode cX6_readsLawLine 21 = .ok (.if_icmp .eq 10, 3) := by decide +kernel
theorem dX6_readsLawLine_24 : decode cX6_readsLawLine 24 = .ok (.iload_n 2, 1) := by decide +kernel
theorem dX6_readsLawLine_25 : decode cX6_readsLawLine 25 = .ok (.sipush 10013, 3) := by decide +kernel
theorem dX6_readsLawLine_28 : decode cX6_readsLawLine 28 = .ok (.if_icmp .ne 7, 3) := by decide +kernel
theorem dX6_readsLawLine_31 : decode cX6_readsLawLine 31 = .ok (.iconst 1, 1) := by decide +kernel
theorem dX6_readsLawLine_32 : decode cX6_readsLawLine 32 = .ok (.goto 4, 3) := by decide +kernel
theorem dX6_readsLawLine_35 : decode cX6_readsLawLine 35 = .ok (.iconst 0, 1) := by decide +kernel
theorem dX6_readsLawLine_36 : decode cX6_readsLawLine 36 = .ok (.istore_n 3, 1) := by decide +kernel
theorem dX6_readsLawLine_37 : decode cX6_readsLawLine 37 = .ok (.iload_n 2, 1) := by decide +kernel
theorem dX6_readsLawLine_38 : decode cX6_readsLawLine 38 = .ok (.sipush 10009, 3) := by decide +kernel
theorem dX6_readsLawLine_41 : decode cX6_readsLawLine 41 = .ok (.if_icmp .eq 10, 3) := by decide +kernel
theorem dX6_readsLawLine_44 : decode cX6_readsLawLine 44 = .ok (.iload_n 2, 1) := by decide +kernel
theorem dX6_readsLawLine_45 : decode cX6_readsLawLine 45 = .ok (.sipush 10010, 3) := by decide +kernel
theorem dX6_readsLawLine_48 : decode cX6_readsLawLine 48 = .ok (.if_icmp .ne 7, 3) := by decide +kernel
theorem dX6_readsLawLine_51 : decode cX6_readsLawLine 51 = .ok (.iconst 1, 1) := by decide +kernel
theorem dX6_readsLawLine_52 : decode cX6_readsLawLine 52 = .ok (.goto 4, 3) := by decide +kernel
theorem dX6_readsLawLine_55 : decode cX6_readsLawLine 55 = .ok (.iconst 0, 1) := by decide +kernel
theorem dX6_readsLawLine_56 : decode cX6_readsLawLine 56 = .ok (.istore 4, 2) := by decide +kernel
theorem dX6_readsLawLine_58 : decode cX6_readsLawLine 58 = .ok (.iload_n 1, 1) := by decide +kernel
theorem dX6_readsLawLine_59 : decode cX6_readsLawLine 59 = .ok (.ifCond .eq 10, 3) := by decide +kernel
theorem dX6_readsLawLine_62 : decode cX6_readsLawLine 62 = .ok (.iload_n 3, 1) := by decide +kernel
theorem dX6_readsLawLine_63 : decode cX6_readsLawLine 63 = .ok (.ifCond .eq 11, 3) := by decide +kernel
theorem dX6_readsLawLine_66 : decode cX6_readsLawLine 66 = .ok (.goto 14, 3) := by decide +kernel
theorem dX6_readsLawLine_69 : decode cX6_readsLawLine 69 = .ok (.iload 4, 2) := by decide +kernel
theorem dX6_readsLawLine_71 : decode cX6_readsLawLine 71 = .ok (.ifCond .ne 9, 3) := by decide +kernel
theorem dX6_readsLawLine_74 : decode cX6_readsLawLine 74 = .ok (.aload_n 0, 1) := by decide +kernel
theorem dX6_readsLawLine_75 : decode cX6_readsLawLine 75 = .ok (.iconst 1, 1) := by decide +kernel
theorem dX6_readsLawLine_76 : decode cX6_readsLawLine 76 = .ok (.invokevirtual 93, 3) := by decide +kernel
theorem dX6_readsLawLine_79 : decode cX6_readsLawLine 79 = .ok (.ireturn, 1) := by decide +kernel
theorem dX6_readsLawLine_80 : decode cX6_readsLawLine 80 = .ok (.aload_n 0, 1) := by decide +kernel
theorem dX6_readsLawLine_81 : decode cX6_readsLawLine 81 = .ok (.getfield 18, 3) := by decide +kernel
theorem dX6_readsLawLine_84 : decode cX6_readsLawLine 84 = .ok (.getfield 97, 3) := by decide +kernel
theorem dX6_readsLawLine_87 : decode cX6_readsLawLine 87 = .ok (.bipush 16, 2) := by decide +kernel
theorem dX6_readsLawLine_89 : decode cX6_readsLawLine 89 = .ok (.if_icmp .lt 9, 3) := by decide +kernel
theorem dX6_readsLawLine_92 : decode cX6_readsLawLine 92 = .ok (.aload_n 0, 1) := by decide +kernel
theorem dX6_readsLawLine_93 : decode cX6_readsLawLine 93 = .ok (.iconst 3, 1) := by decide +kernel
theorem dX6_readsLawLine_94 : decode cX6_readsLawLine 94 = .ok (.invokevirtual 93, 3) := by decide +kernel
theorem dX6_readsLawLine_97 : decode cX6_readsLawLine 97 = .ok (.ireturn, 1) := by decide +kernel
theorem dX6_readsLawLine_98 : decode cX6_readsLawLine 98 = .ok (.aload_n 0, 1) := by decide +kernel
theorem dX6_readsLawLine_99 : decode cX6_readsLawLine 99 = .ok (.invokevirtual 100, 3) := by decide +kernel
theorem dX6_readsLawLine_102 : decode cX6_readsLawLine 102 = .ok (.aload_n 0, 1) := by decide +kernel
theorem dX6_readsLawLine_103 : decode cX6_readsLawLine 103 = .ok (.getfield 18, 3) := by decide +kernel
theorem dX6_readsLawLine_106 : decode cX6_readsLawLine 106 = .ok (.iload_n 2, 1) := by decide +kernel
theorem dX6_readsLawLine_107 : decode cX6_readsLawLine 107 = .ok (.invokevirtual 103, 3) := by decide +kernel
theorem dX6_readsLawLine_110 : decode cX6_readsLawLine 110 = .ok (.iload_n 1, 1) := by decide +kernel
theorem dX6_readsLawLine_111 : decode cX6_readsLawLine 111 = .ok (.ifCond .eq 12, 3) := by decide +kernel
theorem dX6_readsLawLine_114 : decode cX6_readsLawLine 114 = .ok (.aload_n 0, 1) := by decide +kernel
theorem dX6_readsLawLine_115 : decode cX6_readsLawLine 115 = .ok (.invokevirtual 107, 3) := by decide +kernel
theorem dX6_readsLawLine_118 : decode cX6_readsLawLine 118 = .ok (.ifCond .ne 5, 3) := by decide +kernel
theorem dX6_readsLawLine_121 : decode cX6_readsLawLine 121 = .ok (.iconst 0, 1) := by decide +kernel
theorem dX6_readsLawLine_122 : decode cX6_readsLawLine 122 = .ok (.ireturn, 1) := by decide +kernel
theorem dX6_readsLawLine_123 : decode cX6_readsLawLine 123 = .ok (.aload_n 0, 1) := by decide +kernel
theorem dX6_readsLawLine_124 : decode cX6_readsLawLine 124 = .ok (.getfield 18, 3) := by decide +kernel
theorem dX6_readsLawLine_127 : decode cX6_readsLawLine 127 = .ok (.invokevirtual 111, 3) := by decide +kernel
theorem dX6_readsLawLine_130 : decode cX6_readsLawLine 130 = .ok (.aload_n 0, 1) := by decide +kernel
theorem dX6_readsLawLine_131 : decode cX6_readsLawLine 131 = .ok (.getfield 36, 3) := by decide +kernel
theorem dX6_readsLawLine_134 : decode cX6_readsLawLine 134 = .ok (.aload_n 0, 1) := by decide +kernel
theorem dX6_readsLawLine_135 : decode cX6_readsLawLine 135 = .ok (.getfield 46, 3) := by decide +kernel
theorem dX6_readsLawLine_138 : decode cX6_readsLawLine 138 = .ok (.iaload, 1) := by decide +kernel
theorem dX6_readsLawLine_139 : decode cX6_readsLawLine 139 = .ok (.sipush 10014, 3) := by decide +kernel
theorem dX6_readsLawLine_142 : decode cX6_readsLawLine 142 = .ok (.if_icmp .ne 17, 3) := by decide +kernel
theorem dX6_readsLawLine_145 : decode cX6_readsLawLine 145 = .ok (.aload_n 0, 1) := by decide +kernel
theorem dX6_readsLawLine_146 : decode cX6_readsLawLine 146 = .ok (.invokevirtual 100, 3) := by decide +kernel
theorem dX6_readsLawLine_149 : decode cX6_readsLawLine 149 = .ok (.aload_n 0, 1) := by decide +kernel
theorem dX6_readsLawLine_150 : decode cX6_readsLawLine 150 = .ok (.iconst 0, 1) := by decide +kernel
theorem dX6_readsLawLine_151 : decode cX6_readsLawLine 151 = .ok (.invokevirtual 114, 3) := by decide +kernel
theorem dX6_readsLawLine_154 : decode cX6_readsLawLine 154 = .ok (.ifCond .ne 5, 3) := by decide +kernel
theorem dX6_readsLawLine_157 : decode cX6_readsLawLine 157 = .ok (.iconst 0, 1) := by decide +kernel
theorem dX6_readsLawLine_158 : decode cX6_readsLawLine 158 = .ok (.ireturn, 1) := by decide +kernel
theorem dX6_readsLawLine_159 : decode cX6_readsLawLine 159 = .ok (.aload_n 0, 1) := by decide +kernel
theorem dX6_readsLawLine_160 : decode cX6_readsLawLine 160 = .ok (.sipush 20059, 3) := by decide +kernel
theorem dX6_readsLawLine_163 : decode cX6_readsLawLine 163 = .ok (.invokevirtual 117, 3) := by decide +kernel
theorem dX6_readsLawLine_166 : decode cX6_readsLawLine 166 = .ok (.ifCond .ne 5, 3) := by decide +kernel
theorem dX6_readsLawLine_169 : decode cX6_readsLawLine 169 = .ok (.iconst 0, 1) := by decide +kernel
theorem dX6_readsLawLine_170 : decode cX6_readsLawLine 170 = .ok (.ireturn, 1) := by decide +kernel
theorem dX6_readsLawLine_171 : decode cX6_readsLawLine 171 = .ok (.aload_n 0, 1) := by decide +kernel
theorem dX6_readsLawLine_172 : decode cX6_readsLawLine 172 = .ok (.getfield 18, 3) := by decide +kernel
theorem dX6_readsLawLine_175 : decode cX6_readsLawLine 175 = .ok (.invokevirtual 120, 3) := by decide +kernel
theorem dX6_readsLawLine_178 : decode cX6_readsLawLine 178 = .ok (.iconst 1, 1) := by decide +kernel
theorem dX6_readsLawLine_179 : decode cX6_readsLawLine 179 = .ok (.ireturn, 1) := by decide +kernel
theorem dX6_readsCondition_0 : decode cX6_readsCondition 0 = .ok (.iconst 0, 1) := by decide +kernel
theorem dX6_readsCondition_1 : decode cX6_readsCondition 1 = .ok (.istore_n 2, 1) := by decide +kernel
theorem dX6_readsCondition_2 : decode cX6_readsCondition 2 = .ok (.iconst 0, 1) := by decide +kernel
theorem dX6_readsCondition_3 : decode cX6_readsCondition 3 = .ok (.istore_n 3, 1) := by decide +kernel
theorem dX6_readsCondition_4 : decode cX6_readsCondition 4 = .ok (.iconst 0, 1) := by decide +kernel
theorem dX6_readsCondition_5 : decode cX6_readsCondition 5 = .ok (.istore 4, 2) := by decide +kernel
theorem dX6_readsCondition_7 : decode cX6_readsCondition 7 = .ok (.iload 4, 2) := by decide +kernel
theorem dX6_readsCondition_9 : decode cX6_readsCondition 9 = .ok (.sipush 400, 3) := by decide +kernel
theorem dX6_readsCondition_12 : decode cX6_readsCondition 12 = .ok (.if_icmp .ge 103, 3) := by decide +kernel
theorem dX6_readsCondition_15 : decode cX6_readsCondition 15 = .ok (.aload_n 0, 1) := by decide +kernel
theorem dX6_readsCondition_16 : decode cX6_readsCondition 16 = .ok (.iload_n 1, 1) := by decide +kernel
theorem dX6_readsCondition_17 : decode cX6_readsCondition 17 = .ok (.invokevirtual 123, 3) := by decide +kernel
theorem dX6_readsCondition_20 : decode cX6_readsCondition 20 = .ok (.ifCond .ne 5, 3) := by decide +kernel
theorem dX6_readsCondition_23 : decode cX6_readsCondition 23 = .ok (.iconst 0, 1) := by decide +kernel
theorem dX6_readsCondition_24 : decode cX6_readsCondition 24 = .ok (.ireturn, 1) := by decide +kernel
theorem dX6_readsCondition_25 : decode cX6_readsCondition 25 = .ok (.iload_n 3, 1) := by decide +kernel
theorem dX6_readsCondition_26 : decode cX6_readsCondition 26 = .ok (.ifCond .eq 13, 3) := by decide +kernel
theorem dX6_readsCondition_29 : decode cX6_readsCondition 29 = .ok (.aload_n 0, 1) := by decide +kernel
theorem dX6_readsCondition_30 : decode cX6_readsCondition 30 = .ok (.getfield 18, 3) := by decide +kernel
theorem dX6_readsCondition_33 : decode cX6_readsCondition 33 = .ok (.sipush 10016, 3) := by decide +kernel
theorem dX6_readsCondition_36 : decode cX6_readsCondition 36 = .ok (.invokevirtual 126, 3) := by decide +kernel
theorem dX6_readsCondition_39 : decode cX6_readsCondition 39 = .ok (.aload_n 0, 1) := by decide +kernel
theorem dX6_readsCondition_40 : decode cX6_readsCondition 40 = .ok (.getfield 36, 3) := by decide +kernel
theorem dX6_readsCondition_43 : decode cX6_readsCondition 43 = .ok (.aload_n 0, 1) := by decide +kernel
theorem dX6_readsCondition_44 : decode cX6_readsCondition 44 = .ok (.getfield 46, 3) := by decide +kernel
theorem dX6_readsCondition_47 : decode cX6_readsCondition 47 = .ok (.iaload, 1) := by decide +kernel
theorem dX6_readsCondition_48 : decode cX6_readsCondition 48 = .ok (.sipush 10016, 3) := by decide +kernel
theorem dX6_readsCondition_51 : decode cX6_readsCondition 51 = .ok (.if_icmp .ne 7, 3) := by decide +kernel
theorem dX6_readsCondition_54 : decode cX6_readsCondition 54 = .ok (.iconst 1, 1) := by decide +kernel
theorem dX6_readsCondition_55 : decode cX6_readsCondition 55 = .ok (.goto 4, 3) := by decide +kernel
theorem dX6_readsCondition_58 : decode cX6_readsCondition 58 = .ok (.iconst 0, 1) := by decide +kernel
theorem dX6_readsCondition_59 : decode cX6_readsCondition 59 = .ok (.istore_n 3, 1) := by decide +kernel
theorem dX6_readsCondition_60 : decode cX6_readsCondition 60 = .ok (.iload_n 3, 1) := by decide +kernel
theorem dX6_readsCondition_61 : decode cX6_readsCondition 61 = .ok (.ifCond .ne 44, 3) := by decide +kernel
theorem dX6_readsCondition_64 : decode cX6_readsCondition 64 = .ok (.iload_n 2, 1) := by decide +kernel
theorem dX6_readsCondition_65 : decode cX6_readsCondition 65 = .ok (.ifCond .eq 13, 3) := by decide +kernel
theorem dX6_readsCondition_68 : decode cX6_readsCondition 68 = .ok (.aload_n 0, 1) := by decide +kernel
theorem dX6_readsCondition_69 : decode cX6_readsCondition 69 = .ok (.getfield 18, 3) := by decide +kernel
theorem dX6_readsCondition_72 : decode cX6_readsCondition 72 = .ok (.sipush 10015, 3) := by decide +kernel
theorem dX6_readsCondition_75 : decode cX6_readsCondition 75 = .ok (.invokevirtual 126, 3) := by decide +kernel
theorem dX6_readsCondition_78 : decode cX6_readsCondition 78 = .ok (.aload_n 0, 1) := by decide +kernel
theorem dX6_readsCondition_79 : decode cX6_readsCondition 79 = .ok (.getfield 36, 3) := by decide +kernel
theorem dX6_readsCondition_82 : decode cX6_readsCondition 82 = .ok (.aload_n 0, 1) := by decide +kernel
theorem dX6_readsCondition_83 : decode cX6_readsCondition 83 = .ok (.getfield 46, 3) := by decide +kernel
theorem dX6_readsCondition_86 : decode cX6_readsCondition 86 = .ok (.iaload, 1) := by decide +kernel
theorem dX6_readsCondition_87 : decode cX6_readsCondition 87 = .ok (.sipush 10015, 3) := by decide +kernel
theorem dX6_readsCondition_90 : decode cX6_readsCondition 90 = .ok (.if_icmp .ne 7, 3) := by decide +kernel
theorem dX6_readsCondition_93 : decode cX6_readsCondition 93 = .ok (.iconst 1, 1) := by decide +kernel
theorem dX6_readsCondition_94 : decode cX6_readsCondition 94 = .ok (.goto 4, 3) := by decide +kernel
theorem dX6_readsCondition_97 : decode cX6_readsCondition 97 = .ok (.iconst 0, 1) := by decide +kernel
theorem dX6_readsCondition_98 : decode cX6_readsCondition 98 = .ok (.istore_n 2, 1) := by decide +kernel
theorem dX6_readsCondition_99 : decode cX6_readsCondition 99 = .ok (.iload_n 2, 1) := by decide +kernel
theorem dX6_readsCondition_100 : decode cX6_readsCondition 100 = .ok (.ifCond .ne 5, 3) := by decide +kernel
theorem dX6_readsCondition_103 : decode cX6_readsCondition 103 = .ok (.iconst 1, 1) := by decide +kernel
theorem dX6_readsCondition_104 : decode cX6_readsCondition 104 = .ok (.ireturn, 1) := by decide +kernel
theorem dX6_readsCondition_105 : decode cX6_readsCondition 105 = .ok (.aload_n 0, 1) := by decide +kernel
theorem dX6_readsCondition_106 : decode cX6_readsCondition 106 = .ok (.invokevirtual 100, 3) := by decide +kernel
theorem dX6_readsCondition_109 : decode cX6_readsCondition 109 = .ok (.iinc 4 1, 3) := by decide +kernel
theorem dX6_readsCondition_112 : decode cX6_readsCondition 112 = .ok (.goto (-105), 3) := by decide +kernel
theorem dX6_readsCondition_115 : decode cX6_readsCondition 115 = .ok (.iconst 0, 1) := by decide +kernel
theorem dX6_readsCondition_116 : decode cX6_readsCondition 116 = .ok (.ireturn, 1) := by decide +kernel
theorem dX6_readsComparison_0 : decode cX6_readsComparison 0 = .ok (.aload_n 0, 1) := by decide +kernel
theorem dX6_readsComparison_1 : decode cX6_readsComparison 1 = .ok (.getfield 36, 3) := by decide +kernel
theorem dX6_readsComparison_4 : decode cX6_readsComparison 4 = .ok (.aload_n 0, 1) := by decide +kernel
theorem dX6_readsComparison_5 : decode cX6_readsComparison 5 = .ok (.getfield 46, 3) := by decide +kernel
theorem dX6_readsComparison_8 : decode cX6_readsComparison 8 = .ok (.iaload, 1) := by decide +kernel
theorem dX6_readsComparison_9 : decode cX6_readsComparison 9 = .ok (.istore_n 2, 1) := by decide +kernel
theorem dX6_readsComparison_10 : decode cX6_readsComparison 10 = .ok (.iload_n 2, 1) := by decide +kernel
theorem dX6_readsComparison_11 : decode cX6_readsComparison 11 = .ok (.sipush 10017, 3) := by decide +kernel
theorem dX6_readsComparison_14 : decode cX6_readsComparison 14 = .ok (.if_icmp .eq 10, 3) := by decide +kernel
theorem dX6_readsComparison_17 : decode cX6_readsComparison 17 = .ok (.iload_n 2, 1) := by decide +kernel
theorem dX6_readsComparison_18 : decode cX6_readsComparison 18 = .ok (.sipush 20040, 3) := by decide +kernel
theorem dX6_readsComparison_21 : decode cX6_readsComparison 21 = .ok (.if_icmp .ne 76, 3) := by decide +kernel
theorem dX6_readsComparison_24 : decode cX6_readsComparison 24 = .ok (.iload_n 1, 1) := by decide +kernel
theorem dX6_readsComparison_25 : decode cX6_readsComparison 25 = .ok (.bipush 8, 2) := by decide +kernel
theorem dX6_readsComparison_27 : decode cX6_readsComparison 27 = .ok (.if_icmp .lt 9, 3) := by decide +kernel
theorem dX6_readsComparison_30 : decode cX6_readsComparison 30 = .ok (.aload_n 0, 1) := by decide +kernel
theorem dX6_readsComparison_31 : decode cX6_readsComparison 31 = .ok (.iconst 3, 1) := by decide +kernel
theorem dX6_readsComparison_32 : decode cX6_readsComparison 32 = .ok (.invokevirtual 93, 3) := by decide +kernel
theorem dX6_readsComparison_35 : decode cX6_readsComparison 35 = .ok (.ireturn, 1) := by decide +kernel
theorem dX6_readsComparison_36 : decode cX6_readsComparison 36 = .ok (.aload_n 0, 1) := by decide +kernel
theorem dX6_readsComparison_37 : decode cX6_readsComparison 37 = .ok (.invokevirtual 100, 3) := by decide +kernel
theorem dX6_readsComparison_40 : decode cX6_readsComparison 40 = .ok (.iload_n 2, 1) := by decide +kernel
theorem dX6_readsComparison_41 : decode cX6_readsComparison 41 = .ok (.sipush 20040, 3) := by decide +kernel
theorem dX6_readsComparison_44 : decode cX6_readsComparison 44 = .ok (.if_icmp .ne 29, 3) := by decide +kernel
theorem dX6_readsComparison_47 : decode cX6_readsComparison 47 = .ok (.aload_n 0, 1) := by decide +kernel
theorem dX6_readsComparison_48 : decode cX6_readsComparison 48 = .ok (.iload_n 1, 1) := by decide +kernel
theorem dX6_readsComparison_49 : decode cX6_readsComparison 49 = .ok (.iconst 1, 1) := by decide +kernel
theorem dX6_readsComparison_50 : decode cX6_readsComparison 50 = .ok (.iadd, 1) := by decide +kernel
theorem dX6_readsComparison_51 : decode cX6_readsComparison 51 = .ok (.invokevirtual 114, 3) := by decide +kernel
theorem dX6_readsComparison_54 : decode cX6_readsComparison 54 = .ok (.ifCond .eq 17, 3) := by decide +kernel
theorem dX6_readsComparison_57 : decode cX6_readsComparison 57 = .ok (.aload_n 0, 1) := by decide +kernel
theorem dX6_readsComparison_58 : decode cX6_readsComparison 58 = .ok (.sipush 20041, 3) := by decide +kernel
theorem dX6_readsComparison_61 : decode cX6_readsComparison 61 = .ok (.invokevirtual 117, 3) := by decide +kernel
theorem dX6_readsComparison_64 : decode cX6_readsComparison 64 = .ok (.ifCond .eq 7, 3) := by decide +kernel
theorem dX6_readsComparison_67 : decode cX6_readsComparison 67 = .ok (.iconst 1, 1) := by decide +kernel
theorem dX6_readsComparison_68 : decode cX6_readsComparison 68 = .ok (.goto 4, 3) := by decide +kernel
theorem dX6_readsComparison_71 : decode cX6_readsComparison 71 = .ok (.iconst 0, 1) := by decide +kernel
theorem dX6_readsComparison_72 : decode cX6_readsComparison 72 = .ok (.ireturn, 1) := by decide +kernel
theorem dX6_readsComparison_73 : decode cX6_readsComparison 73 = .ok (.aload_n 0, 1) := by decide +kernel
theorem dX6_readsComparison_74 : decode cX6_readsComparison 74 = .ok (.iload_n 1, 1) := by decide +kernel
theorem dX6_readsComparison_75 : decode cX6_readsComparison 75 = .ok (.iconst 1, 1) := by decide +kernel
theorem dX6_readsComparison_76 : decode cX6_readsComparison 76 = .ok (.iadd, 1) := by decide +kernel
theorem dX6_readsComparison_77 : decode cX6_readsComparison 77 = .ok (.invokevirtual 123, 3) := by decide +kernel
theorem dX6_readsComparison_80 : decode cX6_readsComparison 80 = .ok (.ifCond .ne 5, 3) := by decide +kernel
theorem dX6_readsComparison_83 : decode cX6_readsComparison 83 = .ok (.iconst 0, 1) := by decide +kernel
theorem dX6_readsComparison_84 : decode cX6_readsComparison 84 = .ok (.ireturn, 1) := by decide +kernel
theorem dX6_readsComparison_85 : decode cX6_readsComparison 85 = .ok (.aload_n 0, 1) := by decide +kernel
theorem dX6_readsComparison_86 : decode cX6_readsComparison 86 = .ok (.getfield 18, 3) := by decide +kernel
theorem dX6_readsComparison_89 : decode cX6_readsComparison 89 = .ok (.sipush 10017, 3) := by decide +kernel
theorem dX6_readsComparison_92 : decode cX6_readsComparison 92 = .ok (.invokevirtual 126, 3) := by decide +kernel
theorem dX6_readsComparison_95 : decode cX6_readsComparison 95 = .ok (.iconst 1, 1) := by decide +kernel
theorem dX6_readsComparison_96 : decode cX6_readsComparison 96 = .ok (.ireturn, 1) := by decide +kernel
theorem dX6_readsComparison_97 : decode cX6_readsComparison 97 = .ok (.aload_n 0, 1) := by decide +kernel
theorem dX6_readsComparison_98 : decode cX6_readsComparison 98 = .ok (.invokevirtual 107, 3) := by decide +kernel
theorem dX6_readsComparison_101 : decode cX6_readsComparison 101 = .ok (.ifCond .ne 5, 3) := by decide +kernel
theorem dX6_readsComparison_104 : decode cX6_readsComparison 104 = .ok (.iconst 0, 1) := by decide +kernel
theorem dX6_readsComparison_105 : decode cX6_readsComparison 105 = .ok (.ireturn, 1) := by decide +kernel
theorem dX6_readsComparison_106 : decode cX6_readsComparison 106 = .ok (.aload_n 0, 1) := by decide +kernel
theorem dX6_readsComparison_107 : decode cX6_readsComparison 107 = .ok (.getfield 36, 3) := by decide +kernel
theorem dX6_readsComparison_110 : decode cX6_readsComparison 110 = .ok (.aload_n 0, 1) := by decide +kernel
theorem dX6_readsComparison_111 : decode cX6_readsComparison 111 = .ok (.getfield 46, 3) := by decide +kernel
theorem dX6_readsComparison_114 : decode cX6_readsComparison 114 = .ok (.iaload, 1) := by decide +kernel
theorem dX6_readsComparison_115 : decode cX6_readsComparison 115 = .ok (.istore_n 3, 1) := by decide +kernel
theorem dX6_readsComparison_116 : decode cX6_readsComparison 116 = .ok (.iload_n 3, 1) := by decide +kernel
theorem dX6_readsComparison_117 : decode cX6_readsComparison 117 = .ok (.sipush 20060, 3) := by decide +kernel
theorem dX6_readsComparison_120 : decode cX6_readsComparison 120 = .ok (.if_icmp .eq 23, 3) := by decide +kernel
theorem dX6_readsComparison_123 : decode cX6_readsComparison 123 = .ok (.iload_n 3, 1) := by decide +kernel
theorem dX6_readsComparison_124 : decode cX6_readsComparison 124 = .ok (.sipush 20061, 3) := by decide +kernel
theorem dX6_readsComparison_127 : decode cX6_readsComparison 127 = .ok (.if_icmp .eq 16, 3) := by decide +kernel
theorem dX6_readsComparison_130 : decode cX6_readsComparison 130 = .ok (.iload_n 3, 1) := by decide +kernel
theorem dX6_readsComparison_131 : decode cX6_readsComparison 131 = .ok (.sipush 20062, 3) := by decide +kernel
theorem dX6_readsComparison_134 : decode cX6_readsComparison 134 = .ok (.if_icmp .eq 9, 3) := by decide +kernel
theorem dX6_readsComparison_137 : decode cX6_readsComparison 137 = .ok (.aload_n 0, 1) := by decide +kernel
theorem dX6_readsComparison_138 : decode cX6_readsComparison 138 = .ok (.iconst 1, 1) := by decide +kernel
theorem dX6_readsComparison_139 : decode cX6_readsComparison 139 = .ok (.invokevirtual 93, 3) := by decide +kernel
theorem dX6_readsComparison_142 : decode cX6_readsComparison 142 = .ok (.ireturn, 1) := by decide +kernel
theorem dX6_readsComparison_143 : decode cX6_readsComparison 143 = .ok (.aload_n 0, 1) := by decide +kernel
theorem dX6_readsComparison_144 : decode cX6_readsComparison 144 = .ok (.invokevirtual 100, 3) := by decide +kernel
theorem dX6_readsComparison_147 : decode cX6_readsComparison 147 = .ok (.aload_n 0, 1) := by decide +kernel
theorem dX6_readsComparison_148 : decode cX6_readsComparison 148 = .ok (.invokevirtual 107, 3) := by decide +kernel
theorem dX6_readsComparison_151 : decode cX6_readsComparison 151 = .ok (.ifCond .ne 5, 3) := by decide +kernel
theorem dX6_readsComparison_154 : decode cX6_readsComparison 154 = .ok (.iconst 0, 1) := by decide +kernel
theorem dX6_readsComparison_155 : decode cX6_readsComparison 155 = .ok (.ireturn, 1) := by decide +kernel
theorem dX6_readsComparison_156 : decode cX6_readsComparison 156 = .ok (.aload_n 0, 1) := by decide +kernel
theorem dX6_readsComparison_157 : decode cX6_readsComparison 157 = .ok (.getfield 18, 3) := by decide +kernel
theorem dX6_readsComparison_160 : decode cX6_readsComparison 160 = .ok (.iload_n 3, 1) := by decide +kernel
theorem dX6_readsComparison_161 : decode cX6_readsComparison 161 = .ok (.invokevirtual 126, 3) := by decide +kernel
theorem dX6_readsComparison_164 : decode cX6_readsComparison 164 = .ok (.iconst 1, 1) := by decide +kernel
theorem dX6_readsComparison_165 : decode cX6_readsComparison 165 = .ok (.ireturn, 1) := by decide +kernel
theorem dX6_readsSum_0 : decode cX6_readsSum 0 = .ok (.sipush 30001, 3) := by decide +kernel
theorem dX6_readsSum_3 : decode cX6_readsSum 3 = .ok (.istore_n 1, 1) := by decide +kernel
theorem dX6_readsSum_4 : decode cX6_readsSum 4 = .ok (.sipush 30001, 3) := by decide +kernel
theorem dX6_readsSum_7 : decode cX6_readsSum 7 = .ok (.istore_n 2, 1) := by decide +kernel
theorem dX6_readsSum_8 : decode cX6_readsSum 8 = .ok (.iconst 0, 1) := by decide +kernel
theorem dX6_readsSum_9 : decode cX6_readsSum 9 = .ok (.istore_n 3, 1) := by decide +kernel
theorem dX6_readsSum_10 : decode cX6_readsSum 10 = .ok (.iload_n 3, 1) := by decide +kernel
theorem dX6_readsSum_11 : decode cX6_readsSum 11 = .ok (.sipush 400, 3) := by decide +kernel
theorem dX6_readsSum_14 : decode cX6_readsSum 14 = .ok (.if_icmp .ge 136, 3) := by decide +kernel
theorem dX6_readsSum_17 : decode cX6_readsSum 17 = .ok (.iload_n 2, 1) := by decide +kernel
theorem dX6_readsSum_18 : decode cX6_readsSum 18 = .ok (.sipush 20047, 3) := by decide +kernel
theorem dX6_readsSum_21 : decode cX6_readsSum 21 = .ok (.if_icmp .ne 36, 3) := by decide +kernel
theorem dX6_readsSum_24 : decode cX6_readsSum 24 = .ok (.aload_n 0, 1) := by decide +kernel
theorem dX6_readsSum_25 : decode cX6_readsSum 25 = .ok (.iconst 1, 1) := by decide +kernel
theorem dX6_readsSum_26 : decode cX6_readsSum 26 = .ok (.sipush 9999, 3) := by decide +kernel
theorem dX6_readsSum_29 : decode cX6_readsSum 29 = .ok (.invokevirtual 129, 3) := by decide +kernel
theorem dX6_readsSum_32 : decode cX6_readsSum 32 = .ok (.istore 4, 2) := by decide +kernel
theorem dX6_readsSum_34 : decode cX6_readsSum 34 = .ok (.iload 4, 2) := by decide +kernel
theorem dX6_readsSum_36 : decode cX6_readsSum 36 = .ok (.iconst (-1), 1) := by decide +kernel
theorem dX6_readsSum_37 : decode cX6_readsSum 37 = .ok (.if_icmp .ne 5, 3) := by decide +kernel
theorem dX6_readsSum_40 : decode cX6_readsSum 40 = .ok (.iconst 0, 1) := by decide +kernel
theorem dX6_readsSum_41 : decode cX6_readsSum 41 = .ok (.ireturn, 1) := by decide +kernel
theorem dX6_readsSum_42 : decode cX6_readsSum 42 = .ok (.aload_n 0, 1) := by decide +kernel
theorem dX6_readsSum_43 : decode cX6_readsSum 43 = .ok (.getfield 18, 3) := by decide +kernel
theorem dX6_readsSum_46 : decode cX6_readsSum 46 = .ok (.ldc 133, 2) := by decide +kernel
theorem dX6_readsSum_48 : decode cX6_readsSum 48 = .ok (.iload 4, 2) := by decide +kernel
theorem dX6_readsSum_50 : decode cX6_readsSum 50 = .ok (.iadd, 1) := by decide +kernel
theorem dX6_readsSum_51 : decode cX6_readsSum 51 = .ok (.invokevirtual 126, 3) := by decide +kernel
theorem dX6_readsSum_54 : decode cX6_readsSum 54 = .ok (.goto 12, 3) := by decide +kernel
theorem dX6_readsSum_57 : decode cX6_readsSum 57 = .ok (.aload_n 0, 1) := by decide +kernel
theorem dX6_readsSum_58 : decode cX6_readsSum 58 = .ok (.invokevirtual 134, 3) := by decide +kernel
theorem dX6_readsSum_61 : decode cX6_readsSum 61 = .ok (.ifCond .ne 5, 3) := by decide +kernel
theorem dX6_readsSum_64 : decode cX6_readsSum 64 = .ok (.iconst 0, 1) := by decide +kernel
theorem dX6_readsSum_65 : decode cX6_readsSum 65 = .ok (.ireturn, 1) := by decide +kernel
theorem dX6_readsSum_66 : decode cX6_readsSum 66 = .ok (.iload_n 2, 1) := by decide +kernel
theorem dX6_readsSum_67 : decode cX6_readsSum 67 = .ok (.sipush 20042, 3) := by decide +kernel
theorem dX6_readsSum_70 : decode cX6_readsSum 70 = .ok (.if_icmp .ne 13, 3) := by decide +kernel
theorem dX6_readsSum_73 : decode cX6_readsSum 73 = .ok (.aload_n 0, 1) := by decide +kernel
theorem dX6_readsSum_74 : decode cX6_readsSum 74 = .ok (.getfield 18, 3) := by decide +kernel
theorem dX6_readsSum_77 : decode cX6_readsSum 77 = .ok (.sipush 20042, 3) := by decide +kernel
theorem dX6_readsSum_80 : decode cX6_readsSum 80 = .ok (.invokevirtual 126, 3) := by decide +kernel
theorem dX6_readsSum_83 : decode cX6_readsSum 83 = .ok (.aload_n 0, 1) := by decide +kernel
theorem dX6_readsSum_84 : decode cX6_readsSum 84 = .ok (.getfield 36, 3) := by decide +kernel
theorem dX6_readsSum_87 : decode cX6_readsSum 87 = .ok (.aload_n 0, 1) := by decide +kernel
theorem dX6_readsSum_88 : decode cX6_readsSum 88 = .ok (.getfield 46, 3) := by decide +kernel
theorem dX6_readsSum_91 : decode cX6_readsSum 91 = .ok (.iaload, 1) := by decide +kernel
theorem dX6_readsSum_92 : decode cX6_readsSum 92 = .ok (.istore_n 2, 1) := by decide +kernel
theorem dX6_readsSum_93 : decode cX6_readsSum 93 = .ok (.iload_n 2, 1) := by decide +kernel
theorem dX6_readsSum_94 : decode cX6_readsSum 94 = .ok (.sipush 20042, 3) := by decide +kernel
theorem dX6_readsSum_97 : decode cX6_readsSum 97 = .ok (.if_icmp .eq 43, 3) := by decide +kernel
theorem dX6_readsSum_100 : decode cX6_readsSum 100 = .ok (.iload_n 2, 1) := by decide +kernel
theorem dX6_readsSum_101 : decode cX6_readsSum 101 = .ok (.sipush 20047, 3) := by decide +kernel
theorem dX6_readsSum_104 : decode cX6_readsSum 104 = .ok (.if_icmp .eq 36, 3) := by decide +kernel
theorem dX6_readsSum_107 : decode cX6_readsSum 107 = .ok (.iload_n 1, 1) := by decide +kernel
theorem dX6_readsSum_108 : decode cX6_readsSum 108 = .ok (.sipush 30001, 3) := by decide +kernel
theorem dX6_readsSum_111 : decode cX6_readsSum 111 = .ok (.if_icmp .eq 11, 3) := by decide +kernel
theorem dX6_readsSum_114 : decode cX6_readsSum 114 = .ok (.aload_n 0, 1) := by decide +kernel
theorem dX6_readsSum_115 : decode cX6_readsSum 115 = .ok (.getfield 18, 3) := by decide +kernel
theorem dX6_readsSum_118 : decode cX6_readsSum 118 = .ok (.iload_n 1, 1) := by decide +kernel
theorem dX6_readsSum_119 : decode cX6_readsSum 119 = .ok (.invokevirtual 126, 3) := by decide +kernel
theorem dX6_readsSum_122 : decode cX6_readsSum 122 = .ok (.iload_n 2, 1) := by decide +kernel
theorem dX6_readsSum_123 : decode cX6_readsSum 123 = .ok (.sipush 20043, 3) := by decide +kernel
theorem dX6_readsSum_126 : decode cX6_readsSum 126 = .ok (.if_icmp .eq 12, 3) := by decide +kernel
theorem dX6_readsSum_129 : decode cX6_readsSum 129 = .ok (.iload_n 2, 1) := by decide +kernel
theorem dX6_readsSum_130 : decode cX6_readsSum 130 = .ok (.sipush 20045, 3) := by decide +kernel
theorem dX6_readsSum_133 : decode cX6_readsSum 133 = .ok (.if_icmp .eq 5, 3) := by decide +kernel
theorem dX6_readsSum_136 : decode cX6_readsSum 136 = .ok (.iconst 1, 1) := by decide +kernel
theorem dX6_readsSum_137 : decode cX6_readsSum 137 = .ok (.ireturn, 1) := by decide +kernel
theorem dX6_readsSum_138 : decode cX6_readsSum 138 = .ok (.iload_n 2, 1) := by decide +kernel
theorem dX6_readsSum_139 : decode cX6_readsSum 139 = .ok (.istore_n 1, 1) := by decide +kernel
theorem dX6_readsSum_140 : decode cX6_readsSum 140 = .ok (.aload_n 0, 1) := by decide +kernel
theorem dX6_readsSum_141 : decode cX6_readsSum 141 = .ok (.invokevirtual 100, 3) := by decide +kernel
theorem dX6_readsSum_144 : decode cX6_readsSum 144 = .ok (.iinc 3 1, 3) := by decide +kernel
theorem dX6_readsSum_147 : decode cX6_readsSum 147 = .ok (.goto (-137), 3) := by decide +kernel
theorem dX6_readsSum_150 : decode cX6_readsSum 150 = .ok (.iconst 0, 1) := by decide +kernel
theorem dX6_readsSum_151 : decode cX6_readsSum 151 = .ok (.ireturn, 1) := by decide +kernel
theorem dX6_readsUnit_0 : decode cX6_readsUnit 0 = .ok (.aload_n 0, 1) := by decide +kernel
theorem dX6_readsUnit_1 : decode cX6_readsUnit 1 = .ok (.getfield 36, 3) := by decide +kernel
theorem dX6_readsUnit_4 : decode cX6_readsUnit 4 = .ok (.aload_n 0, 1) := by decide +kernel
theorem dX6_readsUnit_5 : decode cX6_readsUnit 5 = .ok (.getfield 46, 3) := by decide +kernel
theorem dX6_readsUnit_8 : decode cX6_readsUnit 8 = .ok (.iaload, 1) := by decide +kernel
theorem dX6_readsUnit_9 : decode cX6_readsUnit 9 = .ok (.sipush 10009, 3) := by decide +kernel
theorem dX6_readsUnit_12 : decode cX6_readsUnit 12 = .ok (.if_icmp .lt 9, 3) := by decide +kernel
theorem dX6_readsUnit_15 : decode cX6_readsUnit 15 = .ok (.aload_n 0, 1) := by decide +kernel
theorem dX6_readsUnit_16 : decode cX6_readsUnit 16 = .ok (.iconst 1, 1) := by decide +kernel
theorem dX6_readsUnit_17 : decode cX6_readsUnit 17 = .ok (.invokevirtual 93, 3) := by decide +kernel
theorem dX6_readsUnit_20 : decode cX6_readsUnit 20 = .ok (.ireturn, 1) := by decide +kernel
theorem dX6_readsUnit_21 : decode cX6_readsUnit 21 = .ok (.aload_n 0, 1) := by decide +kernel
theorem dX6_readsUnit_22 : decode cX6_readsUnit 22 = .ok (.getfield 18, 3) := by decide +kernel
theorem dX6_readsUnit_25 : decode cX6_readsUnit 25 = .ok (.aload_n 0, 1) := by decide +kernel
theorem dX6_readsUnit_26 : decode cX6_readsUnit 26 = .ok (.getfield 36, 3) := by decide +kernel
theorem dX6_readsUnit_29 : decode cX6_readsUnit 29 = .ok (.aload_n 0, 1) := by decide +kernel
theorem dX6_readsUnit_30 : decode cX6_readsUnit 30 = .ok (.getfield 46, 3) := by decide +kernel
theorem dX6_readsUnit_33 : decode cX6_readsUnit 33 = .ok (.iaload, 1) := by decide +kernel
theorem dX6_readsUnit_34 : decode cX6_readsUnit 34 = .ok (.invokevirtual 126, 3) := by decide +kernel
theorem dX6_readsUnit_37 : decode cX6_readsUnit 37 = .ok (.aload_n 0, 1) := by decide +kernel
theorem dX6_readsUnit_38 : decode cX6_readsUnit 38 = .ok (.invokevirtual 100, 3) := by decide +kernel
theorem dX6_readsUnit_41 : decode cX6_readsUnit 41 = .ok (.iconst 1, 1) := by decide +kernel
theorem dX6_readsUnit_42 : decode cX6_readsUnit 42 = .ok (.ireturn, 1) := by decide +kernel
theorem dX6_readsRound_0 : decode cX6_readsRound 0 = .ok (.aload_n 0, 1) := by decide +kernel
theorem dX6_readsRound_1 : decode cX6_readsRound 1 = .ok (.getfield 25, 3) := by decide +kernel
theorem dX6_readsRound_4 : decode cX6_readsRound 4 = .ok (.iconst 0, 1) := by decide +kernel
theorem dX6_readsRound_5 : decode cX6_readsRound 5 = .ok (.putfield 137, 3) := by decide +kernel
theorem dX6_readsRound_8 : decode cX6_readsRound 8 = .ok (.iconst 0, 1) := by decide +kernel
theorem dX6_readsRound_9 : decode cX6_readsRound 9 = .ok (.istore_n 1, 1) := by decide +kernel
theorem dX6_readsRound_10 : decode cX6_readsRound 10 = .ok (.iload_n 1, 1) := by decide +kernel
theorem dX6_readsRound_11 : decode cX6_readsRound 11 = .ok (.bipush 8, 2) := by decide +kernel
theorem dX6_readsRound_13 : decode cX6_readsRound 13 = .ok (.if_icmp .gt 62, 3) := by decide +kernel
theorem dX6_readsRound_16 : decode cX6_readsRound 16 = .ok (.aload_n 0, 1) := by decide +kernel
theorem dX6_readsRound_17 : decode cX6_readsRound 17 = .ok (.getfield 36, 3) := by decide +kernel
theorem dX6_readsRound_20 : decode cX6_readsRound 20 = .ok (.aload_n 0, 1) := by decide +kernel
theorem dX6_readsRound_21 : decode cX6_readsRound 21 = .ok (.getfield 46, 3) := by decide +kernel
theorem dX6_readsRound_24 : decode cX6_readsRound 24 = .ok (.iaload, 1) := by decide +kernel
theorem dX6_readsRound_25 : decode cX6_readsRound 25 = .ok (.sipush 30000, 3) := by decide +kernel
theorem dX6_readsRound_28 : decode cX6_readsRound 28 = .ok (.if_icmp .ne 5, 3) := by decide +kernel
theorem dX6_readsRound_31 : decode cX6_readsRound 31 = .ok (.iconst 1, 1) := by decide +kernel
theorem dX6_readsRound_32 : decode cX6_readsRound 32 = .ok (.ireturn, 1) := by decide +kernel
theorem dX6_readsRound_33 : decode cX6_readsRound 33 = .ok (.aload_n 0, 1) := by decide +kernel
theorem dX6_readsRound_34 : decode cX6_readsRound 34 = .ok (.sipush 10018, 3) := by decide +kernel
theorem dX6_readsRound_37 : decode cX6_readsRound 37 = .ok (.aload_n 0, 1) := by decide +kernel
theorem dX6_readsRound_38 : decode cX6_readsRound 38 = .ok (.getfield 25, 3) := by decide +kernel
theorem dX6_readsRound_41 : decode cX6_readsRound 41 = .ok (.getfield 137, 3) := by decide +kernel
theorem dX6_readsRound_44 : decode cX6_readsRound 44 = .ok (.bipush 8, 2) := by decide +kernel
theorem dX6_readsRound_46 : decode cX6_readsRound 46 = .ok (.if_icmp .ge 7, 3) := by decide +kernel
theorem dX6_readsRound_49 : decode cX6_readsRound 49 = .ok (.iconst 1, 1) := by decide +kernel
theorem dX6_readsRound_50 : decode cX6_readsRound 50 = .ok (.goto 4, 3) := by decide +kernel
theorem dX6_readsRound_53 : decode cX6_readsRound 53 = .ok (.iconst 0, 1) := by decide +kernel
theorem dX6_readsRound_54 : decode cX6_readsRound 54 = .ok (.invokevirtual 140, 3) := by decide +kernel
theorem dX6_readsRound_57 : decode cX6_readsRound 57 = .ok (.ifCond .eq 10, 3) := by decide +kernel
theorem dX6_readsRound_60 : decode cX6_readsRound 60 = .ok (.aload_n 0, 1) := by decide +kernel
theorem dX6_readsRound_61 : decode cX6_readsRound 61 = .ok (.invokevirtual 144, 3) := by decide +kernel
theorem dX6_readsRound_64 : decode cX6_readsRound 64 = .ok (.ifCond .ne 5, 3) := by decide +kernel
theorem dX6_readsRound_67 : decode cX6_readsRound 67 = .ok (.iconst 0, 1) := by decide +kernel
theorem dX6_readsRound_68 : decode cX6_readsRound 68 = .ok (.ireturn, 1) := by decide +kernel
theorem dX6_readsRound_69 : decode cX6_readsRound 69 = .ok (.iinc 1 1, 3) := by decide +kernel
theorem dX6_readsRound_72 : decode cX6_readsRound 72 = .ok (.goto (-62), 3) := by decide +kernel
theorem dX6_readsRound_75 : decode cX6_readsRound 75 = .ok (.iconst 0, 1) := by decide +kernel
theorem dX6_readsRound_76 : decode cX6_readsRound 76 = .ok (.ireturn, 1) := by decide +kernel
theorem dX6_readsStone_0 : decode cX6_readsStone 0 = .ok (.aload_n 0, 1) := by decide +kernel
theorem dX6_readsStone_1 : decode cX6_readsStone 1 = .ok (.iconst 0, 1) := by decide +kernel
theorem dX6_readsStone_2 : decode cX6_readsStone 2 = .ok (.bipush 7, 2) := by decide +kernel
theorem dX6_readsStone_4 : decode cX6_readsStone 4 = .ok (.invokevirtual 129, 3) := by decide +kernel
theorem dX6_readsStone_7 : decode cX6_readsStone 7 = .ok (.istore_n 1, 1) := by decide +kernel
theorem dX6_readsStone_8 : decode cX6_readsStone 8 = .ok (.iload_n 1, 1) := by decide +kernel
theorem dX6_readsStone_9 : decode cX6_readsStone 9 = .ok (.iconst (-1), 1) := by decide +kernel
theorem dX6_readsStone_10 : decode cX6_readsStone 10 = .ok (.if_icmp .eq 13, 3) := by decide +kernel
theorem dX6_readsStone_13 : decode cX6_readsStone 13 = .ok (.aload_n 0, 1) := by decide +kernel
theorem dX6_readsStone_14 : decode cX6_readsStone 14 = .ok (.sipush 10019, 3) := by decide +kernel
theorem dX6_readsStone_17 : decode cX6_readsStone 17 = .ok (.invokevirtual 117, 3) := by decide +kernel
theorem dX6_readsStone_20 : decode cX6_readsStone 20 = .ok (.ifCond .ne 5, 3) := by decide +kernel
theorem dX6_readsStone_23 : decode cX6_readsStone 23 = .ok (.iconst 0, 1) := by decide +kernel
theorem dX6_readsStone_24 : decode cX6_readsStone 24 = .ok (.ireturn, 1) := by decide +kernel
theorem dX6_readsStone_25 : decode cX6_readsStone 25 = .ok (.aload_n 0, 1) := by decide +kernel
theorem dX6_readsStone_26 : decode cX6_readsStone 26 = .ok (.iconst 1, 1) := by decide +kernel
theorem dX6_readsStone_27 : decode cX6_readsStone 27 = .ok (.bipush 24, 2) := by decide +kernel
theorem dX6_readsStone_29 : decode cX6_readsStone 29 = .ok (.invokevirtual 129, 3) := by decide +kernel
theorem dX6_readsStone_32 : decode cX6_readsStone 32 = .ok (.istore_n 2, 1) := by decide +kernel
theorem dX6_readsStone_33 : decode cX6_readsStone 33 = .ok (.iload_n 2, 1) := by decide +kernel
theorem dX6_readsStone_34 : decode cX6_readsStone 34 = .ok (.iconst (-1), 1) := by decide +kernel
theorem dX6_readsStone_35 : decode cX6_readsStone 35 = .ok (.if_icmp .ne 5, 3) := by decide +kernel
theorem dX6_readsStone_38 : decode cX6_readsStone 38 = .ok (.iconst 0, 1) := by decide +kernel
theorem dX6_readsStone_39 : decode cX6_readsStone 39 = .ok (.ireturn, 1) := by decide +kernel
theorem dX6_readsStone_40 : decode cX6_readsStone 40 = .ok (.iconst 0, 1) := by decide +kernel
theorem dX6_readsStone_41 : decode cX6_readsStone 41 = .ok (.istore_n 3, 1) := by decide +kernel
theorem dX6_readsStone_42 : decode cX6_readsStone 42 = .ok (.aload_n 0, 1) := by decide +kernel
theorem dX6_readsStone_43 : decode cX6_readsStone 43 = .ok (.getfield 36, 3) := by decide +kernel
theorem dX6_readsStone_46 : decode cX6_readsStone 46 = .ok (.aload_n 0, 1) := by decide +kernel
theorem dX6_readsStone_47 : decode cX6_readsStone 47 = .ok (.getfield 46, 3) := by decide +kernel
theorem dX6_readsStone_50 : decode cX6_readsStone 50 = .ok (.iaload, 1) := by decide +kernel
theorem dX6_readsStone_51 : decode cX6_readsStone 51 = .ok (.sipush 10007, 3) := by decide +kernel
theorem dX6_readsStone_54 : decode cX6_readsStone 54 = .ok (.if_icmp .ne 14, 3) := by decide +kernel
theorem dX6_readsStone_57 : decode cX6_readsStone 57 = .ok (.aload_n 0, 1) := by decide +kernel
theorem dX6_readsStone_58 : decode cX6_readsStone 58 = .ok (.invokevirtual 100, 3) := by decide +kernel
theorem dX6_readsStone_61 : decode cX6_readsStone 61 = .ok (.aload_n 0, 1) := by decide +kernel
theorem dX6_readsStone_62 : decode cX6_readsStone 62 = .ok (.iconst 1, 1) := by decide +kernel
theorem dX6_readsStone_63 : decode cX6_readsStone 63 = .ok (.iload_n 2, 1) := by decide +kernel
theorem dX6_readsStone_64 : decode cX6_readsStone 64 = .ok (.invokevirtual 129, 3) := by decide +kernel
theorem dX6_readsStone_67 : decode cX6_readsStone 67 = .ok (.istore_n 3, 1) := by decide +kernel
theorem dX6_readsStone_68 : decode cX6_readsStone 68 = .ok (.iload_n 3, 1) := by decide +kernel
theorem dX6_readsStone_69 : decode cX6_readsStone 69 = .ok (.iconst (-1), 1) := by decide +kernel
theorem dX6_readsStone_70 : decode cX6_readsStone 70 = .ok (.if_icmp .eq 13, 3) := by decide +kernel
theorem dX6_readsStone_73 : decode cX6_readsStone 73 = .ok (.aload_n 0, 1) := by decide +kernel
theorem dX6_readsStone_74 : decode cX6_readsStone 74 = .ok (.sipush 10008, 3) := by decide +kernel
theorem dX6_readsStone_77 : decode cX6_readsStone 77 = .ok (.invokevirtual 117, 3) := by decide +kernel
theorem dX6_readsStone_80 : decode cX6_readsStone 80 = .ok (.ifCond .ne 5, 3) := by decide +kernel
theorem dX6_readsStone_83 : decode cX6_readsStone 83 = .ok (.iconst 0, 1) := by decide +kernel
theorem dX6_readsStone_84 : decode cX6_readsStone 84 = .ok (.ireturn, 1) := by decide +kernel
theorem dX6_readsStone_85 : decode cX6_readsStone 85 = .ok (.aload_n 0, 1) := by decide +kernel
theorem dX6_readsStone_86 : decode cX6_readsStone 86 = .ok (.iconst 0, 1) := by decide +kernel
theorem dX6_readsStone_87 : decode cX6_readsStone 87 = .ok (.bipush 99, 2) := by decide +kernel
theorem dX6_readsStone_89 : decode cX6_readsStone 89 = .ok (.invokevirtual 129, 3) := by decide +kernel
theorem dX6_readsStone_92 : decode cX6_readsStone 92 = .ok (.istore 4, 2) := by decide +kernel
theorem dX6_readsStone_94 : decode cX6_readsStone 94 = .ok (.iload 4, 2) := by decide +kernel
theorem dX6_readsStone_96 : decode cX6_readsStone 96 = .ok (.iconst (-1), 1) := by decide +kernel
theorem dX6_readsStone_97 : decode cX6_readsStone 97 = .ok (.if_icmp .eq 13, 3) := by decide +kernel
theorem dX6_readsStone_100 : decode cX6_readsStone 100 = .ok (.aload_n 0, 1) := by decide +kernel
theorem dX6_readsStone_101 : decode cX6_readsStone 101 = .ok (.sipush 20059, 3) := by decide +kernel
theorem dX6_readsStone_104 : decode cX6_readsStone 104 = .ok (.invokevirtual 117, 3) := by decide +kernel
theorem dX6_readsStone_107 : decode cX6_readsStone 107 = .ok (.ifCond .ne 5, 3) := by decide +kernel
theorem dX6_readsStone_110 : decode cX6_readsStone 110 = .ok (.iconst 0, 1) := by decide +kernel
theorem dX6_readsStone_111 : decode cX6_readsStone 111 = .ok (.ireturn, 1) := by decide +kernel
theorem dX6_readsStone_112 : decode cX6_readsStone 112 = .ok (.aload_n 0, 1) := by decide +kernel
theorem dX6_readsStone_113 : decode cX6_readsStone 113 = .ok (.getfield 25, 3) := by decide +kernel
theorem dX6_readsStone_116 : decode cX6_readsStone 116 = .ok (.iload_n 1, 1) := by decide +kernel
theorem dX6_readsStone_117 : decode cX6_readsStone 117 = .ok (.iload_n 2, 1) := by decide +kernel
theorem dX6_readsStone_118 : decode cX6_readsStone 118 = .ok (.iload_n 3, 1) := by decide +kernel
theorem dX6_readsStone_119 : decode cX6_readsStone 119 = .ok (.iload 4, 2) := by decide +kernel
theorem dX6_readsStone_121 : decode cX6_readsStone 121 = .ok (.invokevirtual 147, 3) := by decide +kernel
theorem dX6_readsStone_124 : decode cX6_readsStone 124 = .ok (.iconst 1, 1) := by decide +kernel
theorem dX6_readsStone_125 : decode cX6_readsStone 125 = .ok (.ireturn, 1) := by decide +kernel
theorem dX6_readsShifts_0 : decode cX6_readsShifts 0 = .ok (.aload_n 0, 1) := by decide +kernel
theorem dX6_readsShifts_1 : decode cX6_readsShifts 1 = .ok (.getfield 32, 3) := by decide +kernel
theorem dX6_readsShifts_4 : decode cX6_readsShifts 4 = .ok (.iconst 0, 1) := by decide +kernel
theorem dX6_readsShifts_5 : decode cX6_readsShifts 5 = .ok (.putfield 150, 3) := by decide +kernel
theorem dX6_readsShifts_8 : decode cX6_readsShifts 8 = .ok (.iconst 0, 1) := by decide +kernel
theorem dX6_readsShifts_9 : decode cX6_readsShifts 9 = .ok (.istore_n 2, 1) := by decide +kernel
theorem dX6_readsShifts_10 : decode cX6_readsShifts 10 = .ok (.iload_n 2, 1) := by decide +kernel
theorem dX6_readsShifts_11 : decode cX6_readsShifts 11 = .ok (.bipush 16, 2) := by decide +kernel
theorem dX6_readsShifts_13 : decode cX6_readsShifts 13 = .ok (.if_icmp .gt 63, 3) := by decide +kernel
theorem dX6_readsShifts_16 : decode cX6_readsShifts 16 = .ok (.aload_n 0, 1) := by decide +kernel
theorem dX6_readsShifts_17 : decode cX6_readsShifts 17 = .ok (.getfield 36, 3) := by decide +kernel
theorem dX6_readsShifts_20 : decode cX6_readsShifts 20 = .ok (.aload_n 0, 1) := by decide +kernel
theorem dX6_readsShifts_21 : decode cX6_readsShifts 21 = .ok (.getfield 46, 3) := by decide +kernel
theorem dX6_readsShifts_24 : decode cX6_readsShifts 24 = .ok (.iaload, 1) := by decide +kernel
theorem dX6_readsShifts_25 : decode cX6_readsShifts 25 = .ok (.sipush 30000, 3) := by decide +kernel
theorem dX6_readsShifts_28 : decode cX6_readsShifts 28 = .ok (.if_icmp .ne 5, 3) := by decide +kernel
theorem dX6_readsShifts_31 : decode cX6_readsShifts 31 = .ok (.iconst 1, 1) := by decide +kernel
theorem dX6_readsShifts_32 : decode cX6_readsShifts 32 = .ok (.ireturn, 1) := by decide +kernel
theorem dX6_readsShifts_33 : decode cX6_readsShifts 33 = .ok (.aload_n 0, 1) := by decide +kernel
theorem dX6_readsShifts_34 : decode cX6_readsShifts 34 = .ok (.sipush 10020, 3) := by decide +kernel
theorem dX6_readsShifts_37 : decode cX6_readsShifts 37 = .ok (.aload_n 0, 1) := by decide +kernel
theorem dX6_readsShifts_38 : decode cX6_readsShifts 38 = .ok (.getfield 32, 3) := by decide +kernel
theorem dX6_readsShifts_41 : decode cX6_readsShifts 41 = .ok (.getfield 150, 3) := by decide +kernel
theorem dX6_readsShifts_44 : decode cX6_readsShifts 44 = .ok (.bipush 16, 2) := by decide +kernel
theorem dX6_readsShifts_46 : decode cX6_readsShifts 46 = .ok (.if_icmp .ge 7, 3) := by decide +kernel
theorem dX6_readsShifts_49 : decode cX6_readsShifts 49 = .ok (.iconst 1, 1) := by decide +kernel
theorem dX6_readsShifts_50 : decode cX6_readsShifts 50 = .ok (.goto 4, 3) := by decide +kernel
theorem dX6_readsShifts_53 : decode cX6_readsShifts 53 = .ok (.iconst 0, 1) := by decide +kernel
theorem dX6_readsShifts_54 : decode cX6_readsShifts 54 = .ok (.invokevirtual 140, 3) := by decide +kernel
theorem dX6_readsShifts_57 : decode cX6_readsShifts 57 = .ok (.ifCond .eq 11, 3) := by decide +kernel
theorem dX6_readsShifts_60 : decode cX6_readsShifts 60 = .ok (.aload_n 0, 1) := by decide +kernel
theorem dX6_readsShifts_61 : decode cX6_readsShifts 61 = .ok (.iload_n 1, 1) := by decide +kernel
theorem dX6_readsShifts_62 : decode cX6_readsShifts 62 = .ok (.invokevirtual 151, 3) := by decide +kernel
theorem dX6_readsShifts_65 : decode cX6_readsShifts 65 = .ok (.ifCond .ne 5, 3) := by decide +kernel
theorem dX6_readsShifts_68 : decode cX6_readsShifts 68 = .ok (.iconst 0, 1) := by decide +kernel
theorem dX6_readsShifts_69 : decode cX6_readsShifts 69 = .ok (.ireturn, 1) := by decide +kernel
theorem dX6_readsShifts_70 : decode cX6_readsShifts 70 = .ok (.iinc 2 1, 3) := by decide +kernel
theorem dX6_readsShifts_73 : decode cX6_readsShifts 73 = .ok (.goto (-63), 3) := by decide +kernel
theorem dX6_readsShifts_76 : decode cX6_readsShifts 76 = .ok (.iconst 0, 1) := by decide +kernel
theorem dX6_readsShifts_77 : decode cX6_readsShifts 77 = .ok (.ireturn, 1) := by decide +kernel
theorem dX6_readsShift_0 : decode cX6_readsShift 0 = .ok (.aload_n 0, 1) := by decide +kernel
theorem dX6_readsShift_1 : decode cX6_readsShift 1 = .ok (.iconst 0, 1) := by decide +kernel
theorem dX6_readsShift_2 : decode cX6_readsShift 2 = .ok (.iload_n 1, 1) := by decide +kernel
theorem dX6_readsShift_3 : decode cX6_readsShift 3 = .ok (.iconst 1, 1) := by decide +kernel
theorem dX6_readsShift_4 : decode cX6_readsShift 4 = .ok (.isub, 1) := by decide +kernel
theorem dX6_readsShift_5 : decode cX6_readsShift 5 = .ok (.invokevirtual 129, 3) := by decide +kernel
theorem dX6_readsShift_8 : decode cX6_readsShift 8 = .ok (.istore_n 2, 1) := by decide +kernel
theorem dX6_readsShift_9 : decode cX6_readsShift 9 = .ok (.iload_n 2, 1) := by decide +kernel
theorem dX6_readsShift_10 : decode cX6_readsShift 10 = .ok (.iconst (-1), 1) := by decide +kernel
theorem dX6_readsShift_11 : decode cX6_readsShift 11 = .ok (.if_icmp .eq 13, 3) := by decide +kernel
theorem dX6_readsShift_14 : decode cX6_readsShift 14 = .ok (.aload_n 0, 1) := by decide +kernel
theorem dX6_readsShift_15 : decode cX6_readsShift 15 = .ok (.sipush 10021, 3) := by decide +kernel
theorem dX6_readsShift_18 : decode cX6_readsShift 18 = .ok (.invokevirtual 117, 3) := by decide +kernel
theorem dX6_readsShift_21 : decode cX6_readsShift 21 = .ok (.ifCond .ne 5, 3) := by decide +kernel
theorem dX6_readsShift_24 : decode cX6_readsShift 24 = .ok (.iconst 0, 1) := by decide +kernel
theorem dX6_readsShift_25 : decode cX6_readsShift 25 = .ok (.ireturn, 1) := by decide +kernel
theorem dX6_readsShift_26 : decode cX6_readsShift 26 = .ok (.aload_n 0, 1) := by decide +kernel
theorem dX6_readsShift_27 : decode cX6_readsShift 27 = .ok (.iconst 0, 1) := by decide +kernel
theorem dX6_readsShift_28 : decode cX6_readsShift 28 = .ok (.bipush 23, 2) := by decide +kernel
theorem dX6_readsShift_30 : decode cX6_readsShift 30 = .ok (.invokevirtual 129, 3) := by decide +kernel
theorem dX6_readsShift_33 : decode cX6_readsShift 33 = .ok (.istore_n 3, 1) := by decide +kernel
theorem dX6_readsShift_34 : decode cX6_readsShift 34 = .ok (.iload_n 3, 1) := by decide +kernel
theorem dX6_readsShift_35 : decode cX6_readsShift 35 = .ok (.iconst (-1), 1) := by decide +kernel
theorem dX6_readsShift_36 : decode cX6_readsShift 36 = .ok (.if_icmp .eq 13, 3) := by decide +kernel
theorem dX6_readsShift_39 : decode cX6_readsShift 39 = .ok (.aload_n 0, 1) := by decide +kernel
theorem dX6_readsShift_40 : decode cX6_readsShift 40 = .ok (.sipush 10019, 3) := by decide +kernel
theorem dX6_readsShift_43 : decode cX6_readsShift 43 = .ok (.invokevirtual 117, 3) := by decide +kernel
theorem dX6_readsShift_46 : decode cX6_readsShift 46 = .ok (.ifCond .ne 5, 3) := by decide +kernel
theorem dX6_readsShift_49 : decode cX6_readsShift 49 = .ok (.iconst 0, 1) := by decide +kernel
theorem dX6_readsShift_50 : decode cX6_readsShift 50 = .ok (.ireturn, 1) := by decide +kernel
theorem dX6_readsShift_51 : decode cX6_readsShift 51 = .ok (.aload_n 0, 1) := by decide +kernel
theorem dX6_readsShift_52 : decode cX6_readsShift 52 = .ok (.iconst 1, 1) := by decide +kernel
theorem dX6_readsShift_53 : decode cX6_readsShift 53 = .ok (.bipush 24, 2) := by decide +kernel
theorem dX6_readsShift_55 : decode cX6_readsShift 55 = .ok (.invokevirtual 129, 3) := by decide +kernel
theorem dX6_readsShift_58 : decode cX6_readsShift 58 = .ok (.istore 4, 2) := by decide +kernel
theorem dX6_readsShift_60 : decode cX6_readsShift 60 = .ok (.iload 4, 2) := by decide +kernel
theorem dX6_readsShift_62 : decode cX6_readsShift 62 = .ok (.iconst (-1), 1) := by decide +kernel
theorem dX6_readsShift_63 : decode cX6_readsShift 63 = .ok (.if_icmp .eq 13, 3) := by decide +kernel
theorem dX6_readsShift_66 : decode cX6_readsShift 66 = .ok (.aload_n 0, 1) := by decide +kernel
theorem dX6_readsShift_67 : decode cX6_readsShift 67 = .ok (.sipush 20059, 3) := by decide +kernel
theorem dX6_readsShift_70 : decode cX6_readsShift 70 = .ok (.invokevirtual 117, 3) := by decide +kernel
theorem dX6_readsShift_73 : decode cX6_readsShift 73 = .ok (.ifCond .ne 5, 3) := by decide +kernel
theorem dX6_readsShift_76 : decode cX6_readsShift 76 = .ok (.iconst 0, 1) := by decide +kernel
theorem dX6_readsShift_77 : decode cX6_readsShift 77 = .ok (.ireturn, 1) := by decide +kernel
theorem dX6_readsShift_78 : decode cX6_readsShift 78 = .ok (.aload_n 0, 1) := by decide +kernel
theorem dX6_readsShift_79 : decode cX6_readsShift 79 = .ok (.getfield 32, 3) := by decide +kernel
theorem dX6_readsShift_82 : decode cX6_readsShift 82 = .ok (.iload_n 2, 1) := by decide +kernel
theorem dX6_readsShift_83 : decode cX6_readsShift 83 = .ok (.iload_n 3, 1) := by decide +kernel
theorem dX6_readsShift_84 : decode cX6_readsShift 84 = .ok (.iload 4, 2) := by decide +kernel
theorem dX6_readsShift_86 : decode cX6_readsShift 86 = .ok (.invokevirtual 154, 3) := by decide +kernel
theorem dX6_readsShift_89 : decode cX6_readsShift 89 = .ok (.iconst 1, 1) := by decide +kernel
theorem dX6_readsShift_90 : decode cX6_readsShift 90 = .ok (.ireturn, 1) := by decide +kernel
theorem dX6_opensLine_0 : decode cX6_opensLine 0 = .ok (.aload_n 0, 1) := by decide +kernel
theorem dX6_opensLine_1 : decode cX6_opensLine 1 = .ok (.getfield 36, 3) := by decide +kernel
theorem dX6_opensLine_4 : decode cX6_opensLine 4 = .ok (.aload_n 0, 1) := by decide +kernel
theorem dX6_opensLine_5 : decode cX6_opensLine 5 = .ok (.getfield 46, 3) := by decide +kernel
theorem dX6_opensLine_8 : decode cX6_opensLine 8 = .ok (.iaload, 1) := by decide +kernel
theorem dX6_opensLine_9 : decode cX6_opensLine 9 = .ok (.iload_n 1, 1) := by decide +kernel
theorem dX6_opensLine_10 : decode cX6_opensLine 10 = .ok (.if_icmp .ne 13, 3) := by decide +kernel
theorem dX6_opensLine_13 : decode cX6_opensLine 13 = .ok (.iload_n 2, 1) := by decide +kernel
theorem dX6_opensLine_14 : decode cX6_opensLine 14 = .ok (.ifCond .ne 9, 3) := by decide +kernel
theorem dX6_opensLine_17 : decode cX6_opensLine 17 = .ok (.aload_n 0, 1) := by decide +kernel
theorem dX6_opensLine_18 : decode cX6_opensLine 18 = .ok (.iconst 3, 1) := by decide +kernel
theorem dX6_opensLine_19 : decode cX6_opensLine 19 = .ok (.invokevirtual 93, 3) := by decide +kernel
theorem dX6_opensLine_22 : decode cX6_opensLine 22 = .ok (.ireturn, 1) := by decide +kernel
theorem dX6_opensLine_23 : decode cX6_opensLine 23 = .ok (.aload_n 0, 1) := by decide +kernel
theorem dX6_opensLine_24 : decode cX6_opensLine 24 = .ok (.iload_n 1, 1) := by decide +kernel
theorem dX6_opensLine_25 : decode cX6_opensLine 25 = .ok (.invokevirtual 117, 3) := by decide +kernel
theorem dX6_opensLine_28 : decode cX6_opensLine 28 = .ok (.ireturn, 1) := by decide +kernel
theorem dX6_takes_0 : decode cX6_takes 0 = .ok (.aload_n 0, 1) := by decide +kernel
theorem dX6_takes_1 : decode cX6_takes 1 = .ok (.getfield 36, 3) := by decide +kernel
theorem dX6_takes_4 : decode cX6_takes 4 = .ok (.aload_n 0, 1) := by decide +kernel
theorem dX6_takes_5 : decode cX6_takes 5 = .ok (.getfield 46, 3) := by decide +kernel
theorem dX6_takes_8 : decode cX6_takes 8 = .ok (.iaload, 1) := by decide +kernel
theorem dX6_takes_9 : decode cX6_takes 9 = .ok (.iload_n 1, 1) := by decide +kernel
theorem dX6_takes_10 : decode cX6_takes 10 = .ok (.if_icmp .eq 9, 3) := by decide +kernel
theorem dX6_takes_13 : decode cX6_takes 13 = .ok (.aload_n 0, 1) := by decide +kernel
theorem dX6_takes_14 : decode cX6_takes 14 = .ok (.iconst 1, 1) := by decide +kernel
theorem dX6_takes_15 : decode cX6_takes 15 = .ok (.invokevirtual 93, 3) := by decide +kernel
theorem dX6_takes_18 : decode cX6_takes 18 = .ok (.ireturn, 1) := by decide +kernel
theorem dX6_takes_19 : decode cX6_takes 19 = .ok (.aload_n 0, 1) := by decide +kernel
theorem dX6_takes_20 : decode cX6_takes 20 = .ok (.invokevirtual 100, 3) := by decide +kernel
theorem dX6_takes_23 : decode cX6_takes 23 = .ok (.iconst 1, 1) := by decide +kernel
theorem dX6_takes_24 : decode cX6_takes 24 = .ok (.ireturn, 1) := by decide +kernel
theorem dX6_takesNumber_0 : decode cX6_takesNumber 0 = .ok (.aload_n 0, 1) := by decide +kernel
theorem dX6_takesNumber_1 : decode cX6_takesNumber 1 = .ok (.getfield 36, 3) := by decide +kernel
theorem dX6_takesNumber_4 : decode cX6_takesNumber 4 = .ok (.aload_n 0, 1) := by decide +kernel
theorem dX6_takesNumber_5 : decode cX6_takesNumber 5 = .ok (.getfield 46, 3) := by decide +kernel
theorem dX6_takesNumber_8 : decode cX6_takesNumber 8 = .ok (.iaload, 1) := by decide +kernel
theorem dX6_takesNumber_9 : decode cX6_takesNumber 9 = .ok (.istore_n 3, 1) := by decide +kernel
theorem dX6_takesNumber_10 : decode cX6_takesNumber 10 = .ok (.iload_n 3, 1) := by decide +kernel
theorem dX6_takesNumber_11 : decode cX6_takesNumber 11 = .ok (.sipush 10000, 3) := by decide +kernel
theorem dX6_takesNumber_14 : decode cX6_takesNumber 14 = .ok (.if_icmp .lt 11, 3) := by decide +kernel
theorem dX6_takesNumber_17 : decode cX6_takesNumber 17 = .ok (.aload_n 0, 1) := by decide +kernel
theorem dX6_takesNumber_18 : decode cX6_takesNumber 18 = .ok (.iconst 1, 1) := by decide +kernel
theorem dX6_takesNumber_19 : decode cX6_takesNumber 19 = .ok (.invokevirtual 93, 3) := by decide +kernel
theorem dX6_takesNumber_22 : decode cX6_takesNumber 22 = .ok (.pop, 1) := by decide +kernel
theorem dX6_takesNumber_23 : decode cX6_takesNumber 23 = .ok (.iconst (-1), 1) := by decide +kernel
theorem dX6_takesNumber_24 : decode cX6_takesNumber 24 = .ok (.ireturn, 1) := by decide +kernel
theorem dX6_takesNumber_25 : decode cX6_takesNumber 25 = .ok (.iload_n 3, 1) := by decide +kernel
theorem dX6_takesNumber_26 : decode cX6_takesNumber 26 = .ok (.iload_n 1, 1) := by decide +kernel
theorem dX6_takesNumber_27 : decode cX6_takesNumber 27 = .ok (.iload_n 2, 1) := by decide +kernel
theorem dX6_takesNumber_28 : decode cX6_takesNumber 28 = .ok (.invokestatic 157, 3) := by decide +kernel
theorem dX6_takesNumber_31 : decode cX6_takesNumber 31 = .ok (.ifCond .ne 11, 3) := by decide +kernel
theorem dX6_takesNumber_34 : decode cX6_takesNumber 34 = .ok (.aload_n 0, 1) := by decide +kernel
theorem dX6_takesNumber_35 : decode cX6_takesNumber 35 = .ok (.iconst 2, 1) := by decide +kernel
theorem dX6_takesNumber_36 : decode cX6_takesNumber 36 = .ok (.invokevirtual 93, 3) := by decide +kernel
theorem dX6_takesNumber_39 : decode cX6_takesNumber 39 = .ok (.pop, 1) := by decide +kernel
theorem dX6_takesNumber_40 : decode cX6_takesNumber 40 = .ok (.iconst (-1), 1) := by decide +kernel
theorem dX6_takesNumber_41 : decode cX6_takesNumber 41 = .ok (.ireturn, 1) := by decide +kernel
theorem dX6_takesNumber_42 : decode cX6_takesNumber 42 = .ok (.aload_n 0, 1) := by decide +kernel
theorem dX6_takesNumber_43 : decode cX6_takesNumber 43 = .ok (.invokevirtual 100, 3) := by decide +kernel
theorem dX6_takesNumber_46 : decode cX6_takesNumber 46 = .ok (.iload_n 3, 1) := by decide +kernel
theorem dX6_takesNumber_47 : decode cX6_takesNumber 47 = .ok (.ireturn, 1) := by decide +kernel
theorem dX6_takesToken_0 : decode cX6_takesToken 0 = .ok (.aload_n 0, 1) := by decide +kernel
theorem dX6_takesToken_1 : decode cX6_takesToken 1 = .ok (.getfield 46, 3) := by decide +kernel
theorem dX6_takesToken_4 : decode cX6_takesToken 4 = .ok (.sipush 400, 3) := by decide +kernel
theorem dX6_takesToken_7 : decode cX6_takesToken 7 = .ok (.if_icmp .ge 13, 3) := by decide +kernel
theorem dX6_takesToken_10 : decode cX6_takesToken 10 = .ok (.aload_n 0, 1) := by decide +kernel
theorem dX6_takesToken_11 : decode cX6_takesToken 11 = .ok (.dup, 1) := by decide +kernel
theorem dX6_takesToken_12 : decode cX6_takesToken 12 = .ok (.getfield 46, 3) := by decide +kernel
theorem dX6_takesToken_15 : decode cX6_takesToken 15 = .ok (.iconst 1, 1) := by decide +kernel
theorem dX6_takesToken_16 : decode cX6_takesToken 16 = .ok (.iadd, 1) := by decide +kernel
theorem dX6_takesToken_17 : decode cX6_takesToken 17 = .ok (.putfield 46, 3) := by decide +kernel
theorem dX6_takesToken_20 : decode cX6_takesToken 20 = .ok (.return_, 1) := by decide +kernel
theorem dX6_refuses_0 : decode cX6_refuses 0 = .ok (.aload_n 0, 1) := by decide +kernel
theorem dX6_refuses_1 : decode cX6_refuses 1 = .ok (.iload_n 1, 1) := by decide +kernel
theorem dX6_refuses_2 : decode cX6_refuses 2 = .ok (.putfield 43, 3) := by decide +kernel
theorem dX6_refuses_5 : decode cX6_refuses 5 = .ok (.aload_n 0, 1) := by decide +kernel
theorem dX6_refuses_6 : decode cX6_refuses 6 = .ok (.aload_n 0, 1) := by decide +kernel
theorem dX6_refuses_7 : decode cX6_refuses 7 = .ok (.getfield 40, 3) := by decide +kernel
theorem dX6_refuses_10 : decode cX6_refuses 10 = .ok (.aload_n 0, 1) := by decide +kernel
theorem dX6_refuses_11 : decode cX6_refuses 11 = .ok (.getfield 46, 3) := by decide +kernel
theorem dX6_refuses_14 : decode cX6_refuses 14 = .ok (.iaload, 1) := by decide +kernel
theorem dX6_refuses_15 : decode cX6_refuses 15 = .ok (.putfield 9, 3) := by decide +kernel
theorem dX6_refuses_18 : decode cX6_refuses 18 = .ok (.iconst 0, 1) := by decide +kernel
theorem dX6_refuses_19 : decode cX6_refuses 19 = .ok (.ireturn, 1) := by decide +kernel
theorem dX7_init_0 : decode cX7_init 0 = .ok (.aload_n 0, 1) := by decide +kernel
theorem dX7_init_1 : decode cX7_init 1 = .ok (.invokespecial 3, 3) := by decide +kernel
theorem dX7_init_4 : decode cX7_init 4 = .ok (.aload_n 0, 1) := by decide +kernel
theorem dX7_init_5 : decode cX7_init 5 = .ok (.bipush 8, 2) := by decide +kernel
theorem dX7_init_7 : decode cX7_init 7 = .ok (.newarray .int, 2) := by decide +kernel
theorem dX7_init_9 : decode cX7_init 9 = .ok (.putfield 9, 3) := by decide +kernel
theorem dX7_init_12 : decode cX7_init 12 = .ok (.aload_n 0, 1) := by decide +kernel
theorem dX7_init_13 : decode cX7_init 13 = .ok (.bipush 8, 2) := by decide +kernel
theorem dX7_init_15 : decode cX7_init 15 = .ok (.newarray .int, 2) := by decide +kernel
theorem dX7_init_17 : decode cX7_init 17 = .ok (.putfield 15, 3) := by decide +kernel
theorem dX7_init_20 : decode cX7_init 20 = .ok (.aload_n 0, 1) := by decide +kernel
theorem dX7_init_21 : decode cX7_init 21 = .ok (.bipush 8, 2) := by decide +kernel
theorem dX7_init_23 : decode cX7_init 23 = .ok (.newarray .int, 2) := by decide +kernel
theorem dX7_init_25 : decode cX7_init 25 = .ok (.putfield 18, 3) := by decide +kernel
theorem dX7_init_28 : decode cX7_init 28 = .ok (.aload_n 0, 1) := by decide +kernel
theorem dX7_init_29 : decode cX7_init 29 = .ok (.bipush 8, 2) := by decide +kernel
theorem dX7_init_31 : decode cX7_init 31 = .ok (.newarray .int, 2) := by decide +kernel
theorem dX7_init_33 : decode cX7_init 33 = .ok (.putfield 21, 3) := by decide +kernel
theorem dX7_init_36 : decode cX7_init 36 = .ok (.return_, 1) := by decide +kernel
theorem dX7_put_0 : decode cX7_put 0 = .ok (.aload_n 0, 1) := by decide +kernel
theorem dX7_put_1 : decode cX7_put 1 = .ok (.getfield 9, 3) := by decide +kernel
theorem dX7_put_4 : decode cX7_put 4 = .ok (.aload_n 0, 1) := by decide +kernel
theorem dX7_put_5 : decode cX7_put 5 = .ok (.getfield 24, 3) := by decide +kernel
theorem dX7_put_8 : decode cX7_put 8 = .ok (.iload_n 1, 1) := by decide +kernel
theorem dX7_put_9 : decode cX7_put 9 = .ok (.iastore, 1) := by decide +kernel
theorem dX7_put_10 : decode cX7_put 10 = .ok (.aload_n 0, 1) := by decide +kernel
theorem dX7_put_11 : decode cX7_put 11 = .ok (.getfield 15, 3) := by decide +kernel
theorem dX7_put_14 : decode cX7_put 14 = .ok (.aload_n 0, 1) := by decide +kernel
theorem dX7_put_15 : decode cX7_put 15 = .ok (.getfield 24, 3) := by decide +kernel
theorem dX7_put_18 : decode cX7_put 18 = .ok (.iload_n 2, 1) := by decide +kernel
theorem dX7_put_19 : decode cX7_put 19 = .ok (.iastore, 1) := by decide +kernel
theorem dX7_put_20 : decode cX7_put 20 = .ok (.aload_n 0, 1) := by decide +kernel
theorem dX7_put_21 : decode cX7_put 21 = .ok (.getfield 18, 3) := by decide +kernel
theorem dX7_put_24 : decode cX7_put 24 = .ok (.aload_n 0, 1) := by decide +kernel
theorem dX7_put_25 : decode cX7_put 25 = .ok (.getfield 24, 3) := by decide +kernel
theorem dX7_put_28 : decode cX7_put 28 = .ok (.iload_n 3, 1) := by decide +kernel
theorem dX7_put_29 : decode cX7_put 29 = .ok (.iastore, 1) := by decide +kernel
theorem dX7_put_30 : decode cX7_put 30 = .ok (.aload_n 0, 1) := by decide +kernel
theorem dX7_put_31 : decode cX7_put 31 = .ok (.getfield 21, 3) := by decide +kernel
theorem dX7_put_34 : decode cX7_put 34 = .ok (.aload_n 0, 1) := by decide +kernel
theorem dX7_put_35 : decode cX7_put 35 = .ok (.getfield 24, 3) := by decide +kernel
theorem dX7_put_38 : decode cX7_put 38 = .ok (.iload 4, 2) := by decide +kernel
theorem dX7_put_40 : decode cX7_put 40 = .ok (.iastore, 1) := by decide +kernel
theorem dX7_put_41 : decode cX7_put 41 = .ok (.aload_n 0, 1) := by decide +kernel
theorem dX7_put_42 : decode cX7_put 42 = .ok (.dup, 1) := by decide +kernel
theorem dX7_put_43 : decode cX7_put 43 = .ok (.getfield 24, 3) := by decide +kernel
theorem dX7_put_46 : decode cX7_put 46 = .ok (.iconst 1, 1) := by decide +kernel
theorem dX7_put_47 : decode cX7_put 47 = .ok (.iadd, 1) := by decide +kernel
theorem dX7_put_48 : decode cX7_put 48 = .ok (.putfield 24, 3) := by decide +kernel
theorem dX7_put_51 : decode cX7_put 51 = .ok (.return_, 1) := by decide +kernel
theorem dX7_become_0 : decode cX7_become 0 = .ok (.aload_n 0, 1) := by decide +kernel
theorem dX7_become_1 : decode cX7_become 1 = .ok (.aload_n 1, 1) := by decide +kernel
theorem dX7_become_2 : decode cX7_become 2 = .ok (.getfield 24, 3) := by decide +kernel
theorem dX7_become_5 : decode cX7_become 5 = .ok (.putfield 24, 3) := by decide +kernel
theorem dX7_become_8 : decode cX7_become 8 = .ok (.aload_n 1, 1) := by decide +kernel
theorem dX7_become_9 : decode cX7_become 9 = .ok (.getfield 9, 3) := by decide +kernel
theorem dX7_become_12 : decode cX7_become 12 = .ok (.iconst 0, 1) := by decide +kernel
theorem dX7_become_13 : decode cX7_become 13 = .ok (.aload_n 0, 1) := by decide +kernel
theorem dX7_become_14 : decode cX7_become 14 = .ok (.getfield 9, 3) := by decide +kernel
theorem dX7_become_17 : decode cX7_become 17 = .ok (.iconst 0, 1) := by decide +kernel
theorem dX7_become_18 : decode cX7_become 18 = .ok (.bipush 8, 2) := by decide +kernel
theorem dX7_become_20 : decode cX7_become 20 = .ok (.invokestatic 28, 3) := by decide +kernel
theorem dX7_become_23 : decode cX7_become 23 = .ok (.aload_n 1, 1) := by decide +kernel
theorem dX7_become_24 : decode cX7_become 24 = .ok (.getfield 15, 3) := by decide +kernel
theorem dX7_become_27 : decode cX7_become 27 = .ok (.iconst 0, 1) := by decide +kernel
theorem dX7_become_28 : decode cX7_become 28 = .ok (.aload_n 0, 1) := by decide +kernel
theorem dX7_become_29 : decode cX7_become 29 = .ok (.getfield 15, 3) := by decide +kernel
theorem dX7_become_32 : decode cX7_become 32 = .ok (.iconst 0, 1) := by decide +kernel
theorem dX7_become_33 : decode cX7_become 33 = .ok (.bipush 8, 2) := by decide +kernel
theorem dX7_become_35 : decode cX7_become 35 = .ok (.invokestatic 28, 3) := by decide +kernel
theorem dX7_become_38 : decode cX7_become 38 = .ok (.aload_n 1, 1) := by decide +kernel
theorem dX7_become_39 : decode cX7_become 39 = .ok (.getfield 18, 3) := by decide +kernel
theorem dX7_become_42 : decode cX7_become 42 = .ok (.iconst 0, 1) := by decide +kernel
theorem dX7_become_43 : decode cX7_become 43 = .ok (.aload_n 0, 1) := by decide +kernel
theorem dX7_become_44 : decode cX7_become 44 = .ok (.getfield 18, 3) := by decide +kernel
theorem dX7_become_47 : decode cX7_become 47 = .ok (.iconst 0, 1) := by decide +kernel
theorem dX7_become_48 : decode cX7_become 48 = .ok (.bipush 8, 2) := by decide +kernel
theorem dX7_become_50 : decode cX7_become 50 = .ok (.invokestatic 28, 3) := by decide +kernel
theorem dX7_become_53 : decode cX7_become 53 = .ok (.aload_n 1, 1) := by decide +kernel
theorem dX7_become_54 : decode cX7_become 54 = .ok (.getfield 21, 3) := by decide +kernel
theorem dX7_become_57 : decode cX7_become 57 = .ok (.iconst 0, 1) := by decide +kernel
theorem dX7_become_58 : decode cX7_become 58 = .ok (.aload_n 0, 1) := by decide +kernel
theorem dX7_become_59 : decode cX7_become 59 = .ok (.getfield 21, 3) := by decide +kernel
theorem dX7_become_62 : decode cX7_become 62 = .ok (.iconst 0, 1) := by decide +kernel
theorem dX7_become_63 : decode cX7_become 63 = .ok (.bipush 8, 2) := by decide +kernel
theorem dX7_become_65 : decode cX7_become 65 = .ok (.invokestatic 28, 3) := by decide +kernel
theorem dX7_become_68 : decode cX7_become 68 = .ok (.aload_n 0, 1) := by decide +kernel
theorem dX7_become_69 : decode cX7_become 69 = .ok (.getfield 24, 3) := by decide +kernel
theorem dX7_become_72 : decode cX7_become 72 = .ok (.ireturn, 1) := by decide +kernel
theorem dX7_hoursTo_0 : decode cX7_hoursTo 0 = .ok (.iconst 0, 1) := by decide +kernel
theorem dX7_hoursTo_1 : decode cX7_hoursTo 1 = .ok (.istore_n 2, 1) := by decide +kernel
theorem dX7_hoursTo_2 : decode cX7_hoursTo 2 = .ok (.iconst 0, 1) := by decide +kernel
theorem dX7_hoursTo_3 : decode cX7_hoursTo 3 = .ok (.istore_n 3, 1) := by decide +kernel
theorem dX7_hoursTo_4 : decode cX7_hoursTo 4 = .ok (.iload_n 3, 1) := by decide +kernel
theorem dX7_hoursTo_5 : decode cX7_hoursTo 5 = .ok (.iload_n 1, 1) := by decide +kernel
theorem dX7_hoursTo_6 : decode cX7_hoursTo 6 = .ok (.if_icmp .ge 18, 3) := by decide +kernel
theorem dX7_hoursTo_9 : decode cX7_hoursTo 9 = .ok (.iload_n 2, 1) := by decide +kernel
theorem dX7_hoursTo_10 : decode cX7_hoursTo 10 = .ok (.aload_n 0, 1) := by decide +kernel
theorem dX7_hoursTo_11 : decode cX7_hoursTo 11 = .ok (.getfield 15, 3) := by decide +kernel
theorem dX7_hoursTo_14 : decode cX7_hoursTo 14 = .ok (.iload_n 3, 1) := by decide +kernel
theorem dX7_hoursTo_15 : decode cX7_hoursTo 15 = .ok (.iaload, 1) := by decide +kernel
theorem dX7_hoursTo_16 : decode cX7_hoursTo 16 = .ok (.iadd, 1) := by decide +kernel
theorem dX7_hoursTo_17 : decode cX7_hoursTo 17 = .ok (.istore_n 2, 1) := by decide +kernel
theorem dX7_hoursTo_18 : decode cX7_hoursTo 18 = .ok (.iinc 3 1, 3) := by decide +kernel
theorem dX7_hoursTo_21 : decode cX7_hoursTo 21 = .ok (.goto (-17), 3) := by decide +kernel
theorem dX7_hoursTo_24 : decode cX7_hoursTo 24 = .ok (.iload_n 2, 1) := by decide +kernel
theorem dX7_hoursTo_25 : decode cX7_hoursTo 25 = .ok (.ireturn, 1) := by decide +kernel
theorem dX7_allHours_0 : decode cX7_allHours 0 = .ok (.aload_n 0, 1) := by decide +kernel
theorem dX7_allHours_1 : decode cX7_allHours 1 = .ok (.aload_n 0, 1) := by decide +kernel
theorem dX7_allHours_2 : decode cX7_allHours 2 = .ok (.getfield 24, 3) := by decide +kernel
theorem dX7_allHours_5 : decode cX7_allHours 5 = .ok (.invokevirtual 34, 3) := by decide +kernel
theorem dX7_allHours_8 : decode cX7_allHours 8 = .ok (.ireturn, 1) := by decide +kernel
theorem dX7_isRiver_0 : decode cX7_isRiver 0 = .ok (.iload_n 1, 1) := by decide +kernel
theorem dX7_isRiver_1 : decode cX7_isRiver 1 = .ok (.aload_n 0, 1) := by decide +kernel
theorem dX7_isRiver_2 : decode cX7_isRiver 2 = .ok (.getfield 24, 3) := by decide +kernel
theorem dX7_isRiver_5 : decode cX7_isRiver 5 = .ok (.if_icmp .ge 24, 3) := by decide +kernel
theorem dX7_isRiver_8 : decode cX7_isRiver 8 = .ok (.iload_n 2, 1) := by decide +kernel
theorem dX7_isRiver_9 : decode cX7_isRiver 9 = .ok (.aload_n 0, 1) := by decide +kernel
theorem dX7_isRiver_10 : decode cX7_isRiver 10 = .ok (.getfield 15, 3) := by decide +kernel
theorem dX7_isRiver_13 : decode cX7_isRiver 13 = .ok (.iload_n 1, 1) := by decide +kernel
theorem dX7_isRiver_14 : decode cX7_isRiver 14 = .ok (.iaload, 1) := by decide +kernel
theorem dX7_isRiver_15 : decode cX7_isRiver 15 = .ok (.aload_n 0, 1) := by decide +kernel
theorem dX7_isRiver_16 : decode cX7_isRiver 16 = .ok (.getfield 18, 3) := by decide +kernel
theorem dX7_isRiver_19 : decode cX7_isRiver 19 = .ok (.iload_n 1, 1) := by decide +kernel
theorem dX7_isRiver_20 : decode cX7_isRiver 20 = .ok (.iaload, 1) := by decide +kernel
theorem dX7_isRiver_21 : decode cX7_isRiver 21 = .ok (.isub, 1) := by decide +kernel
