theorem dX0_init_0 : decode cX0_init 0 = .ok (.aload_n 0, 1) := by decide +kernel
theorem dX0_init_1 : decode cX0_init 1 = .ok (.invokespecial 3, 3) := by decide +kernel
theorem dX0_init_4 : decode cX0_init 4 = .ok (.aload_n 0, 1) := by decide +kernel
theorem dX0_init_5 : decode cX0_init 5 = .ok (.bipush 9, 2) := by decide +kernel
theorem dX0_init_7 : decode cX0_init 7 = .ok (.newarray .int, 2) := by decide +kernel
theorem dX0_init_9 : decode cX0_init 9 = .ok (.putfield 9, 3) := by decide +kernel
theorem dX0_init_12 : decode cX0_init 12 = .ok (.aload_n 0, 1) := by decide +kernel
theorem dX0_init_13 : decode cX0_init 13 = .ok (.bipush 32, 2) := by decide +kernel
theorem dX0_init_15 : decode cX0_init 15 = .ok (.newarray .int, 2) := by decide +kernel
theorem dX0_init_17 : decode cX0_init 17 = .ok (.putfield 15, 3) := by decide +kernel
theorem dX0_init_20 : decode cX0_init 20 = .ok (.return_, 1) := by decide +kernel
theorem dX0_meet_0 : decode cX0_meet 0 = .ok (.aload_n 0, 1) := by decide +kernel
theorem dX0_meet_1 : decode cX0_meet 1 = .ok (.aload_n 1, 1) := by decide +kernel
theorem dX0_meet_2 : decode cX0_meet 2 = .ok (.getfield 18, 3) := by decide +kernel
theorem dX0_meet_5 : decode cX0_meet 5 = .ok (.iload_n 3, 1) := by decide +kernel
theorem dX0_meet_6 : decode cX0_meet 6 = .ok (.iaload, 1) := by decide +kernel
theorem dX0_meet_7 : decode cX0_meet 7 = .ok (.aload_n 1, 1) := by decide +kernel
theorem dX0_meet_8 : decode cX0_meet 8 = .ok (.getfield 23, 3) := by decide +kernel
theorem dX0_meet_11 : decode cX0_meet 11 = .ok (.iload_n 3, 1) := by decide +kernel
theorem dX0_meet_12 : decode cX0_meet 12 = .ok (.iaload, 1) := by decide +kernel
theorem dX0_meet_13 : decode cX0_meet 13 = .ok (.invokevirtual 26, 3) := by decide +kernel
theorem dX0_meet_16 : decode cX0_meet 16 = .ok (.aload_n 0, 1) := by decide +kernel
theorem dX0_meet_17 : decode cX0_meet 17 = .ok (.aload_n 1, 1) := by decide +kernel
theorem dX0_meet_18 : decode cX0_meet 18 = .ok (.getfield 30, 3) := by decide +kernel
theorem dX0_meet_21 : decode cX0_meet 21 = .ok (.invokevirtual 34, 3) := by decide +kernel
theorem dX0_meet_24 : decode cX0_meet 24 = .ok (.aload_n 0, 1) := by decide +kernel
theorem dX0_meet_25 : decode cX0_meet 25 = .ok (.getfield 9, 3) := by decide +kernel
theorem dX0_meet_28 : decode cX0_meet 28 = .ok (.iconst 2, 1) := by decide +kernel
theorem dX0_meet_29 : decode cX0_meet 29 = .ok (.aload_n 1, 1) := by decide +kernel
theorem dX0_meet_30 : decode cX0_meet 30 = .ok (.getfield 38, 3) := by decide +kernel
theorem dX0_meet_33 : decode cX0_meet 33 = .ok (.iload_n 3, 1) := by decide +kernel
theorem dX0_meet_34 : decode cX0_meet 34 = .ok (.iaload, 1) := by decide +kernel
theorem dX0_meet_35 : decode cX0_meet 35 = .ok (.iastore, 1) := by decide +kernel
theorem dX0_meet_36 : decode cX0_meet 36 = .ok (.aload_n 1, 1) := by decide +kernel
theorem dX0_meet_37 : decode cX0_meet 37 = .ok (.getfield 41, 3) := by decide +kernel
theorem dX0_meet_40 : decode cX0_meet 40 = .ok (.aload_n 2, 1) := by decide +kernel
theorem dX0_meet_41 : decode cX0_meet 41 = .ok (.getfield 44, 3) := by decide +kernel
theorem dX0_meet_44 : decode cX0_meet 44 = .ok (.if_icmp .ge 25, 3) := by decide +kernel
theorem dX0_meet_47 : decode cX0_meet 47 = .ok (.aload_n 2, 1) := by decide +kernel
theorem dX0_meet_48 : decode cX0_meet 48 = .ok (.getfield 49, 3) := by decide +kernel
theorem dX0_meet_51 : decode cX0_meet 51 = .ok (.aload_n 1, 1) := by decide +kernel
theorem dX0_meet_52 : decode cX0_meet 52 = .ok (.getfield 41, 3) := by decide +kernel
theorem dX0_meet_55 : decode cX0_meet 55 = .ok (.iaload, 1) := by decide +kernel
theorem dX0_meet_56 : decode cX0_meet 56 = .ok (.aload_n 1, 1) := by decide +kernel
theorem dX0_meet_57 : decode cX0_meet 57 = .ok (.getfield 52, 3) := by decide +kernel
theorem dX0_meet_60 : decode cX0_meet 60 = .ok (.iload_n 3, 1) := by decide +kernel
theorem dX0_meet_61 : decode cX0_meet 61 = .ok (.iaload, 1) := by decide +kernel
theorem dX0_meet_62 : decode cX0_meet 62 = .ok (.if_icmp .ne 7, 3) := by decide +kernel
theorem dX0_meet_65 : decode cX0_meet 65 = .ok (.iconst 1, 1) := by decide +kernel
theorem dX0_meet_66 : decode cX0_meet 66 = .ok (.goto 4, 3) := by decide +kernel
theorem dX0_meet_69 : decode cX0_meet 69 = .ok (.iconst 0, 1) := by decide +kernel
theorem dX0_meet_70 : decode cX0_meet 70 = .ok (.istore 4, 2) := by decide +kernel
theorem dX0_meet_72 : decode cX0_meet 72 = .ok (.aload_n 0, 1) := by decide +kernel
theorem dX0_meet_73 : decode cX0_meet 73 = .ok (.getfield 9, 3) := by decide +kernel
theorem dX0_meet_76 : decode cX0_meet 76 = .ok (.iconst 5, 1) := by decide +kernel
theorem dX0_meet_77 : decode cX0_meet 77 = .ok (.iload 4, 2) := by decide +kernel
theorem dX0_meet_79 : decode cX0_meet 79 = .ok (.ifCond .eq 7, 3) := by decide +kernel
theorem dX0_meet_82 : decode cX0_meet 82 = .ok (.iconst 1, 1) := by decide +kernel
theorem dX0_meet_83 : decode cX0_meet 83 = .ok (.goto 4, 3) := by decide +kernel
theorem dX0_meet_86 : decode cX0_meet 86 = .ok (.iconst 0, 1) := by decide +kernel
theorem dX0_meet_87 : decode cX0_meet 87 = .ok (.iastore, 1) := by decide +kernel
theorem dX0_meet_88 : decode cX0_meet 88 = .ok (.aload_n 0, 1) := by decide +kernel
theorem dX0_meet_89 : decode cX0_meet 89 = .ok (.getfield 9, 3) := by decide +kernel
theorem dX0_meet_92 : decode cX0_meet 92 = .ok (.bipush 6, 2) := by decide +kernel
theorem dX0_meet_94 : decode cX0_meet 94 = .ok (.aload_n 1, 1) := by decide +kernel
theorem dX0_meet_95 : decode cX0_meet 95 = .ok (.getfield 41, 3) := by decide +kernel
theorem dX0_meet_98 : decode cX0_meet 98 = .ok (.iastore, 1) := by decide +kernel
theorem dX0_meet_99 : decode cX0_meet 99 = .ok (.aload_n 0, 1) := by decide +kernel
theorem dX0_meet_100 : decode cX0_meet 100 = .ok (.getfield 9, 3) := by decide +kernel
theorem dX0_meet_103 : decode cX0_meet 103 = .ok (.bipush 7, 2) := by decide +kernel
theorem dX0_meet_105 : decode cX0_meet 105 = .ok (.aload_n 2, 1) := by decide +kernel
theorem dX0_meet_106 : decode cX0_meet 106 = .ok (.aload_n 1, 1) := by decide +kernel
theorem dX0_meet_107 : decode cX0_meet 107 = .ok (.getfield 41, 3) := by decide +kernel
theorem dX0_meet_110 : decode cX0_meet 110 = .ok (.aload_n 1, 1) := by decide +kernel
theorem dX0_meet_111 : decode cX0_meet 111 = .ok (.getfield 53, 3) := by decide +kernel
theorem dX0_meet_114 : decode cX0_meet 114 = .ok (.invokevirtual 56, 3) := by decide +kernel
theorem dX0_meet_117 : decode cX0_meet 117 = .ok (.ifCond .eq 7, 3) := by decide +kernel
theorem dX0_meet_120 : decode cX0_meet 120 = .ok (.iconst 1, 1) := by decide +kernel
theorem dX0_meet_121 : decode cX0_meet 121 = .ok (.goto 4, 3) := by decide +kernel
theorem dX0_meet_124 : decode cX0_meet 124 = .ok (.iconst 0, 1) := by decide +kernel
theorem dX0_meet_125 : decode cX0_meet 125 = .ok (.iastore, 1) := by decide +kernel
theorem dX0_meet_126 : decode cX0_meet 126 = .ok (.aload_n 0, 1) := by decide +kernel
theorem dX0_meet_127 : decode cX0_meet 127 = .ok (.getfield 9, 3) := by decide +kernel
theorem dX0_meet_130 : decode cX0_meet 130 = .ok (.bipush 8, 2) := by decide +kernel
theorem dX0_meet_132 : decode cX0_meet 132 = .ok (.aload_n 1, 1) := by decide +kernel
theorem dX0_meet_133 : decode cX0_meet 133 = .ok (.getfield 60, 3) := by decide +kernel
theorem dX0_meet_136 : decode cX0_meet 136 = .ok (.iastore, 1) := by decide +kernel
theorem dX0_meet_137 : decode cX0_meet 137 = .ok (.return_, 1) := by decide +kernel
theorem dX0_setFeet_0 : decode cX0_setFeet 0 = .ok (.aload_n 0, 1) := by decide +kernel
theorem dX0_setFeet_1 : decode cX0_setFeet 1 = .ok (.getfield 9, 3) := by decide +kernel
theorem dX0_setFeet_4 : decode cX0_setFeet 4 = .ok (.iconst 0, 1) := by decide +kernel
theorem dX0_setFeet_5 : decode cX0_setFeet 5 = .ok (.iload_n 1, 1) := by decide +kernel
theorem dX0_setFeet_6 : decode cX0_setFeet 6 = .ok (.iastore, 1) := by decide +kernel
theorem dX0_setFeet_7 : decode cX0_setFeet 7 = .ok (.aload_n 0, 1) := by decide +kernel
theorem dX0_setFeet_8 : decode cX0_setFeet 8 = .ok (.getfield 9, 3) := by decide +kernel
theorem dX0_setFeet_11 : decode cX0_setFeet 11 = .ok (.iconst 1, 1) := by decide +kernel
theorem dX0_setFeet_12 : decode cX0_setFeet 12 = .ok (.iload_n 2, 1) := by decide +kernel
theorem dX0_setFeet_13 : decode cX0_setFeet 13 = .ok (.iastore, 1) := by decide +kernel
theorem dX0_setFeet_14 : decode cX0_setFeet 14 = .ok (.return_, 1) := by decide +kernel
theorem dX0_setHour_0 : decode cX0_setHour 0 = .ok (.aload_n 0, 1) := by decide +kernel
theorem dX0_setHour_1 : decode cX0_setHour 1 = .ok (.getfield 9, 3) := by decide +kernel
theorem dX0_setHour_4 : decode cX0_setHour 4 = .ok (.iconst 3, 1) := by decide +kernel
theorem dX0_setHour_5 : decode cX0_setHour 5 = .ok (.iload_n 1, 1) := by decide +kernel
theorem dX0_setHour_6 : decode cX0_setHour 6 = .ok (.bipush 24, 2) := by decide +kernel
theorem dX0_setHour_8 : decode cX0_setHour 8 = .ok (.irem, 1) := by decide +kernel
theorem dX0_setHour_9 : decode cX0_setHour 9 = .ok (.iastore, 1) := by decide +kernel
theorem dX0_setHour_10 : decode cX0_setHour 10 = .ok (.aload_n 0, 1) := by decide +kernel
theorem dX0_setHour_11 : decode cX0_setHour 11 = .ok (.getfield 9, 3) := by decide +kernel
theorem dX0_setHour_14 : decode cX0_setHour 14 = .ok (.iconst 4, 1) := by decide +kernel
theorem dX0_setHour_15 : decode cX0_setHour 15 = .ok (.iload_n 1, 1) := by decide +kernel
theorem dX0_setHour_16 : decode cX0_setHour 16 = .ok (.bipush 24, 2) := by decide +kernel
theorem dX0_setHour_18 : decode cX0_setHour 18 = .ok (.idiv, 1) := by decide +kernel
theorem dX0_setHour_19 : decode cX0_setHour 19 = .ok (.iastore, 1) := by decide +kernel
theorem dX0_setHour_20 : decode cX0_setHour 20 = .ok (.return_, 1) := by decide +kernel
theorem dX0_setClock_0 : decode cX0_setClock 0 = .ok (.aload_n 0, 1) := by decide +kernel
theorem dX0_setClock_1 : decode cX0_setClock 1 = .ok (.getfield 9, 3) := by decide +kernel
theorem dX0_setClock_4 : decode cX0_setClock 4 = .ok (.iconst 3, 1) := by decide +kernel
theorem dX0_setClock_5 : decode cX0_setClock 5 = .ok (.iload_n 1, 1) := by decide +kernel
theorem dX0_setClock_6 : decode cX0_setClock 6 = .ok (.iastore, 1) := by decide +kernel
theorem dX0_setClock_7 : decode cX0_setClock 7 = .ok (.return_, 1) := by decide +kernel
theorem dX0_mayGo_0 : decode cX0_mayGo 0 = .ok (.iconst 0, 1) := by decide +kernel
theorem dX0_mayGo_1 : decode cX0_mayGo 1 = .ok (.istore_n 2, 1) := by decide +kernel
theorem dX0_mayGo_2 : decode cX0_mayGo 2 = .ok (.iload_n 2, 1) := by decide +kernel
theorem dX0_mayGo_3 : decode cX0_mayGo 3 = .ok (.aload_n 1, 1) := by decide +kernel
theorem dX0_mayGo_4 : decode cX0_mayGo 4 = .ok (.getfield 63, 3) := by decide +kernel
theorem dX0_mayGo_7 : decode cX0_mayGo 7 = .ok (.if_icmp .ge 36, 3) := by decide +kernel
theorem dX0_mayGo_10 : decode cX0_mayGo 10 = .ok (.aload_n 0, 1) := by decide +kernel
theorem dX0_mayGo_11 : decode cX0_mayGo 11 = .ok (.aload_n 1, 1) := by decide +kernel
theorem dX0_mayGo_12 : decode cX0_mayGo 12 = .ok (.iload_n 2, 1) := by decide +kernel
theorem dX0_mayGo_13 : decode cX0_mayGo 13 = .ok (.invokevirtual 68, 3) := by decide +kernel
theorem dX0_mayGo_16 : decode cX0_mayGo 16 = .ok (.ifCond .eq 21, 3) := by decide +kernel
theorem dX0_mayGo_19 : decode cX0_mayGo 19 = .ok (.aload_n 1, 1) := by decide +kernel
theorem dX0_mayGo_20 : decode cX0_mayGo 20 = .ok (.getfield 72, 3) := by decide +kernel
theorem dX0_mayGo_23 : decode cX0_mayGo 23 = .ok (.iload_n 2, 1) := by decide +kernel
theorem dX0_mayGo_24 : decode cX0_mayGo 24 = .ok (.iaload, 1) := by decide +kernel
theorem dX0_mayGo_25 : decode cX0_mayGo 25 = .ok (.sipush 10009, 3) := by decide +kernel
theorem dX0_mayGo_28 : decode cX0_mayGo 28 = .ok (.if_icmp .ne 7, 3) := by decide +kernel
theorem dX0_mayGo_31 : decode cX0_mayGo 31 = .ok (.iconst 1, 1) := by decide +kernel
theorem dX0_mayGo_32 : decode cX0_mayGo 32 = .ok (.goto 4, 3) := by decide +kernel
theorem dX0_mayGo_35 : decode cX0_mayGo 35 = .ok (.iconst 0, 1) := by decide +kernel
theorem dX0_mayGo_36 : decode cX0_mayGo 36 = .ok (.ireturn, 1) := by decide +kernel
theorem dX0_mayGo_37 : decode cX0_mayGo 37 = .ok (.iinc 2 1, 3) := by decide +kernel
theorem dX0_mayGo_40 : decode cX0_mayGo 40 = .ok (.goto (-38), 3) := by decide +kernel
theorem dX0_mayGo_43 : decode cX0_mayGo 43 = .ok (.iconst 1, 1) := by decide +kernel
theorem dX0_mayGo_44 : decode cX0_mayGo 44 = .ok (.ireturn, 1) := by decide +kernel
theorem dX0_amount_0 : decode cX0_amount 0 = .ok (.iconst 0, 1) := by decide +kernel
theorem dX0_amount_1 : decode cX0_amount 1 = .ok (.istore_n 3, 1) := by decide +kernel
theorem dX0_amount_2 : decode cX0_amount 2 = .ok (.iload_n 3, 1) := by decide +kernel
theorem dX0_amount_3 : decode cX0_amount 3 = .ok (.aload_n 1, 1) := by decide +kernel
theorem dX0_amount_4 : decode cX0_amount 4 = .ok (.getfield 63, 3) := by decide +kernel
theorem dX0_amount_7 : decode cX0_amount 7 = .ok (.if_icmp .ge 58, 3) := by decide +kernel
theorem dX0_amount_10 : decode cX0_amount 10 = .ok (.aload_n 1, 1) := by decide +kernel
theorem dX0_amount_11 : decode cX0_amount 11 = .ok (.getfield 72, 3) := by decide +kernel
theorem dX0_amount_14 : decode cX0_amount 14 = .ok (.iload_n 3, 1) := by decide +kernel
theorem dX0_amount_15 : decode cX0_amount 15 = .ok (.iaload, 1) := by decide +kernel
theorem dX0_amount_16 : decode cX0_amount 16 = .ok (.iload_n 2, 1) := by decide +kernel
theorem dX0_amount_17 : decode cX0_amount 17 = .ok (.if_icmp .ne 42, 3) := by decide +kernel
theorem dX0_amount_20 : decode cX0_amount 20 = .ok (.aload_n 0, 1) := by decide +kernel
theorem dX0_amount_21 : decode cX0_amount 21 = .ok (.aload_n 1, 1) := by decide +kernel
theorem dX0_amount_22 : decode cX0_amount 22 = .ok (.iload_n 3, 1) := by decide +kernel
theorem dX0_amount_23 : decode cX0_amount 23 = .ok (.invokevirtual 68, 3) := by decide +kernel
theorem dX0_amount_26 : decode cX0_amount 26 = .ok (.ifCond .eq 33, 3) := by decide +kernel
theorem dX0_amount_29 : decode cX0_amount 29 = .ok (.iconst 0, 1) := by decide +kernel
theorem dX0_amount_30 : decode cX0_amount 30 = .ok (.bipush 99, 2) := by decide +kernel
theorem dX0_amount_32 : decode cX0_amount 32 = .ok (.aload_n 0, 1) := by decide +kernel
theorem dX0_amount_33 : decode cX0_amount 33 = .ok (.aload_n 1, 1) := by decide +kernel
theorem dX0_amount_34 : decode cX0_amount 34 = .ok (.getfield 75, 3) := by decide +kernel
theorem dX0_amount_37 : decode cX0_amount 37 = .ok (.aload_n 1, 1) := by decide +kernel
theorem dX0_amount_38 : decode cX0_amount 38 = .ok (.getfield 78, 3) := by decide +kernel
theorem dX0_amount_41 : decode cX0_amount 41 = .ok (.iload_n 3, 1) := by decide +kernel
theorem dX0_amount_42 : decode cX0_amount 42 = .ok (.iaload, 1) := by decide +kernel
theorem dX0_amount_43 : decode cX0_amount 43 = .ok (.aload_n 1, 1) := by decide +kernel
theorem dX0_amount_44 : decode cX0_amount 44 = .ok (.getfield 81, 3) := by decide +kernel
theorem dX0_amount_47 : decode cX0_amount 47 = .ok (.iload_n 3, 1) := by decide +kernel
theorem dX0_amount_48 : decode cX0_amount 48 = .ok (.iaload, 1) := by decide +kernel
theorem dX0_amount_49 : decode cX0_amount 49 = .ok (.invokevirtual 84, 3) := by decide +kernel
theorem dX0_amount_52 : decode cX0_amount 52 = .ok (.invokestatic 88, 3) := by decide +kernel
theorem dX0_amount_55 : decode cX0_amount 55 = .ok (.invokestatic 94, 3) := by decide +kernel
theorem dX0_amount_58 : decode cX0_amount 58 = .ok (.ireturn, 1) := by decide +kernel
theorem dX0_amount_59 : decode cX0_amount 59 = .ok (.iinc 3 1, 3) := by decide +kernel
theorem dX0_amount_62 : decode cX0_amount 62 = .ok (.goto (-60), 3) := by decide +kernel
theorem dX0_amount_65 : decode cX0_amount 65 = .ok (.iload_n 2, 1) := by decide +kernel
theorem dX0_amount_66 : decode cX0_amount 66 = .ok (.lookupswitch 31 #[(10011, 26), (10012, 29)], 26) := by decide +kernel
theorem dX0_amount_92 : decode cX0_amount 92 = .ok (.bipush 10, 2) := by decide +kernel
theorem dX0_amount_94 : decode cX0_amount 94 = .ok (.ireturn, 1) := by decide +kernel
theorem dX0_amount_95 : decode cX0_amount 95 = .ok (.iconst 5, 1) := by decide +kernel
theorem dX0_amount_96 : decode cX0_amount 96 = .ok (.ireturn, 1) := by decide +kernel
theorem dX0_amount_97 : decode cX0_amount 97 = .ok (.iconst 1, 1) := by decide +kernel
theorem dX0_amount_98 : decode cX0_amount 98 = .ok (.ireturn, 1) := by decide +kernel
theorem dX0_holds_0 : decode cX0_holds 0 = .ok (.aload_n 1, 1) := by decide +kernel
theorem dX0_holds_1 : decode cX0_holds 1 = .ok (.getfield 81, 3) := by decide +kernel
theorem dX0_holds_4 : decode cX0_holds 4 = .ok (.iload_n 2, 1) := by decide +kernel
theorem dX0_holds_5 : decode cX0_holds 5 = .ok (.iaload, 1) := by decide +kernel
theorem dX0_holds_6 : decode cX0_holds 6 = .ok (.aload_n 1, 1) := by decide +kernel
theorem dX0_holds_7 : decode cX0_holds 7 = .ok (.getfield 97, 3) := by decide +kernel
theorem dX0_holds_10 : decode cX0_holds 10 = .ok (.iload_n 2, 1) := by decide +kernel
theorem dX0_holds_11 : decode cX0_holds 11 = .ok (.iaload, 1) := by decide +kernel
theorem dX0_holds_12 : decode cX0_holds 12 = .ok (.if_icmp .eq 26, 3) := by decide +kernel
theorem dX0_holds_15 : decode cX0_holds 15 = .ok (.aload_n 0, 1) := by decide +kernel
theorem dX0_holds_16 : decode cX0_holds 16 = .ok (.aload_n 1, 1) := by decide +kernel
theorem dX0_holds_17 : decode cX0_holds 17 = .ok (.getfield 75, 3) := by decide +kernel
theorem dX0_holds_20 : decode cX0_holds 20 = .ok (.aload_n 1, 1) := by decide +kernel
theorem dX0_holds_21 : decode cX0_holds 21 = .ok (.getfield 81, 3) := by decide +kernel
theorem dX0_holds_24 : decode cX0_holds 24 = .ok (.iload_n 2, 1) := by decide +kernel
theorem dX0_holds_25 : decode cX0_holds 25 = .ok (.iaload, 1) := by decide +kernel
theorem dX0_holds_26 : decode cX0_holds 26 = .ok (.aload_n 1, 1) := by decide +kernel
theorem dX0_holds_27 : decode cX0_holds 27 = .ok (.getfield 97, 3) := by decide +kernel
theorem dX0_holds_30 : decode cX0_holds 30 = .ok (.iload_n 2, 1) := by decide +kernel
theorem dX0_holds_31 : decode cX0_holds 31 = .ok (.iaload, 1) := by decide +kernel
theorem dX0_holds_32 : decode cX0_holds 32 = .ok (.invokevirtual 84, 3) := by decide +kernel
theorem dX0_holds_35 : decode cX0_holds 35 = .ok (.ifCond .eq 7, 3) := by decide +kernel
theorem dX0_holds_38 : decode cX0_holds 38 = .ok (.iconst 1, 1) := by decide +kernel
theorem dX0_holds_39 : decode cX0_holds 39 = .ok (.goto 4, 3) := by decide +kernel
theorem dX0_holds_42 : decode cX0_holds 42 = .ok (.iconst 0, 1) := by decide +kernel
theorem dX0_holds_43 : decode cX0_holds 43 = .ok (.ireturn, 1) := by decide +kernel
theorem dX0_worth_0 : decode cX0_worth 0 = .ok (.iconst 0, 1) := by decide +kernel
theorem dX0_worth_1 : decode cX0_worth 1 = .ok (.istore 4, 2) := by decide +kernel
theorem dX0_worth_3 : decode cX0_worth 3 = .ok (.iload_n 2, 1) := by decide +kernel
theorem dX0_worth_4 : decode cX0_worth 4 = .ok (.istore 5, 2) := by decide +kernel
theorem dX0_worth_6 : decode cX0_worth 6 = .ok (.iload 5, 2) := by decide +kernel
theorem dX0_worth_8 : decode cX0_worth 8 = .ok (.iload_n 3, 1) := by decide +kernel
theorem dX0_worth_9 : decode cX0_worth 9 = .ok (.if_icmp .ge 21, 3) := by decide +kernel
theorem dX0_worth_12 : decode cX0_worth 12 = .ok (.aload_n 0, 1) := by decide +kernel
theorem dX0_worth_13 : decode cX0_worth 13 = .ok (.aload_n 1, 1) := by decide +kernel
theorem dX0_worth_14 : decode cX0_worth 14 = .ok (.iload 5, 2) := by decide +kernel
theorem dX0_worth_16 : decode cX0_worth 16 = .ok (.iaload, 1) := by decide +kernel
theorem dX0_worth_17 : decode cX0_worth 17 = .ok (.iload 4, 2) := by decide +kernel
theorem dX0_worth_19 : decode cX0_worth 19 = .ok (.invokevirtual 100, 3) := by decide +kernel
theorem dX0_worth_22 : decode cX0_worth 22 = .ok (.istore 4, 2) := by decide +kernel
theorem dX0_worth_24 : decode cX0_worth 24 = .ok (.iinc 5 1, 3) := by decide +kernel
theorem dX0_worth_27 : decode cX0_worth 27 = .ok (.goto (-21), 3) := by decide +kernel
theorem dX0_worth_30 : decode cX0_worth 30 = .ok (.aload_n 0, 1) := by decide +kernel
theorem dX0_worth_31 : decode cX0_worth 31 = .ok (.getfield 15, 3) := by decide +kernel
theorem dX0_worth_34 : decode cX0_worth 34 = .ok (.iconst 0, 1) := by decide +kernel
theorem dX0_worth_35 : decode cX0_worth 35 = .ok (.iaload, 1) := by decide +kernel
theorem dX0_worth_36 : decode cX0_worth 36 = .ok (.ireturn, 1) := by decide +kernel
theorem dX0_step_0 : decode cX0_step 0 = .ok (.iload_n 1, 1) := by decide +kernel
theorem dX0_step_1 : decode cX0_step 1 = .ok (.sipush 10009, 3) := by decide +kernel
theorem dX0_step_4 : decode cX0_step 4 = .ok (.if_icmp .ge 42, 3) := by decide +kernel
theorem dX0_step_7 : decode cX0_step 7 = .ok (.iload_n 2, 1) := by decide +kernel
theorem dX0_step_8 : decode cX0_step 8 = .ok (.bipush 32, 2) := by decide +kernel
theorem dX0_step_10 : decode cX0_step 10 = .ok (.if_icmp .lt 5, 3) := by decide +kernel
theorem dX0_step_13 : decode cX0_step 13 = .ok (.iload_n 2, 1) := by decide +kernel
theorem dX0_step_14 : decode cX0_step 14 = .ok (.ireturn, 1) := by decide +kernel
theorem dX0_step_15 : decode cX0_step 15 = .ok (.aload_n 0, 1) := by decide +kernel
theorem dX0_step_16 : decode cX0_step 16 = .ok (.getfield 15, 3) := by decide +kernel
theorem dX0_step_19 : decode cX0_step 19 = .ok (.iload_n 2, 1) := by decide +kernel
theorem dX0_step_20 : decode cX0_step 20 = .ok (.iload_n 1, 1) := by decide +kernel
theorem dX0_step_21 : decode cX0_step 21 = .ok (.sipush 10000, 3) := by decide +kernel
theorem dX0_step_24 : decode cX0_step 24 = .ok (.if_icmp .ge 7, 3) := by decide +kernel
theorem dX0_step_27 : decode cX0_step 27 = .ok (.iload_n 1, 1) := by decide +kernel
theorem dX0_step_28 : decode cX0_step 28 = .ok (.goto 13, 3) := by decide +kernel
theorem dX0_step_31 : decode cX0_step 31 = .ok (.aload_n 0, 1) := by decide +kernel
theorem dX0_step_32 : decode cX0_step 32 = .ok (.getfield 9, 3) := by decide +kernel
theorem dX0_step_35 : decode cX0_step 35 = .ok (.iload_n 1, 1) := by decide +kernel
theorem dX0_step_36 : decode cX0_step 36 = .ok (.sipush 10000, 3) := by decide +kernel
theorem dX0_step_39 : decode cX0_step 39 = .ok (.isub, 1) := by decide +kernel
theorem dX0_step_40 : decode cX0_step 40 = .ok (.iaload, 1) := by decide +kernel
theorem dX0_step_41 : decode cX0_step 41 = .ok (.iastore, 1) := by decide +kernel
theorem dX0_step_42 : decode cX0_step 42 = .ok (.iload_n 2, 1) := by decide +kernel
theorem dX0_step_43 : decode cX0_step 43 = .ok (.iconst 1, 1) := by decide +kernel
theorem dX0_step_44 : decode cX0_step 44 = .ok (.iadd, 1) := by decide +kernel
theorem dX0_step_45 : decode cX0_step 45 = .ok (.ireturn, 1) := by decide +kernel
theorem dX0_step_46 : decode cX0_step 46 = .ok (.iload_n 2, 1) := by decide +kernel
theorem dX0_step_47 : decode cX0_step 47 = .ok (.ifCond .le 30, 3) := by decide +kernel
theorem dX0_step_50 : decode cX0_step 50 = .ok (.iload_n 1, 1) := by decide +kernel
theorem dX0_step_51 : decode cX0_step 51 = .ok (.sipush 10017, 3) := by decide +kernel
theorem dX0_step_54 : decode cX0_step 54 = .ok (.if_icmp .ne 23, 3) := by decide +kernel
theorem dX0_step_57 : decode cX0_step 57 = .ok (.aload_n 0, 1) := by decide +kernel
theorem dX0_step_58 : decode cX0_step 58 = .ok (.getfield 15, 3) := by decide +kernel
theorem dX0_step_61 : decode cX0_step 61 = .ok (.iload_n 2, 1) := by decide +kernel
theorem dX0_step_62 : decode cX0_step 62 = .ok (.iconst 1, 1) := by decide +kernel
theorem dX0_step_63 : decode cX0_step 63 = .ok (.isub, 1) := by decide +kernel
theorem dX0_step_64 : decode cX0_step 64 = .ok (.iconst 1, 1) := by decide +kernel
theorem dX0_step_65 : decode cX0_step 65 = .ok (.aload_n 0, 1) := by decide +kernel
theorem dX0_step_66 : decode cX0_step 66 = .ok (.getfield 15, 3) := by decide +kernel
theorem dX0_step_69 : decode cX0_step 69 = .ok (.iload_n 2, 1) := by decide +kernel
theorem dX0_step_70 : decode cX0_step 70 = .ok (.iconst 1, 1) := by decide +kernel
theorem dX0_step_71 : decode cX0_step 71 = .ok (.isub, 1) := by decide +kernel
theorem dX0_step_72 : decode cX0_step 72 = .ok (.iaload, 1) := by decide +kernel
theorem dX0_step_73 : decode cX0_step 73 = .ok (.isub, 1) := by decide +kernel
theorem dX0_step_74 : decode cX0_step 74 = .ok (.iastore, 1) := by decide +kernel
theorem dX0_step_75 : decode cX0_step 75 = .ok (.iload_n 2, 1) := by decide +kernel
theorem dX0_step_76 : decode cX0_step 76 = .ok (.ireturn, 1) := by decide +kernel
theorem dX0_step_77 : decode cX0_step 77 = .ok (.iload_n 2, 1) := by decide +kernel
theorem dX0_step_78 : decode cX0_step 78 = .ok (.ifCond .le 26, 3) := by decide +kernel
theorem dX0_step_81 : decode cX0_step 81 = .ok (.iload_n 1, 1) := by decide +kernel
theorem dX0_step_82 : decode cX0_step 82 = .ok (.ldc 103, 2) := by decide +kernel
theorem dX0_step_84 : decode cX0_step 84 = .ok (.if_icmp .le 20, 3) := by decide +kernel
theorem dX0_step_87 : decode cX0_step 87 = .ok (.aload_n 0, 1) := by decide +kernel
theorem dX0_step_88 : decode cX0_step 88 = .ok (.getfield 15, 3) := by decide +kernel
theorem dX0_step_91 : decode cX0_step 91 = .ok (.iload_n 2, 1) := by decide +kernel
theorem dX0_step_92 : decode cX0_step 92 = .ok (.iconst 1, 1) := by decide +kernel
theorem dX0_step_93 : decode cX0_step 93 = .ok (.isub, 1) := by decide +kernel
theorem dX0_step_94 : decode cX0_step 94 = .ok (.dup2, 1) := by decide +kernel
theorem dX0_step_95 : decode cX0_step 95 = .ok (.iaload, 1) := by decide +kernel
theorem dX0_step_96 : decode cX0_step 96 = .ok (.iload_n 1, 1) := by decide +kernel
theorem dX0_step_97 : decode cX0_step 97 = .ok (.ldc 103, 2) := by decide +kernel
theorem dX0_step_99 : decode cX0_step 99 = .ok (.isub, 1) := by decide +kernel
theorem dX0_step_100 : decode cX0_step 100 = .ok (.idiv, 1) := by decide +kernel
theorem dX0_step_101 : decode cX0_step 101 = .ok (.iastore, 1) := by decide +kernel
theorem dX0_step_102 : decode cX0_step 102 = .ok (.iload_n 2, 1) := by decide +kernel
theorem dX0_step_103 : decode cX0_step 103 = .ok (.ireturn, 1) := by decide +kernel
theorem dX0_step_104 : decode cX0_step 104 = .ok (.iload_n 2, 1) := by decide +kernel
theorem dX0_step_105 : decode cX0_step 105 = .ok (.iconst 2, 1) := by decide +kernel
theorem dX0_step_106 : decode cX0_step 106 = .ok (.if_icmp .ge 5, 3) := by decide +kernel
theorem dX0_step_109 : decode cX0_step 109 = .ok (.iload_n 2, 1) := by decide +kernel
theorem dX0_step_110 : decode cX0_step 110 = .ok (.ireturn, 1) := by decide +kernel
theorem dX0_step_111 : decode cX0_step 111 = .ok (.aload_n 0, 1) := by decide +kernel
theorem dX0_step_112 : decode cX0_step 112 = .ok (.getfield 15, 3) := by decide +kernel
theorem dX0_step_115 : decode cX0_step 115 = .ok (.iload_n 2, 1) := by decide +kernel
theorem dX0_step_116 : decode cX0_step 116 = .ok (.iconst 2, 1) := by decide +kernel
theorem dX0_step_117 : decode cX0_step 117 = .ok (.isub, 1) := by decide +kernel
theorem dX0_step_118 : decode cX0_step 118 = .ok (.iload_n 1, 1) := by decide +kernel
theorem dX0_step_119 : decode cX0_step 119 = .ok (.aload_n 0, 1) := by decide +kernel
theorem dX0_step_120 : decode cX0_step 120 = .ok (.getfield 15, 3) := by decide +kernel
theorem dX0_step_123 : decode cX0_step 123 = .ok (.iload_n 2, 1) := by decide +kernel
theorem dX0_step_124 : decode cX0_step 124 = .ok (.iconst 2, 1) := by decide +kernel
theorem dX0_step_125 : decode cX0_step 125 = .ok (.isub, 1) := by decide +kernel
theorem dX0_step_126 : decode cX0_step 126 = .ok (.iaload, 1) := by decide +kernel
theorem dX0_step_127 : decode cX0_step 127 = .ok (.aload_n 0, 1) := by decide +kernel
theorem dX0_step_128 : decode cX0_step 128 = .ok (.getfield 15, 3) := by decide +kernel
theorem dX0_step_131 : decode cX0_step 131 = .ok (.iload_n 2, 1) := by decide +kernel
theorem dX0_step_132 : decode cX0_step 132 = .ok (.iconst 1, 1) := by decide +kernel
theorem dX0_step_133 : decode cX0_step 133 = .ok (.isub, 1) := by decide +kernel
theorem dX0_step_134 : decode cX0_step 134 = .ok (.iaload, 1) := by decide +kernel
theorem dX0_step_135 : decode cX0_step 135 = .ok (.invokestatic 104, 3) := by decide +kernel
theorem dX0_step_138 : decode cX0_step 138 = .ok (.iastore, 1) := by decide +kernel
theorem dX0_step_139 : decode cX0_step 139 = .ok (.iload_n 2, 1) := by decide +kernel
theorem dX0_step_140 : decode cX0_step 140 = .ok (.iconst 1, 1) := by decide +kernel
theorem dX0_step_141 : decode cX0_step 141 = .ok (.isub, 1) := by decide +kernel
theorem dX0_step_142 : decode cX0_step 142 = .ok (.ireturn, 1) := by decide +kernel
theorem dX0_joined_0 : decode cX0_joined 0 = .ok (.iload_n 0, 1) := by decide +kernel
theorem dX0_joined_1 : decode cX0_joined 1 = .ok (.lookupswitch 116 #[(10016, 112), (20042, 75), (20043, 67), (20045, 71), (20060, 79), (20061, 90), (20062, 101)], 67) := by decide +kernel
theorem dX0_joined_68 : decode cX0_joined 68 = .ok (.iload_n 1, 1) := by decide +kernel
theorem dX0_joined_69 : decode cX0_joined 69 = .ok (.iload_n 2, 1) := by decide +kernel
theorem dX0_joined_70 : decode cX0_joined 70 = .ok (.iadd, 1) := by decide +kernel
theorem dX0_joined_71 : decode cX0_joined 71 = .ok (.ireturn, 1) := by decide +kernel
theorem dX0_joined_72 : decode cX0_joined 72 = .ok (.iload_n 1, 1) := by decide +kernel
theorem dX0_joined_73 : decode cX0_joined 73 = .ok (.iload_n 2, 1) := by decide +kernel
theorem dX0_joined_74 : decode cX0_joined 74 = .ok (.isub, 1) := by decide +kernel
theorem dX0_joined_75 : decode cX0_joined 75 = .ok (.ireturn, 1) := by decide +kernel
theorem dX0_joined_76 : decode cX0_joined 76 = .ok (.iload_n 1, 1) := by decide +kernel
theorem dX0_joined_77 : decode cX0_joined 77 = .ok (.iload_n 2, 1) := by decide +kernel
theorem dX0_joined_78 : decode cX0_joined 78 = .ok (.imul, 1) := by decide +kernel
theorem dX0_joined_79 : decode cX0_joined 79 = .ok (.ireturn, 1) := by decide +kernel
theorem dX0_joined_80 : decode cX0_joined 80 = .ok (.iload_n 1, 1) := by decide +kernel
theorem dX0_joined_81 : decode cX0_joined 81 = .ok (.iload_n 2, 1) := by decide +kernel
theorem dX0_joined_82 : decode cX0_joined 82 = .ok (.if_icmp .ge 7, 3) := by decide +kernel
theorem dX0_joined_85 : decode cX0_joined 85 = .ok (.iconst 1, 1) := by decide +kernel
theorem dX0_joined_86 : decode cX0_joined 86 = .ok (.goto 4, 3) := by decide +kernel
theorem dX0_joined_89 : decode cX0_joined 89 = .ok (.iconst 0, 1) := by decide +kernel
theorem dX0_joined_90 : decode cX0_joined 90 = .ok (.ireturn, 1) := by decide +kernel
theorem dX0_joined_91 : decode cX0_joined 91 = .ok (.iload_n 1, 1) := by decide +kernel
theorem dX0_joined_92 : decode cX0_joined 92 = .ok (.iload_n 2, 1) := by decide +kernel
theorem dX0_joined_93 : decode cX0_joined 93 = .ok (.if_icmp .ne 7, 3) := by decide +kernel
theorem dX0_joined_96 : decode cX0_joined 96 = .ok (.iconst 1, 1) := by decide +kernel
theorem dX0_joined_97 : decode cX0_joined 97 = .ok (.goto 4, 3) := by decide +kernel
theorem dX0_joined_100 : decode cX0_joined 100 = .ok (.iconst 0, 1) := by decide +kernel
theorem dX0_joined_101 : decode cX0_joined 101 = .ok (.ireturn, 1) := by decide +kernel
theorem dX0_joined_102 : decode cX0_joined 102 = .ok (.iload_n 1, 1) := by decide +kernel
theorem dX0_joined_103 : decode cX0_joined 103 = .ok (.iload_n 2, 1) := by decide +kernel
theorem dX0_joined_104 : decode cX0_joined 104 = .ok (.if_icmp .le 7, 3) := by decide +kernel
theorem dX0_joined_107 : decode cX0_joined 107 = .ok (.iconst 1, 1) := by decide +kernel
theorem dX0_joined_108 : decode cX0_joined 108 = .ok (.goto 4, 3) := by decide +kernel
theorem dX0_joined_111 : decode cX0_joined 111 = .ok (.iconst 0, 1) := by decide +kernel
theorem dX0_joined_112 : decode cX0_joined 112 = .ok (.ireturn, 1) := by decide +kernel
theorem dX0_joined_113 : decode cX0_joined 113 = .ok (.iload_n 1, 1) := by decide +kernel
theorem dX0_joined_114 : decode cX0_joined 114 = .ok (.iload_n 2, 1) := by decide +kernel
theorem dX0_joined_115 : decode cX0_joined 115 = .ok (.iand, 1) := by decide +kernel
theorem dX0_joined_116 : decode cX0_joined 116 = .ok (.ireturn, 1) := by decide +kernel
theorem dX0_joined_117 : decode cX0_joined 117 = .ok (.iload_n 1, 1) := by decide +kernel
theorem dX0_joined_118 : decode cX0_joined 118 = .ok (.iload_n 2, 1) := by decide +kernel
theorem dX0_joined_119 : decode cX0_joined 119 = .ok (.ior, 1) := by decide +kernel
theorem dX0_joined_120 : decode cX0_joined 120 = .ok (.ireturn, 1) := by decide +kernel
theorem dX1_init_0 : decode cX1_init 0 = .ok (.aload_n 0, 1) := by decide +kernel
theorem dX1_init_1 : decode cX1_init 1 = .ok (.invokespecial 3, 3) := by decide +kernel
theorem dX1_init_4 : decode cX1_init 4 = .ok (.aload_n 0, 1) := by decide +kernel
theorem dX1_init_5 : decode cX1_init 5 = .ok (.sipush 150, 3) := by decide +kernel
theorem dX1_init_8 : decode cX1_init 8 = .ok (.newarray .int, 2) := by decide +kernel
theorem dX1_init_10 : decode cX1_init 10 = .ok (.putfield 9, 3) := by decide +kernel
theorem dX1_init_13 : decode cX1_init 13 = .ok (.aload_n 0, 1) := by decide +kernel
theorem dX1_init_14 : decode cX1_init 14 = .ok (.sipush 150, 3) := by decide +kernel
theorem dX1_init_17 : decode cX1_init 17 = .ok (.newarray .int, 2) := by decide +kernel
theorem dX1_init_19 : decode cX1_init 19 = .ok (.putfield 15, 3) := by decide +kernel
theorem dX1_init_22 : decode cX1_init 22 = .ok (.aload_n 0, 1) := by decide +kernel
theorem dX1_init_23 : decode cX1_init 23 = .ok (.sipush 150, 3) := by decide +kernel
theorem dX1_init_26 : decode cX1_init 26 = .ok (.newarray .int, 2) := by decide +kernel
theorem dX1_init_28 : decode cX1_init 28 = .ok (.putfield 18, 3) := by decide +kernel
theorem dX1_init_31 : decode cX1_init 31 = .ok (.return_, 1) := by decide +kernel
theorem dX1_put_0 : decode cX1_put 0 = .ok (.aload_n 1, 1) := by decide +kernel
theorem dX1_put_1 : decode cX1_put 1 = .ok (.getfield 21, 3) := by decide +kernel
theorem dX1_put_4 : decode cX1_put 4 = .ok (.sipush 150, 3) := by decide +kernel
theorem dX1_put_7 : decode cX1_put 7 = .ok (.if_icmp .lt 4, 3) := by decide +kernel
theorem dX1_put_10 : decode cX1_put 10 = .ok (.return_, 1) := by decide +kernel
theorem dX1_put_11 : decode cX1_put 11 = .ok (.aload_n 0, 1) := by decide +kernel
theorem dX1_put_12 : decode cX1_put 12 = .ok (.getfield 9, 3) := by decide +kernel
theorem dX1_put_15 : decode cX1_put 15 = .ok (.aload_n 1, 1) := by decide +kernel
theorem dX1_put_16 : decode cX1_put 16 = .ok (.getfield 21, 3) := by decide +kernel
theorem dX1_put_19 : decode cX1_put 19 = .ok (.aload_n 1, 1) := by decide +kernel
theorem dX1_put_20 : decode cX1_put 20 = .ok (.getfield 27, 3) := by decide +kernel
theorem dX1_put_23 : decode cX1_put 23 = .ok (.iastore, 1) := by decide +kernel
theorem dX1_put_24 : decode cX1_put 24 = .ok (.aload_n 0, 1) := by decide +kernel
theorem dX1_put_25 : decode cX1_put 25 = .ok (.getfield 15, 3) := by decide +kernel
theorem dX1_put_28 : decode cX1_put 28 = .ok (.aload_n 1, 1) := by decide +kernel
theorem dX1_put_29 : decode cX1_put 29 = .ok (.getfield 21, 3) := by decide +kernel
theorem dX1_put_32 : decode cX1_put 32 = .ok (.iload_n 2, 1) := by decide +kernel
theorem dX1_put_33 : decode cX1_put 33 = .ok (.iastore, 1) := by decide +kernel
theorem dX1_put_34 : decode cX1_put 34 = .ok (.aload_n 0, 1) := by decide +kernel
theorem dX1_put_35 : decode cX1_put 35 = .ok (.getfield 18, 3) := by decide +kernel
theorem dX1_put_38 : decode cX1_put 38 = .ok (.aload_n 1, 1) := by decide +kernel
theorem dX1_put_39 : decode cX1_put 39 = .ok (.getfield 21, 3) := by decide +kernel
theorem dX1_put_42 : decode cX1_put 42 = .ok (.iload_n 3, 1) := by decide +kernel
theorem dX1_put_43 : decode cX1_put 43 = .ok (.iastore, 1) := by decide +kernel
theorem dX1_put_44 : decode cX1_put 44 = .ok (.aload_n 1, 1) := by decide +kernel
theorem dX1_put_45 : decode cX1_put 45 = .ok (.dup, 1) := by decide +kernel
theorem dX1_put_46 : decode cX1_put 46 = .ok (.getfield 21, 3) := by decide +kernel
theorem dX1_put_49 : decode cX1_put 49 = .ok (.iconst 1, 1) := by decide +kernel
theorem dX1_put_50 : decode cX1_put 50 = .ok (.iadd, 1) := by decide +kernel
theorem dX1_put_51 : decode cX1_put 51 = .ok (.putfield 21, 3) := by decide +kernel
theorem dX1_put_54 : decode cX1_put 54 = .ok (.return_, 1) := by decide +kernel
theorem dX1_become_0 : decode cX1_become 0 = .ok (.aload_n 1, 1) := by decide +kernel
theorem dX1_become_1 : decode cX1_become 1 = .ok (.getfield 9, 3) := by decide +kernel
theorem dX1_become_4 : decode cX1_become 4 = .ok (.iconst 0, 1) := by decide +kernel
theorem dX1_become_5 : decode cX1_become 5 = .ok (.aload_n 0, 1) := by decide +kernel
theorem dX1_become_6 : decode cX1_become 6 = .ok (.getfield 9, 3) := by decide +kernel
theorem dX1_become_9 : decode cX1_become 9 = .ok (.iconst 0, 1) := by decide +kernel
theorem dX1_become_10 : decode cX1_become 10 = .ok (.sipush 150, 3) := by decide +kernel
theorem dX1_become_13 : decode cX1_become 13 = .ok (.invokestatic 29, 3) := by decide +kernel
theorem dX1_become_16 : decode cX1_become 16 = .ok (.aload_n 1, 1) := by decide +kernel
theorem dX1_become_17 : decode cX1_become 17 = .ok (.getfield 15, 3) := by decide +kernel
theorem dX1_become_20 : decode cX1_become 20 = .ok (.iconst 0, 1) := by decide +kernel
theorem dX1_become_21 : decode cX1_become 21 = .ok (.aload_n 0, 1) := by decide +kernel
theorem dX1_become_22 : decode cX1_become 22 = .ok (.getfield 15, 3) := by decide +kernel
theorem dX1_become_25 : decode cX1_become 25 = .ok (.iconst 0, 1) := by decide +kernel
theorem dX1_become_26 : decode cX1_become 26 = .ok (.sipush 150, 3) := by decide +kernel
theorem dX1_become_29 : decode cX1_become 29 = .ok (.invokestatic 29, 3) := by decide +kernel
theorem dX1_become_32 : decode cX1_become 32 = .ok (.aload_n 1, 1) := by decide +kernel
theorem dX1_become_33 : decode cX1_become 33 = .ok (.getfield 18, 3) := by decide +kernel
theorem dX1_become_36 : decode cX1_become 36 = .ok (.iconst 0, 1) := by decide +kernel
theorem dX1_become_37 : decode cX1_become 37 = .ok (.aload_n 0, 1) := by decide +kernel
theorem dX1_become_38 : decode cX1_become 38 = .ok (.getfield 18, 3) := by decide +kernel
theorem dX1_become_41 : decode cX1_become 41 = .ok (.iconst 0, 1) := by decide +kernel
theorem dX1_become_42 : decode cX1_become 42 = .ok (.sipush 150, 3) := by decide +kernel
theorem dX1_become_45 : decode cX1_become 45 = .ok (.invokestatic 29, 3) := by decide +kernel
theorem dX1_become_48 : decode cX1_become 48 = .ok (.return_, 1) := by decide +kernel
theorem dX2_init_0 : decode cX2_init 0 = .ok (.aload_n 0, 1) := by decide +kernel
theorem dX2_init_1 : decode cX2_init 1 = .ok (.invokespecial 3, 3) := by decide +kernel
theorem dX2_init_4 : decode cX2_init 4 = .ok (.aload_n 0, 1) := by decide +kernel
theorem dX2_init_5 : decode cX2_init 5 = .ok (.aload_n 1, 1) := by decide +kernel
theorem dX2_init_6 : decode cX2_init 6 = .ok (.putfield 9, 3) := by decide +kernel
theorem dX2_init_9 : decode cX2_init 9 = .ok (.aload_n 0, 1) := by decide +kernel
theorem dX2_init_10 : decode cX2_init 10 = .ok (.aload_n 2, 1) := by decide +kernel
theorem dX2_init_11 : decode cX2_init 11 = .ok (.putfield 15, 3) := by decide +kernel
theorem dX2_init_14 : decode cX2_init 14 = .ok (.return_, 1) := by decide +kernel
theorem dX2_find_0 : decode cX2_find 0 = .ok (.aload_n 0, 1) := by decide +kernel
theorem dX2_find_1 : decode cX2_find 1 = .ok (.iload_n 1, 1) := by decide +kernel
theorem dX2_find_2 : decode cX2_find 2 = .ok (.putfield 19, 3) := by decide +kernel
theorem dX2_find_5 : decode cX2_find 5 = .ok (.aload_n 0, 1) := by decide +kernel
theorem dX2_find_6 : decode cX2_find 6 = .ok (.iload_n 2, 1) := by decide +kernel
theorem dX2_find_7 : decode cX2_find 7 = .ok (.putfield 23, 3) := by decide +kernel
theorem dX2_find_10 : decode cX2_find 10 = .ok (.aload_n 0, 1) := by decide +kernel
theorem dX2_find_11 : decode cX2_find 11 = .ok (.iload_n 3, 1) := by decide +kernel
theorem dX2_find_12 : decode cX2_find 12 = .ok (.putfield 26, 3) := by decide +kernel
theorem dX2_find_15 : decode cX2_find 15 = .ok (.aload_n 0, 1) := by decide +kernel
theorem dX2_find_16 : decode cX2_find 16 = .ok (.iconst 0, 1) := by decide +kernel
theorem dX2_find_17 : decode cX2_find 17 = .ok (.putfield 29, 3) := by decide +kernel
theorem dX2_find_20 : decode cX2_find 20 = .ok (.aload_n 0, 1) := by decide +kernel
theorem dX2_find_21 : decode cX2_find 21 = .ok (.iconst (-1), 1) := by decide +kernel
theorem dX2_find_22 : decode cX2_find 22 = .ok (.putfield 32, 3) := by decide +kernel
theorem dX2_find_25 : decode cX2_find 25 = .ok (.aload_n 0, 1) := by decide +kernel
theorem dX2_find_26 : decode cX2_find 26 = .ok (.iconst 0, 1) := by decide +kernel
theorem dX2_find_27 : decode cX2_find 27 = .ok (.iload 4, 2) := by decide +kernel
theorem dX2_find_29 : decode cX2_find 29 = .ok (.iload 5, 2) := by decide +kernel
theorem dX2_find_31 : decode cX2_find 31 = .ok (.iconst 0, 1) := by decide +kernel
theorem dX2_find_32 : decode cX2_find 32 = .ok (.invokevirtual 35, 3) := by decide +kernel
theorem dX2_find_35 : decode cX2_find 35 = .ok (.return_, 1) := by decide +kernel
theorem dX2_walkFrom_0 : decode cX2_walkFrom 0 = .ok (.iload_n 1, 1) := by decide +kernel
theorem dX2_walkFrom_1 : decode cX2_walkFrom 1 = .ok (.aload_n 0, 1) := by decide +kernel
theorem dX2_walkFrom_2 : decode cX2_walkFrom 2 = .ok (.getfield 23, 3) := by decide +kernel
theorem dX2_walkFrom_5 : decode cX2_walkFrom 5 = .ok (.if_icmp .lt 43, 3) := by decide +kernel
theorem dX2_walkFrom_8 : decode cX2_walkFrom 8 = .ok (.iload_n 2, 1) := by decide +kernel
theorem dX2_walkFrom_9 : decode cX2_walkFrom 9 = .ok (.aload_n 0, 1) := by decide +kernel
theorem dX2_walkFrom_10 : decode cX2_walkFrom 10 = .ok (.getfield 26, 3) := by decide +kernel
theorem dX2_walkFrom_13 : decode cX2_walkFrom 13 = .ok (.if_icmp .ne 34, 3) := by decide +kernel
theorem dX2_walkFrom_16 : decode cX2_walkFrom 16 = .ok (.aload_n 0, 1) := by decide +kernel
theorem dX2_walkFrom_17 : decode cX2_walkFrom 17 = .ok (.dup, 1) := by decide +kernel
theorem dX2_walkFrom_18 : decode cX2_walkFrom 18 = .ok (.getfield 29, 3) := by decide +kernel
theorem dX2_walkFrom_21 : decode cX2_walkFrom 21 = .ok (.iconst 1, 1) := by decide +kernel
theorem dX2_walkFrom_22 : decode cX2_walkFrom 22 = .ok (.iadd, 1) := by decide +kernel
theorem dX2_walkFrom_23 : decode cX2_walkFrom 23 = .ok (.putfield 29, 3) := by decide +kernel
theorem dX2_walkFrom_26 : decode cX2_walkFrom 26 = .ok (.aload_n 0, 1) := by decide +kernel
theorem dX2_walkFrom_27 : decode cX2_walkFrom 27 = .ok (.aload_n 0, 1) := by decide +kernel
theorem dX2_walkFrom_28 : decode cX2_walkFrom 28 = .ok (.getfield 32, 3) := by decide +kernel
theorem dX2_walkFrom_31 : decode cX2_walkFrom 31 = .ok (.iconst (-1), 1) := by decide +kernel
theorem dX2_walkFrom_32 : decode cX2_walkFrom 32 = .ok (.if_icmp .ne 8, 3) := by decide +kernel
theorem dX2_walkFrom_35 : decode cX2_walkFrom 35 = .ok (.iload 4, 2) := by decide +kernel
theorem dX2_walkFrom_37 : decode cX2_walkFrom 37 = .ok (.goto 7, 3) := by decide +kernel
theorem dX2_walkFrom_40 : decode cX2_walkFrom 40 = .ok (.aload_n 0, 1) := by decide +kernel
theorem dX2_walkFrom_41 : decode cX2_walkFrom 41 = .ok (.getfield 32, 3) := by decide +kernel
theorem dX2_walkFrom_44 : decode cX2_walkFrom 44 = .ok (.putfield 32, 3) := by decide +kernel
theorem dX2_walkFrom_47 : decode cX2_walkFrom 47 = .ok (.return_, 1) := by decide +kernel
theorem dX2_walkFrom_48 : decode cX2_walkFrom 48 = .ok (.aload_n 0, 1) := by decide +kernel
theorem dX2_walkFrom_49 : decode cX2_walkFrom 49 = .ok (.getfield 9, 3) := by decide +kernel
theorem dX2_walkFrom_52 : decode cX2_walkFrom 52 = .ok (.iload_n 2, 1) := by decide +kernel
theorem dX2_walkFrom_53 : decode cX2_walkFrom 53 = .ok (.iload_n 3, 1) := by decide +kernel
theorem dX2_walkFrom_54 : decode cX2_walkFrom 54 = .ok (.invokevirtual 39, 3) := by decide +kernel
theorem dX2_walkFrom_57 : decode cX2_walkFrom 57 = .ok (.aload_n 0, 1) := by decide +kernel
theorem dX2_walkFrom_58 : decode cX2_walkFrom 58 = .ok (.getfield 9, 3) := by decide +kernel
theorem dX2_walkFrom_61 : decode cX2_walkFrom 61 = .ok (.aload_n 0, 1) := by decide +kernel
theorem dX2_walkFrom_62 : decode cX2_walkFrom 62 = .ok (.getfield 19, 3) := by decide +kernel
theorem dX2_walkFrom_65 : decode cX2_walkFrom 65 = .ok (.iload_n 1, 1) := by decide +kernel
theorem dX2_walkFrom_66 : decode cX2_walkFrom 66 = .ok (.iadd, 1) := by decide +kernel
theorem dX2_walkFrom_67 : decode cX2_walkFrom 67 = .ok (.invokevirtual 45, 3) := by decide +kernel
theorem dX2_walkFrom_70 : decode cX2_walkFrom 70 = .ok (.iload_n 2, 1) := by decide +kernel
theorem dX2_walkFrom_71 : decode cX2_walkFrom 71 = .ok (.aload_n 0, 1) := by decide +kernel
theorem dX2_walkFrom_72 : decode cX2_walkFrom 72 = .ok (.getfield 9, 3) := by decide +kernel
theorem dX2_walkFrom_75 : decode cX2_walkFrom 75 = .ok (.aload_n 0, 1) := by decide +kernel
theorem dX2_walkFrom_76 : decode cX2_walkFrom 76 = .ok (.getfield 15, 3) := by decide +kernel
theorem dX2_walkFrom_79 : decode cX2_walkFrom 79 = .ok (.sipush 10012, 3) := by decide +kernel
theorem dX2_walkFrom_82 : decode cX2_walkFrom 82 = .ok (.invokevirtual 49, 3) := by decide +kernel
theorem dX2_walkFrom_85 : decode cX2_walkFrom 85 = .ok (.invokestatic 53, 3) := by decide +kernel
theorem dX2_walkFrom_88 : decode cX2_walkFrom 88 = .ok (.istore 5, 2) := by decide +kernel
theorem dX2_walkFrom_90 : decode cX2_walkFrom 90 = .ok (.iload_n 2, 1) := by decide +kernel
theorem dX2_walkFrom_91 : decode cX2_walkFrom 91 = .ok (.aload_n 0, 1) := by decide +kernel
theorem dX2_walkFrom_92 : decode cX2_walkFrom 92 = .ok (.getfield 9, 3) := by decide +kernel
theorem dX2_walkFrom_95 : decode cX2_walkFrom 95 = .ok (.aload_n 0, 1) := by decide +kernel
theorem dX2_walkFrom_96 : decode cX2_walkFrom 96 = .ok (.getfield 15, 3) := by decide +kernel
theorem dX2_walkFrom_99 : decode cX2_walkFrom 99 = .ok (.sipush 10011, 3) := by decide +kernel
theorem dX2_walkFrom_102 : decode cX2_walkFrom 102 = .ok (.invokevirtual 49, 3) := by decide +kernel
theorem dX2_walkFrom_105 : decode cX2_walkFrom 105 = .ok (.invokestatic 57, 3) := by decide +kernel
theorem dX2_walkFrom_108 : decode cX2_walkFrom 108 = .ok (.istore 6, 2) := by decide +kernel
theorem dX2_walkFrom_110 : decode cX2_walkFrom 110 = .ok (.aload_n 0, 1) := by decide +kernel
theorem dX2_walkFrom_111 : decode cX2_walkFrom 111 = .ok (.iload_n 1, 1) := by decide +kernel
theorem dX2_walkFrom_112 : decode cX2_walkFrom 112 = .ok (.iconst 1, 1) := by decide +kernel
theorem dX2_walkFrom_113 : decode cX2_walkFrom 113 = .ok (.iadd, 1) := by decide +kernel
theorem dX2_walkFrom_114 : decode cX2_walkFrom 114 = .ok (.iload 5, 2) := by decide +kernel
theorem dX2_walkFrom_116 : decode cX2_walkFrom 116 = .ok (.iconst 0, 1) := by decide +kernel
theorem dX2_walkFrom_117 : decode cX2_walkFrom 117 = .ok (.iload 4, 2) := by decide +kernel
theorem dX2_walkFrom_119 : decode cX2_walkFrom 119 = .ok (.invokevirtual 35, 3) := by decide +kernel
theorem dX2_walkFrom_122 : decode cX2_walkFrom 122 = .ok (.aload_n 0, 1) := by decide +kernel
theorem dX2_walkFrom_123 : decode cX2_walkFrom 123 = .ok (.iload_n 1, 1) := by decide +kernel
theorem dX2_walkFrom_124 : decode cX2_walkFrom 124 = .ok (.iconst 1, 1) := by decide +kernel
theorem dX2_walkFrom_125 : decode cX2_walkFrom 125 = .ok (.iadd, 1) := by decide +kernel
theorem dX2_walkFrom_126 : decode cX2_walkFrom 126 = .ok (.iload 6, 2) := by decide +kernel
theorem dX2_walkFrom_128 : decode cX2_walkFrom 128 = .ok (.iload_n 3, 1) := by decide +kernel
theorem dX2_walkFrom_129 : decode cX2_walkFrom 129 = .ok (.invokestatic 60, 3) := by decide +kernel
theorem dX2_walkFrom_132 : decode cX2_walkFrom 132 = .ok (.iload 4, 2) := by decide +kernel
theorem dX2_walkFrom_134 : decode cX2_walkFrom 134 = .ok (.iconst 1, 1) := by decide +kernel
theorem dX2_walkFrom_135 : decode cX2_walkFrom 135 = .ok (.iload_n 1, 1) := by decide +kernel
theorem dX2_walkFrom_136 : decode cX2_walkFrom 136 = .ok (.ishl, 1) := by decide +kernel
theorem dX2_walkFrom_137 : decode cX2_walkFrom 137 = .ok (.ior, 1) := by decide +kernel
theorem dX2_walkFrom_138 : decode cX2_walkFrom 138 = .ok (.invokevirtual 35, 3) := by decide +kernel
theorem dX2_walkFrom_141 : decode cX2_walkFrom 141 = .ok (.return_, 1) := by decide +kernel
theorem dX3_init_0 : decode cX3_init 0 = .ok (.aload_n 0, 1) := by decide +kernel
theorem dX3_init_1 : decode cX3_init 1 = .ok (.invokespecial 3, 3) := by decide +kernel
theorem dX3_init_4 : decode cX3_init 4 = .ok (.aload_n 0, 1) := by decide +kernel
theorem dX3_init_5 : decode cX3_init 5 = .ok (.bipush 16, 2) := by decide +kernel
theorem dX3_init_7 : decode cX3_init 7 = .ok (.newarray .int, 2) := by decide +kernel
theorem dX3_init_9 : decode cX3_init 9 = .ok (.putfield 9, 3) := by decide +kernel
theorem dX3_init_12 : decode cX3_init 12 = .ok (.aload_n 0, 1) := by decide +kernel
theorem dX3_init_13 : decode cX3_init 13 = .ok (.bipush 16, 2) := by decide +kernel
theorem dX3_init_15 : decode cX3_init 15 = .ok (.newarray .int, 2) := by decide +kernel
theorem dX3_init_17 : decode cX3_init 17 = .ok (.putfield 15, 3) := by decide +kernel
theorem dX3_init_20 : decode cX3_init 20 = .ok (.aload_n 0, 1) := by decide +kernel
theorem dX3_init_21 : decode cX3_init 21 = .ok (.bipush 16, 2) := by decide +kernel
theorem dX3_init_23 : decode cX3_init 23 = .ok (.newarray .int, 2) := by decide +kernel
theorem dX3_init_25 : decode cX3_init 25 = .ok (.putfield 18, 3) := by decide +kernel
theorem dX3_init_28 : decode cX3_init 28 = .ok (.aload_n 0, 1) := by decide +kernel
theorem dX3_init_29 : decode cX3_init 29 = .ok (.bipush 16, 2) := by decide +kernel
theorem dX3_init_31 : decode cX3_init 31 = .ok (.newarray .int, 2) := by decide +kernel
theorem dX3_init_33 : decode cX3_init 33 = .ok (.putfield 21, 3) := by decide +kernel
theorem dX3_init_36 : decode cX3_init 36 = .ok (.aload_n 0, 1) := by decide +kernel
theorem dX3_init_37 : decode cX3_init 37 = .ok (.sipush 400, 3) := by decide +kernel
theorem dX3_init_40 : decode cX3_init 40 = .ok (.newarray .int, 2) := by decide +kernel
theorem dX3_init_42 : decode cX3_init 42 = .ok (.putfield 24, 3) := by decide +kernel
theorem dX3_init_45 : decode cX3_init 45 = .ok (.return_, 1) := by decide +kernel
theorem dX3_clear_0 : decode cX3_clear 0 = .ok (.aload_n 0, 1) := by decide +kernel
theorem dX3_clear_1 : decode cX3_clear 1 = .ok (.iconst 0, 1) := by decide +kernel
theorem dX3_clear_2 : decode cX3_clear 2 = .ok (.putfield 27, 3) := by decide +kernel
theorem dX3_clear_5 : decode cX3_clear 5 = .ok (.aload_n 0, 1) := by decide +kernel
theorem dX3_clear_6 : decode cX3_clear 6 = .ok (.iconst 0, 1) := by decide +kernel
theorem dX3_clear_7 : decode cX3_clear 7 = .ok (.putfield 31, 3) := by decide +kernel
theorem dX3_clear_10 : decode cX3_clear 10 = .ok (.return_, 1) := by decide +kernel
theorem dX3_put_0 : decode cX3_put 0 = .ok (.aload_n 0, 1) := by decide +kernel
theorem dX3_put_1 : decode cX3_put 1 = .ok (.getfield 31, 3) := by decide +kernel
theorem dX3_put_4 : decode cX3_put 4 = .ok (.sipush 400, 3) := by decide +kernel
theorem dX3_put_7 : decode cX3_put 7 = .ok (.if_icmp .ge 23, 3) := by decide +kernel
theorem dX3_put_10 : decode cX3_put 10 = .ok (.aload_n 0, 1) := by decide +kernel
theorem dX3_put_11 : decode cX3_put 11 = .ok (.getfield 24, 3) := by decide +kernel
theorem dX3_put_14 : decode cX3_put 14 = .ok (.aload_n 0, 1) := by decide +kernel
theorem dX3_put_15 : decode cX3_put 15 = .ok (.getfield 31, 3) := by decide +kernel
theorem dX3_put_18 : decode cX3_put 18 = .ok (.iload_n 1, 1) := by decide +kernel
theorem dX3_put_19 : decode cX3_put 19 = .ok (.iastore, 1) := by decide +kernel
theorem dX3_put_20 : decode cX3_put 20 = .ok (.aload_n 0, 1) := by decide +kernel
theorem dX3_put_21 : decode cX3_put 21 = .ok (.dup, 1) := by decide +kernel
theorem dX3_put_22 : decode cX3_put 22 = .ok (.getfield 31, 3) := by decide +kernel
theorem dX3_put_25 : decode cX3_put 25 = .ok (.iconst 1, 1) := by decide +kernel
theorem dX3_put_26 : decode cX3_put 26 = .ok (.iadd, 1) := by decide +kernel
theorem dX3_put_27 : decode cX3_put 27 = .ok (.putfield 31, 3) := by decide +kernel
theorem dX3_put_30 : decode cX3_put 30 = .ok (.return_, 1) := by decide +kernel
theorem dX3_beginLine_0 : decode cX3_beginLine 0 = .ok (.aload_n 0, 1) := by decide +kernel
theorem dX3_beginLine_1 : decode cX3_beginLine 1 = .ok (.getfield 9, 3) := by decide +kernel
theorem dX3_beginLine_4 : decode cX3_beginLine 4 = .ok (.aload_n 0, 1) := by decide +kernel
theorem dX3_beginLine_5 : decode cX3_beginLine 5 = .ok (.getfield 27, 3) := by decide +kernel
theorem dX3_beginLine_8 : decode cX3_beginLine 8 = .ok (.iload_n 1, 1) := by decide +kernel
theorem dX3_beginLine_9 : decode cX3_beginLine 9 = .ok (.iastore, 1) := by decide +kernel
theorem dX3_beginLine_10 : decode cX3_beginLine 10 = .ok (.aload_n 0, 1) := by decide +kernel
theorem dX3_beginLine_11 : decode cX3_beginLine 11 = .ok (.getfield 15, 3) := by decide +kernel
theorem dX3_beginLine_14 : decode cX3_beginLine 14 = .ok (.aload_n 0, 1) := by decide +kernel
theorem dX3_beginLine_15 : decode cX3_beginLine 15 = .ok (.getfield 27, 3) := by decide +kernel
theorem dX3_beginLine_18 : decode cX3_beginLine 18 = .ok (.aload_n 0, 1) := by decide +kernel
theorem dX3_beginLine_19 : decode cX3_beginLine 19 = .ok (.getfield 31, 3) := by decide +kernel
theorem dX3_beginLine_22 : decode cX3_beginLine 22 = .ok (.iastore, 1) := by decide +kernel
theorem dX3_beginLine_23 : decode cX3_beginLine 23 = .ok (.return_, 1) := by decide +kernel
theorem dX3_beginCondition_0 : decode cX3_beginCondition 0 = .ok (.aload_n 0, 1) := by decide +kernel
theorem dX3_beginCondition_1 : decode cX3_beginCondition 1 = .ok (.getfield 18, 3) := by decide +kernel
theorem dX3_beginCondition_4 : decode cX3_beginCondition 4 = .ok (.aload_n 0, 1) := by decide +kernel
theorem dX3_beginCondition_5 : decode cX3_beginCondition 5 = .ok (.getfield 27, 3) := by decide +kernel
theorem dX3_beginCondition_8 : decode cX3_beginCondition 8 = .ok (.aload_n 0, 1) := by decide +kernel
theorem dX3_beginCondition_9 : decode cX3_beginCondition 9 = .ok (.getfield 31, 3) := by decide +kernel
theorem dX3_beginCondition_12 : decode cX3_beginCondition 12 = .ok (.iastore, 1) := by decide +kernel
theorem dX3_beginCondition_13 : decode cX3_beginCondition 13 = .ok (.return_, 1) := by decide +kernel
theorem dX3_endLine_0 : decode cX3_endLine 0 = .ok (.aload_n 0, 1) := by decide +kernel
theorem dX3_endLine_1 : decode cX3_endLine 1 = .ok (.getfield 21, 3) := by decide +kernel
theorem dX3_endLine_4 : decode cX3_endLine 4 = .ok (.aload_n 0, 1) := by decide +kernel
theorem dX3_endLine_5 : decode cX3_endLine 5 = .ok (.getfield 27, 3) := by decide +kernel
theorem dX3_endLine_8 : decode cX3_endLine 8 = .ok (.aload_n 0, 1) := by decide +kernel
theorem dX3_endLine_9 : decode cX3_endLine 9 = .ok (.getfield 31, 3) := by decide +kernel
theorem dX3_endLine_12 : decode cX3_endLine 12 = .ok (.iastore, 1) := by decide +kernel
theorem dX3_endLine_13 : decode cX3_endLine 13 = .ok (.aload_n 0, 1) := by decide +kernel
theorem dX3_endLine_14 : decode cX3_endLine 14 = .ok (.dup, 1) := by decide +kernel
theorem dX3_endLine_15 : decode cX3_endLine 15 = .ok (.getfield 27, 3) := by decide +kernel
theorem dX3_endLine_18 : decode cX3_endLine 18 = .ok (.iconst 1, 1) := by decide +kernel
theorem dX3_endLine_19 : decode cX3_endLine 19 = .ok (.iadd, 1) := by decide +kernel
theorem dX3_endLine_20 : decode cX3_endLine 20 = .ok (.putfield 27, 3) := by decide +kernel
theorem dX3_endLine_23 : decode cX3_endLine 23 = .ok (.return_, 1) := by decide +kernel
theorem dX3_become_0 : decode cX3_become 0 = .ok (.aload_n 0, 1) := by decide +kernel
theorem dX3_become_1 : decode cX3_become 1 = .ok (.aload_n 1, 1) := by decide +kernel
theorem dX3_become_2 : decode cX3_become 2 = .ok (.getfield 27, 3) := by decide +kernel
theorem dX3_become_5 : decode cX3_become 5 = .ok (.putfield 27, 3) := by decide +kernel
theorem dX3_become_8 : decode cX3_become 8 = .ok (.aload_n 0, 1) := by decide +kernel
theorem dX3_become_9 : decode cX3_become 9 = .ok (.aload_n 1, 1) := by decide +kernel
theorem dX3_become_10 : decode cX3_become 10 = .ok (.getfield 31, 3) := by decide +kernel
theorem dX3_become_13 : decode cX3_become 13 = .ok (.putfield 31, 3) := by decide +kernel
theorem dX3_become_16 : decode cX3_become 16 = .ok (.aload_n 1, 1) := by decide +kernel
theorem dX3_become_17 : decode cX3_become 17 = .ok (.getfield 9, 3) := by decide +kernel
theorem dX3_become_20 : decode cX3_become 20 = .ok (.iconst 0, 1) := by decide +kernel
theorem dX3_become_21 : decode cX3_become 21 = .ok (.aload_n 0, 1) := by decide +kernel
theorem dX3_become_22 : decode cX3_become 22 = .ok (.getfield 9, 3) := by decide +kernel
theorem dX3_become_25 : decode cX3_become 25 = .ok (.iconst 0, 1) := by decide +kernel
theorem dX3_become_26 : decode cX3_become 26 = .ok (.bipush 16, 2) := by decide +kernel
theorem dX3_become_28 : decode cX3_become 28 = .ok (.invokestatic 34, 3) := by decide +kernel
theorem dX3_become_31 : decode cX3_become 31 = .ok (.aload_n 1, 1) := by decide +kernel
theorem dX3_become_32 : decode cX3_become 32 = .ok (.getfield 15, 3) := by decide +kernel
theorem dX3_become_35 : decode cX3_become 35 = .ok (.iconst 0, 1) := by decide +kernel
theorem dX3_become_36 : decode cX3_become 36 = .ok (.aload_n 0, 1) := by decide +kernel
theorem dX3_become_37 : decode cX3_become 37 = .ok (.getfield 15, 3) := by decide +kernel
theorem dX3_become_40 : decode cX3_become 40 = .ok (.iconst 0, 1) := by decide +kernel
theorem dX3_become_41 : decode cX3_become 41 = .ok (.bipush 16, 2) := by decide +kernel
theorem dX3_become_43 : decode cX3_become 43 = .ok (.invokestatic 34, 3) := by decide +kernel
theorem dX3_become_46 : decode cX3_become 46 = .ok (.aload_n 1, 1) := by decide +kernel
theorem dX3_become_47 : decode cX3_become 47 = .ok (.getfield 18, 3) := by decide +kernel
theorem dX3_become_50 : decode cX3_become 50 = .ok (.iconst 0, 1) := by decide +kernel
theorem dX3_become_51 : decode cX3_become 51 = .ok (.aload_n 0, 1) := by decide +kernel
theorem dX3_become_52 : decode cX3_become 52 = .ok (.getfield 18, 3) := by decide +kernel
theorem dX3_become_55 : decode cX3_become 55 = .ok (.iconst 0, 1) := by decide +kernel
theorem dX3_become_56 : decode cX3_become 56 = .ok (.bipush 16, 2) := by decide +kernel
theorem dX3_become_58 : decode cX3_become 58 = .ok (.invokestatic 34, 3) := by decide +kernel
theorem dX3_become_61 : decode cX3_become 61 = .ok (.aload_n 1, 1) := by decide +kernel
theorem dX3_become_62 : decode cX3_become 62 = .ok (.getfield 21, 3) := by decide +kernel
theorem dX3_become_65 : decode cX3_become 65 = .ok (.iconst 0, 1) := by decide +kernel
theorem dX3_become_66 : decode cX3_become 66 = .ok (.aload_n 0, 1) := by decide +kernel
theorem dX3_become_67 : decode cX3_become 67 = .ok (.getfield 21, 3) := by decide +kernel
theorem dX3_become_70 : decode cX3_become 70 = .ok (.iconst 0, 1) := by decide +kernel
theorem dX3_become_71 : decode cX3_become 71 = .ok (.bipush 16, 2) := by decide +kernel
theorem dX3_become_73 : decode cX3_become 73 = .ok (.invokestatic 34, 3) := by decide +kernel
theorem dX3_become_76 : decode cX3_become 76 = .ok (.aload_n 1, 1) := by decide +kernel
theorem dX3_become_77 : decode cX3_become 77 = .ok (.getfield 24, 3) := by decide +kernel
theorem dX3_become_80 : decode cX3_become 80 = .ok (.iconst 0, 1) := by decide +kernel
theorem dX3_become_81 : decode cX3_become 81 = .ok (.aload_n 0, 1) := by decide +kernel
theorem dX3_become_82 : decode cX3_become 82 = .ok (.getfield 24, 3) := by decide +kernel
theorem dX3_become_85 : decode cX3_become 85 = .ok (.iconst 0, 1) := by decide +kernel
theorem dX3_become_86 : decode cX3_become 86 = .ok (.aload_n 0, 1) := by decide +kernel
theorem dX3_become_87 : decode cX3_become 87 = .ok (.getfield 31, 3) := by decide +kernel
theorem dX3_become_90 : decode cX3_become 90 = .ok (.invokestatic 34, 3) := by decide +kernel
theorem dX3_become_93 : decode cX3_become 93 = .ok (.aload_n 0, 1) := by decide +kernel
theorem dX3_become_94 : decode cX3_become 94 = .ok (.getfield 27, 3) := by decide +kernel
theorem dX3_become_97 : decode cX3_become 97 = .ok (.ireturn, 1) := by decide +kernel
theorem dX4_init_0 : decode cX4_init 0 = .ok (.aload_n 0, 1) := by decide +kernel
theorem dX4_init_1 : decode cX4_init 1 = .ok (.invokespecial 3, 3) := by decide +kernel
theorem dX4_init_4 : decode cX4_init 4 = .ok (.aload_n 0, 1) := by decide +kernel
theorem dX4_init_5 : decode cX4_init 5 = .ok (.bipush 10, 2) := by decide +kernel
theorem dX4_init_7 : decode cX4_init 7 = .ok (.newarray .int, 2) := by decide +kernel
theorem dX4_init_9 : decode cX4_init 9 = .ok (.putfield 9, 3) := by decide +kernel
theorem dX4_init_12 : decode cX4_init 12 = .ok (.aload_n 0, 1) := by decide +kernel
theorem dX4_init_13 : decode cX4_init 13 = .ok (.bipush 10, 2) := by decide +kernel
theorem dX4_init_15 : decode cX4_init 15 = .ok (.newarray .int, 2) := by decide +kernel
theorem dX4_init_17 : decode cX4_init 17 = .ok (.putfield 15, 3) := by decide +kernel
theorem dX4_init_20 : decode cX4_init 20 = .ok (.aload_n 0, 1) := by decide +kernel
theorem dX4_init_21 : decode cX4_init 21 = .ok (.bipush 10, 2) := by decide +kernel
theorem dX4_init_23 : decode cX4_init 23 = .ok (.newarray .int, 2) := by decide +kernel
theorem dX4_init_25 : decode cX4_init 25 = .ok (.putfield 18, 3) := by decide +kernel
theorem dX4_init_28 : decode cX4_init 28 = .ok (.aload_n 0, 1) := by decide +kernel
theorem dX4_init_29 : decode cX4_init 29 = .ok (.bipush 10, 2) := by decide +kernel
theorem dX4_init_31 : decode cX4_init 31 = .ok (.newarray .int, 2) := by decide +kernel
theorem dX4_init_33 : decode cX4_init 33 = .ok (.putfield 21, 3) := by decide +kernel
theorem dX4_init_36 : decode cX4_init 36 = .ok (.return_, 1) := by decide +kernel
theorem dX4_become_0 : decode cX4_become 0 = .ok (.aload_n 0, 1) := by decide +kernel
theorem dX4_become_1 : decode cX4_become 1 = .ok (.aload_n 1, 1) := by decide +kernel
theorem dX4_become_2 : decode cX4_become 2 = .ok (.getfield 24, 3) := by decide +kernel
theorem dX4_become_5 : decode cX4_become 5 = .ok (.putfield 24, 3) := by decide +kernel
theorem dX4_become_8 : decode cX4_become 8 = .ok (.aload_n 0, 1) := by decide +kernel
theorem dX4_become_9 : decode cX4_become 9 = .ok (.aload_n 1, 1) := by decide +kernel
theorem dX4_become_10 : decode cX4_become 10 = .ok (.getfield 28, 3) := by decide +kernel
theorem dX4_become_13 : decode cX4_become 13 = .ok (.putfield 28, 3) := by decide +kernel
theorem dX4_become_16 : decode cX4_become 16 = .ok (.aload_n 0, 1) := by decide +kernel
theorem dX4_become_17 : decode cX4_become 17 = .ok (.aload_n 1, 1) := by decide +kernel
theorem dX4_become_18 : decode cX4_become 18 = .ok (.getfield 31, 3) := by decide +kernel
theorem dX4_become_21 : decode cX4_become 21 = .ok (.putfield 31, 3) := by decide +kernel
theorem dX4_become_24 : decode cX4_become 24 = .ok (.aload_n 0, 1) := by decide +kernel
theorem dX4_become_25 : decode cX4_become 25 = .ok (.aload_n 1, 1) := by decide +kernel
theorem dX4_become_26 : decode cX4_become 26 = .ok (.getfield 34, 3) := by decide +kernel
theorem dX4_become_29 : decode cX4_become 29 = .ok (.putfield 34, 3) := by decide +kernel
theorem dX4_become_32 : decode cX4_become 32 = .ok (.aload_n 0, 1) := by decide +kernel
theorem dX4_become_33 : decode cX4_become 33 = .ok (.aload_n 1, 1) := by decide +kernel
theorem dX4_become_34 : decode cX4_become 34 = .ok (.getfield 37, 3) := by decide +kernel
theorem dX4_become_37 : decode cX4_become 37 = .ok (.putfield 37, 3) := by decide +kernel
theorem dX4_become_40 : decode cX4_become 40 = .ok (.aload_n 0, 1) := by decide +kernel
theorem dX4_become_41 : decode cX4_become 41 = .ok (.aload_n 1, 1) := by decide +kernel
theorem dX4_become_42 : decode cX4_become 42 = .ok (.getfield 40, 3) := by decide +kernel
theorem dX4_become_45 : decode cX4_become 45 = .ok (.putfield 40, 3) := by decide +kernel
theorem dX4_become_48 : decode cX4_become 48 = .ok (.aload_n 0, 1) := by decide +kernel
theorem dX4_become_49 : decode cX4_become 49 = .ok (.aload_n 1, 1) := by decide +kernel
theorem dX4_become_50 : decode cX4_become 50 = .ok (.getfield 43, 3) := by decide +kernel
theorem dX4_become_53 : decode cX4_become 53 = .ok (.putfield 43, 3) := by decide +kernel
theorem dX4_become_56 : decode cX4_become 56 = .ok (.aload_n 0, 1) := by decide +kernel
theorem dX4_become_57 : decode cX4_become 57 = .ok (.aload_n 1, 1) := by decide +kernel
theorem dX4_become_58 : decode cX4_become 58 = .ok (.getfield 46, 3) := by decide +kernel
theorem dX4_become_61 : decode cX4_become 61 = .ok (.putfield 46, 3) := by decide +kernel
theorem dX4_become_64 : decode cX4_become 64 = .ok (.aload_n 0, 1) := by decide +kernel
theorem dX4_become_65 : decode cX4_become 65 = .ok (.aload_n 1, 1) := by decide +kernel
theorem dX4_become_66 : decode cX4_become 66 = .ok (.getfield 49, 3) := by decide +kernel
theorem dX4_become_69 : decode cX4_become 69 = .ok (.putfield 49, 3) := by decide +kernel
theorem dX4_become_72 : decode cX4_become 72 = .ok (.aload_n 0, 1) := by decide +kernel
theorem dX4_become_73 : decode cX4_become 73 = .ok (.aload_n 1, 1) := by decide +kernel
theorem dX4_become_74 : decode cX4_become 74 = .ok (.getfield 52, 3) := by decide +kernel
theorem dX4_become_77 : decode cX4_become 77 = .ok (.putfield 52, 3) := by decide +kernel
theorem dX4_become_80 : decode cX4_become 80 = .ok (.aload_n 0, 1) := by decide +kernel
theorem dX4_become_81 : decode cX4_become 81 = .ok (.aload_n 1, 1) := by decide +kernel
theorem dX4_become_82 : decode cX4_become 82 = .ok (.getfield 55, 3) := by decide +kernel
theorem dX4_become_85 : decode cX4_become 85 = .ok (.putfield 55, 3) := by decide +kernel
theorem dX4_become_88 : decode cX4_become 88 = .ok (.aload_n 1, 1) := by decide +kernel
theorem dX4_become_89 : decode cX4_become 89 = .ok (.getfield 9, 3) := by decide +kernel
theorem dX4_become_92 : decode cX4_become 92 = .ok (.iconst 0, 1) := by decide +kernel
theorem dX4_become_93 : decode cX4_become 93 = .ok (.aload_n 0, 1) := by decide +kernel
theorem dX4_become_94 : decode cX4_become 94 = .ok (.getfield 9, 3) := by decide +kernel
theorem dX4_become_97 : decode cX4_become 97 = .ok (.iconst 0, 1) := by decide +kernel
theorem dX4_become_98 : decode cX4_become 98 = .ok (.bipush 10, 2) := by decide +kernel
theorem dX4_become_100 : decode cX4_become 100 = .ok (.invokestatic 58, 3) := by decide +kernel
theorem dX4_become_103 : decode cX4_become 103 = .ok (.aload_n 1, 1) := by decide +kernel
theorem dX4_become_104 : decode cX4_become 104 = .ok (.getfield 15, 3) := by decide +kernel
theorem dX4_become_107 : decode cX4_become 107 = .ok (.iconst 0, 1) := by decide +kernel
theorem dX4_become_108 : decode cX4_become 108 = .ok (.aload_n 0, 1) := by decide +kernel
theorem dX4_become_109 : decode cX4_become 109 = .ok (.getfield 15, 3) := by decide +kernel
theorem dX4_become_112 : decode cX4_become 112 = .ok (.iconst 0, 1) := by decide +kernel
theorem dX4_become_113 : decode cX4_become 113 = .ok (.bipush 10, 2) := by decide +kernel
theorem dX4_become_115 : decode cX4_become 115 = .ok (.invokestatic 58, 3) := by decide +kernel
theorem dX4_become_118 : decode cX4_become 118 = .ok (.aload_n 1, 1) := by decide +kernel
theorem dX4_become_119 : decode cX4_become 119 = .ok (.getfield 18, 3) := by decide +kernel
theorem dX4_become_122 : decode cX4_become 122 = .ok (.iconst 0, 1) := by decide +kernel
theorem dX4_become_123 : decode cX4_become 123 = .ok (.aload_n 0, 1) := by decide +kernel
theorem dX4_become_124 : decode cX4_become 124 = .ok (.getfield 18, 3) := by decide +kernel
theorem dX4_become_127 : decode cX4_become 127 = .ok (.iconst 0, 1) := by decide +kernel
theorem dX4_become_128 : decode cX4_become 128 = .ok (.bipush 10, 2) := by decide +kernel
theorem dX4_become_130 : decode cX4_become 130 = .ok (.invokestatic 58, 3) := by decide +kernel
theorem dX4_become_133 : decode cX4_become 133 = .ok (.aload_n 1, 1) := by decide +kernel
theorem dX4_become_134 : decode cX4_become 134 = .ok (.getfield 21, 3) := by decide +kernel
theorem dX4_become_137 : decode cX4_become 137 = .ok (.iconst 0, 1) := by decide +kernel
theorem dX4_become_138 : decode cX4_become 138 = .ok (.aload_n 0, 1) := by decide +kernel
theorem dX4_become_139 : decode cX4_become 139 = .ok (.getfield 21, 3) := by decide +kernel
theorem dX4_become_142 : decode cX4_become 142 = .ok (.iconst 0, 1) := by decide +kernel
theorem dX4_become_143 : decode cX4_become 143 = .ok (.bipush 10, 2) := by decide +kernel
theorem dX4_become_145 : decode cX4_become 145 = .ok (.invokestatic 58, 3) := by decide +kernel
theorem dX4_become_148 : decode cX4_become 148 = .ok (.return_, 1) := by decide +kernel
theorem dX4_drawOfThousand_0 : decode cX4_drawOfThousand 0 = .ok (.aload_n 0, 1) := by decide +kernel
theorem dX4_drawOfThousand_1 : decode cX4_drawOfThousand 1 = .ok (.ldc 64, 2) := by decide +kernel
theorem dX4_drawOfThousand_3 : decode cX4_drawOfThousand 3 = .ok (.aload_n 0, 1) := by decide +kernel
theorem dX4_drawOfThousand_4 : decode cX4_drawOfThousand 4 = .ok (.getfield 24, 3) := by decide +kernel
theorem dX4_drawOfThousand_7 : decode cX4_drawOfThousand 7 = .ok (.imul, 1) := by decide +kernel
theorem dX4_drawOfThousand_8 : decode cX4_drawOfThousand 8 = .ok (.ldc 65, 2) := by decide +kernel
theorem dX4_drawOfThousand_10 : decode cX4_drawOfThousand 10 = .ok (.iadd, 1) := by decide +kernel
theorem dX4_drawOfThousand_11 : decode cX4_drawOfThousand 11 = .ok (.putfield 24, 3) := by decide +kernel
theorem dX4_drawOfThousand_14 : decode cX4_drawOfThousand 14 = .ok (.aload_n 0, 1) := by decide +kernel
theorem dX4_drawOfThousand_15 : decode cX4_drawOfThousand 15 = .ok (.getfield 24, 3) := by decide +kernel
theorem dX4_drawOfThousand_18 : decode cX4_drawOfThousand 18 = .ok (.bipush 8, 2) := by decide +kernel
theorem dX4_drawOfThousand_20 : decode cX4_drawOfThousand 20 = .ok (.iushr, 1) := by decide +kernel
theorem dX4_drawOfThousand_21 : decode cX4_drawOfThousand 21 = .ok (.sipush 1000, 3) := by decide +kernel
theorem dX4_drawOfThousand_24 : decode cX4_drawOfThousand 24 = .ok (.irem, 1) := by decide +kernel
theorem dX4_drawOfThousand_25 : decode cX4_drawOfThousand 25 = .ok (.ireturn, 1) := by decide +kernel
theorem dX4_greatestFeet_0 : decode cX4_greatestFeet 0 = .ok (.iconst 0, 1) := by decide +kernel
theorem dX4_greatestFeet_1 : decode cX4_greatestFeet 1 = .ok (.istore_n 1, 1) := by decide +kernel
theorem dX4_greatestFeet_2 : decode cX4_greatestFeet 2 = .ok (.iconst 0, 1) := by decide +kernel
theorem dX4_greatestFeet_3 : decode cX4_greatestFeet 3 = .ok (.istore_n 2, 1) := by decide +kernel
theorem dX4_greatestFeet_4 : decode cX4_greatestFeet 4 = .ok (.iload_n 2, 1) := by decide +kernel
theorem dX4_greatestFeet_5 : decode cX4_greatestFeet 5 = .ok (.aload_n 0, 1) := by decide +kernel
theorem dX4_greatestFeet_6 : decode cX4_greatestFeet 6 = .ok (.getfield 55, 3) := by decide +kernel
theorem dX4_greatestFeet_9 : decode cX4_greatestFeet 9 = .ok (.if_icmp .ge 20, 3) := by decide +kernel
theorem dX4_greatestFeet_12 : decode cX4_greatestFeet 12 = .ok (.iload_n 1, 1) := by decide +kernel
theorem dX4_greatestFeet_13 : decode cX4_greatestFeet 13 = .ok (.aload_n 0, 1) := by decide +kernel
theorem dX4_greatestFeet_14 : decode cX4_greatestFeet 14 = .ok (.getfield 18, 3) := by decide +kernel
theorem dX4_greatestFeet_17 : decode cX4_greatestFeet 17 = .ok (.iload_n 2, 1) := by decide +kernel
theorem dX4_greatestFeet_18 : decode cX4_greatestFeet 18 = .ok (.iaload, 1) := by decide +kernel
theorem dX4_greatestFeet_19 : decode cX4_greatestFeet 19 = .ok (.invokestatic 66, 3) := by decide +kernel
theorem dX4_greatestFeet_22 : decode cX4_greatestFeet 22 = .ok (.istore_n 1, 1) := by decide +kernel
theorem dX4_greatestFeet_23 : decode cX4_greatestFeet 23 = .ok (.iinc 2 1, 3) := by decide +kernel
theorem dX4_greatestFeet_26 : decode cX4_greatestFeet 26 = .ok (.goto (-22), 3) := by decide +kernel
theorem dX4_greatestFeet_29 : decode cX4_greatestFeet 29 = .ok (.iload_n 1, 1) := by decide +kernel
theorem dX4_greatestFeet_30 : decode cX4_greatestFeet 30 = .ok (.ireturn, 1) := by decide +kernel
theorem dX4_walkersOf_0 : decode cX4_walkersOf 0 = .ok (.iconst 0, 1) := by decide +kernel
theorem dX4_walkersOf_1 : decode cX4_walkersOf 1 = .ok (.istore_n 2, 1) := by decide +kernel
theorem dX4_walkersOf_2 : decode cX4_walkersOf 2 = .ok (.iconst 0, 1) := by decide +kernel
theorem dX4_walkersOf_3 : decode cX4_walkersOf 3 = .ok (.istore_n 3, 1) := by decide +kernel
theorem dX4_walkersOf_4 : decode cX4_walkersOf 4 = .ok (.iload_n 3, 1) := by decide +kernel
theorem dX4_walkersOf_5 : decode cX4_walkersOf 5 = .ok (.aload_n 0, 1) := by decide +kernel
theorem dX4_walkersOf_6 : decode cX4_walkersOf 6 = .ok (.getfield 55, 3) := by decide +kernel
theorem dX4_walkersOf_9 : decode cX4_walkersOf 9 = .ok (.if_icmp .ge 22, 3) := by decide +kernel
theorem dX4_walkersOf_12 : decode cX4_walkersOf 12 = .ok (.aload_n 0, 1) := by decide +kernel
theorem dX4_walkersOf_13 : decode cX4_walkersOf 13 = .ok (.getfield 9, 3) := by decide +kernel
theorem dX4_walkersOf_16 : decode cX4_walkersOf 16 = .ok (.iload_n 3, 1) := by decide +kernel
theorem dX4_walkersOf_17 : decode cX4_walkersOf 17 = .ok (.iaload, 1) := by decide +kernel
theorem dX4_walkersOf_18 : decode cX4_walkersOf 18 = .ok (.iload_n 1, 1) := by decide +kernel
theorem dX4_walkersOf_19 : decode cX4_walkersOf 19 = .ok (.if_icmp .ne 6, 3) := by decide +kernel
theorem dX4_walkersOf_22 : decode cX4_walkersOf 22 = .ok (.iinc 2 1, 3) := by decide +kernel
theorem dX4_walkersOf_25 : decode cX4_walkersOf 25 = .ok (.iinc 3 1, 3) := by decide +kernel
theorem dX4_walkersOf_28 : decode cX4_walkersOf 28 = .ok (.goto (-24), 3) := by decide +kernel
theorem dX4_walkersOf_31 : decode cX4_walkersOf 31 = .ok (.iload_n 2, 1) := by decide +kernel
theorem dX4_walkersOf_32 : decode cX4_walkersOf 32 = .ok (.ireturn, 1) := by decide +kernel
theorem dX5_init_0 : decode cX5_init 0 = .ok (.aload_n 0, 1) := by decide +kernel
theorem dX5_init_1 : decode cX5_init 1 = .ok (.invokespecial 3, 3) := by decide +kernel
theorem dX5_init_4 : decode cX5_init 4 = .ok (.aload_n 0, 1) := by decide +kernel
theorem dX5_init_5 : decode cX5_init 5 = .ok (.bipush 6, 2) := by decide +kernel
theorem dX5_init_7 : decode cX5_init 7 = .ok (.anewarray 9, 3) := by decide +kernel
theorem dX5_init_10 : decode cX5_init 10 = .ok (.putfield 11, 3) := by decide +kernel
theorem dX5_init_13 : decode cX5_init 13 = .ok (.iconst 0, 1) := by decide +kernel
theorem dX5_init_14 : decode cX5_init 14 = .ok (.istore_n 1, 1) := by decide +kernel
theorem dX5_init_15 : decode cX5_init 15 = .ok (.iload_n 1, 1) := by decide +kernel
theorem dX5_init_16 : decode cX5_init 16 = .ok (.bipush 6, 2) := by decide +kernel
theorem dX5_init_18 : decode cX5_init 18 = .ok (.if_icmp .ge 22, 3) := by decide +kernel
theorem dX5_init_21 : decode cX5_init 21 = .ok (.aload_n 0, 1) := by decide +kernel
theorem dX5_init_22 : decode cX5_init 22 = .ok (.getfield 11, 3) := by decide +kernel
theorem dX5_init_25 : decode cX5_init 25 = .ok (.iload_n 1, 1) := by decide +kernel
theorem dX5_init_26 : decode cX5_init 26 = .ok (.new 9, 3) := by decide +kernel
theorem dX5_init_29 : decode cX5_init 29 = .ok (.dup, 1) := by decide +kernel
theorem dX5_init_30 : decode cX5_init 30 = .ok (.invokespecial 17, 3) := by decide +kernel
theorem dX5_init_33 : decode cX5_init 33 = .ok (.aastore, 1) := by decide +kernel
theorem dX5_init_34 : decode cX5_init 34 = .ok (.iinc 1 1, 3) := by decide +kernel
theorem dX5_init_37 : decode cX5_init 37 = .ok (.goto (-22), 3) := by decide +kernel
theorem dX5_init_40 : decode cX5_init 40 = .ok (.return_, 1) := by decide +kernel
theorem dX5_keep_0 : decode cX5_keep 0 = .ok (.aload_n 0, 1) := by decide +kernel
theorem dX5_keep_1 : decode cX5_keep 1 = .ok (.getfield 18, 3) := by decide +kernel
theorem dX5_keep_4 : decode cX5_keep 4 = .ok (.bipush 6, 2) := by decide +kernel
theorem dX5_keep_6 : decode cX5_keep 6 = .ok (.if_icmp .ne 7, 3) := by decide +kernel
theorem dX5_keep_9 : decode cX5_keep 9 = .ok (.aload_n 0, 1) := by decide +kernel
theorem dX5_keep_10 : decode cX5_keep 10 = .ok (.invokevirtual 22, 3) := by decide +kernel
theorem dX5_keep_13 : decode cX5_keep 13 = .ok (.aload_n 0, 1) := by decide +kernel
theorem dX5_keep_14 : decode cX5_keep 14 = .ok (.getfield 11, 3) := by decide +kernel
theorem dX5_keep_17 : decode cX5_keep 17 = .ok (.aload_n 0, 1) := by decide +kernel
theorem dX5_keep_18 : decode cX5_keep 18 = .ok (.getfield 18, 3) := by decide +kernel
theorem dX5_keep_21 : decode cX5_keep 21 = .ok (.aaload, 1) := by decide +kernel
theorem dX5_keep_22 : decode cX5_keep 22 = .ok (.aload_n 1, 1) := by decide +kernel
theorem dX5_keep_23 : decode cX5_keep 23 = .ok (.invokevirtual 25, 3) := by decide +kernel
theorem dX5_keep_26 : decode cX5_keep 26 = .ok (.aload_n 0, 1) := by decide +kernel
theorem dX5_keep_27 : decode cX5_keep 27 = .ok (.dup, 1) := by decide +kernel
theorem dX5_keep_28 : decode cX5_keep 28 = .ok (.getfield 18, 3) := by decide +kernel
theorem dX5_keep_31 : decode cX5_keep 31 = .ok (.iconst 1, 1) := by decide +kernel
theorem dX5_keep_32 : decode cX5_keep 32 = .ok (.iadd, 1) := by decide +kernel
theorem dX5_keep_33 : decode cX5_keep 33 = .ok (.putfield 18, 3) := by decide +kernel
theorem dX5_keep_36 : decode cX5_keep 36 = .ok (.return_, 1) := by decide +kernel
theorem dX5_dropOldest_0 : decode cX5_dropOldest 0 = .ok (.aload_n 0, 1) := by decide +kernel
theorem dX5_dropOldest_1 : decode cX5_dropOldest 1 = .ok (.getfield 11, 3) := by decide +kernel
theorem dX5_dropOldest_4 : decode cX5_dropOldest 4 = .ok (.iconst 0, 1) := by decide +kernel
theorem dX5_dropOldest_5 : decode cX5_dropOldest 5 = .ok (.aaload, 1) := by decide +kernel
theorem dX5_dropOldest_6 : decode cX5_dropOldest 6 = .ok (.astore_n 1, 1) := by decide +kernel
theorem dX5_dropOldest_7 : decode cX5_dropOldest 7 = .ok (.iconst 1, 1) := by decide +kernel
theorem dX5_dropOldest_8 : decode cX5_dropOldest 8 = .ok (.istore_n 2, 1) := by decide +kernel
theorem dX5_dropOldest_9 : decode cX5_dropOldest 9 = .ok (.iload_n 2, 1) := by decide +kernel
theorem dX5_dropOldest_10 : decode cX5_dropOldest 10 = .ok (.bipush 6, 2) := by decide +kernel
theorem dX5_dropOldest_12 : decode cX5_dropOldest 12 = .ok (.if_icmp .ge 23, 3) := by decide +kernel
theorem dX5_dropOldest_15 : decode cX5_dropOldest 15 = .ok (.aload_n 0, 1) := by decide +kernel
theorem dX5_dropOldest_16 : decode cX5_dropOldest 16 = .ok (.getfield 11, 3) := by decide +kernel
theorem dX5_dropOldest_19 : decode cX5_dropOldest 19 = .ok (.iload_n 2, 1) := by decide +kernel
theorem dX5_dropOldest_20 : decode cX5_dropOldest 20 = .ok (.iconst 1, 1) := by decide +kernel
theorem dX5_dropOldest_21 : decode cX5_dropOldest 21 = .ok (.isub, 1) := by decide +kernel
theorem dX5_dropOldest_22 : decode cX5_dropOldest 22 = .ok (.aload_n 0, 1) := by decide +kernel
theorem dX5_dropOldest_23 : decode cX5_dropOldest 23 = .ok (.getfield 11, 3) := by decide +kernel
theorem dX5_dropOldest_26 : decode cX5_dropOldest 26 = .ok (.iload_n 2, 1) := by decide +kernel
theorem dX5_dropOldest_27 : decode cX5_dropOldest 27 = .ok (.aaload, 1) := by decide +kernel
theorem dX5_dropOldest_28 : decode cX5_dropOldest 28 = .ok (.aastore, 1) := by decide +kernel
theorem dX5_dropOldest_29 : decode cX5_dropOldest 29 = .ok (.iinc 2 1, 3) := by decide +kernel
theorem dX5_dropOldest_32 : decode cX5_dropOldest 32 = .ok (.goto (-23), 3) := by decide +kernel
theorem dX5_dropOldest_35 : decode cX5_dropOldest 35 = .ok (.aload_n 0, 1) := by decide +kernel
theorem dX5_dropOldest_36 : decode cX5_dropOldest 36 = .ok (.getfield 11, 3) := by decide +kernel
theorem dX5_dropOldest_39 : decode cX5_dropOldest 39 = .ok (.iconst 5, 1) := by decide +kernel
theorem dX5_dropOldest_40 : decode cX5_dropOldest 40 = .ok (.aload_n 1, 1) := by decide +kernel
theorem dX5_dropOldest_41 : decode cX5_dropOldest 41 = .ok (.aastore, 1) := by decide +kernel
theorem dX5_dropOldest_42 : decode cX5_dropOldest 42 = .ok (.aload_n 0, 1) := by decide +kernel
theorem dX5_dropOldest_43 : decode cX5_dropOldest 43 = .ok (.dup, 1) := by decide +kernel
theorem dX5_dropOldest_44 : decode cX5_dropOldest 44 = .ok (.getfield 18, 3) := by decide +kernel
theorem dX5_dropOldest_47 : decode cX5_dropOldest 47 = .ok (.iconst 1, 1) := by decide +kernel
theorem dX5_dropOldest_48 : decode cX5_dropOldest 48 = .ok (.isub, 1) := by decide +kernel
theorem dX5_dropOldest_49 : decode cX5_dropOldest 49 = .ok (.putfield 18, 3) := by decide +kernel
theorem dX5_dropOldest_52 : decode cX5_dropOldest 52 = .ok (.return_, 1) := by decide +kernel
theorem dX5_goBack_0 : decode cX5_goBack 0 = .ok (.aload_n 0, 1) := by decide +kernel
theorem dX5_goBack_1 : decode cX5_goBack 1 = .ok (.getfield 18, 3) := by decide +kernel
theorem dX5_goBack_4 : decode cX5_goBack 4 = .ok (.ifCond .gt 5, 3) := by decide +kernel
theorem dX5_goBack_7 : decode cX5_goBack 7 = .ok (.iconst 0, 1) := by decide +kernel
theorem dX5_goBack_8 : decode cX5_goBack 8 = .ok (.ireturn, 1) := by decide +kernel
theorem dX5_goBack_9 : decode cX5_goBack 9 = .ok (.aload_n 0, 1) := by decide +kernel
theorem dX5_goBack_10 : decode cX5_goBack 10 = .ok (.dup, 1) := by decide +kernel
theorem dX5_goBack_11 : decode cX5_goBack 11 = .ok (.getfield 18, 3) := by decide +kernel
theorem dX5_goBack_14 : decode cX5_goBack 14 = .ok (.iconst 1, 1) := by decide +kernel
theorem dX5_goBack_15 : decode cX5_goBack 15 = .ok (.isub, 1) := by decide +kernel
theorem dX5_goBack_16 : decode cX5_goBack 16 = .ok (.putfield 18, 3) := by decide +kernel
theorem dX5_goBack_19 : decode cX5_goBack 19 = .ok (.aload_n 1, 1) := by decide +kernel
theorem dX5_goBack_20 : decode cX5_goBack 20 = .ok (.aload_n 0, 1) := by decide +kernel
theorem dX5_goBack_21 : decode cX5_goBack 21 = .ok (.getfield 11, 3) := by decide +kernel
theorem dX5_goBack_24 : decode cX5_goBack 24 = .ok (.aload_n 0, 1) := by decide +kernel
theorem dX5_goBack_25 : decode cX5_goBack 25 = .ok (.getfield 18, 3) := by decide +kernel
theorem dX5_goBack_28 : decode cX5_goBack 28 = .ok (.aaload, 1) := by decide +kernel
theorem dX5_goBack_29 : decode cX5_goBack 29 = .ok (.invokevirtual 25, 3) := by decide +kernel
theorem dX5_goBack_32 : decode cX5_goBack 32 = .ok (.iconst 1, 1) := by decide +kernel
theorem dX5_goBack_33 : decode cX5_goBack 33 = .ok (.ireturn, 1) := by decide +kernel
theorem dX5_forget_0 : decode cX5_forget 0 = .ok (.aload_n 0, 1) := by decide +kernel
theorem dX5_forget_1 : decode cX5_forget 1 = .ok (.iconst 0, 1) := by decide +kernel
theorem dX5_forget_2 : decode cX5_forget 2 = .ok (.putfield 18, 3) := by decide +kernel
theorem dX5_forget_5 : decode cX5_forget 5 = .ok (.return_, 1) := by decide +kernel
theorem dX6_init_0 : decode cX6_init 0 = .ok (.aload_n 0, 1) := by decide +kernel
theorem dX6_init_1 : decode cX6_init 1 = .ok (.invokespecial 3, 3) := by decide +kernel
theorem dX6_init_4 : decode cX6_init 4 = .ok (.aload_n 0, 1) := by decide +kernel
theorem dX6_init_5 : decode cX6_init 5 = .ok (.iconst (-1), 1) := by decide +kernel
theorem dX6_init_6 : decode cX6_init 6 = .ok (.putfield 9, 3) := by decide +kernel
theorem dX6_init_9 : decode cX6_init 9 = .ok (.aload_n 0, 1) := by decide +kernel
theorem dX6_init_10 : decode cX6_init 10 = .ok (.new 15, 3) := by decide +kernel
theorem dX6_init_13 : decode cX6_init 13 = .ok (.dup, 1) := by decide +kernel
theorem dX6_init_14 : decode cX6_init 14 = .ok (.invokespecial 17, 3) := by decide +kernel
theorem dX6_init_17 : decode cX6_init 17 = .ok (.putfield 18, 3) := by decide +kernel
theorem dX6_init_20 : decode cX6_init 20 = .ok (.aload_n 0, 1) := by decide +kernel
theorem dX6_init_21 : decode cX6_init 21 = .ok (.new 22, 3) := by decide +kernel
theorem dX6_init_24 : decode cX6_init 24 = .ok (.dup, 1) := by decide +kernel
theorem dX6_init_25 : decode cX6_init 25 = .ok (.invokespecial 24, 3) := by decide +kernel
theorem dX6_init_28 : decode cX6_init 28 = .ok (.putfield 25, 3) := by decide +kernel
theorem dX6_init_31 : decode cX6_init 31 = .ok (.aload_n 0, 1) := by decide +kernel
theorem dX6_init_32 : decode cX6_init 32 = .ok (.new 29, 3) := by decide +kernel
theorem dX6_init_35 : decode cX6_init 35 = .ok (.dup, 1) := by decide +kernel
theorem dX6_init_36 : decode cX6_init 36 = .ok (.invokespecial 31, 3) := by decide +kernel
theorem dX6_init_39 : decode cX6_init 39 = .ok (.putfield 32, 3) := by decide +kernel
theorem dX6_init_42 : decode cX6_init 42 = .ok (.aload_n 0, 1) := by decide +kernel
theorem dX6_init_43 : decode cX6_init 43 = .ok (.sipush 401, 3) := by decide +kernel
theorem dX6_init_46 : decode cX6_init 46 = .ok (.newarray .int, 2) := by decide +kernel
theorem dX6_init_48 : decode cX6_init 48 = .ok (.putfield 36, 3) := by decide +kernel
theorem dX6_init_51 : decode cX6_init 51 = .ok (.aload_n 0, 1) := by decide +kernel
theorem dX6_init_52 : decode cX6_init 52 = .ok (.sipush 401, 3) := by decide +kernel
theorem dX6_init_55 : decode cX6_init 55 = .ok (.newarray .int, 2) := by decide +kernel
theorem dX6_init_57 : decode cX6_init 57 = .ok (.putfield 40, 3) := by decide +kernel
theorem dX6_init_60 : decode cX6_init 60 = .ok (.return_, 1) := by decide +kernel
theorem dX6_begin_0 : decode cX6_begin 0 = .ok (.aload_n 0, 1) := by decide +kernel
theorem dX6_begin_1 : decode cX6_begin 1 = .ok (.iconst 0, 1) := by decide +kernel
theorem dX6_begin_2 : decode cX6_begin 2 = .ok (.putfield 43, 3) := by decide +kernel
theorem dX6_begin_5 : decode cX6_begin 5 = .ok (.aload_n 0, 1) := by decide +kernel
theorem dX6_begin_6 : decode cX6_begin 6 = .ok (.iconst (-1), 1) := by decide +kernel
theorem dX6_begin_7 : decode cX6_begin 7 = .ok (.putfield 9, 3) := by decide +kernel
theorem dX6_begin_10 : decode cX6_begin 10 = .ok (.aload_n 0, 1) := by decide +kernel
theorem dX6_begin_11 : decode cX6_begin 11 = .ok (.iconst 0, 1) := by decide +kernel
theorem dX6_begin_12 : decode cX6_begin 12 = .ok (.putfield 46, 3) := by decide +kernel
theorem dX6_begin_15 : decode cX6_begin 15 = .ok (.iconst 0, 1) := by decide +kernel
theorem dX6_begin_16 : decode cX6_begin 16 = .ok (.istore_n 3, 1) := by decide +kernel
theorem dX6_begin_17 : decode cX6_begin 17 = .ok (.iconst 0, 1) := by decide +kernel
theorem dX6_begin_18 : decode cX6_begin 18 = .ok (.istore 4, 2) := by decide +kernel
theorem dX6_begin_20 : decode cX6_begin 20 = .ok (.iload 4, 2) := by decide +kernel
theorem dX6_begin_22 : decode cX6_begin 22 = .ok (.iload_n 2, 1) := by decide +kernel
theorem dX6_begin_23 : decode cX6_begin 23 = .ok (.if_icmp .ge 42, 3) := by decide +kernel
theorem dX6_begin_26 : decode cX6_begin 26 = .ok (.aload_n 1, 1) := by decide +kernel
theorem dX6_begin_27 : decode cX6_begin 27 = .ok (.iload 4, 2) := by decide +kernel
theorem dX6_begin_29 : decode cX6_begin 29 = .ok (.invokestatic 49, 3) := by decide +kernel
theorem dX6_begin_32 : decode cX6_begin 32 = .ok (.ifCond .eq 27, 3) := by decide +kernel
theorem dX6_begin_35 : decode cX6_begin 35 = .ok (.aload_n 0, 1) := by decide +kernel
theorem dX6_begin_36 : decode cX6_begin 36 = .ok (.getfield 36, 3) := by decide +kernel
theorem dX6_begin_39 : decode cX6_begin 39 = .ok (.iload_n 3, 1) := by decide +kernel
theorem dX6_begin_40 : decode cX6_begin 40 = .ok (.aload_n 1, 1) := by decide +kernel
theorem dX6_begin_41 : decode cX6_begin 41 = .ok (.iload 4, 2) := by decide +kernel
theorem dX6_begin_43 : decode cX6_begin 43 = .ok (.iload_n 2, 1) := by decide +kernel
theorem dX6_begin_44 : decode cX6_begin 44 = .ok (.invokestatic 53, 3) := by decide +kernel
theorem dX6_begin_47 : decode cX6_begin 47 = .ok (.iastore, 1) := by decide +kernel
theorem dX6_begin_48 : decode cX6_begin 48 = .ok (.aload_n 0, 1) := by decide +kernel
theorem dX6_begin_49 : decode cX6_begin 49 = .ok (.getfield 40, 3) := by decide +kernel
theorem dX6_begin_52 : decode cX6_begin 52 = .ok (.iload_n 3, 1) := by decide +kernel
theorem dX6_begin_53 : decode cX6_begin 53 = .ok (.iload 4, 2) := by decide +kernel
theorem dX6_begin_55 : decode cX6_begin 55 = .ok (.iastore, 1) := by decide +kernel
theorem dX6_begin_56 : decode cX6_begin 56 = .ok (.iinc 3 1, 3) := by decide +kernel
