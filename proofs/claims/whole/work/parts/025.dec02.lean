theorem dX7_isRiver_22 : decode cX7_isRiver 22 = .ok (.if_icmp .lt 7, 3) := by decide +kernel
theorem dX7_isRiver_25 : decode cX7_isRiver 25 = .ok (.iconst 1, 1) := by decide +kernel
theorem dX7_isRiver_26 : decode cX7_isRiver 26 = .ok (.goto 4, 3) := by decide +kernel
theorem dX7_isRiver_29 : decode cX7_isRiver 29 = .ok (.iconst 0, 1) := by decide +kernel
theorem dX7_isRiver_30 : decode cX7_isRiver 30 = .ok (.ireturn, 1) := by decide +kernel
theorem dX8_init_0 : decode cX8_init 0 = .ok (.aload_n 0, 1) := by decide +kernel
theorem dX8_init_1 : decode cX8_init 1 = .ok (.invokespecial 3, 3) := by decide +kernel
theorem dX8_init_4 : decode cX8_init 4 = .ok (.aload_n 0, 1) := by decide +kernel
theorem dX8_init_5 : decode cX8_init 5 = .ok (.bipush 16, 2) := by decide +kernel
theorem dX8_init_7 : decode cX8_init 7 = .ok (.newarray .int, 2) := by decide +kernel
theorem dX8_init_9 : decode cX8_init 9 = .ok (.putfield 9, 3) := by decide +kernel
theorem dX8_init_12 : decode cX8_init 12 = .ok (.aload_n 0, 1) := by decide +kernel
theorem dX8_init_13 : decode cX8_init 13 = .ok (.bipush 16, 2) := by decide +kernel
theorem dX8_init_15 : decode cX8_init 15 = .ok (.newarray .int, 2) := by decide +kernel
theorem dX8_init_17 : decode cX8_init 17 = .ok (.putfield 15, 3) := by decide +kernel
theorem dX8_init_20 : decode cX8_init 20 = .ok (.aload_n 0, 1) := by decide +kernel
theorem dX8_init_21 : decode cX8_init 21 = .ok (.bipush 10, 2) := by decide +kernel
theorem dX8_init_23 : decode cX8_init 23 = .ok (.newarray .int, 2) := by decide +kernel
theorem dX8_init_25 : decode cX8_init 25 = .ok (.putfield 18, 3) := by decide +kernel
theorem dX8_init_28 : decode cX8_init 28 = .ok (.aload_n 0, 1) := by decide +kernel
theorem dX8_init_29 : decode cX8_init 29 = .ok (.bipush 10, 2) := by decide +kernel
theorem dX8_init_31 : decode cX8_init 31 = .ok (.newarray .int, 2) := by decide +kernel
theorem dX8_init_33 : decode cX8_init 33 = .ok (.putfield 21, 3) := by decide +kernel
theorem dX8_init_36 : decode cX8_init 36 = .ok (.return_, 1) := by decide +kernel
theorem dX8_put_0 : decode cX8_put 0 = .ok (.aload_n 0, 1) := by decide +kernel
theorem dX8_put_1 : decode cX8_put 1 = .ok (.getfield 9, 3) := by decide +kernel
theorem dX8_put_4 : decode cX8_put 4 = .ok (.aload_n 0, 1) := by decide +kernel
theorem dX8_put_5 : decode cX8_put 5 = .ok (.getfield 24, 3) := by decide +kernel
theorem dX8_put_8 : decode cX8_put 8 = .ok (.iload_n 1, 1) := by decide +kernel
theorem dX8_put_9 : decode cX8_put 9 = .ok (.iastore, 1) := by decide +kernel
theorem dX8_put_10 : decode cX8_put 10 = .ok (.aload_n 0, 1) := by decide +kernel
theorem dX8_put_11 : decode cX8_put 11 = .ok (.getfield 15, 3) := by decide +kernel
theorem dX8_put_14 : decode cX8_put 14 = .ok (.aload_n 0, 1) := by decide +kernel
theorem dX8_put_15 : decode cX8_put 15 = .ok (.getfield 24, 3) := by decide +kernel
theorem dX8_put_18 : decode cX8_put 18 = .ok (.iconst 0, 1) := by decide +kernel
theorem dX8_put_19 : decode cX8_put 19 = .ok (.iastore, 1) := by decide +kernel
theorem dX8_put_20 : decode cX8_put 20 = .ok (.iconst 0, 1) := by decide +kernel
theorem dX8_put_21 : decode cX8_put 21 = .ok (.istore 4, 2) := by decide +kernel
theorem dX8_put_23 : decode cX8_put 23 = .ok (.iload 4, 2) := by decide +kernel
theorem dX8_put_25 : decode cX8_put 25 = .ok (.iload_n 3, 1) := by decide +kernel
theorem dX8_put_26 : decode cX8_put 26 = .ok (.if_icmp .ge 30, 3) := by decide +kernel
theorem dX8_put_29 : decode cX8_put 29 = .ok (.aload_n 0, 1) := by decide +kernel
theorem dX8_put_30 : decode cX8_put 30 = .ok (.getfield 15, 3) := by decide +kernel
theorem dX8_put_33 : decode cX8_put 33 = .ok (.aload_n 0, 1) := by decide +kernel
theorem dX8_put_34 : decode cX8_put 34 = .ok (.getfield 24, 3) := by decide +kernel
theorem dX8_put_37 : decode cX8_put 37 = .ok (.dup2, 1) := by decide +kernel
theorem dX8_put_38 : decode cX8_put 38 = .ok (.iaload, 1) := by decide +kernel
theorem dX8_put_39 : decode cX8_put 39 = .ok (.iconst 1, 1) := by decide +kernel
theorem dX8_put_40 : decode cX8_put 40 = .ok (.iload_n 2, 1) := by decide +kernel
theorem dX8_put_41 : decode cX8_put 41 = .ok (.iload 4, 2) := by decide +kernel
theorem dX8_put_43 : decode cX8_put 43 = .ok (.iadd, 1) := by decide +kernel
theorem dX8_put_44 : decode cX8_put 44 = .ok (.bipush 24, 2) := by decide +kernel
theorem dX8_put_46 : decode cX8_put 46 = .ok (.irem, 1) := by decide +kernel
theorem dX8_put_47 : decode cX8_put 47 = .ok (.ishl, 1) := by decide +kernel
theorem dX8_put_48 : decode cX8_put 48 = .ok (.ior, 1) := by decide +kernel
theorem dX8_put_49 : decode cX8_put 49 = .ok (.iastore, 1) := by decide +kernel
theorem dX8_put_50 : decode cX8_put 50 = .ok (.iinc 4 1, 3) := by decide +kernel
theorem dX8_put_53 : decode cX8_put 53 = .ok (.goto (-30), 3) := by decide +kernel
theorem dX8_put_56 : decode cX8_put 56 = .ok (.aload_n 0, 1) := by decide +kernel
theorem dX8_put_57 : decode cX8_put 57 = .ok (.dup, 1) := by decide +kernel
theorem dX8_put_58 : decode cX8_put 58 = .ok (.getfield 24, 3) := by decide +kernel
theorem dX8_put_61 : decode cX8_put 61 = .ok (.iconst 1, 1) := by decide +kernel
theorem dX8_put_62 : decode cX8_put 62 = .ok (.iadd, 1) := by decide +kernel
theorem dX8_put_63 : decode cX8_put 63 = .ok (.putfield 24, 3) := by decide +kernel
theorem dX8_put_66 : decode cX8_put 66 = .ok (.return_, 1) := by decide +kernel
theorem dX8_become_0 : decode cX8_become 0 = .ok (.aload_n 0, 1) := by decide +kernel
theorem dX8_become_1 : decode cX8_become 1 = .ok (.aload_n 1, 1) := by decide +kernel
theorem dX8_become_2 : decode cX8_become 2 = .ok (.getfield 24, 3) := by decide +kernel
theorem dX8_become_5 : decode cX8_become 5 = .ok (.putfield 24, 3) := by decide +kernel
theorem dX8_become_8 : decode cX8_become 8 = .ok (.aload_n 1, 1) := by decide +kernel
theorem dX8_become_9 : decode cX8_become 9 = .ok (.getfield 9, 3) := by decide +kernel
theorem dX8_become_12 : decode cX8_become 12 = .ok (.iconst 0, 1) := by decide +kernel
theorem dX8_become_13 : decode cX8_become 13 = .ok (.aload_n 0, 1) := by decide +kernel
theorem dX8_become_14 : decode cX8_become 14 = .ok (.getfield 9, 3) := by decide +kernel
theorem dX8_become_17 : decode cX8_become 17 = .ok (.iconst 0, 1) := by decide +kernel
theorem dX8_become_18 : decode cX8_become 18 = .ok (.bipush 16, 2) := by decide +kernel
theorem dX8_become_20 : decode cX8_become 20 = .ok (.invokestatic 28, 3) := by decide +kernel
theorem dX8_become_23 : decode cX8_become 23 = .ok (.aload_n 1, 1) := by decide +kernel
theorem dX8_become_24 : decode cX8_become 24 = .ok (.getfield 15, 3) := by decide +kernel
theorem dX8_become_27 : decode cX8_become 27 = .ok (.iconst 0, 1) := by decide +kernel
theorem dX8_become_28 : decode cX8_become 28 = .ok (.aload_n 0, 1) := by decide +kernel
theorem dX8_become_29 : decode cX8_become 29 = .ok (.getfield 15, 3) := by decide +kernel
theorem dX8_become_32 : decode cX8_become 32 = .ok (.iconst 0, 1) := by decide +kernel
theorem dX8_become_33 : decode cX8_become 33 = .ok (.bipush 16, 2) := by decide +kernel
theorem dX8_become_35 : decode cX8_become 35 = .ok (.invokestatic 28, 3) := by decide +kernel
theorem dX8_become_38 : decode cX8_become 38 = .ok (.aload_n 0, 1) := by decide +kernel
theorem dX8_become_39 : decode cX8_become 39 = .ok (.getfield 24, 3) := by decide +kernel
theorem dX8_become_42 : decode cX8_become 42 = .ok (.ireturn, 1) := by decide +kernel
theorem dX8_clocksOf_0 : decode cX8_clocksOf 0 = .ok (.iconst 0, 1) := by decide +kernel
theorem dX8_clocksOf_1 : decode cX8_clocksOf 1 = .ok (.istore_n 2, 1) := by decide +kernel
theorem dX8_clocksOf_2 : decode cX8_clocksOf 2 = .ok (.iconst 0, 1) := by decide +kernel
theorem dX8_clocksOf_3 : decode cX8_clocksOf 3 = .ok (.istore_n 3, 1) := by decide +kernel
theorem dX8_clocksOf_4 : decode cX8_clocksOf 4 = .ok (.iload_n 3, 1) := by decide +kernel
theorem dX8_clocksOf_5 : decode cX8_clocksOf 5 = .ok (.aload_n 0, 1) := by decide +kernel
theorem dX8_clocksOf_6 : decode cX8_clocksOf 6 = .ok (.getfield 24, 3) := by decide +kernel
theorem dX8_clocksOf_9 : decode cX8_clocksOf 9 = .ok (.if_icmp .ge 28, 3) := by decide +kernel
theorem dX8_clocksOf_12 : decode cX8_clocksOf 12 = .ok (.aload_n 0, 1) := by decide +kernel
theorem dX8_clocksOf_13 : decode cX8_clocksOf 13 = .ok (.getfield 9, 3) := by decide +kernel
theorem dX8_clocksOf_16 : decode cX8_clocksOf 16 = .ok (.iload_n 3, 1) := by decide +kernel
theorem dX8_clocksOf_17 : decode cX8_clocksOf 17 = .ok (.iaload, 1) := by decide +kernel
theorem dX8_clocksOf_18 : decode cX8_clocksOf 18 = .ok (.iload_n 1, 1) := by decide +kernel
theorem dX8_clocksOf_19 : decode cX8_clocksOf 19 = .ok (.if_icmp .ne 12, 3) := by decide +kernel
theorem dX8_clocksOf_22 : decode cX8_clocksOf 22 = .ok (.iload_n 2, 1) := by decide +kernel
theorem dX8_clocksOf_23 : decode cX8_clocksOf 23 = .ok (.aload_n 0, 1) := by decide +kernel
theorem dX8_clocksOf_24 : decode cX8_clocksOf 24 = .ok (.getfield 15, 3) := by decide +kernel
theorem dX8_clocksOf_27 : decode cX8_clocksOf 27 = .ok (.iload_n 3, 1) := by decide +kernel
theorem dX8_clocksOf_28 : decode cX8_clocksOf 28 = .ok (.iaload, 1) := by decide +kernel
theorem dX8_clocksOf_29 : decode cX8_clocksOf 29 = .ok (.ior, 1) := by decide +kernel
theorem dX8_clocksOf_30 : decode cX8_clocksOf 30 = .ok (.istore_n 2, 1) := by decide +kernel
theorem dX8_clocksOf_31 : decode cX8_clocksOf 31 = .ok (.iinc 3 1, 3) := by decide +kernel
theorem dX8_clocksOf_34 : decode cX8_clocksOf 34 = .ok (.goto (-30), 3) := by decide +kernel
theorem dX8_clocksOf_37 : decode cX8_clocksOf 37 = .ok (.iload_n 2, 1) := by decide +kernel
theorem dX8_clocksOf_38 : decode cX8_clocksOf 38 = .ok (.ireturn, 1) := by decide +kernel
theorem dX8_fewestLines_0 : decode cX8_fewestLines 0 = .ok (.aload_n 0, 1) := by decide +kernel
theorem dX8_fewestLines_1 : decode cX8_fewestLines 1 = .ok (.iconst 1, 1) := by decide +kernel
theorem dX8_fewestLines_2 : decode cX8_fewestLines 2 = .ok (.aload_n 0, 1) := by decide +kernel
theorem dX8_fewestLines_3 : decode cX8_fewestLines 3 = .ok (.getfield 24, 3) := by decide +kernel
theorem dX8_fewestLines_6 : decode cX8_fewestLines 6 = .ok (.ishl, 1) := by decide +kernel
theorem dX8_fewestLines_7 : decode cX8_fewestLines 7 = .ok (.iconst 1, 1) := by decide +kernel
theorem dX8_fewestLines_8 : decode cX8_fewestLines 8 = .ok (.isub, 1) := by decide +kernel
theorem dX8_fewestLines_9 : decode cX8_fewestLines 9 = .ok (.iload_n 1, 1) := by decide +kernel
theorem dX8_fewestLines_10 : decode cX8_fewestLines 10 = .ok (.invokevirtual 34, 3) := by decide +kernel
theorem dX8_fewestLines_13 : decode cX8_fewestLines 13 = .ok (.ifCond .le 5, 3) := by decide +kernel
theorem dX8_fewestLines_16 : decode cX8_fewestLines 16 = .ok (.iconst (-1), 1) := by decide +kernel
theorem dX8_fewestLines_17 : decode cX8_fewestLines 17 = .ok (.ireturn, 1) := by decide +kernel
theorem dX8_fewestLines_18 : decode cX8_fewestLines 18 = .ok (.iconst 0, 1) := by decide +kernel
theorem dX8_fewestLines_19 : decode cX8_fewestLines 19 = .ok (.istore_n 2, 1) := by decide +kernel
theorem dX8_fewestLines_20 : decode cX8_fewestLines 20 = .ok (.iload_n 2, 1) := by decide +kernel
theorem dX8_fewestLines_21 : decode cX8_fewestLines 21 = .ok (.aload_n 0, 1) := by decide +kernel
theorem dX8_fewestLines_22 : decode cX8_fewestLines 22 = .ok (.getfield 24, 3) := by decide +kernel
theorem dX8_fewestLines_25 : decode cX8_fewestLines 25 = .ok (.if_icmp .gt 34, 3) := by decide +kernel
theorem dX8_fewestLines_28 : decode cX8_fewestLines 28 = .ok (.aload_n 0, 1) := by decide +kernel
theorem dX8_fewestLines_29 : decode cX8_fewestLines 29 = .ok (.aload_n 0, 1) := by decide +kernel
theorem dX8_fewestLines_30 : decode cX8_fewestLines 30 = .ok (.getfield 24, 3) := by decide +kernel
theorem dX8_fewestLines_33 : decode cX8_fewestLines 33 = .ok (.iconst 1, 1) := by decide +kernel
theorem dX8_fewestLines_34 : decode cX8_fewestLines 34 = .ok (.isub, 1) := by decide +kernel
theorem dX8_fewestLines_35 : decode cX8_fewestLines 35 = .ok (.iload_n 2, 1) := by decide +kernel
theorem dX8_fewestLines_36 : decode cX8_fewestLines 36 = .ok (.iconst 0, 1) := by decide +kernel
theorem dX8_fewestLines_37 : decode cX8_fewestLines 37 = .ok (.iload_n 1, 1) := by decide +kernel
theorem dX8_fewestLines_38 : decode cX8_fewestLines 38 = .ok (.bipush 24, 2) := by decide +kernel
theorem dX8_fewestLines_40 : decode cX8_fewestLines 40 = .ok (.iload_n 1, 1) := by decide +kernel
theorem dX8_fewestLines_41 : decode cX8_fewestLines 41 = .ok (.imul, 1) := by decide +kernel
theorem dX8_fewestLines_42 : decode cX8_fewestLines 42 = .ok (.invokevirtual 38, 3) := by decide +kernel
theorem dX8_fewestLines_45 : decode cX8_fewestLines 45 = .ok (.istore_n 3, 1) := by decide +kernel
theorem dX8_fewestLines_46 : decode cX8_fewestLines 46 = .ok (.iload_n 3, 1) := by decide +kernel
theorem dX8_fewestLines_47 : decode cX8_fewestLines 47 = .ok (.iconst (-1), 1) := by decide +kernel
theorem dX8_fewestLines_48 : decode cX8_fewestLines 48 = .ok (.if_icmp .eq 5, 3) := by decide +kernel
theorem dX8_fewestLines_51 : decode cX8_fewestLines 51 = .ok (.iload_n 3, 1) := by decide +kernel
theorem dX8_fewestLines_52 : decode cX8_fewestLines 52 = .ok (.ireturn, 1) := by decide +kernel
theorem dX8_fewestLines_53 : decode cX8_fewestLines 53 = .ok (.iinc 2 1, 3) := by decide +kernel
theorem dX8_fewestLines_56 : decode cX8_fewestLines 56 = .ok (.goto (-36), 3) := by decide +kernel
theorem dX8_fewestLines_59 : decode cX8_fewestLines 59 = .ok (.iconst (-1), 1) := by decide +kernel
theorem dX8_fewestLines_60 : decode cX8_fewestLines 60 = .ok (.ireturn, 1) := by decide +kernel
theorem dX8_leastSet_0 : decode cX8_leastSet 0 = .ok (.iload 5, 2) := by decide +kernel
theorem dX8_leastSet_2 : decode cX8_leastSet 2 = .ok (.ifCond .ne 5, 3) := by decide +kernel
theorem dX8_leastSet_5 : decode cX8_leastSet 5 = .ok (.iload_n 3, 1) := by decide +kernel
theorem dX8_leastSet_6 : decode cX8_leastSet 6 = .ok (.ireturn, 1) := by decide +kernel
theorem dX8_leastSet_7 : decode cX8_leastSet 7 = .ok (.iload_n 2, 1) := by decide +kernel
theorem dX8_leastSet_8 : decode cX8_leastSet 8 = .ok (.ifCond .le 22, 3) := by decide +kernel
theorem dX8_leastSet_11 : decode cX8_leastSet 11 = .ok (.iload_n 1, 1) := by decide +kernel
theorem dX8_leastSet_12 : decode cX8_leastSet 12 = .ok (.iconst 1, 1) := by decide +kernel
theorem dX8_leastSet_13 : decode cX8_leastSet 13 = .ok (.iadd, 1) := by decide +kernel
theorem dX8_leastSet_14 : decode cX8_leastSet 14 = .ok (.iload_n 2, 1) := by decide +kernel
theorem dX8_leastSet_15 : decode cX8_leastSet 15 = .ok (.if_icmp .lt 15, 3) := by decide +kernel
theorem dX8_leastSet_18 : decode cX8_leastSet 18 = .ok (.iload 5, 2) := by decide +kernel
theorem dX8_leastSet_20 : decode cX8_leastSet 20 = .ok (.iload_n 2, 1) := by decide +kernel
theorem dX8_leastSet_21 : decode cX8_leastSet 21 = .ok (.aload_n 0, 1) := by decide +kernel
theorem dX8_leastSet_22 : decode cX8_leastSet 22 = .ok (.iload_n 1, 1) := by decide +kernel
theorem dX8_leastSet_23 : decode cX8_leastSet 23 = .ok (.invokevirtual 42, 3) := by decide +kernel
theorem dX8_leastSet_26 : decode cX8_leastSet 26 = .ok (.imul, 1) := by decide +kernel
theorem dX8_leastSet_27 : decode cX8_leastSet 27 = .ok (.if_icmp .le 5, 3) := by decide +kernel
theorem dX8_leastSet_30 : decode cX8_leastSet 30 = .ok (.iconst (-1), 1) := by decide +kernel
theorem dX8_leastSet_31 : decode cX8_leastSet 31 = .ok (.ireturn, 1) := by decide +kernel
theorem dX8_leastSet_32 : decode cX8_leastSet 32 = .ok (.iconst 1, 1) := by decide +kernel
theorem dX8_leastSet_33 : decode cX8_leastSet 33 = .ok (.iload_n 1, 1) := by decide +kernel
theorem dX8_leastSet_34 : decode cX8_leastSet 34 = .ok (.ishl, 1) := by decide +kernel
theorem dX8_leastSet_35 : decode cX8_leastSet 35 = .ok (.iconst 1, 1) := by decide +kernel
theorem dX8_leastSet_36 : decode cX8_leastSet 36 = .ok (.isub, 1) := by decide +kernel
theorem dX8_leastSet_37 : decode cX8_leastSet 37 = .ok (.istore 6, 2) := by decide +kernel
theorem dX8_leastSet_39 : decode cX8_leastSet 39 = .ok (.aload_n 0, 1) := by decide +kernel
theorem dX8_leastSet_40 : decode cX8_leastSet 40 = .ok (.iload_n 3, 1) := by decide +kernel
theorem dX8_leastSet_41 : decode cX8_leastSet 41 = .ok (.iload 6, 2) := by decide +kernel
theorem dX8_leastSet_43 : decode cX8_leastSet 43 = .ok (.ior, 1) := by decide +kernel
theorem dX8_leastSet_44 : decode cX8_leastSet 44 = .ok (.iload 4, 2) := by decide +kernel
theorem dX8_leastSet_46 : decode cX8_leastSet 46 = .ok (.invokevirtual 34, 3) := by decide +kernel
theorem dX8_leastSet_49 : decode cX8_leastSet 49 = .ok (.ifCond .ne 27, 3) := by decide +kernel
theorem dX8_leastSet_52 : decode cX8_leastSet 52 = .ok (.aload_n 0, 1) := by decide +kernel
theorem dX8_leastSet_53 : decode cX8_leastSet 53 = .ok (.iload_n 1, 1) := by decide +kernel
theorem dX8_leastSet_54 : decode cX8_leastSet 54 = .ok (.iconst 1, 1) := by decide +kernel
theorem dX8_leastSet_55 : decode cX8_leastSet 55 = .ok (.isub, 1) := by decide +kernel
theorem dX8_leastSet_56 : decode cX8_leastSet 56 = .ok (.iload_n 2, 1) := by decide +kernel
theorem dX8_leastSet_57 : decode cX8_leastSet 57 = .ok (.iload_n 3, 1) := by decide +kernel
theorem dX8_leastSet_58 : decode cX8_leastSet 58 = .ok (.iload 4, 2) := by decide +kernel
theorem dX8_leastSet_60 : decode cX8_leastSet 60 = .ok (.iload 5, 2) := by decide +kernel
theorem dX8_leastSet_62 : decode cX8_leastSet 62 = .ok (.invokevirtual 38, 3) := by decide +kernel
theorem dX8_leastSet_65 : decode cX8_leastSet 65 = .ok (.istore 7, 2) := by decide +kernel
theorem dX8_leastSet_67 : decode cX8_leastSet 67 = .ok (.iload 7, 2) := by decide +kernel
theorem dX8_leastSet_69 : decode cX8_leastSet 69 = .ok (.iconst (-1), 1) := by decide +kernel
theorem dX8_leastSet_70 : decode cX8_leastSet 70 = .ok (.if_icmp .eq 6, 3) := by decide +kernel
theorem dX8_leastSet_73 : decode cX8_leastSet 73 = .ok (.iload 7, 2) := by decide +kernel
theorem dX8_leastSet_75 : decode cX8_leastSet 75 = .ok (.ireturn, 1) := by decide +kernel
theorem dX8_leastSet_76 : decode cX8_leastSet 76 = .ok (.iload_n 3, 1) := by decide +kernel
theorem dX8_leastSet_77 : decode cX8_leastSet 77 = .ok (.iconst 1, 1) := by decide +kernel
theorem dX8_leastSet_78 : decode cX8_leastSet 78 = .ok (.iload_n 1, 1) := by decide +kernel
theorem dX8_leastSet_79 : decode cX8_leastSet 79 = .ok (.ishl, 1) := by decide +kernel
theorem dX8_leastSet_80 : decode cX8_leastSet 80 = .ok (.ior, 1) := by decide +kernel
theorem dX8_leastSet_81 : decode cX8_leastSet 81 = .ok (.istore 7, 2) := by decide +kernel
theorem dX8_leastSet_83 : decode cX8_leastSet 83 = .ok (.aload_n 0, 1) := by decide +kernel
theorem dX8_leastSet_84 : decode cX8_leastSet 84 = .ok (.iload_n 1, 1) := by decide +kernel
theorem dX8_leastSet_85 : decode cX8_leastSet 85 = .ok (.iconst 1, 1) := by decide +kernel
theorem dX8_leastSet_86 : decode cX8_leastSet 86 = .ok (.isub, 1) := by decide +kernel
theorem dX8_leastSet_87 : decode cX8_leastSet 87 = .ok (.iload_n 2, 1) := by decide +kernel
theorem dX8_leastSet_88 : decode cX8_leastSet 88 = .ok (.iconst 1, 1) := by decide +kernel
theorem dX8_leastSet_89 : decode cX8_leastSet 89 = .ok (.isub, 1) := by decide +kernel
theorem dX8_leastSet_90 : decode cX8_leastSet 90 = .ok (.iload 7, 2) := by decide +kernel
theorem dX8_leastSet_92 : decode cX8_leastSet 92 = .ok (.iload 4, 2) := by decide +kernel
theorem dX8_leastSet_94 : decode cX8_leastSet 94 = .ok (.aload_n 0, 1) := by decide +kernel
theorem dX8_leastSet_95 : decode cX8_leastSet 95 = .ok (.iload 7, 2) := by decide +kernel
theorem dX8_leastSet_97 : decode cX8_leastSet 97 = .ok (.iload 4, 2) := by decide +kernel
theorem dX8_leastSet_99 : decode cX8_leastSet 99 = .ok (.invokevirtual 34, 3) := by decide +kernel
theorem dX8_leastSet_102 : decode cX8_leastSet 102 = .ok (.invokevirtual 38, 3) := by decide +kernel
theorem dX8_leastSet_105 : decode cX8_leastSet 105 = .ok (.ireturn, 1) := by decide +kernel
theorem dX8_longest_0 : decode cX8_longest 0 = .ok (.iconst 0, 1) := by decide +kernel
theorem dX8_longest_1 : decode cX8_longest 1 = .ok (.istore_n 2, 1) := by decide +kernel
theorem dX8_longest_2 : decode cX8_longest 2 = .ok (.iconst 0, 1) := by decide +kernel
theorem dX8_longest_3 : decode cX8_longest 3 = .ok (.istore_n 3, 1) := by decide +kernel
theorem dX8_longest_4 : decode cX8_longest 4 = .ok (.iload_n 3, 1) := by decide +kernel
theorem dX8_longest_5 : decode cX8_longest 5 = .ok (.iload_n 1, 1) := by decide +kernel
theorem dX8_longest_6 : decode cX8_longest 6 = .ok (.if_icmp .gt 23, 3) := by decide +kernel
theorem dX8_longest_9 : decode cX8_longest 9 = .ok (.iload_n 2, 1) := by decide +kernel
theorem dX8_longest_10 : decode cX8_longest 10 = .ok (.aload_n 0, 1) := by decide +kernel
theorem dX8_longest_11 : decode cX8_longest 11 = .ok (.getfield 15, 3) := by decide +kernel
theorem dX8_longest_14 : decode cX8_longest 14 = .ok (.iload_n 3, 1) := by decide +kernel
theorem dX8_longest_15 : decode cX8_longest 15 = .ok (.iaload, 1) := by decide +kernel
theorem dX8_longest_16 : decode cX8_longest 16 = .ok (.invokestatic 46, 3) := by decide +kernel
theorem dX8_longest_19 : decode cX8_longest 19 = .ok (.invokestatic 51, 3) := by decide +kernel
theorem dX8_longest_22 : decode cX8_longest 22 = .ok (.istore_n 2, 1) := by decide +kernel
theorem dX8_longest_23 : decode cX8_longest 23 = .ok (.iinc 3 1, 3) := by decide +kernel
theorem dX8_longest_26 : decode cX8_longest 26 = .ok (.goto (-22), 3) := by decide +kernel
theorem dX8_longest_29 : decode cX8_longest 29 = .ok (.iload_n 2, 1) := by decide +kernel
theorem dX8_longest_30 : decode cX8_longest 30 = .ok (.ireturn, 1) := by decide +kernel
theorem dX8_lacking_0 : decode cX8_lacking 0 = .ok (.aload_n 0, 1) := by decide +kernel
theorem dX8_lacking_1 : decode cX8_lacking 1 = .ok (.getfield 18, 3) := by decide +kernel
theorem dX8_lacking_4 : decode cX8_lacking 4 = .ok (.iconst 0, 1) := by decide +kernel
theorem dX8_lacking_5 : decode cX8_lacking 5 = .ok (.invokestatic 56, 3) := by decide +kernel
theorem dX8_lacking_8 : decode cX8_lacking 8 = .ok (.iconst 0, 1) := by decide +kernel
theorem dX8_lacking_9 : decode cX8_lacking 9 = .ok (.istore_n 3, 1) := by decide +kernel
theorem dX8_lacking_10 : decode cX8_lacking 10 = .ok (.iload_n 3, 1) := by decide +kernel
theorem dX8_lacking_11 : decode cX8_lacking 11 = .ok (.aload_n 0, 1) := by decide +kernel
theorem dX8_lacking_12 : decode cX8_lacking 12 = .ok (.getfield 24, 3) := by decide +kernel
theorem dX8_lacking_15 : decode cX8_lacking 15 = .ok (.if_icmp .ge 37, 3) := by decide +kernel
theorem dX8_lacking_18 : decode cX8_lacking 18 = .ok (.iload_n 1, 1) := by decide +kernel
theorem dX8_lacking_19 : decode cX8_lacking 19 = .ok (.iload_n 3, 1) := by decide +kernel
theorem dX8_lacking_20 : decode cX8_lacking 20 = .ok (.ishr, 1) := by decide +kernel
theorem dX8_lacking_21 : decode cX8_lacking 21 = .ok (.iconst 1, 1) := by decide +kernel
theorem dX8_lacking_22 : decode cX8_lacking 22 = .ok (.iand, 1) := by decide +kernel
theorem dX8_lacking_23 : decode cX8_lacking 23 = .ok (.ifCond .eq 23, 3) := by decide +kernel
theorem dX8_lacking_26 : decode cX8_lacking 26 = .ok (.aload_n 0, 1) := by decide +kernel
theorem dX8_lacking_27 : decode cX8_lacking 27 = .ok (.getfield 18, 3) := by decide +kernel
theorem dX8_lacking_30 : decode cX8_lacking 30 = .ok (.aload_n 0, 1) := by decide +kernel
theorem dX8_lacking_31 : decode cX8_lacking 31 = .ok (.getfield 9, 3) := by decide +kernel
theorem dX8_lacking_34 : decode cX8_lacking 34 = .ok (.iload_n 3, 1) := by decide +kernel
theorem dX8_lacking_35 : decode cX8_lacking 35 = .ok (.iaload, 1) := by decide +kernel
theorem dX8_lacking_36 : decode cX8_lacking 36 = .ok (.dup2, 1) := by decide +kernel
theorem dX8_lacking_37 : decode cX8_lacking 37 = .ok (.iaload, 1) := by decide +kernel
theorem dX8_lacking_38 : decode cX8_lacking 38 = .ok (.aload_n 0, 1) := by decide +kernel
theorem dX8_lacking_39 : decode cX8_lacking 39 = .ok (.getfield 15, 3) := by decide +kernel
theorem dX8_lacking_42 : decode cX8_lacking 42 = .ok (.iload_n 3, 1) := by decide +kernel
theorem dX8_lacking_43 : decode cX8_lacking 43 = .ok (.iaload, 1) := by decide +kernel
theorem dX8_lacking_44 : decode cX8_lacking 44 = .ok (.ior, 1) := by decide +kernel
theorem dX8_lacking_45 : decode cX8_lacking 45 = .ok (.iastore, 1) := by decide +kernel
theorem dX8_lacking_46 : decode cX8_lacking 46 = .ok (.iinc 3 1, 3) := by decide +kernel
theorem dX8_lacking_49 : decode cX8_lacking 49 = .ok (.goto (-39), 3) := by decide +kernel
theorem dX8_lacking_52 : decode cX8_lacking 52 = .ok (.aload_n 0, 1) := by decide +kernel
theorem dX8_lacking_53 : decode cX8_lacking 53 = .ok (.getfield 21, 3) := by decide +kernel
theorem dX8_lacking_56 : decode cX8_lacking 56 = .ok (.iconst 0, 1) := by decide +kernel
theorem dX8_lacking_57 : decode cX8_lacking 57 = .ok (.invokestatic 56, 3) := by decide +kernel
theorem dX8_lacking_60 : decode cX8_lacking 60 = .ok (.iconst 0, 1) := by decide +kernel
theorem dX8_lacking_61 : decode cX8_lacking 61 = .ok (.istore_n 3, 1) := by decide +kernel
theorem dX8_lacking_62 : decode cX8_lacking 62 = .ok (.iload_n 3, 1) := by decide +kernel
theorem dX8_lacking_63 : decode cX8_lacking 63 = .ok (.bipush 10, 2) := by decide +kernel
theorem dX8_lacking_65 : decode cX8_lacking 65 = .ok (.if_icmp .ge 65, 3) := by decide +kernel
theorem dX8_lacking_68 : decode cX8_lacking 68 = .ok (.aload_n 0, 1) := by decide +kernel
theorem dX8_lacking_69 : decode cX8_lacking 69 = .ok (.getfield 18, 3) := by decide +kernel
theorem dX8_lacking_72 : decode cX8_lacking 72 = .ok (.iload_n 3, 1) := by decide +kernel
theorem dX8_lacking_73 : decode cX8_lacking 73 = .ok (.iaload, 1) := by decide +kernel
theorem dX8_lacking_74 : decode cX8_lacking 74 = .ok (.istore 4, 2) := by decide +kernel
theorem dX8_lacking_76 : decode cX8_lacking 76 = .ok (.iconst 0, 1) := by decide +kernel
theorem dX8_lacking_77 : decode cX8_lacking 77 = .ok (.istore 5, 2) := by decide +kernel
theorem dX8_lacking_79 : decode cX8_lacking 79 = .ok (.iload 5, 2) := by decide +kernel
theorem dX8_lacking_81 : decode cX8_lacking 81 = .ok (.iload_n 2, 1) := by decide +kernel
theorem dX8_lacking_82 : decode cX8_lacking 82 = .ok (.if_icmp .ge 42, 3) := by decide +kernel
theorem dX8_lacking_85 : decode cX8_lacking 85 = .ok (.iload 4, 2) := by decide +kernel
theorem dX8_lacking_87 : decode cX8_lacking 87 = .ok (.ifCond .eq 37, 3) := by decide +kernel
theorem dX8_lacking_90 : decode cX8_lacking 90 = .ok (.aload_n 0, 1) := by decide +kernel
theorem dX8_lacking_91 : decode cX8_lacking 91 = .ok (.getfield 21, 3) := by decide +kernel
theorem dX8_lacking_94 : decode cX8_lacking 94 = .ok (.iload 5, 2) := by decide +kernel
theorem dX8_lacking_96 : decode cX8_lacking 96 = .ok (.iaload, 1) := by decide +kernel
theorem dX8_lacking_97 : decode cX8_lacking 97 = .ok (.iload 4, 2) := by decide +kernel
theorem dX8_lacking_99 : decode cX8_lacking 99 = .ok (.iand, 1) := by decide +kernel
theorem dX8_lacking_100 : decode cX8_lacking 100 = .ok (.istore 6, 2) := by decide +kernel
theorem dX8_lacking_102 : decode cX8_lacking 102 = .ok (.aload_n 0, 1) := by decide +kernel
theorem dX8_lacking_103 : decode cX8_lacking 103 = .ok (.getfield 21, 3) := by decide +kernel
theorem dX8_lacking_106 : decode cX8_lacking 106 = .ok (.iload 5, 2) := by decide +kernel
theorem dX8_lacking_108 : decode cX8_lacking 108 = .ok (.dup2, 1) := by decide +kernel
theorem dX8_lacking_109 : decode cX8_lacking 109 = .ok (.iaload, 1) := by decide +kernel
theorem dX8_lacking_110 : decode cX8_lacking 110 = .ok (.iload 4, 2) := by decide +kernel
theorem dX8_lacking_112 : decode cX8_lacking 112 = .ok (.ior, 1) := by decide +kernel
theorem dX8_lacking_113 : decode cX8_lacking 113 = .ok (.iastore, 1) := by decide +kernel
theorem dX8_lacking_114 : decode cX8_lacking 114 = .ok (.iload 6, 2) := by decide +kernel
theorem dX8_lacking_116 : decode cX8_lacking 116 = .ok (.istore 4, 2) := by decide +kernel
theorem dX8_lacking_118 : decode cX8_lacking 118 = .ok (.iinc 5 1, 3) := by decide +kernel
theorem dX8_lacking_121 : decode cX8_lacking 121 = .ok (.goto (-42), 3) := by decide +kernel
theorem dX8_lacking_124 : decode cX8_lacking 124 = .ok (.iinc 3 1, 3) := by decide +kernel
theorem dX8_lacking_127 : decode cX8_lacking 127 = .ok (.goto (-65), 3) := by decide +kernel
theorem dX8_lacking_130 : decode cX8_lacking 130 = .ok (.bipush 24, 2) := by decide +kernel
theorem dX8_lacking_132 : decode cX8_lacking 132 = .ok (.iload_n 2, 1) := by decide +kernel
theorem dX8_lacking_133 : decode cX8_lacking 133 = .ok (.imul, 1) := by decide +kernel
theorem dX8_lacking_134 : decode cX8_lacking 134 = .ok (.istore_n 3, 1) := by decide +kernel
theorem dX8_lacking_135 : decode cX8_lacking 135 = .ok (.iconst 0, 1) := by decide +kernel
theorem dX8_lacking_136 : decode cX8_lacking 136 = .ok (.istore 4, 2) := by decide +kernel
theorem dX8_lacking_138 : decode cX8_lacking 138 = .ok (.iload 4, 2) := by decide +kernel
theorem dX8_lacking_140 : decode cX8_lacking 140 = .ok (.iload_n 2, 1) := by decide +kernel
theorem dX8_lacking_141 : decode cX8_lacking 141 = .ok (.if_icmp .ge 22, 3) := by decide +kernel
theorem dX8_lacking_144 : decode cX8_lacking 144 = .ok (.iload_n 3, 1) := by decide +kernel
theorem dX8_lacking_145 : decode cX8_lacking 145 = .ok (.aload_n 0, 1) := by decide +kernel
theorem dX8_lacking_146 : decode cX8_lacking 146 = .ok (.getfield 21, 3) := by decide +kernel
theorem dX8_lacking_149 : decode cX8_lacking 149 = .ok (.iload 4, 2) := by decide +kernel
theorem dX8_lacking_151 : decode cX8_lacking 151 = .ok (.iaload, 1) := by decide +kernel
theorem dX8_lacking_152 : decode cX8_lacking 152 = .ok (.invokestatic 46, 3) := by decide +kernel
theorem dX8_lacking_155 : decode cX8_lacking 155 = .ok (.isub, 1) := by decide +kernel
theorem dX8_lacking_156 : decode cX8_lacking 156 = .ok (.istore_n 3, 1) := by decide +kernel
theorem dX8_lacking_157 : decode cX8_lacking 157 = .ok (.iinc 4 1, 3) := by decide +kernel
theorem dX8_lacking_160 : decode cX8_lacking 160 = .ok (.goto (-22), 3) := by decide +kernel
theorem dX8_lacking_163 : decode cX8_lacking 163 = .ok (.iload_n 3, 1) := by decide +kernel
theorem dX8_lacking_164 : decode cX8_lacking 164 = .ok (.ireturn, 1) := by decide +kernel
theorem dX9_init_0 : decode cX9_init 0 = .ok (.aload_n 0, 1) := by decide +kernel
theorem dX9_init_1 : decode cX9_init 1 = .ok (.invokespecial 3, 3) := by decide +kernel
theorem dX9_init_4 : decode cX9_init 4 = .ok (.aload_n 0, 1) := by decide +kernel
theorem dX9_init_5 : decode cX9_init 5 = .ok (.bipush 64, 2) := by decide +kernel
theorem dX9_init_7 : decode cX9_init 7 = .ok (.newarray .int, 2) := by decide +kernel
theorem dX9_init_9 : decode cX9_init 9 = .ok (.putfield 9, 3) := by decide +kernel
theorem dX9_init_12 : decode cX9_init 12 = .ok (.aload_n 0, 1) := by decide +kernel
theorem dX9_init_13 : decode cX9_init 13 = .ok (.new 15, 3) := by decide +kernel
theorem dX9_init_16 : decode cX9_init 16 = .ok (.dup, 1) := by decide +kernel
theorem dX9_init_17 : decode cX9_init 17 = .ok (.invokespecial 17, 3) := by decide +kernel
theorem dX9_init_20 : decode cX9_init 20 = .ok (.putfield 18, 3) := by decide +kernel
theorem dX9_init_23 : decode cX9_init 23 = .ok (.aload_n 0, 1) := by decide +kernel
theorem dX9_init_24 : decode cX9_init 24 = .ok (.new 15, 3) := by decide +kernel
theorem dX9_init_27 : decode cX9_init 27 = .ok (.dup, 1) := by decide +kernel
theorem dX9_init_28 : decode cX9_init 28 = .ok (.invokespecial 17, 3) := by decide +kernel
theorem dX9_init_31 : decode cX9_init 31 = .ok (.putfield 22, 3) := by decide +kernel
theorem dX9_init_34 : decode cX9_init 34 = .ok (.aload_n 0, 1) := by decide +kernel
theorem dX9_init_35 : decode cX9_init 35 = .ok (.new 25, 3) := by decide +kernel
theorem dX9_init_38 : decode cX9_init 38 = .ok (.dup, 1) := by decide +kernel
theorem dX9_init_39 : decode cX9_init 39 = .ok (.invokespecial 27, 3) := by decide +kernel
theorem dX9_init_42 : decode cX9_init 42 = .ok (.putfield 28, 3) := by decide +kernel
theorem dX9_init_45 : decode cX9_init 45 = .ok (.aload_n 0, 1) := by decide +kernel
theorem dX9_init_46 : decode cX9_init 46 = .ok (.new 32, 3) := by decide +kernel
theorem dX9_init_49 : decode cX9_init 49 = .ok (.dup, 1) := by decide +kernel
theorem dX9_init_50 : decode cX9_init 50 = .ok (.invokespecial 34, 3) := by decide +kernel
theorem dX9_init_53 : decode cX9_init 53 = .ok (.putfield 35, 3) := by decide +kernel
theorem dX9_init_56 : decode cX9_init 56 = .ok (.return_, 1) := by decide +kernel
theorem dX9_become_0 : decode cX9_become 0 = .ok (.aload_n 0, 1) := by decide +kernel
theorem dX9_become_1 : decode cX9_become 1 = .ok (.aload_n 1, 1) := by decide +kernel
theorem dX9_become_2 : decode cX9_become 2 = .ok (.getfield 39, 3) := by decide +kernel
theorem dX9_become_5 : decode cX9_become 5 = .ok (.putfield 39, 3) := by decide +kernel
theorem dX9_become_8 : decode cX9_become 8 = .ok (.aload_n 0, 1) := by decide +kernel
theorem dX9_become_9 : decode cX9_become 9 = .ok (.aload_n 1, 1) := by decide +kernel
theorem dX9_become_10 : decode cX9_become 10 = .ok (.getfield 43, 3) := by decide +kernel
theorem dX9_become_13 : decode cX9_become 13 = .ok (.putfield 43, 3) := by decide +kernel
theorem dX9_become_16 : decode cX9_become 16 = .ok (.aload_n 0, 1) := by decide +kernel
theorem dX9_become_17 : decode cX9_become 17 = .ok (.aload_n 1, 1) := by decide +kernel
theorem dX9_become_18 : decode cX9_become 18 = .ok (.getfield 46, 3) := by decide +kernel
theorem dX9_become_21 : decode cX9_become 21 = .ok (.putfield 46, 3) := by decide +kernel
theorem dX9_become_24 : decode cX9_become 24 = .ok (.aload_n 1, 1) := by decide +kernel
theorem dX9_become_25 : decode cX9_become 25 = .ok (.getfield 9, 3) := by decide +kernel
theorem dX9_become_28 : decode cX9_become 28 = .ok (.iconst 0, 1) := by decide +kernel
theorem dX9_become_29 : decode cX9_become 29 = .ok (.aload_n 0, 1) := by decide +kernel
theorem dX9_become_30 : decode cX9_become 30 = .ok (.getfield 9, 3) := by decide +kernel
theorem dX9_become_33 : decode cX9_become 33 = .ok (.iconst 0, 1) := by decide +kernel
theorem dX9_become_34 : decode cX9_become 34 = .ok (.bipush 64, 2) := by decide +kernel
theorem dX9_become_36 : decode cX9_become 36 = .ok (.invokestatic 49, 3) := by decide +kernel
theorem dX9_become_39 : decode cX9_become 39 = .ok (.aload_n 0, 1) := by decide +kernel
theorem dX9_become_40 : decode cX9_become 40 = .ok (.getfield 18, 3) := by decide +kernel
theorem dX9_become_43 : decode cX9_become 43 = .ok (.aload_n 1, 1) := by decide +kernel
theorem dX9_become_44 : decode cX9_become 44 = .ok (.getfield 18, 3) := by decide +kernel
theorem dX9_become_47 : decode cX9_become 47 = .ok (.invokevirtual 55, 3) := by decide +kernel
theorem dX9_become_50 : decode cX9_become 50 = .ok (.pop, 1) := by decide +kernel
theorem dX9_become_51 : decode cX9_become 51 = .ok (.aload_n 0, 1) := by decide +kernel
theorem dX9_become_52 : decode cX9_become 52 = .ok (.getfield 22, 3) := by decide +kernel
theorem dX9_become_55 : decode cX9_become 55 = .ok (.aload_n 1, 1) := by decide +kernel
theorem dX9_become_56 : decode cX9_become 56 = .ok (.getfield 22, 3) := by decide +kernel
theorem dX9_become_59 : decode cX9_become 59 = .ok (.invokevirtual 55, 3) := by decide +kernel
theorem dX9_become_62 : decode cX9_become 62 = .ok (.pop, 1) := by decide +kernel
theorem dX9_become_63 : decode cX9_become 63 = .ok (.aload_n 0, 1) := by decide +kernel
theorem dX9_become_64 : decode cX9_become 64 = .ok (.getfield 28, 3) := by decide +kernel
theorem dX9_become_67 : decode cX9_become 67 = .ok (.aload_n 1, 1) := by decide +kernel
theorem dX9_become_68 : decode cX9_become 68 = .ok (.getfield 28, 3) := by decide +kernel
theorem dX9_become_71 : decode cX9_become 71 = .ok (.invokevirtual 59, 3) := by decide +kernel
theorem dX9_become_74 : decode cX9_become 74 = .ok (.pop, 1) := by decide +kernel
theorem dX9_become_75 : decode cX9_become 75 = .ok (.aload_n 0, 1) := by decide +kernel
theorem dX9_become_76 : decode cX9_become 76 = .ok (.getfield 35, 3) := by decide +kernel
theorem dX9_become_79 : decode cX9_become 79 = .ok (.aload_n 1, 1) := by decide +kernel
theorem dX9_become_80 : decode cX9_become 80 = .ok (.getfield 35, 3) := by decide +kernel
theorem dX9_become_83 : decode cX9_become 83 = .ok (.invokevirtual 62, 3) := by decide +kernel
theorem dX9_become_86 : decode cX9_become 86 = .ok (.pop, 1) := by decide +kernel
theorem dX9_become_87 : decode cX9_become 87 = .ok (.return_, 1) := by decide +kernel
theorem dX10_init_0 : decode cX10_init 0 = .ok (.aload_n 0, 1) := by decide +kernel
theorem dX10_init_1 : decode cX10_init 1 = .ok (.invokespecial 3, 3) := by decide +kernel
theorem dX10_init_4 : decode cX10_init 4 = .ok (.aload_n 0, 1) := by decide +kernel
theorem dX10_init_5 : decode cX10_init 5 = .ok (.bipush 10, 2) := by decide +kernel
theorem dX10_init_7 : decode cX10_init 7 = .ok (.newarray .int, 2) := by decide +kernel
theorem dX10_init_9 : decode cX10_init 9 = .ok (.putfield 9, 3) := by decide +kernel
theorem dX10_init_12 : decode cX10_init 12 = .ok (.aload_n 0, 1) := by decide +kernel
theorem dX10_init_13 : decode cX10_init 13 = .ok (.bipush 40, 2) := by decide +kernel
theorem dX10_init_15 : decode cX10_init 15 = .ok (.newarray .int, 2) := by decide +kernel
theorem dX10_init_17 : decode cX10_init 17 = .ok (.putfield 15, 3) := by decide +kernel
theorem dX10_init_20 : decode cX10_init 20 = .ok (.aload_n 0, 1) := by decide +kernel
theorem dX10_init_21 : decode cX10_init 21 = .ok (.bipush 40, 2) := by decide +kernel
theorem dX10_init_23 : decode cX10_init 23 = .ok (.newarray .int, 2) := by decide +kernel
theorem dX10_init_25 : decode cX10_init 25 = .ok (.putfield 18, 3) := by decide +kernel
theorem dX10_init_28 : decode cX10_init 28 = .ok (.aload_n 0, 1) := by decide +kernel
theorem dX10_init_29 : decode cX10_init 29 = .ok (.iconst 4, 1) := by decide +kernel
theorem dX10_init_30 : decode cX10_init 30 = .ok (.newarray .int, 2) := by decide +kernel
theorem dX10_init_32 : decode cX10_init 32 = .ok (.putfield 21, 3) := by decide +kernel
theorem dX10_init_35 : decode cX10_init 35 = .ok (.return_, 1) := by decide +kernel
theorem dX10_begin_0 : decode cX10_begin 0 = .ok (.aload_n 0, 1) := by decide +kernel
theorem dX10_begin_1 : decode cX10_begin 1 = .ok (.iload_n 1, 1) := by decide +kernel
theorem dX10_begin_2 : decode cX10_begin 2 = .ok (.putfield 24, 3) := by decide +kernel
theorem dX10_begin_5 : decode cX10_begin 5 = .ok (.return_, 1) := by decide +kernel
theorem dX10_price_0 : decode cX10_price 0 = .ok (.aload_n 0, 1) := by decide +kernel
theorem dX10_price_1 : decode cX10_price 1 = .ok (.getfield 15, 3) := by decide +kernel
theorem dX10_price_4 : decode cX10_price 4 = .ok (.iload_n 1, 1) := by decide +kernel
theorem dX10_price_5 : decode cX10_price 5 = .ok (.iconst 4, 1) := by decide +kernel
theorem dX10_price_6 : decode cX10_price 6 = .ok (.imul, 1) := by decide +kernel
theorem dX10_price_7 : decode cX10_price 7 = .ok (.iload_n 2, 1) := by decide +kernel
theorem dX10_price_8 : decode cX10_price 8 = .ok (.iadd, 1) := by decide +kernel
theorem dX10_price_9 : decode cX10_price 9 = .ok (.iload_n 3, 1) := by decide +kernel
theorem dX10_price_10 : decode cX10_price 10 = .ok (.iastore, 1) := by decide +kernel
theorem dX10_price_11 : decode cX10_price 11 = .ok (.iload_n 2, 1) := by decide +kernel
theorem dX10_price_12 : decode cX10_price 12 = .ok (.bipush 10, 2) := by decide +kernel
theorem dX10_price_14 : decode cX10_price 14 = .ok (.imul, 1) := by decide +kernel
theorem dX10_price_15 : decode cX10_price 15 = .ok (.istore 4, 2) := by decide +kernel
theorem dX10_price_17 : decode cX10_price 17 = .ok (.iload_n 1, 1) := by decide +kernel
theorem dX10_price_18 : decode cX10_price 18 = .ok (.istore 5, 2) := by decide +kernel
theorem dX10_price_20 : decode cX10_price 20 = .ok (.iload 5, 2) := by decide +kernel
theorem dX10_price_22 : decode cX10_price 22 = .ok (.ifCond .le 56, 3) := by decide +kernel
theorem dX10_price_25 : decode cX10_price 25 = .ok (.aload_n 0, 1) := by decide +kernel
theorem dX10_price_26 : decode cX10_price 26 = .ok (.getfield 15, 3) := by decide +kernel
theorem dX10_price_29 : decode cX10_price 29 = .ok (.aload_n 0, 1) := by decide +kernel
theorem dX10_price_30 : decode cX10_price 30 = .ok (.getfield 18, 3) := by decide +kernel
theorem dX10_price_33 : decode cX10_price 33 = .ok (.iload 4, 2) := by decide +kernel
theorem dX10_price_35 : decode cX10_price 35 = .ok (.iload 5, 2) := by decide +kernel
theorem dX10_price_37 : decode cX10_price 37 = .ok (.iadd, 1) := by decide +kernel
theorem dX10_price_38 : decode cX10_price 38 = .ok (.iconst 1, 1) := by decide +kernel
theorem dX10_price_39 : decode cX10_price 39 = .ok (.isub, 1) := by decide +kernel
theorem dX10_price_40 : decode cX10_price 40 = .ok (.iaload, 1) := by decide +kernel
theorem dX10_price_41 : decode cX10_price 41 = .ok (.iconst 4, 1) := by decide +kernel
theorem dX10_price_42 : decode cX10_price 42 = .ok (.imul, 1) := by decide +kernel
theorem dX10_price_43 : decode cX10_price 43 = .ok (.iload_n 2, 1) := by decide +kernel
theorem dX10_price_44 : decode cX10_price 44 = .ok (.iadd, 1) := by decide +kernel
theorem dX10_price_45 : decode cX10_price 45 = .ok (.iaload, 1) := by decide +kernel
theorem dX10_price_46 : decode cX10_price 46 = .ok (.iload_n 3, 1) := by decide +kernel
theorem dX10_price_47 : decode cX10_price 47 = .ok (.if_icmp .le 31, 3) := by decide +kernel
theorem dX10_price_50 : decode cX10_price 50 = .ok (.aload_n 0, 1) := by decide +kernel
theorem dX10_price_51 : decode cX10_price 51 = .ok (.getfield 18, 3) := by decide +kernel
theorem dX10_price_54 : decode cX10_price 54 = .ok (.iload 4, 2) := by decide +kernel
theorem dX10_price_56 : decode cX10_price 56 = .ok (.iload 5, 2) := by decide +kernel
theorem dX10_price_58 : decode cX10_price 58 = .ok (.iadd, 1) := by decide +kernel
theorem dX10_price_59 : decode cX10_price 59 = .ok (.aload_n 0, 1) := by decide +kernel
theorem dX10_price_60 : decode cX10_price 60 = .ok (.getfield 18, 3) := by decide +kernel
theorem dX10_price_63 : decode cX10_price 63 = .ok (.iload 4, 2) := by decide +kernel
theorem dX10_price_65 : decode cX10_price 65 = .ok (.iload 5, 2) := by decide +kernel
theorem dX10_price_67 : decode cX10_price 67 = .ok (.iadd, 1) := by decide +kernel
theorem dX10_price_68 : decode cX10_price 68 = .ok (.iconst 1, 1) := by decide +kernel
theorem dX10_price_69 : decode cX10_price 69 = .ok (.isub, 1) := by decide +kernel
theorem dX10_price_70 : decode cX10_price 70 = .ok (.iaload, 1) := by decide +kernel
theorem dX10_price_71 : decode cX10_price 71 = .ok (.iastore, 1) := by decide +kernel
theorem dX10_price_72 : decode cX10_price 72 = .ok (.iinc 5 (-1), 3) := by decide +kernel
theorem dX10_price_75 : decode cX10_price 75 = .ok (.goto (-55), 3) := by decide +kernel
theorem dX10_price_78 : decode cX10_price 78 = .ok (.aload_n 0, 1) := by decide +kernel
theorem dX10_price_79 : decode cX10_price 79 = .ok (.getfield 18, 3) := by decide +kernel
theorem dX10_price_82 : decode cX10_price 82 = .ok (.iload 4, 2) := by decide +kernel
theorem dX10_price_84 : decode cX10_price 84 = .ok (.iload 5, 2) := by decide +kernel
theorem dX10_price_86 : decode cX10_price 86 = .ok (.iadd, 1) := by decide +kernel
theorem dX10_price_87 : decode cX10_price 87 = .ok (.iload_n 1, 1) := by decide +kernel
theorem dX10_price_88 : decode cX10_price 88 = .ok (.iastore, 1) := by decide +kernel
theorem dX10_price_89 : decode cX10_price 89 = .ok (.return_, 1) := by decide +kernel
theorem dX10_isFound_0 : decode cX10_isFound 0 = .ok (.aload_n 0, 1) := by decide +kernel
theorem dX10_isFound_1 : decode cX10_isFound 1 = .ok (.getfield 21, 3) := by decide +kernel
theorem dX10_isFound_4 : decode cX10_isFound 4 = .ok (.iload_n 1, 1) := by decide +kernel
theorem dX10_isFound_5 : decode cX10_isFound 5 = .ok (.invokestatic 28, 3) := by decide +kernel
theorem dX10_isFound_8 : decode cX10_isFound 8 = .ok (.aload_n 0, 1) := by decide +kernel
theorem dX10_isFound_9 : decode cX10_isFound 9 = .ok (.aload_n 0, 1) := by decide +kernel
theorem dX10_isFound_10 : decode cX10_isFound 10 = .ok (.invokevirtual 34, 3) := by decide +kernel
theorem dX10_isFound_13 : decode cX10_isFound 13 = .ok (.putfield 38, 3) := by decide +kernel
theorem dX10_isFound_16 : decode cX10_isFound 16 = .ok (.aload_n 0, 1) := by decide +kernel
theorem dX10_isFound_17 : decode cX10_isFound 17 = .ok (.getfield 38, 3) := by decide +kernel
theorem dX10_isFound_20 : decode cX10_isFound 20 = .ok (.ldc 41, 2) := by decide +kernel
theorem dX10_isFound_22 : decode cX10_isFound 22 = .ok (.if_icmp .lt 5, 3) := by decide +kernel
theorem dX10_isFound_25 : decode cX10_isFound 25 = .ok (.iconst 0, 1) := by decide +kernel
theorem dX10_isFound_26 : decode cX10_isFound 26 = .ok (.ireturn, 1) := by decide +kernel
theorem dX10_isFound_27 : decode cX10_isFound 27 = .ok (.aload_n 0, 1) := by decide +kernel
theorem dX10_isFound_28 : decode cX10_isFound 28 = .ok (.getfield 38, 3) := by decide +kernel
theorem dX10_isFound_31 : decode cX10_isFound 31 = .ok (.istore_n 2, 1) := by decide +kernel
theorem dX10_isFound_32 : decode cX10_isFound 32 = .ok (.iconst 0, 1) := by decide +kernel
theorem dX10_isFound_33 : decode cX10_isFound 33 = .ok (.istore_n 3, 1) := by decide +kernel
theorem dX10_isFound_34 : decode cX10_isFound 34 = .ok (.iload_n 3, 1) := by decide +kernel
theorem dX10_isFound_35 : decode cX10_isFound 35 = .ok (.aload_n 0, 1) := by decide +kernel
theorem dX10_isFound_36 : decode cX10_isFound 36 = .ok (.getfield 24, 3) := by decide +kernel
theorem dX10_isFound_39 : decode cX10_isFound 39 = .ok (.if_icmp .ge 18, 3) := by decide +kernel
theorem dX10_isFound_42 : decode cX10_isFound 42 = .ok (.iload_n 2, 1) := by decide +kernel
theorem dX10_isFound_43 : decode cX10_isFound 43 = .ok (.aload_n 0, 1) := by decide +kernel
theorem dX10_isFound_44 : decode cX10_isFound 44 = .ok (.iload_n 3, 1) := by decide +kernel
theorem dX10_isFound_45 : decode cX10_isFound 45 = .ok (.iload_n 2, 1) := by decide +kernel
theorem dX10_isFound_46 : decode cX10_isFound 46 = .ok (.invokevirtual 42, 3) := by decide +kernel
theorem dX10_isFound_49 : decode cX10_isFound 49 = .ok (.isub, 1) := by decide +kernel
theorem dX10_isFound_50 : decode cX10_isFound 50 = .ok (.istore_n 2, 1) := by decide +kernel
theorem dX10_isFound_51 : decode cX10_isFound 51 = .ok (.iinc 3 1, 3) := by decide +kernel
theorem dX10_isFound_54 : decode cX10_isFound 54 = .ok (.goto (-20), 3) := by decide +kernel
theorem dX10_isFound_57 : decode cX10_isFound 57 = .ok (.iconst 1, 1) := by decide +kernel
theorem dX10_isFound_58 : decode cX10_isFound 58 = .ok (.ireturn, 1) := by decide +kernel
theorem dX10_leastSum_0 : decode cX10_leastSum 0 = .ok (.ldc 41, 2) := by decide +kernel
theorem dX10_leastSum_2 : decode cX10_leastSum 2 = .ok (.istore_n 1, 1) := by decide +kernel
theorem dX10_leastSum_3 : decode cX10_leastSum 3 = .ok (.iconst 0, 1) := by decide +kernel
theorem dX10_leastSum_4 : decode cX10_leastSum 4 = .ok (.istore_n 2, 1) := by decide +kernel
theorem dX10_leastSum_5 : decode cX10_leastSum 5 = .ok (.iload_n 2, 1) := by decide +kernel
theorem dX10_leastSum_6 : decode cX10_leastSum 6 = .ok (.iconst 1, 1) := by decide +kernel
theorem dX10_leastSum_7 : decode cX10_leastSum 7 = .ok (.aload_n 0, 1) := by decide +kernel
theorem dX10_leastSum_8 : decode cX10_leastSum 8 = .ok (.getfield 24, 3) := by decide +kernel
theorem dX10_leastSum_11 : decode cX10_leastSum 11 = .ok (.ishl, 1) := by decide +kernel
theorem dX10_leastSum_12 : decode cX10_leastSum 12 = .ok (.if_icmp .ge 21, 3) := by decide +kernel
theorem dX10_leastSum_15 : decode cX10_leastSum 15 = .ok (.iload_n 1, 1) := by decide +kernel
theorem dX10_leastSum_16 : decode cX10_leastSum 16 = .ok (.aload_n 0, 1) := by decide +kernel
theorem dX10_leastSum_17 : decode cX10_leastSum 17 = .ok (.iconst 0, 1) := by decide +kernel
theorem dX10_leastSum_18 : decode cX10_leastSum 18 = .ok (.iload_n 2, 1) := by decide +kernel
theorem dX10_leastSum_19 : decode cX10_leastSum 19 = .ok (.iload_n 1, 1) := by decide +kernel
theorem dX10_leastSum_20 : decode cX10_leastSum 20 = .ok (.invokevirtual 46, 3) := by decide +kernel
theorem dX10_leastSum_23 : decode cX10_leastSum 23 = .ok (.invokestatic 50, 3) := by decide +kernel
theorem dX10_leastSum_26 : decode cX10_leastSum 26 = .ok (.istore_n 1, 1) := by decide +kernel
theorem dX10_leastSum_27 : decode cX10_leastSum 27 = .ok (.iinc 2 1, 3) := by decide +kernel
theorem dX10_leastSum_30 : decode cX10_leastSum 30 = .ok (.goto (-25), 3) := by decide +kernel
theorem dX10_leastSum_33 : decode cX10_leastSum 33 = .ok (.iload_n 1, 1) := by decide +kernel
theorem dX10_leastSum_34 : decode cX10_leastSum 34 = .ok (.ireturn, 1) := by decide +kernel
theorem dX10_choose_0 : decode cX10_choose 0 = .ok (.iconst 0, 1) := by decide +kernel
theorem dX10_choose_1 : decode cX10_choose 1 = .ok (.istore_n 3, 1) := by decide +kernel
theorem dX10_choose_2 : decode cX10_choose 2 = .ok (.iload_n 3, 1) := by decide +kernel
theorem dX10_choose_3 : decode cX10_choose 3 = .ok (.getstatic 55, 3) := by decide +kernel
theorem dX10_choose_6 : decode cX10_choose 6 = .ok (.arraylength, 1) := by decide +kernel
theorem dX10_choose_7 : decode cX10_choose 7 = .ok (.if_icmp .ge 81, 3) := by decide +kernel
theorem dX10_choose_10 : decode cX10_choose 10 = .ok (.getstatic 55, 3) := by decide +kernel
theorem dX10_choose_13 : decode cX10_choose 13 = .ok (.iload_n 3, 1) := by decide +kernel
theorem dX10_choose_14 : decode cX10_choose 14 = .ok (.iaload, 1) := by decide +kernel
theorem dX10_choose_15 : decode cX10_choose 15 = .ok (.istore 4, 2) := by decide +kernel
theorem dX10_choose_17 : decode cX10_choose 17 = .ok (.aload_n 0, 1) := by decide +kernel
theorem dX10_choose_18 : decode cX10_choose 18 = .ok (.iload_n 1, 1) := by decide +kernel
theorem dX10_choose_19 : decode cX10_choose 19 = .ok (.iload 4, 2) := by decide +kernel
theorem dX10_choose_21 : decode cX10_choose 21 = .ok (.invokevirtual 58, 3) := by decide +kernel
theorem dX10_choose_24 : decode cX10_choose 24 = .ok (.istore 5, 2) := by decide +kernel
theorem dX10_choose_26 : decode cX10_choose 26 = .ok (.aload_n 0, 1) := by decide +kernel
theorem dX10_choose_27 : decode cX10_choose 27 = .ok (.iload 4, 2) := by decide +kernel
theorem dX10_choose_29 : decode cX10_choose 29 = .ok (.invokevirtual 61, 3) := by decide +kernel
theorem dX10_choose_32 : decode cX10_choose 32 = .ok (.ifCond .eq 50, 3) := by decide +kernel
theorem dX10_choose_35 : decode cX10_choose 35 = .ok (.iload 5, 2) := by decide +kernel
theorem dX10_choose_37 : decode cX10_choose 37 = .ok (.iload_n 2, 1) := by decide +kernel
theorem dX10_choose_38 : decode cX10_choose 38 = .ok (.if_icmp .le 6, 3) := by decide +kernel
theorem dX10_choose_41 : decode cX10_choose 41 = .ok (.goto 41, 3) := by decide +kernel
theorem dX10_choose_44 : decode cX10_choose 44 = .ok (.aload_n 0, 1) := by decide +kernel
theorem dX10_choose_45 : decode cX10_choose 45 = .ok (.iload 4, 2) := by decide +kernel
theorem dX10_choose_47 : decode cX10_choose 47 = .ok (.iconst (-1), 1) := by decide +kernel
theorem dX10_choose_48 : decode cX10_choose 48 = .ok (.invokevirtual 65, 3) := by decide +kernel
theorem dX10_choose_51 : decode cX10_choose 51 = .ok (.aload_n 0, 1) := by decide +kernel
theorem dX10_choose_52 : decode cX10_choose 52 = .ok (.iload_n 1, 1) := by decide +kernel
theorem dX10_choose_53 : decode cX10_choose 53 = .ok (.iconst 1, 1) := by decide +kernel
theorem dX10_choose_54 : decode cX10_choose 54 = .ok (.iadd, 1) := by decide +kernel
theorem dX10_choose_55 : decode cX10_choose 55 = .ok (.iload_n 2, 1) := by decide +kernel
theorem dX10_choose_56 : decode cX10_choose 56 = .ok (.iload 5, 2) := by decide +kernel
theorem dX10_choose_58 : decode cX10_choose 58 = .ok (.isub, 1) := by decide +kernel
theorem dX10_choose_59 : decode cX10_choose 59 = .ok (.invokevirtual 69, 3) := by decide +kernel
theorem dX10_choose_62 : decode cX10_choose 62 = .ok (.ifCond .eq 13, 3) := by decide +kernel
theorem dX10_choose_65 : decode cX10_choose 65 = .ok (.aload_n 0, 1) := by decide +kernel
theorem dX10_choose_66 : decode cX10_choose 66 = .ok (.getfield 9, 3) := by decide +kernel
theorem dX10_choose_69 : decode cX10_choose 69 = .ok (.iload_n 1, 1) := by decide +kernel
theorem dX10_choose_70 : decode cX10_choose 70 = .ok (.iload_n 3, 1) := by decide +kernel
theorem dX10_choose_71 : decode cX10_choose 71 = .ok (.iastore, 1) := by decide +kernel
theorem dX10_choose_72 : decode cX10_choose 72 = .ok (.iload 5, 2) := by decide +kernel
theorem dX10_choose_74 : decode cX10_choose 74 = .ok (.ireturn, 1) := by decide +kernel
theorem dX10_choose_75 : decode cX10_choose 75 = .ok (.aload_n 0, 1) := by decide +kernel
theorem dX10_choose_76 : decode cX10_choose 76 = .ok (.iload 4, 2) := by decide +kernel
theorem dX10_choose_78 : decode cX10_choose 78 = .ok (.iconst 1, 1) := by decide +kernel
theorem dX10_choose_79 : decode cX10_choose 79 = .ok (.invokevirtual 65, 3) := by decide +kernel
theorem dX10_choose_82 : decode cX10_choose 82 = .ok (.iinc 3 1, 3) := by decide +kernel
theorem dX10_choose_85 : decode cX10_choose 85 = .ok (.goto (-83), 3) := by decide +kernel
theorem dX10_choose_88 : decode cX10_choose 88 = .ok (.aload_n 0, 1) := by decide +kernel
theorem dX10_choose_89 : decode cX10_choose 89 = .ok (.getfield 9, 3) := by decide +kernel
theorem dX10_choose_92 : decode cX10_choose 92 = .ok (.iload_n 1, 1) := by decide +kernel
theorem dX10_choose_93 : decode cX10_choose 93 = .ok (.iconst 0, 1) := by decide +kernel
theorem dX10_choose_94 : decode cX10_choose 94 = .ok (.iastore, 1) := by decide +kernel
theorem dX10_choose_95 : decode cX10_choose 95 = .ok (.iconst 0, 1) := by decide +kernel
theorem dX10_choose_96 : decode cX10_choose 96 = .ok (.ireturn, 1) := by decide +kernel
theorem dX10_isNeeded_0 : decode cX10_isNeeded 0 = .ok (.iconst 0, 1) := by decide +kernel
theorem dX10_isNeeded_1 : decode cX10_isNeeded 1 = .ok (.istore_n 2, 1) := by decide +kernel
theorem dX10_isNeeded_2 : decode cX10_isNeeded 2 = .ok (.iload_n 2, 1) := by decide +kernel
theorem dX10_isNeeded_3 : decode cX10_isNeeded 3 = .ok (.iconst 4, 1) := by decide +kernel
theorem dX10_isNeeded_4 : decode cX10_isNeeded 4 = .ok (.if_icmp .ge 28, 3) := by decide +kernel
theorem dX10_isNeeded_7 : decode cX10_isNeeded 7 = .ok (.iload_n 1, 1) := by decide +kernel
theorem dX10_isNeeded_8 : decode cX10_isNeeded 8 = .ok (.iload_n 2, 1) := by decide +kernel
theorem dX10_isNeeded_9 : decode cX10_isNeeded 9 = .ok (.ishr, 1) := by decide +kernel
theorem dX10_isNeeded_10 : decode cX10_isNeeded 10 = .ok (.iconst 1, 1) := by decide +kernel
theorem dX10_isNeeded_11 : decode cX10_isNeeded 11 = .ok (.iand, 1) := by decide +kernel
theorem dX10_isNeeded_12 : decode cX10_isNeeded 12 = .ok (.ifCond .eq 14, 3) := by decide +kernel
theorem dX10_isNeeded_15 : decode cX10_isNeeded 15 = .ok (.aload_n 0, 1) := by decide +kernel
theorem dX10_isNeeded_16 : decode cX10_isNeeded 16 = .ok (.getfield 21, 3) := by decide +kernel
theorem dX10_isNeeded_19 : decode cX10_isNeeded 19 = .ok (.iload_n 2, 1) := by decide +kernel
theorem dX10_isNeeded_20 : decode cX10_isNeeded 20 = .ok (.iaload, 1) := by decide +kernel
theorem dX10_isNeeded_21 : decode cX10_isNeeded 21 = .ok (.ifCond .gt 5, 3) := by decide +kernel
theorem dX10_isNeeded_24 : decode cX10_isNeeded 24 = .ok (.iconst 0, 1) := by decide +kernel
theorem dX10_isNeeded_25 : decode cX10_isNeeded 25 = .ok (.ireturn, 1) := by decide +kernel
theorem dX10_isNeeded_26 : decode cX10_isNeeded 26 = .ok (.iinc 2 1, 3) := by decide +kernel
theorem dX10_isNeeded_29 : decode cX10_isNeeded 29 = .ok (.goto (-27), 3) := by decide +kernel
theorem dX10_isNeeded_32 : decode cX10_isNeeded 32 = .ok (.iconst 1, 1) := by decide +kernel
theorem dX10_isNeeded_33 : decode cX10_isNeeded 33 = .ok (.ireturn, 1) := by decide +kernel
theorem dX10_priceOf_0 : decode cX10_priceOf 0 = .ok (.iconst 0, 1) := by decide +kernel
theorem dX10_priceOf_1 : decode cX10_priceOf 1 = .ok (.istore_n 3, 1) := by decide +kernel
theorem dX10_priceOf_2 : decode cX10_priceOf 2 = .ok (.iconst 0, 1) := by decide +kernel
theorem dX10_priceOf_3 : decode cX10_priceOf 3 = .ok (.istore 4, 2) := by decide +kernel
theorem dX10_priceOf_5 : decode cX10_priceOf 5 = .ok (.iload 4, 2) := by decide +kernel
theorem dX10_priceOf_7 : decode cX10_priceOf 7 = .ok (.iconst 4, 1) := by decide +kernel
theorem dX10_priceOf_8 : decode cX10_priceOf 8 = .ok (.if_icmp .ge 32, 3) := by decide +kernel
theorem dX10_priceOf_11 : decode cX10_priceOf 11 = .ok (.iload_n 2, 1) := by decide +kernel
theorem dX10_priceOf_12 : decode cX10_priceOf 12 = .ok (.iload 4, 2) := by decide +kernel
theorem dX10_priceOf_14 : decode cX10_priceOf 14 = .ok (.ishr, 1) := by decide +kernel
theorem dX10_priceOf_15 : decode cX10_priceOf 15 = .ok (.iconst 1, 1) := by decide +kernel
theorem dX10_priceOf_16 : decode cX10_priceOf 16 = .ok (.iand, 1) := by decide +kernel
theorem dX10_priceOf_17 : decode cX10_priceOf 17 = .ok (.ifCond .eq 17, 3) := by decide +kernel
theorem dX10_priceOf_20 : decode cX10_priceOf 20 = .ok (.iload_n 3, 1) := by decide +kernel
theorem dX10_priceOf_21 : decode cX10_priceOf 21 = .ok (.aload_n 0, 1) := by decide +kernel
theorem dX10_priceOf_22 : decode cX10_priceOf 22 = .ok (.getfield 15, 3) := by decide +kernel
theorem dX10_priceOf_25 : decode cX10_priceOf 25 = .ok (.iload_n 1, 1) := by decide +kernel
theorem dX10_priceOf_26 : decode cX10_priceOf 26 = .ok (.iconst 4, 1) := by decide +kernel
theorem dX10_priceOf_27 : decode cX10_priceOf 27 = .ok (.imul, 1) := by decide +kernel
theorem dX10_priceOf_28 : decode cX10_priceOf 28 = .ok (.iload 4, 2) := by decide +kernel
theorem dX10_priceOf_30 : decode cX10_priceOf 30 = .ok (.iadd, 1) := by decide +kernel
theorem dX10_priceOf_31 : decode cX10_priceOf 31 = .ok (.iaload, 1) := by decide +kernel
theorem dX10_priceOf_32 : decode cX10_priceOf 32 = .ok (.iadd, 1) := by decide +kernel
theorem dX10_priceOf_33 : decode cX10_priceOf 33 = .ok (.istore_n 3, 1) := by decide +kernel
theorem dX10_priceOf_34 : decode cX10_priceOf 34 = .ok (.iinc 4 1, 3) := by decide +kernel
theorem dX10_priceOf_37 : decode cX10_priceOf 37 = .ok (.goto (-32), 3) := by decide +kernel
theorem dX10_priceOf_40 : decode cX10_priceOf 40 = .ok (.iload_n 3, 1) := by decide +kernel
theorem dX10_priceOf_41 : decode cX10_priceOf 41 = .ok (.ireturn, 1) := by decide +kernel
theorem dX10_addNeed_0 : decode cX10_addNeed 0 = .ok (.iconst 0, 1) := by decide +kernel
theorem dX10_addNeed_1 : decode cX10_addNeed 1 = .ok (.istore_n 3, 1) := by decide +kernel
theorem dX10_addNeed_2 : decode cX10_addNeed 2 = .ok (.iload_n 3, 1) := by decide +kernel
theorem dX10_addNeed_3 : decode cX10_addNeed 3 = .ok (.iconst 4, 1) := by decide +kernel
theorem dX10_addNeed_4 : decode cX10_addNeed 4 = .ok (.if_icmp .ge 27, 3) := by decide +kernel
theorem dX10_addNeed_7 : decode cX10_addNeed 7 = .ok (.iload_n 1, 1) := by decide +kernel
theorem dX10_addNeed_8 : decode cX10_addNeed 8 = .ok (.iload_n 3, 1) := by decide +kernel
theorem dX10_addNeed_9 : decode cX10_addNeed 9 = .ok (.ishr, 1) := by decide +kernel
theorem dX10_addNeed_10 : decode cX10_addNeed 10 = .ok (.iconst 1, 1) := by decide +kernel
theorem dX10_addNeed_11 : decode cX10_addNeed 11 = .ok (.iand, 1) := by decide +kernel
theorem dX10_addNeed_12 : decode cX10_addNeed 12 = .ok (.ifCond .eq 13, 3) := by decide +kernel
theorem dX10_addNeed_15 : decode cX10_addNeed 15 = .ok (.aload_n 0, 1) := by decide +kernel
theorem dX10_addNeed_16 : decode cX10_addNeed 16 = .ok (.getfield 21, 3) := by decide +kernel
theorem dX10_addNeed_19 : decode cX10_addNeed 19 = .ok (.iload_n 3, 1) := by decide +kernel
theorem dX10_addNeed_20 : decode cX10_addNeed 20 = .ok (.dup2, 1) := by decide +kernel
theorem dX10_addNeed_21 : decode cX10_addNeed 21 = .ok (.iaload, 1) := by decide +kernel
theorem dX10_addNeed_22 : decode cX10_addNeed 22 = .ok (.iload_n 2, 1) := by decide +kernel
theorem dX10_addNeed_23 : decode cX10_addNeed 23 = .ok (.iadd, 1) := by decide +kernel
theorem dX10_addNeed_24 : decode cX10_addNeed 24 = .ok (.iastore, 1) := by decide +kernel
theorem dX10_addNeed_25 : decode cX10_addNeed 25 = .ok (.iinc 3 1, 3) := by decide +kernel
theorem dX10_addNeed_28 : decode cX10_addNeed 28 = .ok (.goto (-26), 3) := by decide +kernel
theorem dX10_addNeed_31 : decode cX10_addNeed 31 = .ok (.return_, 1) := by decide +kernel
theorem dX10_isReached_0 : decode cX10_isReached 0 = .ok (.iconst 0, 1) := by decide +kernel
theorem dX10_isReached_1 : decode cX10_isReached 1 = .ok (.istore_n 3, 1) := by decide +kernel
theorem dX10_isReached_2 : decode cX10_isReached 2 = .ok (.iload_n 3, 1) := by decide +kernel
theorem dX10_isReached_3 : decode cX10_isReached 3 = .ok (.iconst 1, 1) := by decide +kernel
theorem dX10_isReached_4 : decode cX10_isReached 4 = .ok (.aload_n 0, 1) := by decide +kernel
theorem dX10_isReached_5 : decode cX10_isReached 5 = .ok (.getfield 24, 3) := by decide +kernel
theorem dX10_isReached_8 : decode cX10_isReached 8 = .ok (.iload_n 1, 1) := by decide +kernel
theorem dX10_isReached_9 : decode cX10_isReached 9 = .ok (.isub, 1) := by decide +kernel
theorem dX10_isReached_10 : decode cX10_isReached 10 = .ok (.ishl, 1) := by decide +kernel
theorem dX10_isReached_11 : decode cX10_isReached 11 = .ok (.if_icmp .ge 26, 3) := by decide +kernel
theorem dX10_isReached_14 : decode cX10_isReached 14 = .ok (.aload_n 0, 1) := by decide +kernel
theorem dX10_isReached_15 : decode cX10_isReached 15 = .ok (.iload_n 1, 1) := by decide +kernel
theorem dX10_isReached_16 : decode cX10_isReached 16 = .ok (.iload_n 3, 1) := by decide +kernel
theorem dX10_isReached_17 : decode cX10_isReached 17 = .ok (.iload_n 1, 1) := by decide +kernel
theorem dX10_isReached_18 : decode cX10_isReached 18 = .ok (.ishl, 1) := by decide +kernel
theorem dX10_isReached_19 : decode cX10_isReached 19 = .ok (.iload_n 2, 1) := by decide +kernel
theorem dX10_isReached_20 : decode cX10_isReached 20 = .ok (.iconst 1, 1) := by decide +kernel
theorem dX10_isReached_21 : decode cX10_isReached 21 = .ok (.iadd, 1) := by decide +kernel
theorem dX10_isReached_22 : decode cX10_isReached 22 = .ok (.invokevirtual 46, 3) := by decide +kernel
theorem dX10_isReached_25 : decode cX10_isReached 25 = .ok (.iload_n 2, 1) := by decide +kernel
theorem dX10_isReached_26 : decode cX10_isReached 26 = .ok (.if_icmp .gt 5, 3) := by decide +kernel
theorem dX10_isReached_29 : decode cX10_isReached 29 = .ok (.iconst 1, 1) := by decide +kernel
theorem dX10_isReached_30 : decode cX10_isReached 30 = .ok (.ireturn, 1) := by decide +kernel
theorem dX10_isReached_31 : decode cX10_isReached 31 = .ok (.iinc 3 1, 3) := by decide +kernel
theorem dX10_isReached_34 : decode cX10_isReached 34 = .ok (.goto (-32), 3) := by decide +kernel
theorem dX10_isReached_37 : decode cX10_isReached 37 = .ok (.iconst 0, 1) := by decide +kernel
theorem dX10_isReached_38 : decode cX10_isReached 38 = .ok (.ireturn, 1) := by decide +kernel
theorem dX10_sumWith_0 : decode cX10_sumWith 0 = .ok (.iconst 0, 1) := by decide +kernel
theorem dX10_sumWith_1 : decode cX10_sumWith 1 = .ok (.istore 4, 2) := by decide +kernel
theorem dX10_sumWith_3 : decode cX10_sumWith 3 = .ok (.iconst 0, 1) := by decide +kernel
theorem dX10_sumWith_4 : decode cX10_sumWith 4 = .ok (.istore 5, 2) := by decide +kernel
theorem dX10_sumWith_6 : decode cX10_sumWith 6 = .ok (.iload 5, 2) := by decide +kernel
theorem dX10_sumWith_8 : decode cX10_sumWith 8 = .ok (.iconst 4, 1) := by decide +kernel
theorem dX10_sumWith_9 : decode cX10_sumWith 9 = .ok (.if_icmp .ge 121, 3) := by decide +kernel
theorem dX10_sumWith_12 : decode cX10_sumWith 12 = .ok (.iload 5, 2) := by decide +kernel
theorem dX10_sumWith_14 : decode cX10_sumWith 14 = .ok (.iconst 1, 1) := by decide +kernel
theorem dX10_sumWith_15 : decode cX10_sumWith 15 = .ok (.iand, 1) := by decide +kernel
theorem dX10_sumWith_16 : decode cX10_sumWith 16 = .ok (.ifCond .ne 7, 3) := by decide +kernel
theorem dX10_sumWith_19 : decode cX10_sumWith 19 = .ok (.iload_n 2, 1) := by decide +kernel
theorem dX10_sumWith_20 : decode cX10_sumWith 20 = .ok (.goto 6, 3) := by decide +kernel
theorem dX10_sumWith_23 : decode cX10_sumWith 23 = .ok (.iload_n 2, 1) := by decide +kernel
theorem dX10_sumWith_24 : decode cX10_sumWith 24 = .ok (.iconst (-1), 1) := by decide +kernel
theorem dX10_sumWith_25 : decode cX10_sumWith 25 = .ok (.ixor, 1) := by decide +kernel
theorem dX10_sumWith_26 : decode cX10_sumWith 26 = .ok (.istore 6, 2) := by decide +kernel
theorem dX10_sumWith_28 : decode cX10_sumWith 28 = .ok (.aload_n 0, 1) := by decide +kernel
theorem dX10_sumWith_29 : decode cX10_sumWith 29 = .ok (.getfield 21, 3) := by decide +kernel
theorem dX10_sumWith_32 : decode cX10_sumWith 32 = .ok (.iload 5, 2) := by decide +kernel
theorem dX10_sumWith_34 : decode cX10_sumWith 34 = .ok (.iaload, 1) := by decide +kernel
theorem dX10_sumWith_35 : decode cX10_sumWith 35 = .ok (.istore 7, 2) := by decide +kernel
theorem dX10_sumWith_37 : decode cX10_sumWith 37 = .ok (.iconst 0, 1) := by decide +kernel
theorem dX10_sumWith_38 : decode cX10_sumWith 38 = .ok (.istore 8, 2) := by decide +kernel
theorem dX10_sumWith_40 : decode cX10_sumWith 40 = .ok (.iload 8, 2) := by decide +kernel
theorem dX10_sumWith_42 : decode cX10_sumWith 42 = .ok (.aload_n 0, 1) := by decide +kernel
theorem dX10_sumWith_43 : decode cX10_sumWith 43 = .ok (.getfield 24, 3) := by decide +kernel
theorem dX10_sumWith_46 : decode cX10_sumWith 46 = .ok (.if_icmp .ge 65, 3) := by decide +kernel
theorem dX10_sumWith_49 : decode cX10_sumWith 49 = .ok (.iload 7, 2) := by decide +kernel
theorem dX10_sumWith_51 : decode cX10_sumWith 51 = .ok (.ifCond .le 60, 3) := by decide +kernel
theorem dX10_sumWith_54 : decode cX10_sumWith 54 = .ok (.aload_n 0, 1) := by decide +kernel
theorem dX10_sumWith_55 : decode cX10_sumWith 55 = .ok (.getfield 18, 3) := by decide +kernel
theorem dX10_sumWith_58 : decode cX10_sumWith 58 = .ok (.iload 5, 2) := by decide +kernel
theorem dX10_sumWith_60 : decode cX10_sumWith 60 = .ok (.bipush 10, 2) := by decide +kernel
theorem dX10_sumWith_62 : decode cX10_sumWith 62 = .ok (.imul, 1) := by decide +kernel
theorem dX10_sumWith_63 : decode cX10_sumWith 63 = .ok (.iload 8, 2) := by decide +kernel
theorem dX10_sumWith_65 : decode cX10_sumWith 65 = .ok (.iadd, 1) := by decide +kernel
theorem dX10_sumWith_66 : decode cX10_sumWith 66 = .ok (.iaload, 1) := by decide +kernel
theorem dX10_sumWith_67 : decode cX10_sumWith 67 = .ok (.istore 9, 2) := by decide +kernel
theorem dX10_sumWith_69 : decode cX10_sumWith 69 = .ok (.iload 9, 2) := by decide +kernel
theorem dX10_sumWith_71 : decode cX10_sumWith 71 = .ok (.iload_n 1, 1) := by decide +kernel
theorem dX10_sumWith_72 : decode cX10_sumWith 72 = .ok (.if_icmp .lt 33, 3) := by decide +kernel
theorem dX10_sumWith_75 : decode cX10_sumWith 75 = .ok (.iload 6, 2) := by decide +kernel
theorem dX10_sumWith_77 : decode cX10_sumWith 77 = .ok (.iload 9, 2) := by decide +kernel
theorem dX10_sumWith_79 : decode cX10_sumWith 79 = .ok (.ishr, 1) := by decide +kernel
theorem dX10_sumWith_80 : decode cX10_sumWith 80 = .ok (.iconst 1, 1) := by decide +kernel
theorem dX10_sumWith_81 : decode cX10_sumWith 81 = .ok (.iand, 1) := by decide +kernel
theorem dX10_sumWith_82 : decode cX10_sumWith 82 = .ok (.ifCond .eq 23, 3) := by decide +kernel
theorem dX10_sumWith_85 : decode cX10_sumWith 85 = .ok (.iload 4, 2) := by decide +kernel
theorem dX10_sumWith_87 : decode cX10_sumWith 87 = .ok (.aload_n 0, 1) := by decide +kernel
theorem dX10_sumWith_88 : decode cX10_sumWith 88 = .ok (.getfield 15, 3) := by decide +kernel
theorem dX10_sumWith_91 : decode cX10_sumWith 91 = .ok (.iload 9, 2) := by decide +kernel
theorem dX10_sumWith_93 : decode cX10_sumWith 93 = .ok (.iconst 4, 1) := by decide +kernel
theorem dX10_sumWith_94 : decode cX10_sumWith 94 = .ok (.imul, 1) := by decide +kernel
theorem dX10_sumWith_95 : decode cX10_sumWith 95 = .ok (.iload 5, 2) := by decide +kernel
theorem dX10_sumWith_97 : decode cX10_sumWith 97 = .ok (.iadd, 1) := by decide +kernel
theorem dX10_sumWith_98 : decode cX10_sumWith 98 = .ok (.iaload, 1) := by decide +kernel
theorem dX10_sumWith_99 : decode cX10_sumWith 99 = .ok (.iadd, 1) := by decide +kernel
theorem dX10_sumWith_100 : decode cX10_sumWith 100 = .ok (.istore 4, 2) := by decide +kernel
theorem dX10_sumWith_102 : decode cX10_sumWith 102 = .ok (.iinc 7 (-1), 3) := by decide +kernel
theorem dX10_sumWith_105 : decode cX10_sumWith 105 = .ok (.iinc 8 1, 3) := by decide +kernel
theorem dX10_sumWith_108 : decode cX10_sumWith 108 = .ok (.goto (-68), 3) := by decide +kernel
theorem dX10_sumWith_111 : decode cX10_sumWith 111 = .ok (.iload 7, 2) := by decide +kernel
theorem dX10_sumWith_113 : decode cX10_sumWith 113 = .ok (.ifCond .gt 9, 3) := by decide +kernel
theorem dX10_sumWith_116 : decode cX10_sumWith 116 = .ok (.iload 4, 2) := by decide +kernel
theorem dX10_sumWith_118 : decode cX10_sumWith 118 = .ok (.iload_n 3, 1) := by decide +kernel
theorem dX10_sumWith_119 : decode cX10_sumWith 119 = .ok (.if_icmp .lt 5, 3) := by decide +kernel
theorem dX10_sumWith_122 : decode cX10_sumWith 122 = .ok (.iload_n 3, 1) := by decide +kernel
theorem dX10_sumWith_123 : decode cX10_sumWith 123 = .ok (.ireturn, 1) := by decide +kernel
theorem dX10_sumWith_124 : decode cX10_sumWith 124 = .ok (.iinc 5 1, 3) := by decide +kernel
theorem dX10_sumWith_127 : decode cX10_sumWith 127 = .ok (.goto (-121), 3) := by decide +kernel
theorem dX10_sumWith_130 : decode cX10_sumWith 130 = .ok (.iload 4, 2) := by decide +kernel
theorem dX10_sumWith_132 : decode cX10_sumWith 132 = .ok (.ireturn, 1) := by decide +kernel
theorem dX11_init_0 : decode cX11_init 0 = .ok (.aload_n 0, 1) := by decide +kernel
theorem dX11_init_1 : decode cX11_init 1 = .ok (.invokespecial 3, 3) := by decide +kernel
theorem dX11_init_4 : decode cX11_init 4 = .ok (.aload_n 0, 1) := by decide +kernel
theorem dX11_init_5 : decode cX11_init 5 = .ok (.new 9, 3) := by decide +kernel
theorem dX11_init_8 : decode cX11_init 8 = .ok (.dup, 1) := by decide +kernel
theorem dX11_init_9 : decode cX11_init 9 = .ok (.invokespecial 11, 3) := by decide +kernel
theorem dX11_init_12 : decode cX11_init 12 = .ok (.putfield 12, 3) := by decide +kernel
theorem dX11_init_15 : decode cX11_init 15 = .ok (.aload_n 0, 1) := by decide +kernel
theorem dX11_init_16 : decode cX11_init 16 = .ok (.new 16, 3) := by decide +kernel
theorem dX11_init_19 : decode cX11_init 19 = .ok (.dup, 1) := by decide +kernel
theorem dX11_init_20 : decode cX11_init 20 = .ok (.invokespecial 18, 3) := by decide +kernel
theorem dX11_init_23 : decode cX11_init 23 = .ok (.putfield 19, 3) := by decide +kernel
theorem dX11_init_26 : decode cX11_init 26 = .ok (.aload_n 0, 1) := by decide +kernel
theorem dX11_init_27 : decode cX11_init 27 = .ok (.new 23, 3) := by decide +kernel
theorem dX11_init_30 : decode cX11_init 30 = .ok (.dup, 1) := by decide +kernel
theorem dX11_init_31 : decode cX11_init 31 = .ok (.invokespecial 25, 3) := by decide +kernel
theorem dX11_init_34 : decode cX11_init 34 = .ok (.putfield 26, 3) := by decide +kernel
theorem dX11_init_37 : decode cX11_init 37 = .ok (.aload_n 0, 1) := by decide +kernel
theorem dX11_init_38 : decode cX11_init 38 = .ok (.new 30, 3) := by decide +kernel
theorem dX11_init_41 : decode cX11_init 41 = .ok (.dup, 1) := by decide +kernel
theorem dX11_init_42 : decode cX11_init 42 = .ok (.invokespecial 32, 3) := by decide +kernel
theorem dX11_init_45 : decode cX11_init 45 = .ok (.putfield 33, 3) := by decide +kernel
theorem dX11_init_48 : decode cX11_init 48 = .ok (.aload_n 0, 1) := by decide +kernel
theorem dX11_init_49 : decode cX11_init 49 = .ok (.new 9, 3) := by decide +kernel
theorem dX11_init_52 : decode cX11_init 52 = .ok (.dup, 1) := by decide +kernel
theorem dX11_init_53 : decode cX11_init 53 = .ok (.invokespecial 11, 3) := by decide +kernel
theorem dX11_init_56 : decode cX11_init 56 = .ok (.putfield 37, 3) := by decide +kernel
theorem dX11_init_59 : decode cX11_init 59 = .ok (.aload_n 0, 1) := by decide +kernel
theorem dX11_init_60 : decode cX11_init 60 = .ok (.new 16, 3) := by decide +kernel
theorem dX11_init_63 : decode cX11_init 63 = .ok (.dup, 1) := by decide +kernel
theorem dX11_init_64 : decode cX11_init 64 = .ok (.invokespecial 18, 3) := by decide +kernel
theorem dX11_init_67 : decode cX11_init 67 = .ok (.putfield 40, 3) := by decide +kernel
theorem dX11_init_70 : decode cX11_init 70 = .ok (.aload_n 0, 1) := by decide +kernel
theorem dX11_init_71 : decode cX11_init 71 = .ok (.new 23, 3) := by decide +kernel
theorem dX11_init_74 : decode cX11_init 74 = .ok (.dup, 1) := by decide +kernel
theorem dX11_init_75 : decode cX11_init 75 = .ok (.invokespecial 25, 3) := by decide +kernel
theorem dX11_init_78 : decode cX11_init 78 = .ok (.putfield 43, 3) := by decide +kernel
theorem dX11_init_81 : decode cX11_init 81 = .ok (.aload_n 0, 1) := by decide +kernel
theorem dX11_init_82 : decode cX11_init 82 = .ok (.sipush 400, 3) := by decide +kernel
theorem dX11_init_85 : decode cX11_init 85 = .ok (.newarray .int, 2) := by decide +kernel
theorem dX11_init_87 : decode cX11_init 87 = .ok (.putfield 46, 3) := by decide +kernel
theorem dX11_init_90 : decode cX11_init 90 = .ok (.aload_n 0, 1) := by decide +kernel
theorem dX11_init_91 : decode cX11_init 91 = .ok (.new 50, 3) := by decide +kernel
theorem dX11_init_94 : decode cX11_init 94 = .ok (.dup, 1) := by decide +kernel
theorem dX11_init_95 : decode cX11_init 95 = .ok (.invokespecial 52, 3) := by decide +kernel
theorem dX11_init_98 : decode cX11_init 98 = .ok (.putfield 53, 3) := by decide +kernel
theorem dX11_init_101 : decode cX11_init 101 = .ok (.aload_n 0, 1) := by decide +kernel
theorem dX11_init_102 : decode cX11_init 102 = .ok (.new 57, 3) := by decide +kernel
theorem dX11_init_105 : decode cX11_init 105 = .ok (.dup, 1) := by decide +kernel
theorem dX11_init_106 : decode cX11_init 106 = .ok (.invokespecial 59, 3) := by decide +kernel
theorem dX11_init_109 : decode cX11_init 109 = .ok (.putfield 60, 3) := by decide +kernel
theorem dX11_init_112 : decode cX11_init 112 = .ok (.aload_n 0, 1) := by decide +kernel
theorem dX11_init_113 : decode cX11_init 113 = .ok (.new 9, 3) := by decide +kernel
theorem dX11_init_116 : decode cX11_init 116 = .ok (.dup, 1) := by decide +kernel
theorem dX11_init_117 : decode cX11_init 117 = .ok (.invokespecial 11, 3) := by decide +kernel
theorem dX11_init_120 : decode cX11_init 120 = .ok (.putfield 64, 3) := by decide +kernel
theorem dX11_init_123 : decode cX11_init 123 = .ok (.aload_n 0, 1) := by decide +kernel
theorem dX11_init_124 : decode cX11_init 124 = .ok (.new 67, 3) := by decide +kernel
theorem dX11_init_127 : decode cX11_init 127 = .ok (.dup, 1) := by decide +kernel
theorem dX11_init_128 : decode cX11_init 128 = .ok (.invokespecial 69, 3) := by decide +kernel
theorem dX11_init_131 : decode cX11_init 131 = .ok (.putfield 70, 3) := by decide +kernel
theorem dX11_init_134 : decode cX11_init 134 = .ok (.aload_n 0, 1) := by decide +kernel
theorem dX11_init_135 : decode cX11_init 135 = .ok (.new 74, 3) := by decide +kernel
theorem dX11_init_138 : decode cX11_init 138 = .ok (.dup, 1) := by decide +kernel
theorem dX11_init_139 : decode cX11_init 139 = .ok (.aload_n 0, 1) := by decide +kernel
theorem dX11_init_140 : decode cX11_init 140 = .ok (.getfield 60, 3) := by decide +kernel
theorem dX11_init_143 : decode cX11_init 143 = .ok (.aload_n 0, 1) := by decide +kernel
theorem dX11_init_144 : decode cX11_init 144 = .ok (.getfield 19, 3) := by decide +kernel
theorem dX11_init_147 : decode cX11_init 147 = .ok (.getfield 76, 3) := by decide +kernel
theorem dX11_init_150 : decode cX11_init 150 = .ok (.invokespecial 80, 3) := by decide +kernel
theorem dX11_init_153 : decode cX11_init 153 = .ok (.putfield 83, 3) := by decide +kernel
theorem dX11_init_156 : decode cX11_init 156 = .ok (.aload_n 0, 1) := by decide +kernel
theorem dX11_init_157 : decode cX11_init 157 = .ok (.sipush 1024, 3) := by decide +kernel
theorem dX11_init_160 : decode cX11_init 160 = .ok (.newarray .int, 2) := by decide +kernel
theorem dX11_init_162 : decode cX11_init 162 = .ok (.putfield 87, 3) := by decide +kernel
theorem dX11_init_165 : decode cX11_init 165 = .ok (.aload_n 0, 1) := by decide +kernel
theorem dX11_init_166 : decode cX11_init 166 = .ok (.bipush 13, 2) := by decide +kernel
theorem dX11_init_168 : decode cX11_init 168 = .ok (.newarray .int, 2) := by decide +kernel
theorem dX11_init_170 : decode cX11_init 170 = .ok (.putfield 90, 3) := by decide +kernel
theorem dX11_init_173 : decode cX11_init 173 = .ok (.aload_n 0, 1) := by decide +kernel
theorem dX11_init_174 : decode cX11_init 174 = .ok (.bipush 10, 2) := by decide +kernel
theorem dX11_init_176 : decode cX11_init 176 = .ok (.newarray .int, 2) := by decide +kernel
theorem dX11_init_178 : decode cX11_init 178 = .ok (.putfield 93, 3) := by decide +kernel
theorem dX11_init_181 : decode cX11_init 181 = .ok (.return_, 1) := by decide +kernel
theorem dX11_state_0 : decode cX11_state 0 = .ok (.aload_n 0, 1) := by decide +kernel
theorem dX11_state_1 : decode cX11_state 1 = .ok (.getfield 12, 3) := by decide +kernel
theorem dX11_state_4 : decode cX11_state 4 = .ok (.getfield 96, 3) := by decide +kernel
theorem dX11_state_7 : decode cX11_state 7 = .ok (.istore_n 2, 1) := by decide +kernel
theorem dX11_state_8 : decode cX11_state 8 = .ok (.aload_n 0, 1) := by decide +kernel
theorem dX11_state_9 : decode cX11_state 9 = .ok (.getfield 12, 3) := by decide +kernel
theorem dX11_state_12 : decode cX11_state 12 = .ok (.iload_n 1, 1) := by decide +kernel
theorem dX11_state_13 : decode cX11_state 13 = .ok (.putfield 96, 3) := by decide +kernel
theorem dX11_state_16 : decode cX11_state 16 = .ok (.aload_n 0, 1) := by decide +kernel
theorem dX11_state_17 : decode cX11_state 17 = .ok (.getfield 33, 3) := by decide +kernel
theorem dX11_state_20 : decode cX11_state 20 = .ok (.invokevirtual 100, 3) := by decide +kernel
theorem dX11_state_23 : decode cX11_state 23 = .ok (.iload_n 2, 1) := by decide +kernel
theorem dX11_state_24 : decode cX11_state 24 = .ok (.ireturn, 1) := by decide +kernel
theorem dX11_walker_0 : decode cX11_walker 0 = .ok (.iload_n 1, 1) := by decide +kernel
theorem dX11_walker_1 : decode cX11_walker 1 = .ok (.invokestatic 103, 3) := by decide +kernel
theorem dX11_walker_4 : decode cX11_walker 4 = .ok (.ifCond .eq 24, 3) := by decide +kernel
theorem dX11_walker_7 : decode cX11_walker 7 = .ok (.iload_n 2, 1) := by decide +kernel
theorem dX11_walker_8 : decode cX11_walker 8 = .ok (.iconst 0, 1) := by decide +kernel
theorem dX11_walker_9 : decode cX11_walker 9 = .ok (.iconst 1, 1) := by decide +kernel
theorem dX11_walker_10 : decode cX11_walker 10 = .ok (.invokestatic 107, 3) := by decide +kernel
theorem dX11_walker_13 : decode cX11_walker 13 = .ok (.ifCond .eq 15, 3) := by decide +kernel
theorem dX11_walker_16 : decode cX11_walker 16 = .ok (.aload_n 0, 1) := by decide +kernel
theorem dX11_walker_17 : decode cX11_walker 17 = .ok (.getfield 12, 3) := by decide +kernel
theorem dX11_walker_20 : decode cX11_walker 20 = .ok (.getfield 111, 3) := by decide +kernel
theorem dX11_walker_23 : decode cX11_walker 23 = .ok (.bipush 10, 2) := by decide +kernel
theorem dX11_walker_25 : decode cX11_walker 25 = .ok (.if_icmp .lt 5, 3) := by decide +kernel
theorem dX11_walker_28 : decode cX11_walker 28 = .ok (.iconst (-1), 1) := by decide +kernel
theorem dX11_walker_29 : decode cX11_walker 29 = .ok (.ireturn, 1) := by decide +kernel
theorem dX11_walker_30 : decode cX11_walker 30 = .ok (.aload_n 0, 1) := by decide +kernel
theorem dX11_walker_31 : decode cX11_walker 31 = .ok (.getfield 12, 3) := by decide +kernel
theorem dX11_walker_34 : decode cX11_walker 34 = .ok (.getfield 111, 3) := by decide +kernel
theorem dX11_walker_37 : decode cX11_walker 37 = .ok (.istore_n 3, 1) := by decide +kernel
theorem dX11_walker_38 : decode cX11_walker 38 = .ok (.aload_n 0, 1) := by decide +kernel
theorem dX11_walker_39 : decode cX11_walker 39 = .ok (.getfield 12, 3) := by decide +kernel
theorem dX11_walker_42 : decode cX11_walker 42 = .ok (.getfield 114, 3) := by decide +kernel
theorem dX11_walker_45 : decode cX11_walker 45 = .ok (.iload_n 3, 1) := by decide +kernel
theorem dX11_walker_46 : decode cX11_walker 46 = .ok (.iload_n 1, 1) := by decide +kernel
theorem dX11_walker_47 : decode cX11_walker 47 = .ok (.iastore, 1) := by decide +kernel
theorem dX11_walker_48 : decode cX11_walker 48 = .ok (.aload_n 0, 1) := by decide +kernel
theorem dX11_walker_49 : decode cX11_walker 49 = .ok (.getfield 12, 3) := by decide +kernel
theorem dX11_walker_52 : decode cX11_walker 52 = .ok (.getfield 117, 3) := by decide +kernel
theorem dX11_walker_55 : decode cX11_walker 55 = .ok (.iload_n 3, 1) := by decide +kernel
theorem dX11_walker_56 : decode cX11_walker 56 = .ok (.iload_n 2, 1) := by decide +kernel
theorem dX11_walker_57 : decode cX11_walker 57 = .ok (.iastore, 1) := by decide +kernel
theorem dX11_walker_58 : decode cX11_walker 58 = .ok (.aload_n 0, 1) := by decide +kernel
theorem dX11_walker_59 : decode cX11_walker 59 = .ok (.getfield 12, 3) := by decide +kernel
theorem dX11_walker_62 : decode cX11_walker 62 = .ok (.getfield 120, 3) := by decide +kernel
theorem dX11_walker_65 : decode cX11_walker 65 = .ok (.iload_n 3, 1) := by decide +kernel
theorem dX11_walker_66 : decode cX11_walker 66 = .ok (.iconst 0, 1) := by decide +kernel
theorem dX11_walker_67 : decode cX11_walker 67 = .ok (.iastore, 1) := by decide +kernel
theorem dX11_walker_68 : decode cX11_walker 68 = .ok (.aload_n 0, 1) := by decide +kernel
theorem dX11_walker_69 : decode cX11_walker 69 = .ok (.getfield 12, 3) := by decide +kernel
theorem dX11_walker_72 : decode cX11_walker 72 = .ok (.getfield 123, 3) := by decide +kernel
theorem dX11_walker_75 : decode cX11_walker 75 = .ok (.iload_n 3, 1) := by decide +kernel
theorem dX11_walker_76 : decode cX11_walker 76 = .ok (.iconst 0, 1) := by decide +kernel
theorem dX11_walker_77 : decode cX11_walker 77 = .ok (.iastore, 1) := by decide +kernel
theorem dX11_walker_78 : decode cX11_walker 78 = .ok (.aload_n 0, 1) := by decide +kernel
theorem dX11_walker_79 : decode cX11_walker 79 = .ok (.getfield 12, 3) := by decide +kernel
theorem dX11_walker_82 : decode cX11_walker 82 = .ok (.iload_n 3, 1) := by decide +kernel
theorem dX11_walker_83 : decode cX11_walker 83 = .ok (.iconst 1, 1) := by decide +kernel
theorem dX11_walker_84 : decode cX11_walker 84 = .ok (.iadd, 1) := by decide +kernel
theorem dX11_walker_85 : decode cX11_walker 85 = .ok (.putfield 111, 3) := by decide +kernel
theorem dX11_walker_88 : decode cX11_walker 88 = .ok (.aload_n 0, 1) := by decide +kernel
theorem dX11_walker_89 : decode cX11_walker 89 = .ok (.getfield 33, 3) := by decide +kernel
theorem dX11_walker_92 : decode cX11_walker 92 = .ok (.invokevirtual 100, 3) := by decide +kernel
theorem dX11_walker_95 : decode cX11_walker 95 = .ok (.iload_n 3, 1) := by decide +kernel
theorem dX11_walker_96 : decode cX11_walker 96 = .ok (.ireturn, 1) := by decide +kernel
theorem dX11_set_0 : decode cX11_set 0 = .ok (.aload_n 0, 1) := by decide +kernel
theorem dX11_set_1 : decode cX11_set 1 = .ok (.iload_n 1, 1) := by decide +kernel
theorem dX11_set_2 : decode cX11_set 2 = .ok (.iload_n 2, 1) := by decide +kernel
theorem dX11_set_3 : decode cX11_set 3 = .ok (.iload_n 3, 1) := by decide +kernel
theorem dX11_set_4 : decode cX11_set 4 = .ok (.invokevirtual 126, 3) := by decide +kernel
theorem dX11_set_7 : decode cX11_set 7 = .ok (.ifCond .ne 5, 3) := by decide +kernel
theorem dX11_set_10 : decode cX11_set 10 = .ok (.iconst 0, 1) := by decide +kernel
theorem dX11_set_11 : decode cX11_set 11 = .ok (.ireturn, 1) := by decide +kernel
theorem dX11_set_12 : decode cX11_set 12 = .ok (.iload_n 1, 1) := by decide +kernel
theorem dX11_set_13 : decode cX11_set 13 = .ok (.tableswitch 92 0 4 #[35, 46, 57, 68, 79], 35) := by decide +kernel
theorem dX11_set_48 : decode cX11_set 48 = .ok (.aload_n 0, 1) := by decide +kernel
theorem dX11_set_49 : decode cX11_set 49 = .ok (.getfield 19, 3) := by decide +kernel
theorem dX11_set_52 : decode cX11_set 52 = .ok (.iload_n 3, 1) := by decide +kernel
theorem dX11_set_53 : decode cX11_set 53 = .ok (.putfield 129, 3) := by decide +kernel
theorem dX11_set_56 : decode cX11_set 56 = .ok (.goto 59, 3) := by decide +kernel
theorem dX11_set_59 : decode cX11_set 59 = .ok (.aload_n 0, 1) := by decide +kernel
theorem dX11_set_60 : decode cX11_set 60 = .ok (.getfield 12, 3) := by decide +kernel
theorem dX11_set_63 : decode cX11_set 63 = .ok (.iload_n 3, 1) := by decide +kernel
theorem dX11_set_64 : decode cX11_set 64 = .ok (.putfield 132, 3) := by decide +kernel
theorem dX11_set_67 : decode cX11_set 67 = .ok (.goto 48, 3) := by decide +kernel
theorem dX11_set_70 : decode cX11_set 70 = .ok (.aload_n 0, 1) := by decide +kernel
theorem dX11_set_71 : decode cX11_set 71 = .ok (.getfield 19, 3) := by decide +kernel
theorem dX11_set_74 : decode cX11_set 74 = .ok (.iload_n 3, 1) := by decide +kernel
theorem dX11_set_75 : decode cX11_set 75 = .ok (.putfield 135, 3) := by decide +kernel
theorem dX11_set_78 : decode cX11_set 78 = .ok (.goto 37, 3) := by decide +kernel
theorem dX11_set_81 : decode cX11_set 81 = .ok (.aload_n 0, 1) := by decide +kernel
theorem dX11_set_82 : decode cX11_set 82 = .ok (.getfield 19, 3) := by decide +kernel
theorem dX11_set_85 : decode cX11_set 85 = .ok (.iload_n 3, 1) := by decide +kernel
theorem dX11_set_86 : decode cX11_set 86 = .ok (.putfield 138, 3) := by decide +kernel
theorem dX11_set_89 : decode cX11_set 89 = .ok (.goto 26, 3) := by decide +kernel
theorem dX11_set_92 : decode cX11_set 92 = .ok (.aload_n 0, 1) := by decide +kernel
theorem dX11_set_93 : decode cX11_set 93 = .ok (.getfield 12, 3) := by decide +kernel
theorem dX11_set_96 : decode cX11_set 96 = .ok (.getfield 120, 3) := by decide +kernel
theorem dX11_set_99 : decode cX11_set 99 = .ok (.iload_n 2, 1) := by decide +kernel
theorem dX11_set_100 : decode cX11_set 100 = .ok (.iload_n 3, 1) := by decide +kernel
theorem dX11_set_101 : decode cX11_set 101 = .ok (.iastore, 1) := by decide +kernel
theorem dX11_set_102 : decode cX11_set 102 = .ok (.goto 13, 3) := by decide +kernel
theorem dX11_set_105 : decode cX11_set 105 = .ok (.aload_n 0, 1) := by decide +kernel
theorem dX11_set_106 : decode cX11_set 106 = .ok (.getfield 12, 3) := by decide +kernel
theorem dX11_set_109 : decode cX11_set 109 = .ok (.getfield 117, 3) := by decide +kernel
theorem dX11_set_112 : decode cX11_set 112 = .ok (.iload_n 2, 1) := by decide +kernel
theorem dX11_set_113 : decode cX11_set 113 = .ok (.iload_n 3, 1) := by decide +kernel
theorem dX11_set_114 : decode cX11_set 114 = .ok (.iastore, 1) := by decide +kernel
theorem dX11_set_115 : decode cX11_set 115 = .ok (.aload_n 0, 1) := by decide +kernel
theorem dX11_set_116 : decode cX11_set 116 = .ok (.getfield 33, 3) := by decide +kernel
theorem dX11_set_119 : decode cX11_set 119 = .ok (.invokevirtual 100, 3) := by decide +kernel
theorem dX11_set_122 : decode cX11_set 122 = .ok (.iconst 1, 1) := by decide +kernel
theorem dX11_set_123 : decode cX11_set 123 = .ok (.ireturn, 1) := by decide +kernel
theorem dX11_canBeSet_0 : decode cX11_canBeSet 0 = .ok (.iload_n 1, 1) := by decide +kernel
theorem dX11_canBeSet_1 : decode cX11_canBeSet 1 = .ok (.tableswitch 122 0 5 #[39, 47, 56, 65, 74, 99], 39) := by decide +kernel
theorem dX11_canBeSet_40 : decode cX11_canBeSet 40 = .ok (.iload_n 3, 1) := by decide +kernel
theorem dX11_canBeSet_41 : decode cX11_canBeSet 41 = .ok (.iconst 0, 1) := by decide +kernel
theorem dX11_canBeSet_42 : decode cX11_canBeSet 42 = .ok (.bipush 10, 2) := by decide +kernel
theorem dX11_canBeSet_44 : decode cX11_canBeSet 44 = .ok (.invokestatic 107, 3) := by decide +kernel
theorem dX11_canBeSet_47 : decode cX11_canBeSet 47 = .ok (.ireturn, 1) := by decide +kernel
theorem dX11_canBeSet_48 : decode cX11_canBeSet 48 = .ok (.iload_n 3, 1) := by decide +kernel
theorem dX11_canBeSet_49 : decode cX11_canBeSet 49 = .ok (.iconst 0, 1) := by decide +kernel
theorem dX11_canBeSet_50 : decode cX11_canBeSet 50 = .ok (.sipush 9999, 3) := by decide +kernel
theorem dX11_canBeSet_53 : decode cX11_canBeSet 53 = .ok (.invokestatic 107, 3) := by decide +kernel
theorem dX11_canBeSet_56 : decode cX11_canBeSet 56 = .ok (.ireturn, 1) := by decide +kernel
theorem dX11_canBeSet_57 : decode cX11_canBeSet 57 = .ok (.iload_n 3, 1) := by decide +kernel
theorem dX11_canBeSet_58 : decode cX11_canBeSet 58 = .ok (.iconst 0, 1) := by decide +kernel
theorem dX11_canBeSet_59 : decode cX11_canBeSet 59 = .ok (.sipush 1000, 3) := by decide +kernel
theorem dX11_canBeSet_62 : decode cX11_canBeSet 62 = .ok (.invokestatic 107, 3) := by decide +kernel
theorem dX11_canBeSet_65 : decode cX11_canBeSet 65 = .ok (.ireturn, 1) := by decide +kernel
theorem dX11_canBeSet_66 : decode cX11_canBeSet 66 = .ok (.iload_n 3, 1) := by decide +kernel
theorem dX11_canBeSet_67 : decode cX11_canBeSet 67 = .ok (.iconst 0, 1) := by decide +kernel
theorem dX11_canBeSet_68 : decode cX11_canBeSet 68 = .ok (.sipush 1000, 3) := by decide +kernel
theorem dX11_canBeSet_71 : decode cX11_canBeSet 71 = .ok (.invokestatic 107, 3) := by decide +kernel
theorem dX11_canBeSet_74 : decode cX11_canBeSet 74 = .ok (.ireturn, 1) := by decide +kernel
theorem dX11_canBeSet_75 : decode cX11_canBeSet 75 = .ok (.aload_n 0, 1) := by decide +kernel
theorem dX11_canBeSet_76 : decode cX11_canBeSet 76 = .ok (.iload_n 2, 1) := by decide +kernel
theorem dX11_canBeSet_77 : decode cX11_canBeSet 77 = .ok (.invokevirtual 141, 3) := by decide +kernel
theorem dX11_canBeSet_80 : decode cX11_canBeSet 80 = .ok (.ifCond .eq 18, 3) := by decide +kernel
theorem dX11_canBeSet_83 : decode cX11_canBeSet 83 = .ok (.iload_n 3, 1) := by decide +kernel
theorem dX11_canBeSet_84 : decode cX11_canBeSet 84 = .ok (.iconst 0, 1) := by decide +kernel
