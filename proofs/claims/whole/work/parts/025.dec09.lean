theorem dX12_byWay_52 : decode cX12_byWay 52 = .ok (.getfield 84, 3) := by decide +kernel
theorem dX12_byWay_55 : decode cX12_byWay 55 = .ok (.iconst 4, 1) := by decide +kernel
theorem dX12_byWay_56 : decode cX12_byWay 56 = .ok (.iload_n 1, 1) := by decide +kernel
theorem dX12_byWay_57 : decode cX12_byWay 57 = .ok (.imul, 1) := by decide +kernel
theorem dX12_byWay_58 : decode cX12_byWay 58 = .ok (.iload 6, 2) := by decide +kernel
theorem dX12_byWay_60 : decode cX12_byWay 60 = .ok (.iadd, 1) := by decide +kernel
theorem dX12_byWay_61 : decode cX12_byWay 61 = .ok (.iaload, 1) := by decide +kernel
theorem dX12_byWay_62 : decode cX12_byWay 62 = .ok (.iadd, 1) := by decide +kernel
theorem dX12_byWay_63 : decode cX12_byWay 63 = .ok (.istore 5, 2) := by decide +kernel
theorem dX12_byWay_65 : decode cX12_byWay 65 = .ok (.iinc 6 1, 3) := by decide +kernel
theorem dX12_byWay_68 : decode cX12_byWay 68 = .ok (.goto (-36), 3) := by decide +kernel
theorem dX12_byWay_71 : decode cX12_byWay 71 = .ok (.iload 5, 2) := by decide +kernel
theorem dX12_byWay_73 : decode cX12_byWay 73 = .ok (.ireturn, 1) := by decide +kernel
theorem dX12_bestWay_0 : decode cX12_bestWay 0 = .ok (.iconst 0, 1) := by decide +kernel
theorem dX12_bestWay_1 : decode cX12_bestWay 1 = .ok (.istore_n 3, 1) := by decide +kernel
theorem dX12_bestWay_2 : decode cX12_bestWay 2 = .ok (.iconst 1, 1) := by decide +kernel
theorem dX12_bestWay_3 : decode cX12_bestWay 3 = .ok (.istore 4, 2) := by decide +kernel
theorem dX12_bestWay_5 : decode cX12_bestWay 5 = .ok (.iload 4, 2) := by decide +kernel
theorem dX12_bestWay_7 : decode cX12_bestWay 7 = .ok (.bipush 7, 2) := by decide +kernel
theorem dX12_bestWay_9 : decode cX12_bestWay 9 = .ok (.if_icmp .ge 30, 3) := by decide +kernel
theorem dX12_bestWay_12 : decode cX12_bestWay 12 = .ok (.aload_n 0, 1) := by decide +kernel
theorem dX12_bestWay_13 : decode cX12_bestWay 13 = .ok (.iload_n 1, 1) := by decide +kernel
theorem dX12_bestWay_14 : decode cX12_bestWay 14 = .ok (.iload_n 2, 1) := by decide +kernel
theorem dX12_bestWay_15 : decode cX12_bestWay 15 = .ok (.iload 4, 2) := by decide +kernel
theorem dX12_bestWay_17 : decode cX12_bestWay 17 = .ok (.invokevirtual 392, 3) := by decide +kernel
theorem dX12_bestWay_20 : decode cX12_bestWay 20 = .ok (.aload_n 0, 1) := by decide +kernel
theorem dX12_bestWay_21 : decode cX12_bestWay 21 = .ok (.iload_n 1, 1) := by decide +kernel
theorem dX12_bestWay_22 : decode cX12_bestWay 22 = .ok (.iload_n 2, 1) := by decide +kernel
theorem dX12_bestWay_23 : decode cX12_bestWay 23 = .ok (.iload_n 3, 1) := by decide +kernel
theorem dX12_bestWay_24 : decode cX12_bestWay 24 = .ok (.invokevirtual 392, 3) := by decide +kernel
theorem dX12_bestWay_27 : decode cX12_bestWay 27 = .ok (.if_icmp .ge 6, 3) := by decide +kernel
theorem dX12_bestWay_30 : decode cX12_bestWay 30 = .ok (.iload 4, 2) := by decide +kernel
theorem dX12_bestWay_32 : decode cX12_bestWay 32 = .ok (.istore_n 3, 1) := by decide +kernel
theorem dX12_bestWay_33 : decode cX12_bestWay 33 = .ok (.iinc 4 1, 3) := by decide +kernel
theorem dX12_bestWay_36 : decode cX12_bestWay 36 = .ok (.goto (-31), 3) := by decide +kernel
theorem dX12_bestWay_39 : decode cX12_bestWay 39 = .ok (.iload_n 3, 1) := by decide +kernel
theorem dX12_bestWay_40 : decode cX12_bestWay 40 = .ok (.ireturn, 1) := by decide +kernel
theorem dX12_firstState_0 : decode cX12_firstState 0 = .ok (.aload_n 0, 1) := by decide +kernel
theorem dX12_firstState_1 : decode cX12_firstState 1 = .ok (.getfield 132, 3) := by decide +kernel
theorem dX12_firstState_4 : decode cX12_firstState 4 = .ok (.sipush 1464, 3) := by decide +kernel
theorem dX12_firstState_7 : decode cX12_firstState 7 = .ok (.imul, 1) := by decide +kernel
theorem dX12_firstState_8 : decode cX12_firstState 8 = .ok (.ireturn, 1) := by decide +kernel
theorem dX12_findsWatches_0 : decode cX12_findsWatches 0 = .ok (.iconst 0, 1) := by decide +kernel
theorem dX12_findsWatches_1 : decode cX12_findsWatches 1 = .ok (.istore_n 1, 1) := by decide +kernel
theorem dX12_findsWatches_2 : decode cX12_findsWatches 2 = .ok (.iload_n 1, 1) := by decide +kernel
theorem dX12_findsWatches_3 : decode cX12_findsWatches 3 = .ok (.aload_n 0, 1) := by decide +kernel
theorem dX12_findsWatches_4 : decode cX12_findsWatches 4 = .ok (.getfield 114, 3) := by decide +kernel
theorem dX12_findsWatches_7 : decode cX12_findsWatches 7 = .ok (.if_icmp .ge 44, 3) := by decide +kernel
theorem dX12_findsWatches_10 : decode cX12_findsWatches 10 = .ok (.iconst 0, 1) := by decide +kernel
theorem dX12_findsWatches_11 : decode cX12_findsWatches 11 = .ok (.istore_n 2, 1) := by decide +kernel
theorem dX12_findsWatches_12 : decode cX12_findsWatches 12 = .ok (.iload_n 2, 1) := by decide +kernel
theorem dX12_findsWatches_13 : decode cX12_findsWatches 13 = .ok (.iconst 4, 1) := by decide +kernel
theorem dX12_findsWatches_14 : decode cX12_findsWatches 14 = .ok (.if_icmp .ge 31, 3) := by decide +kernel
theorem dX12_findsWatches_17 : decode cX12_findsWatches 17 = .ok (.aload_n 0, 1) := by decide +kernel
theorem dX12_findsWatches_18 : decode cX12_findsWatches 18 = .ok (.getfield 84, 3) := by decide +kernel
theorem dX12_findsWatches_21 : decode cX12_findsWatches 21 = .ok (.iconst 4, 1) := by decide +kernel
theorem dX12_findsWatches_22 : decode cX12_findsWatches 22 = .ok (.iload_n 1, 1) := by decide +kernel
theorem dX12_findsWatches_23 : decode cX12_findsWatches 23 = .ok (.imul, 1) := by decide +kernel
theorem dX12_findsWatches_24 : decode cX12_findsWatches 24 = .ok (.iload_n 2, 1) := by decide +kernel
theorem dX12_findsWatches_25 : decode cX12_findsWatches 25 = .ok (.iadd, 1) := by decide +kernel
theorem dX12_findsWatches_26 : decode cX12_findsWatches 26 = .ok (.bipush 6, 2) := by decide +kernel
theorem dX12_findsWatches_28 : decode cX12_findsWatches 28 = .ok (.aload_n 0, 1) := by decide +kernel
theorem dX12_findsWatches_29 : decode cX12_findsWatches 29 = .ok (.iload_n 1, 1) := by decide +kernel
theorem dX12_findsWatches_30 : decode cX12_findsWatches 30 = .ok (.bipush 6, 2) := by decide +kernel
theorem dX12_findsWatches_32 : decode cX12_findsWatches 32 = .ok (.iload_n 2, 1) := by decide +kernel
theorem dX12_findsWatches_33 : decode cX12_findsWatches 33 = .ok (.imul, 1) := by decide +kernel
theorem dX12_findsWatches_34 : decode cX12_findsWatches 34 = .ok (.invokevirtual 332, 3) := by decide +kernel
theorem dX12_findsWatches_37 : decode cX12_findsWatches 37 = .ok (.imul, 1) := by decide +kernel
theorem dX12_findsWatches_38 : decode cX12_findsWatches 38 = .ok (.iastore, 1) := by decide +kernel
theorem dX12_findsWatches_39 : decode cX12_findsWatches 39 = .ok (.iinc 2 1, 3) := by decide +kernel
theorem dX12_findsWatches_42 : decode cX12_findsWatches 42 = .ok (.goto (-30), 3) := by decide +kernel
theorem dX12_findsWatches_45 : decode cX12_findsWatches 45 = .ok (.iinc 1 1, 3) := by decide +kernel
theorem dX12_findsWatches_48 : decode cX12_findsWatches 48 = .ok (.goto (-46), 3) := by decide +kernel
theorem dX12_findsWatches_51 : decode cX12_findsWatches 51 = .ok (.iconst 0, 1) := by decide +kernel
theorem dX12_findsWatches_52 : decode cX12_findsWatches 52 = .ok (.istore_n 1, 1) := by decide +kernel
theorem dX12_findsWatches_53 : decode cX12_findsWatches 53 = .ok (.iload_n 1, 1) := by decide +kernel
theorem dX12_findsWatches_54 : decode cX12_findsWatches 54 = .ok (.aload_n 0, 1) := by decide +kernel
theorem dX12_findsWatches_55 : decode cX12_findsWatches 55 = .ok (.invokevirtual 395, 3) := by decide +kernel
theorem dX12_findsWatches_58 : decode cX12_findsWatches 58 = .ok (.if_icmp .gt 35, 3) := by decide +kernel
theorem dX12_findsWatches_61 : decode cX12_findsWatches 61 = .ok (.aload_n 0, 1) := by decide +kernel
theorem dX12_findsWatches_62 : decode cX12_findsWatches 62 = .ok (.getfield 81, 3) := by decide +kernel
theorem dX12_findsWatches_65 : decode cX12_findsWatches 65 = .ok (.sipush 14641, 3) := by decide +kernel
theorem dX12_findsWatches_68 : decode cX12_findsWatches 68 = .ok (.aload_n 0, 1) := by decide +kernel
theorem dX12_findsWatches_69 : decode cX12_findsWatches 69 = .ok (.getfield 114, 3) := by decide +kernel
theorem dX12_findsWatches_72 : decode cX12_findsWatches 72 = .ok (.imul, 1) := by decide +kernel
theorem dX12_findsWatches_73 : decode cX12_findsWatches 73 = .ok (.iload_n 1, 1) := by decide +kernel
theorem dX12_findsWatches_74 : decode cX12_findsWatches 74 = .ok (.iadd, 1) := by decide +kernel
theorem dX12_findsWatches_75 : decode cX12_findsWatches 75 = .ok (.iload_n 1, 1) := by decide +kernel
theorem dX12_findsWatches_76 : decode cX12_findsWatches 76 = .ok (.ifCond .ne 7, 3) := by decide +kernel
theorem dX12_findsWatches_79 : decode cX12_findsWatches 79 = .ok (.iconst 0, 1) := by decide +kernel
theorem dX12_findsWatches_80 : decode cX12_findsWatches 80 = .ok (.goto 6, 3) := by decide +kernel
theorem dX12_findsWatches_83 : decode cX12_findsWatches 83 = .ok (.ldc_w 398, 3) := by decide +kernel
theorem dX12_findsWatches_86 : decode cX12_findsWatches 86 = .ok (.iastore, 1) := by decide +kernel
theorem dX12_findsWatches_87 : decode cX12_findsWatches 87 = .ok (.iinc 1 1, 3) := by decide +kernel
theorem dX12_findsWatches_90 : decode cX12_findsWatches 90 = .ok (.goto (-37), 3) := by decide +kernel
theorem dX12_findsWatches_93 : decode cX12_findsWatches 93 = .ok (.aload_n 0, 1) := by decide +kernel
theorem dX12_findsWatches_94 : decode cX12_findsWatches 94 = .ok (.getfield 114, 3) := by decide +kernel
theorem dX12_findsWatches_97 : decode cX12_findsWatches 97 = .ok (.iconst 1, 1) := by decide +kernel
theorem dX12_findsWatches_98 : decode cX12_findsWatches 98 = .ok (.isub, 1) := by decide +kernel
theorem dX12_findsWatches_99 : decode cX12_findsWatches 99 = .ok (.istore_n 1, 1) := by decide +kernel
theorem dX12_findsWatches_100 : decode cX12_findsWatches 100 = .ok (.iload_n 1, 1) := by decide +kernel
theorem dX12_findsWatches_101 : decode cX12_findsWatches 101 = .ok (.ifCond .lt 56, 3) := by decide +kernel
theorem dX12_findsWatches_104 : decode cX12_findsWatches 104 = .ok (.iconst 0, 1) := by decide +kernel
theorem dX12_findsWatches_105 : decode cX12_findsWatches 105 = .ok (.istore_n 2, 1) := by decide +kernel
theorem dX12_findsWatches_106 : decode cX12_findsWatches 106 = .ok (.iload_n 2, 1) := by decide +kernel
theorem dX12_findsWatches_107 : decode cX12_findsWatches 107 = .ok (.aload_n 0, 1) := by decide +kernel
theorem dX12_findsWatches_108 : decode cX12_findsWatches 108 = .ok (.invokevirtual 395, 3) := by decide +kernel
theorem dX12_findsWatches_111 : decode cX12_findsWatches 111 = .ok (.if_icmp .gt 40, 3) := by decide +kernel
theorem dX12_findsWatches_114 : decode cX12_findsWatches 114 = .ok (.aload_n 0, 1) := by decide +kernel
theorem dX12_findsWatches_115 : decode cX12_findsWatches 115 = .ok (.getfield 81, 3) := by decide +kernel
theorem dX12_findsWatches_118 : decode cX12_findsWatches 118 = .ok (.sipush 14641, 3) := by decide +kernel
theorem dX12_findsWatches_121 : decode cX12_findsWatches 121 = .ok (.iload_n 1, 1) := by decide +kernel
theorem dX12_findsWatches_122 : decode cX12_findsWatches 122 = .ok (.imul, 1) := by decide +kernel
theorem dX12_findsWatches_123 : decode cX12_findsWatches 123 = .ok (.iload_n 2, 1) := by decide +kernel
theorem dX12_findsWatches_124 : decode cX12_findsWatches 124 = .ok (.iadd, 1) := by decide +kernel
theorem dX12_findsWatches_125 : decode cX12_findsWatches 125 = .ok (.aload_n 0, 1) := by decide +kernel
theorem dX12_findsWatches_126 : decode cX12_findsWatches 126 = .ok (.ldc_w 398, 3) := by decide +kernel
theorem dX12_findsWatches_129 : decode cX12_findsWatches 129 = .ok (.aload_n 0, 1) := by decide +kernel
theorem dX12_findsWatches_130 : decode cX12_findsWatches 130 = .ok (.iload_n 1, 1) := by decide +kernel
theorem dX12_findsWatches_131 : decode cX12_findsWatches 131 = .ok (.iload_n 2, 1) := by decide +kernel
theorem dX12_findsWatches_132 : decode cX12_findsWatches 132 = .ok (.aload_n 0, 1) := by decide +kernel
theorem dX12_findsWatches_133 : decode cX12_findsWatches 133 = .ok (.iload_n 1, 1) := by decide +kernel
theorem dX12_findsWatches_134 : decode cX12_findsWatches 134 = .ok (.iload_n 2, 1) := by decide +kernel
theorem dX12_findsWatches_135 : decode cX12_findsWatches 135 = .ok (.invokevirtual 399, 3) := by decide +kernel
theorem dX12_findsWatches_138 : decode cX12_findsWatches 138 = .ok (.invokevirtual 392, 3) := by decide +kernel
theorem dX12_findsWatches_141 : decode cX12_findsWatches 141 = .ok (.invokevirtual 341, 3) := by decide +kernel
theorem dX12_findsWatches_144 : decode cX12_findsWatches 144 = .ok (.iastore, 1) := by decide +kernel
theorem dX12_findsWatches_145 : decode cX12_findsWatches 145 = .ok (.iinc 2 1, 3) := by decide +kernel
theorem dX12_findsWatches_148 : decode cX12_findsWatches 148 = .ok (.goto (-42), 3) := by decide +kernel
theorem dX12_findsWatches_151 : decode cX12_findsWatches 151 = .ok (.iinc 1 (-1), 3) := by decide +kernel
theorem dX12_findsWatches_154 : decode cX12_findsWatches 154 = .ok (.goto (-54), 3) := by decide +kernel
theorem dX12_findsWatches_157 : decode cX12_findsWatches 157 = .ok (.return_, 1) := by decide +kernel
theorem dX12_watches_0 : decode cX12_watches 0 = .ok (.aload_n 0, 1) := by decide +kernel
theorem dX12_watches_1 : decode cX12_watches 1 = .ok (.iconst 0, 1) := by decide +kernel
theorem dX12_watches_2 : decode cX12_watches 2 = .ok (.putfield 99, 3) := by decide +kernel
theorem dX12_watches_5 : decode cX12_watches 5 = .ok (.iload_n 1, 1) := by decide +kernel
theorem dX12_watches_6 : decode cX12_watches 6 = .ok (.ifCond .eq 22, 3) := by decide +kernel
theorem dX12_watches_9 : decode cX12_watches 9 = .ok (.aload_n 0, 1) := by decide +kernel
theorem dX12_watches_10 : decode cX12_watches 10 = .ok (.iload_n 1, 1) := by decide +kernel
theorem dX12_watches_11 : decode cX12_watches 11 = .ok (.bipush 10, 2) := by decide +kernel
theorem dX12_watches_13 : decode cX12_watches 13 = .ok (.bipush 9, 2) := by decide +kernel
theorem dX12_watches_15 : decode cX12_watches 15 = .ok (.aload_n 0, 1) := by decide +kernel
theorem dX12_watches_16 : decode cX12_watches 16 = .ok (.getfield 114, 3) := by decide +kernel
theorem dX12_watches_19 : decode cX12_watches 19 = .ok (.iadd, 1) := by decide +kernel
theorem dX12_watches_20 : decode cX12_watches 20 = .ok (.invokevirtual 121, 3) := by decide +kernel
theorem dX12_watches_23 : decode cX12_watches 23 = .ok (.ifCond .ne 5, 3) := by decide +kernel
theorem dX12_watches_26 : decode cX12_watches 26 = .ok (.iconst (-1), 1) := by decide +kernel
theorem dX12_watches_27 : decode cX12_watches 27 = .ok (.ireturn, 1) := by decide +kernel
theorem dX12_watches_28 : decode cX12_watches 28 = .ok (.aload_n 0, 1) := by decide +kernel
theorem dX12_watches_29 : decode cX12_watches 29 = .ok (.invokevirtual 402, 3) := by decide +kernel
theorem dX12_watches_32 : decode cX12_watches 32 = .ok (.aload_n 0, 1) := by decide +kernel
theorem dX12_watches_33 : decode cX12_watches 33 = .ok (.invokevirtual 395, 3) := by decide +kernel
theorem dX12_watches_36 : decode cX12_watches 36 = .ok (.istore_n 2, 1) := by decide +kernel
theorem dX12_watches_37 : decode cX12_watches 37 = .ok (.aload_n 0, 1) := by decide +kernel
theorem dX12_watches_38 : decode cX12_watches 38 = .ok (.getfield 81, 3) := by decide +kernel
theorem dX12_watches_41 : decode cX12_watches 41 = .ok (.iload_n 2, 1) := by decide +kernel
theorem dX12_watches_42 : decode cX12_watches 42 = .ok (.iaload, 1) := by decide +kernel
theorem dX12_watches_43 : decode cX12_watches 43 = .ok (.ldc_w 398, 3) := by decide +kernel
theorem dX12_watches_46 : decode cX12_watches 46 = .ok (.if_icmp .ge 7, 3) := by decide +kernel
theorem dX12_watches_49 : decode cX12_watches 49 = .ok (.iload_n 1, 1) := by decide +kernel
theorem dX12_watches_50 : decode cX12_watches 50 = .ok (.ifCond .ne 26, 3) := by decide +kernel
theorem dX12_watches_53 : decode cX12_watches 53 = .ok (.aload_n 0, 1) := by decide +kernel
theorem dX12_watches_54 : decode cX12_watches 54 = .ok (.getfield 81, 3) := by decide +kernel
theorem dX12_watches_57 : decode cX12_watches 57 = .ok (.iload_n 2, 1) := by decide +kernel
theorem dX12_watches_58 : decode cX12_watches 58 = .ok (.iaload, 1) := by decide +kernel
theorem dX12_watches_59 : decode cX12_watches 59 = .ok (.ldc_w 398, 3) := by decide +kernel
theorem dX12_watches_62 : decode cX12_watches 62 = .ok (.if_icmp .lt 7, 3) := by decide +kernel
theorem dX12_watches_65 : decode cX12_watches 65 = .ok (.iconst (-1), 1) := by decide +kernel
theorem dX12_watches_66 : decode cX12_watches 66 = .ok (.goto 9, 3) := by decide +kernel
theorem dX12_watches_69 : decode cX12_watches 69 = .ok (.aload_n 0, 1) := by decide +kernel
theorem dX12_watches_70 : decode cX12_watches 70 = .ok (.getfield 81, 3) := by decide +kernel
theorem dX12_watches_73 : decode cX12_watches 73 = .ok (.iload_n 2, 1) := by decide +kernel
theorem dX12_watches_74 : decode cX12_watches 74 = .ok (.iaload, 1) := by decide +kernel
theorem dX12_watches_75 : decode cX12_watches 75 = .ok (.ireturn, 1) := by decide +kernel
theorem dX12_watches_76 : decode cX12_watches 76 = .ok (.iconst (-1), 1) := by decide +kernel
theorem dX12_watches_77 : decode cX12_watches 77 = .ok (.istore_n 3, 1) := by decide +kernel
theorem dX12_watches_78 : decode cX12_watches 78 = .ok (.iconst 0, 1) := by decide +kernel
theorem dX12_watches_79 : decode cX12_watches 79 = .ok (.istore 4, 2) := by decide +kernel
theorem dX12_watches_81 : decode cX12_watches 81 = .ok (.iload 4, 2) := by decide +kernel
theorem dX12_watches_83 : decode cX12_watches 83 = .ok (.iload_n 1, 1) := by decide +kernel
theorem dX12_watches_84 : decode cX12_watches 84 = .ok (.bipush 10, 2) := by decide +kernel
theorem dX12_watches_86 : decode cX12_watches 86 = .ok (.isub, 1) := by decide +kernel
theorem dX12_watches_87 : decode cX12_watches 87 = .ok (.if_icmp .gt 28, 3) := by decide +kernel
theorem dX12_watches_90 : decode cX12_watches 90 = .ok (.aload_n 0, 1) := by decide +kernel
theorem dX12_watches_91 : decode cX12_watches 91 = .ok (.iload 4, 2) := by decide +kernel
theorem dX12_watches_93 : decode cX12_watches 93 = .ok (.iload_n 2, 1) := by decide +kernel
theorem dX12_watches_94 : decode cX12_watches 94 = .ok (.invokevirtual 399, 3) := by decide +kernel
theorem dX12_watches_97 : decode cX12_watches 97 = .ok (.istore_n 3, 1) := by decide +kernel
theorem dX12_watches_98 : decode cX12_watches 98 = .ok (.aload_n 0, 1) := by decide +kernel
theorem dX12_watches_99 : decode cX12_watches 99 = .ok (.iload_n 2, 1) := by decide +kernel
theorem dX12_watches_100 : decode cX12_watches 100 = .ok (.aload_n 0, 1) := by decide +kernel
theorem dX12_watches_101 : decode cX12_watches 101 = .ok (.iload_n 3, 1) := by decide +kernel
theorem dX12_watches_102 : decode cX12_watches 102 = .ok (.invokevirtual 386, 3) := by decide +kernel
theorem dX12_watches_105 : decode cX12_watches 105 = .ok (.invokevirtual 389, 3) := by decide +kernel
theorem dX12_watches_108 : decode cX12_watches 108 = .ok (.istore_n 2, 1) := by decide +kernel
theorem dX12_watches_109 : decode cX12_watches 109 = .ok (.iinc 4 1, 3) := by decide +kernel
theorem dX12_watches_112 : decode cX12_watches 112 = .ok (.goto (-31), 3) := by decide +kernel
theorem dX12_watches_115 : decode cX12_watches 115 = .ok (.iload_n 3, 1) := by decide +kernel
theorem dX12_watches_116 : decode cX12_watches 116 = .ok (.ireturn, 1) := by decide +kernel
theorem dX12_roadTo_0 : decode cX12_roadTo 0 = .ok (.aload_n 0, 1) := by decide +kernel
theorem dX12_roadTo_1 : decode cX12_roadTo 1 = .ok (.getfield 22, 3) := by decide +kernel
theorem dX12_roadTo_4 : decode cX12_roadTo 4 = .ok (.bipush 8, 2) := by decide +kernel
theorem dX12_roadTo_6 : decode cX12_roadTo 6 = .ok (.iload_n 1, 1) := by decide +kernel
theorem dX12_roadTo_7 : decode cX12_roadTo 7 = .ok (.imul, 1) := by decide +kernel
theorem dX12_roadTo_8 : decode cX12_roadTo 8 = .ok (.iload_n 2, 1) := by decide +kernel
theorem dX12_roadTo_9 : decode cX12_roadTo 9 = .ok (.iadd, 1) := by decide +kernel
theorem dX12_roadTo_10 : decode cX12_roadTo 10 = .ok (.iaload, 1) := by decide +kernel
theorem dX12_roadTo_11 : decode cX12_roadTo 11 = .ok (.ifCond .ne 9, 3) := by decide +kernel
theorem dX12_roadTo_14 : decode cX12_roadTo 14 = .ok (.ldc_w 398, 3) := by decide +kernel
theorem dX12_roadTo_17 : decode cX12_roadTo 17 = .ok (.goto 14, 3) := by decide +kernel
theorem dX12_roadTo_20 : decode cX12_roadTo 20 = .ok (.aload_n 0, 1) := by decide +kernel
theorem dX12_roadTo_21 : decode cX12_roadTo 21 = .ok (.getfield 22, 3) := by decide +kernel
theorem dX12_roadTo_24 : decode cX12_roadTo 24 = .ok (.bipush 8, 2) := by decide +kernel
theorem dX12_roadTo_26 : decode cX12_roadTo 26 = .ok (.iload_n 1, 1) := by decide +kernel
theorem dX12_roadTo_27 : decode cX12_roadTo 27 = .ok (.imul, 1) := by decide +kernel
theorem dX12_roadTo_28 : decode cX12_roadTo 28 = .ok (.iload_n 2, 1) := by decide +kernel
theorem dX12_roadTo_29 : decode cX12_roadTo 29 = .ok (.iadd, 1) := by decide +kernel
theorem dX12_roadTo_30 : decode cX12_roadTo 30 = .ok (.iaload, 1) := by decide +kernel
theorem dX12_roadTo_31 : decode cX12_roadTo 31 = .ok (.ireturn, 1) := by decide +kernel
theorem dX12_byParish_0 : decode cX12_byParish 0 = .ok (.aload_n 0, 1) := by decide +kernel
theorem dX12_byParish_1 : decode cX12_byParish 1 = .ok (.ldc_w 398, 3) := by decide +kernel
theorem dX12_byParish_4 : decode cX12_byParish 4 = .ok (.aload_n 0, 1) := by decide +kernel
theorem dX12_byParish_5 : decode cX12_byParish 5 = .ok (.iload_n 2, 1) := by decide +kernel
theorem dX12_byParish_6 : decode cX12_byParish 6 = .ok (.iload_n 3, 1) := by decide +kernel
theorem dX12_byParish_7 : decode cX12_byParish 7 = .ok (.invokevirtual 405, 3) := by decide +kernel
theorem dX12_byParish_10 : decode cX12_byParish 10 = .ok (.aload_n 0, 1) := by decide +kernel
theorem dX12_byParish_11 : decode cX12_byParish 11 = .ok (.getfield 87, 3) := by decide +kernel
theorem dX12_byParish_14 : decode cX12_byParish 14 = .ok (.bipush 8, 2) := by decide +kernel
theorem dX12_byParish_16 : decode cX12_byParish 16 = .ok (.iload_n 1, 1) := by decide +kernel
theorem dX12_byParish_17 : decode cX12_byParish 17 = .ok (.iconst 1, 1) := by decide +kernel
theorem dX12_byParish_18 : decode cX12_byParish 18 = .ok (.iload_n 3, 1) := by decide +kernel
theorem dX12_byParish_19 : decode cX12_byParish 19 = .ok (.ishl, 1) := by decide +kernel
theorem dX12_byParish_20 : decode cX12_byParish 20 = .ok (.iconst (-1), 1) := by decide +kernel
theorem dX12_byParish_21 : decode cX12_byParish 21 = .ok (.ixor, 1) := by decide +kernel
theorem dX12_byParish_22 : decode cX12_byParish 22 = .ok (.iand, 1) := by decide +kernel
theorem dX12_byParish_23 : decode cX12_byParish 23 = .ok (.imul, 1) := by decide +kernel
theorem dX12_byParish_24 : decode cX12_byParish 24 = .ok (.iload_n 3, 1) := by decide +kernel
theorem dX12_byParish_25 : decode cX12_byParish 25 = .ok (.iadd, 1) := by decide +kernel
theorem dX12_byParish_26 : decode cX12_byParish 26 = .ok (.iaload, 1) := by decide +kernel
theorem dX12_byParish_27 : decode cX12_byParish 27 = .ok (.iadd, 1) := by decide +kernel
theorem dX12_byParish_28 : decode cX12_byParish 28 = .ok (.invokevirtual 341, 3) := by decide +kernel
theorem dX12_byParish_31 : decode cX12_byParish 31 = .ok (.ireturn, 1) := by decide +kernel
theorem dX12_findsTours_0 : decode cX12_findsTours 0 = .ok (.iconst 0, 1) := by decide +kernel
theorem dX12_findsTours_1 : decode cX12_findsTours 1 = .ok (.istore_n 2, 1) := by decide +kernel
theorem dX12_findsTours_2 : decode cX12_findsTours 2 = .ok (.iload_n 2, 1) := by decide +kernel
theorem dX12_findsTours_3 : decode cX12_findsTours 3 = .ok (.iconst 1, 1) := by decide +kernel
theorem dX12_findsTours_4 : decode cX12_findsTours 4 = .ok (.iload_n 1, 1) := by decide +kernel
theorem dX12_findsTours_5 : decode cX12_findsTours 5 = .ok (.ishl, 1) := by decide +kernel
theorem dX12_findsTours_6 : decode cX12_findsTours 6 = .ok (.if_icmp .ge 104, 3) := by decide +kernel
theorem dX12_findsTours_9 : decode cX12_findsTours 9 = .ok (.iload_n 2, 1) := by decide +kernel
theorem dX12_findsTours_10 : decode cX12_findsTours 10 = .ok (.iconst 1, 1) := by decide +kernel
theorem dX12_findsTours_11 : decode cX12_findsTours 11 = .ok (.iand, 1) := by decide +kernel
theorem dX12_findsTours_12 : decode cX12_findsTours 12 = .ok (.iconst 1, 1) := by decide +kernel
theorem dX12_findsTours_13 : decode cX12_findsTours 13 = .ok (.if_icmp .ne 6, 3) := by decide +kernel
theorem dX12_findsTours_16 : decode cX12_findsTours 16 = .ok (.goto 88, 3) := by decide +kernel
theorem dX12_findsTours_19 : decode cX12_findsTours 19 = .ok (.iconst 0, 1) := by decide +kernel
theorem dX12_findsTours_20 : decode cX12_findsTours 20 = .ok (.istore_n 3, 1) := by decide +kernel
theorem dX12_findsTours_21 : decode cX12_findsTours 21 = .ok (.iload_n 3, 1) := by decide +kernel
theorem dX12_findsTours_22 : decode cX12_findsTours 22 = .ok (.iload_n 1, 1) := by decide +kernel
theorem dX12_findsTours_23 : decode cX12_findsTours 23 = .ok (.if_icmp .ge 81, 3) := by decide +kernel
theorem dX12_findsTours_26 : decode cX12_findsTours 26 = .ok (.iload_n 2, 1) := by decide +kernel
theorem dX12_findsTours_27 : decode cX12_findsTours 27 = .ok (.ifCond .ne 12, 3) := by decide +kernel
theorem dX12_findsTours_30 : decode cX12_findsTours 30 = .ok (.aload_n 0, 1) := by decide +kernel
theorem dX12_findsTours_31 : decode cX12_findsTours 31 = .ok (.iload_n 3, 1) := by decide +kernel
theorem dX12_findsTours_32 : decode cX12_findsTours 32 = .ok (.iconst 0, 1) := by decide +kernel
theorem dX12_findsTours_33 : decode cX12_findsTours 33 = .ok (.invokevirtual 405, 3) := by decide +kernel
theorem dX12_findsTours_36 : decode cX12_findsTours 36 = .ok (.goto 6, 3) := by decide +kernel
theorem dX12_findsTours_39 : decode cX12_findsTours 39 = .ok (.ldc_w 398, 3) := by decide +kernel
theorem dX12_findsTours_42 : decode cX12_findsTours 42 = .ok (.istore 4, 2) := by decide +kernel
theorem dX12_findsTours_44 : decode cX12_findsTours 44 = .ok (.iconst 1, 1) := by decide +kernel
theorem dX12_findsTours_45 : decode cX12_findsTours 45 = .ok (.istore 5, 2) := by decide +kernel
theorem dX12_findsTours_47 : decode cX12_findsTours 47 = .ok (.iload 5, 2) := by decide +kernel
theorem dX12_findsTours_49 : decode cX12_findsTours 49 = .ok (.iload_n 1, 1) := by decide +kernel
theorem dX12_findsTours_50 : decode cX12_findsTours 50 = .ok (.if_icmp .ge 35, 3) := by decide +kernel
theorem dX12_findsTours_53 : decode cX12_findsTours 53 = .ok (.iload_n 2, 1) := by decide +kernel
theorem dX12_findsTours_54 : decode cX12_findsTours 54 = .ok (.iload 5, 2) := by decide +kernel
theorem dX12_findsTours_56 : decode cX12_findsTours 56 = .ok (.ishr, 1) := by decide +kernel
theorem dX12_findsTours_57 : decode cX12_findsTours 57 = .ok (.iconst 1, 1) := by decide +kernel
theorem dX12_findsTours_58 : decode cX12_findsTours 58 = .ok (.iand, 1) := by decide +kernel
theorem dX12_findsTours_59 : decode cX12_findsTours 59 = .ok (.iconst 1, 1) := by decide +kernel
theorem dX12_findsTours_60 : decode cX12_findsTours 60 = .ok (.if_icmp .ne 19, 3) := by decide +kernel
theorem dX12_findsTours_63 : decode cX12_findsTours 63 = .ok (.aload_n 0, 1) := by decide +kernel
theorem dX12_findsTours_64 : decode cX12_findsTours 64 = .ok (.iload 4, 2) := by decide +kernel
theorem dX12_findsTours_66 : decode cX12_findsTours 66 = .ok (.aload_n 0, 1) := by decide +kernel
theorem dX12_findsTours_67 : decode cX12_findsTours 67 = .ok (.iload_n 2, 1) := by decide +kernel
theorem dX12_findsTours_68 : decode cX12_findsTours 68 = .ok (.iload_n 3, 1) := by decide +kernel
theorem dX12_findsTours_69 : decode cX12_findsTours 69 = .ok (.iload 5, 2) := by decide +kernel
theorem dX12_findsTours_71 : decode cX12_findsTours 71 = .ok (.invokevirtual 408, 3) := by decide +kernel
theorem dX12_findsTours_74 : decode cX12_findsTours 74 = .ok (.invokevirtual 341, 3) := by decide +kernel
theorem dX12_findsTours_77 : decode cX12_findsTours 77 = .ok (.istore 4, 2) := by decide +kernel
theorem dX12_findsTours_79 : decode cX12_findsTours 79 = .ok (.iinc 5 1, 3) := by decide +kernel
theorem dX12_findsTours_82 : decode cX12_findsTours 82 = .ok (.goto (-35), 3) := by decide +kernel
theorem dX12_findsTours_85 : decode cX12_findsTours 85 = .ok (.aload_n 0, 1) := by decide +kernel
theorem dX12_findsTours_86 : decode cX12_findsTours 86 = .ok (.getfield 87, 3) := by decide +kernel
theorem dX12_findsTours_89 : decode cX12_findsTours 89 = .ok (.bipush 8, 2) := by decide +kernel
theorem dX12_findsTours_91 : decode cX12_findsTours 91 = .ok (.iload_n 2, 1) := by decide +kernel
theorem dX12_findsTours_92 : decode cX12_findsTours 92 = .ok (.imul, 1) := by decide +kernel
theorem dX12_findsTours_93 : decode cX12_findsTours 93 = .ok (.iload_n 3, 1) := by decide +kernel
theorem dX12_findsTours_94 : decode cX12_findsTours 94 = .ok (.iadd, 1) := by decide +kernel
theorem dX12_findsTours_95 : decode cX12_findsTours 95 = .ok (.iload 4, 2) := by decide +kernel
theorem dX12_findsTours_97 : decode cX12_findsTours 97 = .ok (.iastore, 1) := by decide +kernel
theorem dX12_findsTours_98 : decode cX12_findsTours 98 = .ok (.iinc 3 1, 3) := by decide +kernel
theorem dX12_findsTours_101 : decode cX12_findsTours 101 = .ok (.goto (-80), 3) := by decide +kernel
theorem dX12_findsTours_104 : decode cX12_findsTours 104 = .ok (.iinc 2 1, 3) := by decide +kernel
theorem dX12_findsTours_107 : decode cX12_findsTours 107 = .ok (.goto (-105), 3) := by decide +kernel
theorem dX12_findsTours_110 : decode cX12_findsTours 110 = .ok (.return_, 1) := by decide +kernel
theorem dX12_touredAt_0 : decode cX12_touredAt 0 = .ok (.iconst 1, 1) := by decide +kernel
theorem dX12_touredAt_1 : decode cX12_touredAt 1 = .ok (.iload_n 1, 1) := by decide +kernel
theorem dX12_touredAt_2 : decode cX12_touredAt 2 = .ok (.ishl, 1) := by decide +kernel
theorem dX12_touredAt_3 : decode cX12_touredAt 3 = .ok (.iconst 2, 1) := by decide +kernel
theorem dX12_touredAt_4 : decode cX12_touredAt 4 = .ok (.isub, 1) := by decide +kernel
theorem dX12_touredAt_5 : decode cX12_touredAt 5 = .ok (.istore_n 3, 1) := by decide +kernel
theorem dX12_touredAt_6 : decode cX12_touredAt 6 = .ok (.iconst 0, 1) := by decide +kernel
theorem dX12_touredAt_7 : decode cX12_touredAt 7 = .ok (.istore 4, 2) := by decide +kernel
theorem dX12_touredAt_9 : decode cX12_touredAt 9 = .ok (.iconst 0, 1) := by decide +kernel
theorem dX12_touredAt_10 : decode cX12_touredAt 10 = .ok (.istore 5, 2) := by decide +kernel
theorem dX12_touredAt_12 : decode cX12_touredAt 12 = .ok (.iload 5, 2) := by decide +kernel
theorem dX12_touredAt_14 : decode cX12_touredAt 14 = .ok (.iload_n 2, 1) := by decide +kernel
theorem dX12_touredAt_15 : decode cX12_touredAt 15 = .ok (.if_icmp .ge 67, 3) := by decide +kernel
theorem dX12_touredAt_18 : decode cX12_touredAt 18 = .ok (.iconst 1, 1) := by decide +kernel
theorem dX12_touredAt_19 : decode cX12_touredAt 19 = .ok (.istore 6, 2) := by decide +kernel
theorem dX12_touredAt_21 : decode cX12_touredAt 21 = .ok (.iload_n 3, 1) := by decide +kernel
theorem dX12_touredAt_22 : decode cX12_touredAt 22 = .ok (.iload 6, 2) := by decide +kernel
theorem dX12_touredAt_24 : decode cX12_touredAt 24 = .ok (.ishr, 1) := by decide +kernel
theorem dX12_touredAt_25 : decode cX12_touredAt 25 = .ok (.iconst 1, 1) := by decide +kernel
theorem dX12_touredAt_26 : decode cX12_touredAt 26 = .ok (.iand, 1) := by decide +kernel
theorem dX12_touredAt_27 : decode cX12_touredAt 27 = .ok (.ifCond .eq 27, 3) := by decide +kernel
theorem dX12_touredAt_30 : decode cX12_touredAt 30 = .ok (.aload_n 0, 1) := by decide +kernel
theorem dX12_touredAt_31 : decode cX12_touredAt 31 = .ok (.iload_n 3, 1) := by decide +kernel
theorem dX12_touredAt_32 : decode cX12_touredAt 32 = .ok (.iload 4, 2) := by decide +kernel
theorem dX12_touredAt_34 : decode cX12_touredAt 34 = .ok (.iload 6, 2) := by decide +kernel
theorem dX12_touredAt_36 : decode cX12_touredAt 36 = .ok (.invokevirtual 408, 3) := by decide +kernel
theorem dX12_touredAt_39 : decode cX12_touredAt 39 = .ok (.aload_n 0, 1) := by decide +kernel
theorem dX12_touredAt_40 : decode cX12_touredAt 40 = .ok (.getfield 87, 3) := by decide +kernel
theorem dX12_touredAt_43 : decode cX12_touredAt 43 = .ok (.bipush 8, 2) := by decide +kernel
theorem dX12_touredAt_45 : decode cX12_touredAt 45 = .ok (.iload_n 3, 1) := by decide +kernel
theorem dX12_touredAt_46 : decode cX12_touredAt 46 = .ok (.imul, 1) := by decide +kernel
theorem dX12_touredAt_47 : decode cX12_touredAt 47 = .ok (.iload 4, 2) := by decide +kernel
theorem dX12_touredAt_49 : decode cX12_touredAt 49 = .ok (.iadd, 1) := by decide +kernel
theorem dX12_touredAt_50 : decode cX12_touredAt 50 = .ok (.iaload, 1) := by decide +kernel
theorem dX12_touredAt_51 : decode cX12_touredAt 51 = .ok (.if_icmp .eq 12, 3) := by decide +kernel
theorem dX12_touredAt_54 : decode cX12_touredAt 54 = .ok (.iload 6, 2) := by decide +kernel
theorem dX12_touredAt_56 : decode cX12_touredAt 56 = .ok (.iconst 1, 1) := by decide +kernel
theorem dX12_touredAt_57 : decode cX12_touredAt 57 = .ok (.iadd, 1) := by decide +kernel
theorem dX12_touredAt_58 : decode cX12_touredAt 58 = .ok (.istore 6, 2) := by decide +kernel
theorem dX12_touredAt_60 : decode cX12_touredAt 60 = .ok (.goto (-39), 3) := by decide +kernel
theorem dX12_touredAt_63 : decode cX12_touredAt 63 = .ok (.iload_n 3, 1) := by decide +kernel
theorem dX12_touredAt_64 : decode cX12_touredAt 64 = .ok (.iconst 1, 1) := by decide +kernel
theorem dX12_touredAt_65 : decode cX12_touredAt 65 = .ok (.iload 6, 2) := by decide +kernel
theorem dX12_touredAt_67 : decode cX12_touredAt 67 = .ok (.ishl, 1) := by decide +kernel
theorem dX12_touredAt_68 : decode cX12_touredAt 68 = .ok (.iconst (-1), 1) := by decide +kernel
theorem dX12_touredAt_69 : decode cX12_touredAt 69 = .ok (.ixor, 1) := by decide +kernel
theorem dX12_touredAt_70 : decode cX12_touredAt 70 = .ok (.iand, 1) := by decide +kernel
theorem dX12_touredAt_71 : decode cX12_touredAt 71 = .ok (.istore_n 3, 1) := by decide +kernel
theorem dX12_touredAt_72 : decode cX12_touredAt 72 = .ok (.iload 6, 2) := by decide +kernel
theorem dX12_touredAt_74 : decode cX12_touredAt 74 = .ok (.istore 4, 2) := by decide +kernel
theorem dX12_touredAt_76 : decode cX12_touredAt 76 = .ok (.iinc 5 1, 3) := by decide +kernel
theorem dX12_touredAt_79 : decode cX12_touredAt 79 = .ok (.goto (-67), 3) := by decide +kernel
theorem dX12_touredAt_82 : decode cX12_touredAt 82 = .ok (.iload 4, 2) := by decide +kernel
theorem dX12_touredAt_84 : decode cX12_touredAt 84 = .ok (.ireturn, 1) := by decide +kernel
theorem dX12_tour_0 : decode cX12_tour 0 = .ok (.aload_n 0, 1) := by decide +kernel
theorem dX12_tour_1 : decode cX12_tour 1 = .ok (.iconst 0, 1) := by decide +kernel
theorem dX12_tour_2 : decode cX12_tour 2 = .ok (.putfield 99, 3) := by decide +kernel
theorem dX12_tour_5 : decode cX12_tour 5 = .ok (.aload_n 0, 1) := by decide +kernel
theorem dX12_tour_6 : decode cX12_tour 6 = .ok (.iload_n 1, 1) := by decide +kernel
theorem dX12_tour_7 : decode cX12_tour 7 = .ok (.iconst 2, 1) := by decide +kernel
theorem dX12_tour_8 : decode cX12_tour 8 = .ok (.bipush 8, 2) := by decide +kernel
theorem dX12_tour_10 : decode cX12_tour 10 = .ok (.invokevirtual 121, 3) := by decide +kernel
theorem dX12_tour_13 : decode cX12_tour 13 = .ok (.ifCond .eq 21, 3) := by decide +kernel
theorem dX12_tour_16 : decode cX12_tour 16 = .ok (.iload_n 2, 1) := by decide +kernel
theorem dX12_tour_17 : decode cX12_tour 17 = .ok (.ifCond .eq 19, 3) := by decide +kernel
theorem dX12_tour_20 : decode cX12_tour 20 = .ok (.aload_n 0, 1) := by decide +kernel
theorem dX12_tour_21 : decode cX12_tour 21 = .ok (.iload_n 2, 1) := by decide +kernel
theorem dX12_tour_22 : decode cX12_tour 22 = .ok (.bipush 10, 2) := by decide +kernel
theorem dX12_tour_24 : decode cX12_tour 24 = .ok (.bipush 9, 2) := by decide +kernel
theorem dX12_tour_26 : decode cX12_tour 26 = .ok (.iload_n 1, 1) := by decide +kernel
theorem dX12_tour_27 : decode cX12_tour 27 = .ok (.iadd, 1) := by decide +kernel
theorem dX12_tour_28 : decode cX12_tour 28 = .ok (.invokevirtual 121, 3) := by decide +kernel
theorem dX12_tour_31 : decode cX12_tour 31 = .ok (.ifCond .ne 5, 3) := by decide +kernel
theorem dX12_tour_34 : decode cX12_tour 34 = .ok (.iconst (-1), 1) := by decide +kernel
theorem dX12_tour_35 : decode cX12_tour 35 = .ok (.ireturn, 1) := by decide +kernel
theorem dX12_tour_36 : decode cX12_tour 36 = .ok (.aload_n 0, 1) := by decide +kernel
theorem dX12_tour_37 : decode cX12_tour 37 = .ok (.iload_n 1, 1) := by decide +kernel
theorem dX12_tour_38 : decode cX12_tour 38 = .ok (.invokevirtual 411, 3) := by decide +kernel
theorem dX12_tour_41 : decode cX12_tour 41 = .ok (.aload_n 0, 1) := by decide +kernel
theorem dX12_tour_42 : decode cX12_tour 42 = .ok (.getfield 87, 3) := by decide +kernel
theorem dX12_tour_45 : decode cX12_tour 45 = .ok (.bipush 8, 2) := by decide +kernel
theorem dX12_tour_47 : decode cX12_tour 47 = .ok (.iconst 1, 1) := by decide +kernel
theorem dX12_tour_48 : decode cX12_tour 48 = .ok (.iload_n 1, 1) := by decide +kernel
theorem dX12_tour_49 : decode cX12_tour 49 = .ok (.ishl, 1) := by decide +kernel
theorem dX12_tour_50 : decode cX12_tour 50 = .ok (.iconst 2, 1) := by decide +kernel
theorem dX12_tour_51 : decode cX12_tour 51 = .ok (.isub, 1) := by decide +kernel
theorem dX12_tour_52 : decode cX12_tour 52 = .ok (.imul, 1) := by decide +kernel
theorem dX12_tour_53 : decode cX12_tour 53 = .ok (.iaload, 1) := by decide +kernel
theorem dX12_tour_54 : decode cX12_tour 54 = .ok (.istore_n 3, 1) := by decide +kernel
theorem dX12_tour_55 : decode cX12_tour 55 = .ok (.iload_n 3, 1) := by decide +kernel
theorem dX12_tour_56 : decode cX12_tour 56 = .ok (.ldc_w 398, 3) := by decide +kernel
theorem dX12_tour_59 : decode cX12_tour 59 = .ok (.if_icmp .lt 5, 3) := by decide +kernel
theorem dX12_tour_62 : decode cX12_tour 62 = .ok (.iconst (-1), 1) := by decide +kernel
theorem dX12_tour_63 : decode cX12_tour 63 = .ok (.ireturn, 1) := by decide +kernel
theorem dX12_tour_64 : decode cX12_tour 64 = .ok (.iload_n 2, 1) := by decide +kernel
theorem dX12_tour_65 : decode cX12_tour 65 = .ok (.ifCond .ne 7, 3) := by decide +kernel
theorem dX12_tour_68 : decode cX12_tour 68 = .ok (.iload_n 3, 1) := by decide +kernel
theorem dX12_tour_69 : decode cX12_tour 69 = .ok (.goto 12, 3) := by decide +kernel
theorem dX12_tour_72 : decode cX12_tour 72 = .ok (.aload_n 0, 1) := by decide +kernel
theorem dX12_tour_73 : decode cX12_tour 73 = .ok (.iload_n 1, 1) := by decide +kernel
theorem dX12_tour_74 : decode cX12_tour 74 = .ok (.iload_n 2, 1) := by decide +kernel
theorem dX12_tour_75 : decode cX12_tour 75 = .ok (.bipush 10, 2) := by decide +kernel
theorem dX12_tour_77 : decode cX12_tour 77 = .ok (.isub, 1) := by decide +kernel
theorem dX12_tour_78 : decode cX12_tour 78 = .ok (.invokevirtual 414, 3) := by decide +kernel
theorem dX12_tour_81 : decode cX12_tour 81 = .ok (.ireturn, 1) := by decide +kernel
theorem dX12_hoursOfRound_0 : decode cX12_hoursOfRound 0 = .ok (.iconst 0, 1) := by decide +kernel
theorem dX12_hoursOfRound_1 : decode cX12_hoursOfRound 1 = .ok (.istore_n 1, 1) := by decide +kernel
theorem dX12_hoursOfRound_2 : decode cX12_hoursOfRound 2 = .ok (.iconst 0, 1) := by decide +kernel
theorem dX12_hoursOfRound_3 : decode cX12_hoursOfRound 3 = .ok (.istore_n 2, 1) := by decide +kernel
theorem dX12_hoursOfRound_4 : decode cX12_hoursOfRound 4 = .ok (.iload_n 2, 1) := by decide +kernel
theorem dX12_hoursOfRound_5 : decode cX12_hoursOfRound 5 = .ok (.aload_n 0, 1) := by decide +kernel
theorem dX12_hoursOfRound_6 : decode cX12_hoursOfRound 6 = .ok (.getfield 267, 3) := by decide +kernel
theorem dX12_hoursOfRound_9 : decode cX12_hoursOfRound 9 = .ok (.if_icmp .ge 18, 3) := by decide +kernel
theorem dX12_hoursOfRound_12 : decode cX12_hoursOfRound 12 = .ok (.iload_n 1, 1) := by decide +kernel
theorem dX12_hoursOfRound_13 : decode cX12_hoursOfRound 13 = .ok (.aload_n 0, 1) := by decide +kernel
theorem dX12_hoursOfRound_14 : decode cX12_hoursOfRound 14 = .ok (.iload_n 2, 1) := by decide +kernel
theorem dX12_hoursOfRound_15 : decode cX12_hoursOfRound 15 = .ok (.iconst 1, 1) := by decide +kernel
theorem dX12_hoursOfRound_16 : decode cX12_hoursOfRound 16 = .ok (.invokevirtual 291, 3) := by decide +kernel
theorem dX12_hoursOfRound_19 : decode cX12_hoursOfRound 19 = .ok (.iadd, 1) := by decide +kernel
theorem dX12_hoursOfRound_20 : decode cX12_hoursOfRound 20 = .ok (.istore_n 1, 1) := by decide +kernel
theorem dX12_hoursOfRound_21 : decode cX12_hoursOfRound 21 = .ok (.iinc 2 1, 3) := by decide +kernel
theorem dX12_hoursOfRound_24 : decode cX12_hoursOfRound 24 = .ok (.goto (-20), 3) := by decide +kernel
theorem dX12_hoursOfRound_27 : decode cX12_hoursOfRound 27 = .ok (.iload_n 1, 1) := by decide +kernel
theorem dX12_hoursOfRound_28 : decode cX12_hoursOfRound 28 = .ok (.ireturn, 1) := by decide +kernel
theorem dX12_placeOf_0 : decode cX12_placeOf 0 = .ok (.iconst 0, 1) := by decide +kernel
theorem dX12_placeOf_1 : decode cX12_placeOf 1 = .ok (.istore_n 2, 1) := by decide +kernel
theorem dX12_placeOf_2 : decode cX12_placeOf 2 = .ok (.iconst 0, 1) := by decide +kernel
theorem dX12_placeOf_3 : decode cX12_placeOf 3 = .ok (.istore_n 3, 1) := by decide +kernel
theorem dX12_placeOf_4 : decode cX12_placeOf 4 = .ok (.iload_n 3, 1) := by decide +kernel
theorem dX12_placeOf_5 : decode cX12_placeOf 5 = .ok (.iload_n 1, 1) := by decide +kernel
theorem dX12_placeOf_6 : decode cX12_placeOf 6 = .ok (.if_icmp .ge 18, 3) := by decide +kernel
theorem dX12_placeOf_9 : decode cX12_placeOf 9 = .ok (.iload_n 2, 1) := by decide +kernel
theorem dX12_placeOf_10 : decode cX12_placeOf 10 = .ok (.aload_n 0, 1) := by decide +kernel
theorem dX12_placeOf_11 : decode cX12_placeOf 11 = .ok (.iload_n 3, 1) := by decide +kernel
theorem dX12_placeOf_12 : decode cX12_placeOf 12 = .ok (.iconst 1, 1) := by decide +kernel
theorem dX12_placeOf_13 : decode cX12_placeOf 13 = .ok (.invokevirtual 291, 3) := by decide +kernel
theorem dX12_placeOf_16 : decode cX12_placeOf 16 = .ok (.iadd, 1) := by decide +kernel
theorem dX12_placeOf_17 : decode cX12_placeOf 17 = .ok (.istore_n 2, 1) := by decide +kernel
theorem dX12_placeOf_18 : decode cX12_placeOf 18 = .ok (.iinc 3 1, 3) := by decide +kernel
theorem dX12_placeOf_21 : decode cX12_placeOf 21 = .ok (.goto (-17), 3) := by decide +kernel
theorem dX12_placeOf_24 : decode cX12_placeOf 24 = .ok (.iload_n 2, 1) := by decide +kernel
theorem dX12_placeOf_25 : decode cX12_placeOf 25 = .ok (.ireturn, 1) := by decide +kernel
theorem dX12_placeNow_0 : decode cX12_placeNow 0 = .ok (.aload_n 0, 1) := by decide +kernel
theorem dX12_placeNow_1 : decode cX12_placeNow 1 = .ok (.aload_n 0, 1) := by decide +kernel
theorem dX12_placeNow_2 : decode cX12_placeNow 2 = .ok (.getfield 7, 3) := by decide +kernel
theorem dX12_placeNow_5 : decode cX12_placeNow 5 = .ok (.iconst 3, 1) := by decide +kernel
theorem dX12_placeNow_6 : decode cX12_placeNow 6 = .ok (.iaload, 1) := by decide +kernel
theorem dX12_placeNow_7 : decode cX12_placeNow 7 = .ok (.invokevirtual 417, 3) := by decide +kernel
theorem dX12_placeNow_10 : decode cX12_placeNow 10 = .ok (.aload_n 0, 1) := by decide +kernel
theorem dX12_placeNow_11 : decode cX12_placeNow 11 = .ok (.getfield 7, 3) := by decide +kernel
theorem dX12_placeNow_14 : decode cX12_placeNow 14 = .ok (.iconst 4, 1) := by decide +kernel
theorem dX12_placeNow_15 : decode cX12_placeNow 15 = .ok (.iaload, 1) := by decide +kernel
theorem dX12_placeNow_16 : decode cX12_placeNow 16 = .ok (.iadd, 1) := by decide +kernel
theorem dX12_placeNow_17 : decode cX12_placeNow 17 = .ok (.ireturn, 1) := by decide +kernel
theorem dX12_meets_0 : decode cX12_meets 0 = .ok (.aload_n 0, 1) := by decide +kernel
theorem dX12_meets_1 : decode cX12_meets 1 = .ok (.iconst 0, 1) := by decide +kernel
theorem dX12_meets_2 : decode cX12_meets 2 = .ok (.putfield 99, 3) := by decide +kernel
theorem dX12_meets_5 : decode cX12_meets 5 = .ok (.aload_n 0, 1) := by decide +kernel
theorem dX12_meets_6 : decode cX12_meets 6 = .ok (.invokevirtual 420, 3) := by decide +kernel
theorem dX12_meets_9 : decode cX12_meets 9 = .ok (.istore 4, 2) := by decide +kernel
theorem dX12_meets_11 : decode cX12_meets 11 = .ok (.aload_n 0, 1) := by decide +kernel
theorem dX12_meets_12 : decode cX12_meets 12 = .ok (.iload_n 1, 1) := by decide +kernel
theorem dX12_meets_13 : decode cX12_meets 13 = .ok (.iconst 0, 1) := by decide +kernel
theorem dX12_meets_14 : decode cX12_meets 14 = .ok (.iload 4, 2) := by decide +kernel
theorem dX12_meets_16 : decode cX12_meets 16 = .ok (.iconst 1, 1) := by decide +kernel
theorem dX12_meets_17 : decode cX12_meets 17 = .ok (.isub, 1) := by decide +kernel
theorem dX12_meets_18 : decode cX12_meets 18 = .ok (.invokevirtual 121, 3) := by decide +kernel
theorem dX12_meets_21 : decode cX12_meets 21 = .ok (.ifCond .eq 27, 3) := by decide +kernel
theorem dX12_meets_24 : decode cX12_meets 24 = .ok (.aload_n 0, 1) := by decide +kernel
theorem dX12_meets_25 : decode cX12_meets 25 = .ok (.iload_n 2, 1) := by decide +kernel
theorem dX12_meets_26 : decode cX12_meets 26 = .ok (.iconst 1, 1) := by decide +kernel
theorem dX12_meets_27 : decode cX12_meets 27 = .ok (.sipush 999, 3) := by decide +kernel
theorem dX12_meets_30 : decode cX12_meets 30 = .ok (.invokevirtual 121, 3) := by decide +kernel
theorem dX12_meets_33 : decode cX12_meets 33 = .ok (.ifCond .eq 15, 3) := by decide +kernel
theorem dX12_meets_36 : decode cX12_meets 36 = .ok (.aload_n 0, 1) := by decide +kernel
theorem dX12_meets_37 : decode cX12_meets 37 = .ok (.iload_n 3, 1) := by decide +kernel
theorem dX12_meets_38 : decode cX12_meets 38 = .ok (.iconst 0, 1) := by decide +kernel
theorem dX12_meets_39 : decode cX12_meets 39 = .ok (.iload_n 2, 1) := by decide +kernel
theorem dX12_meets_40 : decode cX12_meets 40 = .ok (.iconst 1, 1) := by decide +kernel
theorem dX12_meets_41 : decode cX12_meets 41 = .ok (.isub, 1) := by decide +kernel
theorem dX12_meets_42 : decode cX12_meets 42 = .ok (.invokevirtual 121, 3) := by decide +kernel
theorem dX12_meets_45 : decode cX12_meets 45 = .ok (.ifCond .ne 5, 3) := by decide +kernel
theorem dX12_meets_48 : decode cX12_meets 48 = .ok (.iconst (-1), 1) := by decide +kernel
theorem dX12_meets_49 : decode cX12_meets 49 = .ok (.ireturn, 1) := by decide +kernel
theorem dX12_meets_50 : decode cX12_meets 50 = .ok (.iload_n 1, 1) := by decide +kernel
theorem dX12_meets_51 : decode cX12_meets 51 = .ok (.aload_n 0, 1) := by decide +kernel
theorem dX12_meets_52 : decode cX12_meets 52 = .ok (.invokevirtual 423, 3) := by decide +kernel
theorem dX12_meets_55 : decode cX12_meets 55 = .ok (.isub, 1) := by decide +kernel
theorem dX12_meets_56 : decode cX12_meets 56 = .ok (.iload 4, 2) := by decide +kernel
theorem dX12_meets_58 : decode cX12_meets 58 = .ok (.iadd, 1) := by decide +kernel
theorem dX12_meets_59 : decode cX12_meets 59 = .ok (.iload 4, 2) := by decide +kernel
theorem dX12_meets_61 : decode cX12_meets 61 = .ok (.irem, 1) := by decide +kernel
theorem dX12_meets_62 : decode cX12_meets 62 = .ok (.istore 5, 2) := by decide +kernel
theorem dX12_meets_64 : decode cX12_meets 64 = .ok (.iconst 0, 1) := by decide +kernel
theorem dX12_meets_65 : decode cX12_meets 65 = .ok (.istore 6, 2) := by decide +kernel
theorem dX12_meets_67 : decode cX12_meets 67 = .ok (.iload 6, 2) := by decide +kernel
theorem dX12_meets_69 : decode cX12_meets 69 = .ok (.iload_n 2, 1) := by decide +kernel
theorem dX12_meets_70 : decode cX12_meets 70 = .ok (.if_icmp .ge 27, 3) := by decide +kernel
theorem dX12_meets_73 : decode cX12_meets 73 = .ok (.iload 5, 2) := by decide +kernel
theorem dX12_meets_75 : decode cX12_meets 75 = .ok (.iload_n 2, 1) := by decide +kernel
theorem dX12_meets_76 : decode cX12_meets 76 = .ok (.irem, 1) := by decide +kernel
theorem dX12_meets_77 : decode cX12_meets 77 = .ok (.iload_n 3, 1) := by decide +kernel
theorem dX12_meets_78 : decode cX12_meets 78 = .ok (.if_icmp .ne 6, 3) := by decide +kernel
theorem dX12_meets_81 : decode cX12_meets 81 = .ok (.iload 5, 2) := by decide +kernel
theorem dX12_meets_83 : decode cX12_meets 83 = .ok (.ireturn, 1) := by decide +kernel
theorem dX12_meets_84 : decode cX12_meets 84 = .ok (.iload 5, 2) := by decide +kernel
theorem dX12_meets_86 : decode cX12_meets 86 = .ok (.iload 4, 2) := by decide +kernel
theorem dX12_meets_88 : decode cX12_meets 88 = .ok (.iadd, 1) := by decide +kernel
theorem dX12_meets_89 : decode cX12_meets 89 = .ok (.istore 5, 2) := by decide +kernel
theorem dX12_meets_91 : decode cX12_meets 91 = .ok (.iinc 6 1, 3) := by decide +kernel
theorem dX12_meets_94 : decode cX12_meets 94 = .ok (.goto (-27), 3) := by decide +kernel
theorem dX12_meets_97 : decode cX12_meets 97 = .ok (.iconst (-1), 1) := by decide +kernel
theorem dX12_meets_98 : decode cX12_meets 98 = .ok (.ireturn, 1) := by decide +kernel
theorem dX12_sees_0 : decode cX12_sees 0 = .ok (.aload_n 0, 1) := by decide +kernel
theorem dX12_sees_1 : decode cX12_sees 1 = .ok (.iconst 0, 1) := by decide +kernel
theorem dX12_sees_2 : decode cX12_sees 2 = .ok (.putfield 99, 3) := by decide +kernel
theorem dX12_sees_5 : decode cX12_sees 5 = .ok (.aload_n 0, 1) := by decide +kernel
theorem dX12_sees_6 : decode cX12_sees 6 = .ok (.iload_n 1, 1) := by decide +kernel
theorem dX12_sees_7 : decode cX12_sees 7 = .ok (.iconst 0, 1) := by decide +kernel
theorem dX12_sees_8 : decode cX12_sees 8 = .ok (.aload_n 0, 1) := by decide +kernel
theorem dX12_sees_9 : decode cX12_sees 9 = .ok (.getfield 267, 3) := by decide +kernel
theorem dX12_sees_12 : decode cX12_sees 12 = .ok (.iconst 1, 1) := by decide +kernel
theorem dX12_sees_13 : decode cX12_sees 13 = .ok (.isub, 1) := by decide +kernel
theorem dX12_sees_14 : decode cX12_sees 14 = .ok (.invokevirtual 121, 3) := by decide +kernel
theorem dX12_sees_17 : decode cX12_sees 17 = .ok (.ifCond .eq 24, 3) := by decide +kernel
theorem dX12_sees_20 : decode cX12_sees 20 = .ok (.aload_n 0, 1) := by decide +kernel
theorem dX12_sees_21 : decode cX12_sees 21 = .ok (.iload_n 2, 1) := by decide +kernel
theorem dX12_sees_22 : decode cX12_sees 22 = .ok (.iconst 1, 1) := by decide +kernel
theorem dX12_sees_23 : decode cX12_sees 23 = .ok (.bipush 9, 2) := by decide +kernel
theorem dX12_sees_25 : decode cX12_sees 25 = .ok (.invokevirtual 121, 3) := by decide +kernel
theorem dX12_sees_28 : decode cX12_sees 28 = .ok (.ifCond .eq 13, 3) := by decide +kernel
theorem dX12_sees_31 : decode cX12_sees 31 = .ok (.aload_n 0, 1) := by decide +kernel
theorem dX12_sees_32 : decode cX12_sees 32 = .ok (.iload_n 3, 1) := by decide +kernel
theorem dX12_sees_33 : decode cX12_sees 33 = .ok (.iconst 0, 1) := by decide +kernel
theorem dX12_sees_34 : decode cX12_sees 34 = .ok (.iconst 1, 1) := by decide +kernel
theorem dX12_sees_35 : decode cX12_sees 35 = .ok (.invokevirtual 121, 3) := by decide +kernel
theorem dX12_sees_38 : decode cX12_sees 38 = .ok (.ifCond .ne 5, 3) := by decide +kernel
theorem dX12_sees_41 : decode cX12_sees 41 = .ok (.iconst (-1), 1) := by decide +kernel
theorem dX12_sees_42 : decode cX12_sees 42 = .ok (.ireturn, 1) := by decide +kernel
theorem dX12_sees_43 : decode cX12_sees 43 = .ok (.aload_n 0, 1) := by decide +kernel
theorem dX12_sees_44 : decode cX12_sees 44 = .ok (.invokevirtual 420, 3) := by decide +kernel
theorem dX12_sees_47 : decode cX12_sees 47 = .ok (.istore 4, 2) := by decide +kernel
theorem dX12_sees_49 : decode cX12_sees 49 = .ok (.iconst (-1), 1) := by decide +kernel
theorem dX12_sees_50 : decode cX12_sees 50 = .ok (.istore 5, 2) := by decide +kernel
theorem dX12_sees_52 : decode cX12_sees 52 = .ok (.ldc_w 398, 3) := by decide +kernel
theorem dX12_sees_55 : decode cX12_sees 55 = .ok (.istore 6, 2) := by decide +kernel
theorem dX12_sees_57 : decode cX12_sees 57 = .ok (.iconst 0, 1) := by decide +kernel
theorem dX12_sees_58 : decode cX12_sees 58 = .ok (.istore 7, 2) := by decide +kernel
theorem dX12_sees_60 : decode cX12_sees 60 = .ok (.iload 7, 2) := by decide +kernel
theorem dX12_sees_62 : decode cX12_sees 62 = .ok (.aload_n 0, 1) := by decide +kernel
theorem dX12_sees_63 : decode cX12_sees 63 = .ok (.getfield 267, 3) := by decide +kernel
theorem dX12_sees_66 : decode cX12_sees 66 = .ok (.if_icmp .ge 90, 3) := by decide +kernel
theorem dX12_sees_69 : decode cX12_sees 69 = .ok (.aload_n 0, 1) := by decide +kernel
theorem dX12_sees_70 : decode cX12_sees 70 = .ok (.iload 7, 2) := by decide +kernel
theorem dX12_sees_72 : decode cX12_sees 72 = .ok (.invokevirtual 417, 3) := by decide +kernel
theorem dX12_sees_75 : decode cX12_sees 75 = .ok (.aload_n 0, 1) := by decide +kernel
theorem dX12_sees_76 : decode cX12_sees 76 = .ok (.invokevirtual 423, 3) := by decide +kernel
theorem dX12_sees_79 : decode cX12_sees 79 = .ok (.isub, 1) := by decide +kernel
theorem dX12_sees_80 : decode cX12_sees 80 = .ok (.iload 4, 2) := by decide +kernel
theorem dX12_sees_82 : decode cX12_sees 82 = .ok (.iadd, 1) := by decide +kernel
theorem dX12_sees_83 : decode cX12_sees 83 = .ok (.iload 4, 2) := by decide +kernel
theorem dX12_sees_85 : decode cX12_sees 85 = .ok (.irem, 1) := by decide +kernel
theorem dX12_sees_86 : decode cX12_sees 86 = .ok (.istore 8, 2) := by decide +kernel
theorem dX12_sees_88 : decode cX12_sees 88 = .ok (.aload_n 0, 1) := by decide +kernel
theorem dX12_sees_89 : decode cX12_sees 89 = .ok (.iload 7, 2) := by decide +kernel
theorem dX12_sees_91 : decode cX12_sees 91 = .ok (.invokevirtual 417, 3) := by decide +kernel
theorem dX12_sees_94 : decode cX12_sees 94 = .ok (.aload_n 0, 1) := by decide +kernel
theorem dX12_sees_95 : decode cX12_sees 95 = .ok (.iload_n 1, 1) := by decide +kernel
theorem dX12_sees_96 : decode cX12_sees 96 = .ok (.invokevirtual 417, 3) := by decide +kernel
theorem dX12_sees_99 : decode cX12_sees 99 = .ok (.isub, 1) := by decide +kernel
theorem dX12_sees_100 : decode cX12_sees 100 = .ok (.iload 4, 2) := by decide +kernel
theorem dX12_sees_102 : decode cX12_sees 102 = .ok (.iadd, 1) := by decide +kernel
theorem dX12_sees_103 : decode cX12_sees 103 = .ok (.iload 4, 2) := by decide +kernel
theorem dX12_sees_105 : decode cX12_sees 105 = .ok (.irem, 1) := by decide +kernel
theorem dX12_sees_106 : decode cX12_sees 106 = .ok (.istore 9, 2) := by decide +kernel
theorem dX12_sees_108 : decode cX12_sees 108 = .ok (.iload_n 2, 1) := by decide +kernel
theorem dX12_sees_109 : decode cX12_sees 109 = .ok (.aload_n 0, 1) := by decide +kernel
theorem dX12_sees_110 : decode cX12_sees 110 = .ok (.iload 9, 2) := by decide +kernel
theorem dX12_sees_112 : decode cX12_sees 112 = .ok (.iload 4, 2) := by decide +kernel
theorem dX12_sees_114 : decode cX12_sees 114 = .ok (.iload 9, 2) := by decide +kernel
theorem dX12_sees_116 : decode cX12_sees 116 = .ok (.isub, 1) := by decide +kernel
theorem dX12_sees_117 : decode cX12_sees 117 = .ok (.invokevirtual 341, 3) := by decide +kernel
theorem dX12_sees_120 : decode cX12_sees 120 = .ok (.imul, 1) := by decide +kernel
theorem dX12_sees_121 : decode cX12_sees 121 = .ok (.iload 8, 2) := by decide +kernel
theorem dX12_sees_123 : decode cX12_sees 123 = .ok (.if_icmp .le 9, 3) := by decide +kernel
theorem dX12_sees_126 : decode cX12_sees 126 = .ok (.iload 7, 2) := by decide +kernel
theorem dX12_sees_128 : decode cX12_sees 128 = .ok (.iload_n 1, 1) := by decide +kernel
theorem dX12_sees_129 : decode cX12_sees 129 = .ok (.if_icmp .ne 21, 3) := by decide +kernel
theorem dX12_sees_132 : decode cX12_sees 132 = .ok (.iload 8, 2) := by decide +kernel
theorem dX12_sees_134 : decode cX12_sees 134 = .ok (.iload 6, 2) := by decide +kernel
theorem dX12_sees_136 : decode cX12_sees 136 = .ok (.if_icmp .lt 6, 3) := by decide +kernel
theorem dX12_sees_139 : decode cX12_sees 139 = .ok (.goto 11, 3) := by decide +kernel
theorem dX12_sees_142 : decode cX12_sees 142 = .ok (.iload 7, 2) := by decide +kernel
theorem dX12_sees_144 : decode cX12_sees 144 = .ok (.istore 5, 2) := by decide +kernel
theorem dX12_sees_146 : decode cX12_sees 146 = .ok (.iload 8, 2) := by decide +kernel
theorem dX12_sees_148 : decode cX12_sees 148 = .ok (.istore 6, 2) := by decide +kernel
theorem dX12_sees_150 : decode cX12_sees 150 = .ok (.iinc 7 1, 3) := by decide +kernel
theorem dX12_sees_153 : decode cX12_sees 153 = .ok (.goto (-93), 3) := by decide +kernel
theorem dX12_sees_156 : decode cX12_sees 156 = .ok (.iload_n 3, 1) := by decide +kernel
theorem dX12_sees_157 : decode cX12_sees 157 = .ok (.ifCond .ne 8, 3) := by decide +kernel
theorem dX12_sees_160 : decode cX12_sees 160 = .ok (.iload 5, 2) := by decide +kernel
theorem dX12_sees_162 : decode cX12_sees 162 = .ok (.goto 5, 3) := by decide +kernel
theorem dX12_sees_165 : decode cX12_sees 165 = .ok (.iload 6, 2) := by decide +kernel
theorem dX12_sees_167 : decode cX12_sees 167 = .ok (.ireturn, 1) := by decide +kernel
theorem dX12_feetBy_0 : decode cX12_feetBy 0 = .ok (.iconst 0, 1) := by decide +kernel
theorem dX12_feetBy_1 : decode cX12_feetBy 1 = .ok (.istore 4, 2) := by decide +kernel
theorem dX12_feetBy_3 : decode cX12_feetBy 3 = .ok (.iload 4, 2) := by decide +kernel
theorem dX12_feetBy_5 : decode cX12_feetBy 5 = .ok (.iload_n 2, 1) := by decide +kernel
theorem dX12_feetBy_6 : decode cX12_feetBy 6 = .ok (.if_icmp .ge 139, 3) := by decide +kernel
theorem dX12_feetBy_9 : decode cX12_feetBy 9 = .ok (.iload_n 3, 1) := by decide +kernel
theorem dX12_feetBy_10 : decode cX12_feetBy 10 = .ok (.iload 4, 2) := by decide +kernel
theorem dX12_feetBy_12 : decode cX12_feetBy 12 = .ok (.ishr, 1) := by decide +kernel
theorem dX12_feetBy_13 : decode cX12_feetBy 13 = .ok (.iconst 1, 1) := by decide +kernel
theorem dX12_feetBy_14 : decode cX12_feetBy 14 = .ok (.iand, 1) := by decide +kernel
theorem dX12_feetBy_15 : decode cX12_feetBy 15 = .ok (.iconst 1, 1) := by decide +kernel
theorem dX12_feetBy_16 : decode cX12_feetBy 16 = .ok (.if_icmp .ne 7, 3) := by decide +kernel
theorem dX12_feetBy_19 : decode cX12_feetBy 19 = .ok (.iconst 1, 1) := by decide +kernel
theorem dX12_feetBy_20 : decode cX12_feetBy 20 = .ok (.goto 4, 3) := by decide +kernel
theorem dX12_feetBy_23 : decode cX12_feetBy 23 = .ok (.iconst 0, 1) := by decide +kernel
theorem dX12_feetBy_24 : decode cX12_feetBy 24 = .ok (.istore 5, 2) := by decide +kernel
theorem dX12_feetBy_26 : decode cX12_feetBy 26 = .ok (.iload 5, 2) := by decide +kernel
theorem dX12_feetBy_28 : decode cX12_feetBy 28 = .ok (.ifCond .eq 25, 3) := by decide +kernel
theorem dX12_feetBy_31 : decode cX12_feetBy 31 = .ok (.aload_n 0, 1) := by decide +kernel
theorem dX12_feetBy_32 : decode cX12_feetBy 32 = .ok (.getfield 7, 3) := by decide +kernel
theorem dX12_feetBy_35 : decode cX12_feetBy 35 = .ok (.bipush 10, 2) := by decide +kernel
theorem dX12_feetBy_37 : decode cX12_feetBy 37 = .ok (.iload_n 1, 1) := by decide +kernel
theorem dX12_feetBy_38 : decode cX12_feetBy 38 = .ok (.iadd, 1) := by decide +kernel
theorem dX12_feetBy_39 : decode cX12_feetBy 39 = .ok (.iaload, 1) := by decide +kernel
theorem dX12_feetBy_40 : decode cX12_feetBy 40 = .ok (.aload_n 0, 1) := by decide +kernel
theorem dX12_feetBy_41 : decode cX12_feetBy 41 = .ok (.iload_n 1, 1) := by decide +kernel
theorem dX12_feetBy_42 : decode cX12_feetBy 42 = .ok (.aload_n 0, 1) := by decide +kernel
theorem dX12_feetBy_43 : decode cX12_feetBy 43 = .ok (.invokevirtual 304, 3) := by decide +kernel
theorem dX12_feetBy_46 : decode cX12_feetBy 46 = .ok (.invokevirtual 332, 3) := by decide +kernel
theorem dX12_feetBy_49 : decode cX12_feetBy 49 = .ok (.iadd, 1) := by decide +kernel
theorem dX12_feetBy_50 : decode cX12_feetBy 50 = .ok (.goto 18, 3) := by decide +kernel
theorem dX12_feetBy_53 : decode cX12_feetBy 53 = .ok (.aload_n 0, 1) := by decide +kernel
theorem dX12_feetBy_54 : decode cX12_feetBy 54 = .ok (.getfield 7, 3) := by decide +kernel
theorem dX12_feetBy_57 : decode cX12_feetBy 57 = .ok (.bipush 10, 2) := by decide +kernel
theorem dX12_feetBy_59 : decode cX12_feetBy 59 = .ok (.iload_n 1, 1) := by decide +kernel
theorem dX12_feetBy_60 : decode cX12_feetBy 60 = .ok (.iadd, 1) := by decide +kernel
theorem dX12_feetBy_61 : decode cX12_feetBy 61 = .ok (.iaload, 1) := by decide +kernel
theorem dX12_feetBy_62 : decode cX12_feetBy 62 = .ok (.aload_n 0, 1) := by decide +kernel
theorem dX12_feetBy_63 : decode cX12_feetBy 63 = .ok (.iload_n 1, 1) := by decide +kernel
theorem dX12_feetBy_64 : decode cX12_feetBy 64 = .ok (.invokevirtual 335, 3) := by decide +kernel
theorem dX12_feetBy_67 : decode cX12_feetBy 67 = .ok (.isub, 1) := by decide +kernel
theorem dX12_feetBy_68 : decode cX12_feetBy 68 = .ok (.istore 6, 2) := by decide +kernel
theorem dX12_feetBy_70 : decode cX12_feetBy 70 = .ok (.aload_n 0, 1) := by decide +kernel
theorem dX12_feetBy_71 : decode cX12_feetBy 71 = .ok (.getfield 7, 3) := by decide +kernel
theorem dX12_feetBy_74 : decode cX12_feetBy 74 = .ok (.bipush 10, 2) := by decide +kernel
theorem dX12_feetBy_76 : decode cX12_feetBy 76 = .ok (.iload_n 1, 1) := by decide +kernel
theorem dX12_feetBy_77 : decode cX12_feetBy 77 = .ok (.iadd, 1) := by decide +kernel
theorem dX12_feetBy_78 : decode cX12_feetBy 78 = .ok (.aload_n 0, 1) := by decide +kernel
theorem dX12_feetBy_79 : decode cX12_feetBy 79 = .ok (.iload 6, 2) := by decide +kernel
theorem dX12_feetBy_81 : decode cX12_feetBy 81 = .ok (.iconst 0, 1) := by decide +kernel
theorem dX12_feetBy_82 : decode cX12_feetBy 82 = .ok (.sipush 999, 3) := by decide +kernel
theorem dX12_feetBy_85 : decode cX12_feetBy 85 = .ok (.invokevirtual 319, 3) := by decide +kernel
theorem dX12_feetBy_88 : decode cX12_feetBy 88 = .ok (.iastore, 1) := by decide +kernel
theorem dX12_feetBy_89 : decode cX12_feetBy 89 = .ok (.aload_n 0, 1) := by decide +kernel
theorem dX12_feetBy_90 : decode cX12_feetBy 90 = .ok (.getfield 7, 3) := by decide +kernel
theorem dX12_feetBy_93 : decode cX12_feetBy 93 = .ok (.bipush 20, 2) := by decide +kernel
theorem dX12_feetBy_95 : decode cX12_feetBy 95 = .ok (.iload_n 1, 1) := by decide +kernel
theorem dX12_feetBy_96 : decode cX12_feetBy 96 = .ok (.iadd, 1) := by decide +kernel
theorem dX12_feetBy_97 : decode cX12_feetBy 97 = .ok (.iload 5, 2) := by decide +kernel
theorem dX12_feetBy_99 : decode cX12_feetBy 99 = .ok (.ifCond .eq 24, 3) := by decide +kernel
theorem dX12_feetBy_102 : decode cX12_feetBy 102 = .ok (.aload_n 0, 1) := by decide +kernel
theorem dX12_feetBy_103 : decode cX12_feetBy 103 = .ok (.sipush 999, 3) := by decide +kernel
theorem dX12_feetBy_106 : decode cX12_feetBy 106 = .ok (.aload_n 0, 1) := by decide +kernel
theorem dX12_feetBy_107 : decode cX12_feetBy 107 = .ok (.getfield 7, 3) := by decide +kernel
theorem dX12_feetBy_110 : decode cX12_feetBy 110 = .ok (.bipush 20, 2) := by decide +kernel
theorem dX12_feetBy_112 : decode cX12_feetBy 112 = .ok (.iload_n 1, 1) := by decide +kernel
theorem dX12_feetBy_113 : decode cX12_feetBy 113 = .ok (.iadd, 1) := by decide +kernel
theorem dX12_feetBy_114 : decode cX12_feetBy 114 = .ok (.iaload, 1) := by decide +kernel
theorem dX12_feetBy_115 : decode cX12_feetBy 115 = .ok (.iconst 1, 1) := by decide +kernel
theorem dX12_feetBy_116 : decode cX12_feetBy 116 = .ok (.iadd, 1) := by decide +kernel
theorem dX12_feetBy_117 : decode cX12_feetBy 117 = .ok (.invokevirtual 341, 3) := by decide +kernel
theorem dX12_feetBy_120 : decode cX12_feetBy 120 = .ok (.goto 4, 3) := by decide +kernel
theorem dX12_feetBy_123 : decode cX12_feetBy 123 = .ok (.iconst 0, 1) := by decide +kernel
theorem dX12_feetBy_124 : decode cX12_feetBy 124 = .ok (.iastore, 1) := by decide +kernel
theorem dX12_feetBy_125 : decode cX12_feetBy 125 = .ok (.aload_n 0, 1) := by decide +kernel
theorem dX12_feetBy_126 : decode cX12_feetBy 126 = .ok (.getfield 7, 3) := by decide +kernel
theorem dX12_feetBy_129 : decode cX12_feetBy 129 = .ok (.iconst 0, 1) := by decide +kernel
theorem dX12_feetBy_130 : decode cX12_feetBy 130 = .ok (.aload_n 0, 1) := by decide +kernel
theorem dX12_feetBy_131 : decode cX12_feetBy 131 = .ok (.getfield 7, 3) := by decide +kernel
theorem dX12_feetBy_134 : decode cX12_feetBy 134 = .ok (.iconst 0, 1) := by decide +kernel
theorem dX12_feetBy_135 : decode cX12_feetBy 135 = .ok (.iaload, 1) := by decide +kernel
theorem dX12_feetBy_136 : decode cX12_feetBy 136 = .ok (.iconst 1, 1) := by decide +kernel
theorem dX12_feetBy_137 : decode cX12_feetBy 137 = .ok (.iadd, 1) := by decide +kernel
theorem dX12_feetBy_138 : decode cX12_feetBy 138 = .ok (.iastore, 1) := by decide +kernel
theorem dX12_feetBy_139 : decode cX12_feetBy 139 = .ok (.iinc 4 1, 3) := by decide +kernel
theorem dX12_feetBy_142 : decode cX12_feetBy 142 = .ok (.goto (-139), 3) := by decide +kernel
theorem dX12_feetBy_145 : decode cX12_feetBy 145 = .ok (.aload_n 0, 1) := by decide +kernel
theorem dX12_feetBy_146 : decode cX12_feetBy 146 = .ok (.getfield 7, 3) := by decide +kernel
theorem dX12_feetBy_149 : decode cX12_feetBy 149 = .ok (.bipush 10, 2) := by decide +kernel
theorem dX12_feetBy_151 : decode cX12_feetBy 151 = .ok (.iload_n 1, 1) := by decide +kernel
theorem dX12_feetBy_152 : decode cX12_feetBy 152 = .ok (.iadd, 1) := by decide +kernel
theorem dX12_feetBy_153 : decode cX12_feetBy 153 = .ok (.iaload, 1) := by decide +kernel
theorem dX12_feetBy_154 : decode cX12_feetBy 154 = .ok (.istore 4, 2) := by decide +kernel
theorem dX12_feetBy_156 : decode cX12_feetBy 156 = .ok (.aload_n 0, 1) := by decide +kernel
theorem dX12_feetBy_157 : decode cX12_feetBy 157 = .ok (.invokevirtual 109, 3) := by decide +kernel
theorem dX12_feetBy_160 : decode cX12_feetBy 160 = .ok (.iload 4, 2) := by decide +kernel
theorem dX12_feetBy_162 : decode cX12_feetBy 162 = .ok (.ireturn, 1) := by decide +kernel
theorem dX12_rowOf_0 : decode cX12_rowOf 0 = .ok (.iconst 0, 1) := by decide +kernel
theorem dX12_rowOf_1 : decode cX12_rowOf 1 = .ok (.istore_n 3, 1) := by decide +kernel
theorem dX12_rowOf_2 : decode cX12_rowOf 2 = .ok (.iconst 0, 1) := by decide +kernel
theorem dX12_rowOf_3 : decode cX12_rowOf 3 = .ok (.istore 4, 2) := by decide +kernel
theorem dX12_rowOf_5 : decode cX12_rowOf 5 = .ok (.iload 4, 2) := by decide +kernel
theorem dX12_rowOf_7 : decode cX12_rowOf 7 = .ok (.iload_n 2, 1) := by decide +kernel
theorem dX12_rowOf_8 : decode cX12_rowOf 8 = .ok (.if_icmp .ge 30, 3) := by decide +kernel
theorem dX12_rowOf_11 : decode cX12_rowOf 11 = .ok (.iload_n 1, 1) := by decide +kernel
theorem dX12_rowOf_12 : decode cX12_rowOf 12 = .ok (.iload_n 2, 1) := by decide +kernel
theorem dX12_rowOf_13 : decode cX12_rowOf 13 = .ok (.iconst 1, 1) := by decide +kernel
theorem dX12_rowOf_14 : decode cX12_rowOf 14 = .ok (.isub, 1) := by decide +kernel
theorem dX12_rowOf_15 : decode cX12_rowOf 15 = .ok (.iload 4, 2) := by decide +kernel
theorem dX12_rowOf_17 : decode cX12_rowOf 17 = .ok (.isub, 1) := by decide +kernel
theorem dX12_rowOf_18 : decode cX12_rowOf 18 = .ok (.ishr, 1) := by decide +kernel
theorem dX12_rowOf_19 : decode cX12_rowOf 19 = .ok (.iconst 1, 1) := by decide +kernel
theorem dX12_rowOf_20 : decode cX12_rowOf 20 = .ok (.iand, 1) := by decide +kernel
theorem dX12_rowOf_21 : decode cX12_rowOf 21 = .ok (.iconst 1, 1) := by decide +kernel
theorem dX12_rowOf_22 : decode cX12_rowOf 22 = .ok (.if_icmp .ne 10, 3) := by decide +kernel
theorem dX12_rowOf_25 : decode cX12_rowOf 25 = .ok (.iload_n 3, 1) := by decide +kernel
theorem dX12_rowOf_26 : decode cX12_rowOf 26 = .ok (.iconst 1, 1) := by decide +kernel
theorem dX12_rowOf_27 : decode cX12_rowOf 27 = .ok (.iload 4, 2) := by decide +kernel
theorem dX12_rowOf_29 : decode cX12_rowOf 29 = .ok (.ishl, 1) := by decide +kernel
theorem dX12_rowOf_30 : decode cX12_rowOf 30 = .ok (.ior, 1) := by decide +kernel
theorem dX12_rowOf_31 : decode cX12_rowOf 31 = .ok (.istore_n 3, 1) := by decide +kernel
theorem dX12_rowOf_32 : decode cX12_rowOf 32 = .ok (.iinc 4 1, 3) := by decide +kernel
theorem dX12_rowOf_35 : decode cX12_rowOf 35 = .ok (.goto (-30), 3) := by decide +kernel
theorem dX12_rowOf_38 : decode cX12_rowOf 38 = .ok (.iload_n 3, 1) := by decide +kernel
theorem dX12_rowOf_39 : decode cX12_rowOf 39 = .ok (.ireturn, 1) := by decide +kernel
theorem dX12_fits_0 : decode cX12_fits 0 = .ok (.aload_n 0, 1) := by decide +kernel
theorem dX12_fits_1 : decode cX12_fits 1 = .ok (.iconst 0, 1) := by decide +kernel
theorem dX12_fits_2 : decode cX12_fits 2 = .ok (.putfield 99, 3) := by decide +kernel
theorem dX12_fits_5 : decode cX12_fits 5 = .ok (.aload_n 0, 1) := by decide +kernel
theorem dX12_fits_6 : decode cX12_fits 6 = .ok (.iload_n 1, 1) := by decide +kernel
theorem dX12_fits_7 : decode cX12_fits 7 = .ok (.invokevirtual 129, 3) := by decide +kernel
theorem dX12_fits_10 : decode cX12_fits 10 = .ok (.ifCond .eq 37, 3) := by decide +kernel
theorem dX12_fits_13 : decode cX12_fits 13 = .ok (.aload_n 0, 1) := by decide +kernel
theorem dX12_fits_14 : decode cX12_fits 14 = .ok (.iload_n 2, 1) := by decide +kernel
theorem dX12_fits_15 : decode cX12_fits 15 = .ok (.iconst 1, 1) := by decide +kernel
theorem dX12_fits_16 : decode cX12_fits 16 = .ok (.bipush 10, 2) := by decide +kernel
theorem dX12_fits_18 : decode cX12_fits 18 = .ok (.invokevirtual 121, 3) := by decide +kernel
theorem dX12_fits_21 : decode cX12_fits 21 = .ok (.ifCond .eq 26, 3) := by decide +kernel
theorem dX12_fits_24 : decode cX12_fits 24 = .ok (.aload_n 0, 1) := by decide +kernel
theorem dX12_fits_25 : decode cX12_fits 25 = .ok (.iload_n 3, 1) := by decide +kernel
theorem dX12_fits_26 : decode cX12_fits 26 = .ok (.iconst 0, 1) := by decide +kernel
theorem dX12_fits_27 : decode cX12_fits 27 = .ok (.sipush 999, 3) := by decide +kernel
theorem dX12_fits_30 : decode cX12_fits 30 = .ok (.invokevirtual 121, 3) := by decide +kernel
theorem dX12_fits_33 : decode cX12_fits 33 = .ok (.ifCond .eq 14, 3) := by decide +kernel
theorem dX12_fits_36 : decode cX12_fits 36 = .ok (.aload_n 0, 1) := by decide +kernel
theorem dX12_fits_37 : decode cX12_fits 37 = .ok (.iload 4, 2) := by decide +kernel
theorem dX12_fits_39 : decode cX12_fits 39 = .ok (.iconst 0, 1) := by decide +kernel
theorem dX12_fits_40 : decode cX12_fits 40 = .ok (.iconst 1, 1) := by decide +kernel
theorem dX12_fits_41 : decode cX12_fits 41 = .ok (.invokevirtual 121, 3) := by decide +kernel
theorem dX12_fits_44 : decode cX12_fits 44 = .ok (.ifCond .ne 5, 3) := by decide +kernel
theorem dX12_fits_47 : decode cX12_fits 47 = .ok (.iconst (-1), 1) := by decide +kernel
theorem dX12_fits_48 : decode cX12_fits 48 = .ok (.ireturn, 1) := by decide +kernel
theorem dX12_fits_49 : decode cX12_fits 49 = .ok (.iconst 0, 1) := by decide +kernel
theorem dX12_fits_50 : decode cX12_fits 50 = .ok (.istore 5, 2) := by decide +kernel
theorem dX12_fits_52 : decode cX12_fits 52 = .ok (.iconst (-1), 1) := by decide +kernel
theorem dX12_fits_53 : decode cX12_fits 53 = .ok (.istore 6, 2) := by decide +kernel
theorem dX12_fits_55 : decode cX12_fits 55 = .ok (.aload_n 0, 1) := by decide +kernel
theorem dX12_fits_56 : decode cX12_fits 56 = .ok (.invokevirtual 371, 3) := by decide +kernel
theorem dX12_fits_59 : decode cX12_fits 59 = .ok (.iconst 0, 1) := by decide +kernel
theorem dX12_fits_60 : decode cX12_fits 60 = .ok (.istore 7, 2) := by decide +kernel
theorem dX12_fits_62 : decode cX12_fits 62 = .ok (.iload 7, 2) := by decide +kernel
theorem dX12_fits_64 : decode cX12_fits 64 = .ok (.iconst 1, 1) := by decide +kernel
theorem dX12_fits_65 : decode cX12_fits 65 = .ok (.iload_n 2, 1) := by decide +kernel
theorem dX12_fits_66 : decode cX12_fits 66 = .ok (.ishl, 1) := by decide +kernel
theorem dX12_fits_67 : decode cX12_fits 67 = .ok (.if_icmp .ge 49, 3) := by decide +kernel
theorem dX12_fits_70 : decode cX12_fits 70 = .ok (.aload_n 0, 1) := by decide +kernel
theorem dX12_fits_71 : decode cX12_fits 71 = .ok (.iload_n 1, 1) := by decide +kernel
theorem dX12_fits_72 : decode cX12_fits 72 = .ok (.iload_n 2, 1) := by decide +kernel
theorem dX12_fits_73 : decode cX12_fits 73 = .ok (.aload_n 0, 1) := by decide +kernel
theorem dX12_fits_74 : decode cX12_fits 74 = .ok (.iload 7, 2) := by decide +kernel
theorem dX12_fits_76 : decode cX12_fits 76 = .ok (.iload_n 2, 1) := by decide +kernel
theorem dX12_fits_77 : decode cX12_fits 77 = .ok (.invokevirtual 426, 3) := by decide +kernel
theorem dX12_fits_80 : decode cX12_fits 80 = .ok (.invokevirtual 429, 3) := by decide +kernel
theorem dX12_fits_83 : decode cX12_fits 83 = .ok (.iload_n 3, 1) := by decide +kernel
theorem dX12_fits_84 : decode cX12_fits 84 = .ok (.if_icmp .eq 6, 3) := by decide +kernel
theorem dX12_fits_87 : decode cX12_fits 87 = .ok (.goto 23, 3) := by decide +kernel
theorem dX12_fits_90 : decode cX12_fits 90 = .ok (.iload 5, 2) := by decide +kernel
theorem dX12_fits_92 : decode cX12_fits 92 = .ok (.ifCond .ne 12, 3) := by decide +kernel
theorem dX12_fits_95 : decode cX12_fits 95 = .ok (.aload_n 0, 1) := by decide +kernel
theorem dX12_fits_96 : decode cX12_fits 96 = .ok (.iload 7, 2) := by decide +kernel
theorem dX12_fits_98 : decode cX12_fits 98 = .ok (.iload_n 2, 1) := by decide +kernel
theorem dX12_fits_99 : decode cX12_fits 99 = .ok (.invokevirtual 426, 3) := by decide +kernel
theorem dX12_fits_102 : decode cX12_fits 102 = .ok (.istore 6, 2) := by decide +kernel
theorem dX12_fits_104 : decode cX12_fits 104 = .ok (.iload 5, 2) := by decide +kernel
theorem dX12_fits_106 : decode cX12_fits 106 = .ok (.iconst 1, 1) := by decide +kernel
theorem dX12_fits_107 : decode cX12_fits 107 = .ok (.iadd, 1) := by decide +kernel
theorem dX12_fits_108 : decode cX12_fits 108 = .ok (.istore 5, 2) := by decide +kernel
theorem dX12_fits_110 : decode cX12_fits 110 = .ok (.iinc 7 1, 3) := by decide +kernel
theorem dX12_fits_113 : decode cX12_fits 113 = .ok (.goto (-51), 3) := by decide +kernel
theorem dX12_fits_116 : decode cX12_fits 116 = .ok (.aload_n 0, 1) := by decide +kernel
theorem dX12_fits_117 : decode cX12_fits 117 = .ok (.invokevirtual 374, 3) := by decide +kernel
theorem dX12_fits_120 : decode cX12_fits 120 = .ok (.iload 4, 2) := by decide +kernel
theorem dX12_fits_122 : decode cX12_fits 122 = .ok (.ifCond .ne 8, 3) := by decide +kernel
theorem dX12_fits_125 : decode cX12_fits 125 = .ok (.iload 5, 2) := by decide +kernel
theorem dX12_fits_127 : decode cX12_fits 127 = .ok (.goto 5, 3) := by decide +kernel
theorem dX12_fits_130 : decode cX12_fits 130 = .ok (.iload 6, 2) := by decide +kernel
theorem dX12_fits_132 : decode cX12_fits 132 = .ok (.ireturn, 1) := by decide +kernel
theorem dX12_crossed_0 : decode cX12_crossed 0 = .ok (.aload_n 0, 1) := by decide +kernel
theorem dX12_crossed_1 : decode cX12_crossed 1 = .ok (.iconst 0, 1) := by decide +kernel
theorem dX12_crossed_2 : decode cX12_crossed 2 = .ok (.putfield 99, 3) := by decide +kernel
theorem dX12_crossed_5 : decode cX12_crossed 5 = .ok (.aload_n 0, 1) := by decide +kernel
theorem dX12_crossed_6 : decode cX12_crossed 6 = .ok (.iload_n 1, 1) := by decide +kernel
theorem dX12_crossed_7 : decode cX12_crossed 7 = .ok (.iconst 1, 1) := by decide +kernel
theorem dX12_crossed_8 : decode cX12_crossed 8 = .ok (.bipush 12, 2) := by decide +kernel
theorem dX12_crossed_10 : decode cX12_crossed 10 = .ok (.invokevirtual 121, 3) := by decide +kernel
theorem dX12_crossed_13 : decode cX12_crossed 13 = .ok (.ifCond .eq 14, 3) := by decide +kernel
theorem dX12_crossed_16 : decode cX12_crossed 16 = .ok (.aload_n 0, 1) := by decide +kernel
theorem dX12_crossed_17 : decode cX12_crossed 17 = .ok (.iload_n 2, 1) := by decide +kernel
theorem dX12_crossed_18 : decode cX12_crossed 18 = .ok (.iconst 0, 1) := by decide +kernel
theorem dX12_crossed_19 : decode cX12_crossed 19 = .ok (.bipush 30, 2) := by decide +kernel
theorem dX12_crossed_21 : decode cX12_crossed 21 = .ok (.invokevirtual 121, 3) := by decide +kernel
theorem dX12_crossed_24 : decode cX12_crossed 24 = .ok (.ifCond .ne 5, 3) := by decide +kernel
theorem dX12_crossed_27 : decode cX12_crossed 27 = .ok (.iconst (-1), 1) := by decide +kernel
theorem dX12_crossed_28 : decode cX12_crossed 28 = .ok (.ireturn, 1) := by decide +kernel
theorem dX12_crossed_29 : decode cX12_crossed 29 = .ok (.iconst 0, 1) := by decide +kernel
theorem dX12_crossed_30 : decode cX12_crossed 30 = .ok (.istore_n 3, 1) := by decide +kernel
theorem dX12_crossed_31 : decode cX12_crossed 31 = .ok (.iload_n 3, 1) := by decide +kernel
theorem dX12_crossed_32 : decode cX12_crossed 32 = .ok (.iload_n 1, 1) := by decide +kernel
theorem dX12_crossed_33 : decode cX12_crossed 33 = .ok (.if_icmp .gt 26, 3) := by decide +kernel
theorem dX12_crossed_36 : decode cX12_crossed 36 = .ok (.aload_n 0, 1) := by decide +kernel
theorem dX12_crossed_37 : decode cX12_crossed 37 = .ok (.getfield 90, 3) := by decide +kernel
theorem dX12_crossed_40 : decode cX12_crossed 40 = .ok (.iload_n 3, 1) := by decide +kernel
theorem dX12_crossed_41 : decode cX12_crossed 41 = .ok (.iload_n 3, 1) := by decide +kernel
theorem dX12_crossed_42 : decode cX12_crossed 42 = .ok (.ifCond .ne 9, 3) := by decide +kernel
theorem dX12_crossed_45 : decode cX12_crossed 45 = .ok (.ldc_w 398, 3) := by decide +kernel
theorem dX12_crossed_48 : decode cX12_crossed 48 = .ok (.goto 4, 3) := by decide +kernel
theorem dX12_crossed_51 : decode cX12_crossed 51 = .ok (.iconst 0, 1) := by decide +kernel
theorem dX12_crossed_52 : decode cX12_crossed 52 = .ok (.iastore, 1) := by decide +kernel
theorem dX12_crossed_53 : decode cX12_crossed 53 = .ok (.iinc 3 1, 3) := by decide +kernel
theorem dX12_crossed_56 : decode cX12_crossed 56 = .ok (.goto (-25), 3) := by decide +kernel
theorem dX12_crossed_59 : decode cX12_crossed 59 = .ok (.iconst 0, 1) := by decide +kernel
theorem dX12_crossed_60 : decode cX12_crossed 60 = .ok (.istore_n 3, 1) := by decide +kernel
theorem dX12_crossed_61 : decode cX12_crossed 61 = .ok (.iload_n 3, 1) := by decide +kernel
theorem dX12_crossed_62 : decode cX12_crossed 62 = .ok (.iload_n 2, 1) := by decide +kernel
theorem dX12_crossed_63 : decode cX12_crossed 63 = .ok (.if_icmp .ge 88, 3) := by decide +kernel
theorem dX12_crossed_66 : decode cX12_crossed 66 = .ok (.iload_n 1, 1) := by decide +kernel
theorem dX12_crossed_67 : decode cX12_crossed 67 = .ok (.iconst 1, 1) := by decide +kernel
theorem dX12_crossed_68 : decode cX12_crossed 68 = .ok (.isub, 1) := by decide +kernel
theorem dX12_crossed_69 : decode cX12_crossed 69 = .ok (.istore 4, 2) := by decide +kernel
theorem dX12_crossed_71 : decode cX12_crossed 71 = .ok (.iload 4, 2) := by decide +kernel
theorem dX12_crossed_73 : decode cX12_crossed 73 = .ok (.ifCond .lt 72, 3) := by decide +kernel
theorem dX12_crossed_76 : decode cX12_crossed 76 = .ok (.aload_n 0, 1) := by decide +kernel
theorem dX12_crossed_77 : decode cX12_crossed 77 = .ok (.getfield 90, 3) := by decide +kernel
theorem dX12_crossed_80 : decode cX12_crossed 80 = .ok (.iload 4, 2) := by decide +kernel
theorem dX12_crossed_82 : decode cX12_crossed 82 = .ok (.iaload, 1) := by decide +kernel
theorem dX12_crossed_83 : decode cX12_crossed 83 = .ok (.i2l, 1) := by decide +kernel
theorem dX12_crossed_84 : decode cX12_crossed 84 = .ok (.sipush 1000, 3) := by decide +kernel
theorem dX12_crossed_87 : decode cX12_crossed 87 = .ok (.aload_n 0, 1) := by decide +kernel
theorem dX12_crossed_88 : decode cX12_crossed 88 = .ok (.getfield 135, 3) := by decide +kernel
theorem dX12_crossed_91 : decode cX12_crossed 91 = .ok (.isub, 1) := by decide +kernel
theorem dX12_crossed_92 : decode cX12_crossed 92 = .ok (.i2l, 1) := by decide +kernel
theorem dX12_crossed_93 : decode cX12_crossed 93 = .ok (.lmul, 1) := by decide +kernel
theorem dX12_crossed_94 : decode cX12_crossed 94 = .ok (.ldc2_w 432, 3) := by decide +kernel
theorem dX12_crossed_97 : decode cX12_crossed 97 = .ok (.ldiv, 1) := by decide +kernel
theorem dX12_crossed_98 : decode cX12_crossed 98 = .ok (.l2i, 1) := by decide +kernel
theorem dX12_crossed_99 : decode cX12_crossed 99 = .ok (.istore 5, 2) := by decide +kernel
theorem dX12_crossed_101 : decode cX12_crossed 101 = .ok (.aload_n 0, 1) := by decide +kernel
theorem dX12_crossed_102 : decode cX12_crossed 102 = .ok (.getfield 90, 3) := by decide +kernel
theorem dX12_crossed_105 : decode cX12_crossed 105 = .ok (.iload 4, 2) := by decide +kernel
theorem dX12_crossed_107 : decode cX12_crossed 107 = .ok (.aload_n 0, 1) := by decide +kernel
theorem dX12_crossed_108 : decode cX12_crossed 108 = .ok (.getfield 90, 3) := by decide +kernel
theorem dX12_crossed_111 : decode cX12_crossed 111 = .ok (.iload 4, 2) := by decide +kernel
theorem dX12_crossed_113 : decode cX12_crossed 113 = .ok (.iaload, 1) := by decide +kernel
theorem dX12_crossed_114 : decode cX12_crossed 114 = .ok (.iload 5, 2) := by decide +kernel
theorem dX12_crossed_116 : decode cX12_crossed 116 = .ok (.isub, 1) := by decide +kernel
theorem dX12_crossed_117 : decode cX12_crossed 117 = .ok (.iastore, 1) := by decide +kernel
theorem dX12_crossed_118 : decode cX12_crossed 118 = .ok (.aload_n 0, 1) := by decide +kernel
theorem dX12_crossed_119 : decode cX12_crossed 119 = .ok (.getfield 90, 3) := by decide +kernel
theorem dX12_crossed_122 : decode cX12_crossed 122 = .ok (.iload 4, 2) := by decide +kernel
theorem dX12_crossed_124 : decode cX12_crossed 124 = .ok (.iconst 1, 1) := by decide +kernel
theorem dX12_crossed_125 : decode cX12_crossed 125 = .ok (.iadd, 1) := by decide +kernel
theorem dX12_crossed_126 : decode cX12_crossed 126 = .ok (.aload_n 0, 1) := by decide +kernel
theorem dX12_crossed_127 : decode cX12_crossed 127 = .ok (.getfield 90, 3) := by decide +kernel
theorem dX12_crossed_130 : decode cX12_crossed 130 = .ok (.iload 4, 2) := by decide +kernel
theorem dX12_crossed_132 : decode cX12_crossed 132 = .ok (.iconst 1, 1) := by decide +kernel
theorem dX12_crossed_133 : decode cX12_crossed 133 = .ok (.iadd, 1) := by decide +kernel
theorem dX12_crossed_134 : decode cX12_crossed 134 = .ok (.iaload, 1) := by decide +kernel
theorem dX12_crossed_135 : decode cX12_crossed 135 = .ok (.iload 5, 2) := by decide +kernel
theorem dX12_crossed_137 : decode cX12_crossed 137 = .ok (.iadd, 1) := by decide +kernel
theorem dX12_crossed_138 : decode cX12_crossed 138 = .ok (.iastore, 1) := by decide +kernel
theorem dX12_crossed_139 : decode cX12_crossed 139 = .ok (.iinc 4 (-1), 3) := by decide +kernel
theorem dX12_crossed_142 : decode cX12_crossed 142 = .ok (.goto (-71), 3) := by decide +kernel
theorem dX12_crossed_145 : decode cX12_crossed 145 = .ok (.iinc 3 1, 3) := by decide +kernel
theorem dX12_crossed_148 : decode cX12_crossed 148 = .ok (.goto (-87), 3) := by decide +kernel
theorem dX12_crossed_151 : decode cX12_crossed 151 = .ok (.aload_n 0, 1) := by decide +kernel
theorem dX12_crossed_152 : decode cX12_crossed 152 = .ok (.getfield 90, 3) := by decide +kernel
theorem dX12_crossed_155 : decode cX12_crossed 155 = .ok (.iload_n 1, 1) := by decide +kernel
theorem dX12_crossed_156 : decode cX12_crossed 156 = .ok (.iaload, 1) := by decide +kernel
theorem dX12_crossed_157 : decode cX12_crossed 157 = .ok (.ireturn, 1) := by decide +kernel
theorem dX12_standsBefore_0 : decode cX12_standsBefore 0 = .ok (.aload_n 0, 1) := by decide +kernel
theorem dX12_standsBefore_1 : decode cX12_standsBefore 1 = .ok (.getfield 7, 3) := by decide +kernel
theorem dX12_standsBefore_4 : decode cX12_standsBefore 4 = .ok (.bipush 10, 2) := by decide +kernel
theorem dX12_standsBefore_6 : decode cX12_standsBefore 6 = .ok (.iload_n 1, 1) := by decide +kernel
theorem dX12_standsBefore_7 : decode cX12_standsBefore 7 = .ok (.iadd, 1) := by decide +kernel
theorem dX12_standsBefore_8 : decode cX12_standsBefore 8 = .ok (.iaload, 1) := by decide +kernel
theorem dX12_standsBefore_9 : decode cX12_standsBefore 9 = .ok (.aload_n 0, 1) := by decide +kernel
theorem dX12_standsBefore_10 : decode cX12_standsBefore 10 = .ok (.getfield 7, 3) := by decide +kernel
theorem dX12_standsBefore_13 : decode cX12_standsBefore 13 = .ok (.bipush 10, 2) := by decide +kernel
theorem dX12_standsBefore_15 : decode cX12_standsBefore 15 = .ok (.iload_n 2, 1) := by decide +kernel
theorem dX12_standsBefore_16 : decode cX12_standsBefore 16 = .ok (.iadd, 1) := by decide +kernel
theorem dX12_standsBefore_17 : decode cX12_standsBefore 17 = .ok (.iaload, 1) := by decide +kernel
theorem dX12_standsBefore_18 : decode cX12_standsBefore 18 = .ok (.if_icmp .lt 29, 3) := by decide +kernel
theorem dX12_standsBefore_21 : decode cX12_standsBefore 21 = .ok (.aload_n 0, 1) := by decide +kernel
theorem dX12_standsBefore_22 : decode cX12_standsBefore 22 = .ok (.getfield 7, 3) := by decide +kernel
theorem dX12_standsBefore_25 : decode cX12_standsBefore 25 = .ok (.bipush 10, 2) := by decide +kernel
theorem dX12_standsBefore_27 : decode cX12_standsBefore 27 = .ok (.iload_n 1, 1) := by decide +kernel
theorem dX12_standsBefore_28 : decode cX12_standsBefore 28 = .ok (.iadd, 1) := by decide +kernel
theorem dX12_standsBefore_29 : decode cX12_standsBefore 29 = .ok (.iaload, 1) := by decide +kernel
theorem dX12_standsBefore_30 : decode cX12_standsBefore 30 = .ok (.aload_n 0, 1) := by decide +kernel
theorem dX12_standsBefore_31 : decode cX12_standsBefore 31 = .ok (.getfield 7, 3) := by decide +kernel
theorem dX12_standsBefore_34 : decode cX12_standsBefore 34 = .ok (.bipush 10, 2) := by decide +kernel
theorem dX12_standsBefore_36 : decode cX12_standsBefore 36 = .ok (.iload_n 2, 1) := by decide +kernel
theorem dX12_standsBefore_37 : decode cX12_standsBefore 37 = .ok (.iadd, 1) := by decide +kernel
theorem dX12_standsBefore_38 : decode cX12_standsBefore 38 = .ok (.iaload, 1) := by decide +kernel
theorem dX12_standsBefore_39 : decode cX12_standsBefore 39 = .ok (.if_icmp .ne 12, 3) := by decide +kernel
theorem dX12_standsBefore_42 : decode cX12_standsBefore 42 = .ok (.iload_n 1, 1) := by decide +kernel
theorem dX12_standsBefore_43 : decode cX12_standsBefore 43 = .ok (.iload_n 2, 1) := by decide +kernel
theorem dX12_standsBefore_44 : decode cX12_standsBefore 44 = .ok (.if_icmp .ge 7, 3) := by decide +kernel
theorem dX12_standsBefore_47 : decode cX12_standsBefore 47 = .ok (.iconst 1, 1) := by decide +kernel
theorem dX12_standsBefore_48 : decode cX12_standsBefore 48 = .ok (.goto 4, 3) := by decide +kernel
theorem dX12_standsBefore_51 : decode cX12_standsBefore 51 = .ok (.iconst 0, 1) := by decide +kernel
theorem dX12_standsBefore_52 : decode cX12_standsBefore 52 = .ok (.ireturn, 1) := by decide +kernel
theorem dX12_sorts_0 : decode cX12_sorts 0 = .ok (.iconst 0, 1) := by decide +kernel
theorem dX12_sorts_1 : decode cX12_sorts 1 = .ok (.istore_n 2, 1) := by decide +kernel
theorem dX12_sorts_2 : decode cX12_sorts 2 = .ok (.iconst 0, 1) := by decide +kernel
theorem dX12_sorts_3 : decode cX12_sorts 3 = .ok (.istore_n 3, 1) := by decide +kernel
theorem dX12_sorts_4 : decode cX12_sorts 4 = .ok (.iload_n 3, 1) := by decide +kernel
theorem dX12_sorts_5 : decode cX12_sorts 5 = .ok (.aload_n 0, 1) := by decide +kernel
theorem dX12_sorts_6 : decode cX12_sorts 6 = .ok (.getfield 114, 3) := by decide +kernel
theorem dX12_sorts_9 : decode cX12_sorts 9 = .ok (.if_icmp .ge 92, 3) := by decide +kernel
theorem dX12_sorts_12 : decode cX12_sorts 12 = .ok (.iload_n 1, 1) := by decide +kernel
theorem dX12_sorts_13 : decode cX12_sorts 13 = .ok (.iload_n 3, 1) := by decide +kernel
theorem dX12_sorts_14 : decode cX12_sorts 14 = .ok (.ishr, 1) := by decide +kernel
theorem dX12_sorts_15 : decode cX12_sorts 15 = .ok (.iconst 1, 1) := by decide +kernel
theorem dX12_sorts_16 : decode cX12_sorts 16 = .ok (.iand, 1) := by decide +kernel
theorem dX12_sorts_17 : decode cX12_sorts 17 = .ok (.ifCond .eq 78, 3) := by decide +kernel
theorem dX12_sorts_20 : decode cX12_sorts 20 = .ok (.aload_n 0, 1) := by decide +kernel
theorem dX12_sorts_21 : decode cX12_sorts 21 = .ok (.getfield 19, 3) := by decide +kernel
theorem dX12_sorts_24 : decode cX12_sorts 24 = .ok (.iload_n 3, 1) := by decide +kernel
theorem dX12_sorts_25 : decode cX12_sorts 25 = .ok (.iaload, 1) := by decide +kernel
theorem dX12_sorts_26 : decode cX12_sorts 26 = .ok (.iconst 1, 1) := by decide +kernel
theorem dX12_sorts_27 : decode cX12_sorts 27 = .ok (.if_icmp .ne 6, 3) := by decide +kernel
theorem dX12_sorts_30 : decode cX12_sorts 30 = .ok (.goto 65, 3) := by decide +kernel
theorem dX12_sorts_33 : decode cX12_sorts 33 = .ok (.iload_n 2, 1) := by decide +kernel
theorem dX12_sorts_34 : decode cX12_sorts 34 = .ok (.istore 4, 2) := by decide +kernel
theorem dX12_sorts_36 : decode cX12_sorts 36 = .ok (.iload 4, 2) := by decide +kernel
theorem dX12_sorts_38 : decode cX12_sorts 38 = .ok (.ifCond .le 45, 3) := by decide +kernel
theorem dX12_sorts_41 : decode cX12_sorts 41 = .ok (.aload_n 0, 1) := by decide +kernel
theorem dX12_sorts_42 : decode cX12_sorts 42 = .ok (.iload_n 3, 1) := by decide +kernel
theorem dX12_sorts_43 : decode cX12_sorts 43 = .ok (.aload_n 0, 1) := by decide +kernel
theorem dX12_sorts_44 : decode cX12_sorts 44 = .ok (.getfield 93, 3) := by decide +kernel
theorem dX12_sorts_47 : decode cX12_sorts 47 = .ok (.iload 4, 2) := by decide +kernel
theorem dX12_sorts_49 : decode cX12_sorts 49 = .ok (.iconst 1, 1) := by decide +kernel
theorem dX12_sorts_50 : decode cX12_sorts 50 = .ok (.isub, 1) := by decide +kernel
theorem dX12_sorts_51 : decode cX12_sorts 51 = .ok (.iaload, 1) := by decide +kernel
theorem dX12_sorts_52 : decode cX12_sorts 52 = .ok (.invokevirtual 434, 3) := by decide +kernel
theorem dX12_sorts_55 : decode cX12_sorts 55 = .ok (.ifCond .eq 28, 3) := by decide +kernel
theorem dX12_sorts_58 : decode cX12_sorts 58 = .ok (.aload_n 0, 1) := by decide +kernel
theorem dX12_sorts_59 : decode cX12_sorts 59 = .ok (.getfield 93, 3) := by decide +kernel
theorem dX12_sorts_62 : decode cX12_sorts 62 = .ok (.iload 4, 2) := by decide +kernel
theorem dX12_sorts_64 : decode cX12_sorts 64 = .ok (.aload_n 0, 1) := by decide +kernel
theorem dX12_sorts_65 : decode cX12_sorts 65 = .ok (.getfield 93, 3) := by decide +kernel
theorem dX12_sorts_68 : decode cX12_sorts 68 = .ok (.iload 4, 2) := by decide +kernel
theorem dX12_sorts_70 : decode cX12_sorts 70 = .ok (.iconst 1, 1) := by decide +kernel
theorem dX12_sorts_71 : decode cX12_sorts 71 = .ok (.isub, 1) := by decide +kernel
theorem dX12_sorts_72 : decode cX12_sorts 72 = .ok (.iaload, 1) := by decide +kernel
theorem dX12_sorts_73 : decode cX12_sorts 73 = .ok (.iastore, 1) := by decide +kernel
theorem dX12_sorts_74 : decode cX12_sorts 74 = .ok (.iload 4, 2) := by decide +kernel
theorem dX12_sorts_76 : decode cX12_sorts 76 = .ok (.iconst 1, 1) := by decide +kernel
theorem dX12_sorts_77 : decode cX12_sorts 77 = .ok (.isub, 1) := by decide +kernel
theorem dX12_sorts_78 : decode cX12_sorts 78 = .ok (.istore 4, 2) := by decide +kernel
theorem dX12_sorts_80 : decode cX12_sorts 80 = .ok (.goto (-44), 3) := by decide +kernel
theorem dX12_sorts_83 : decode cX12_sorts 83 = .ok (.aload_n 0, 1) := by decide +kernel
theorem dX12_sorts_84 : decode cX12_sorts 84 = .ok (.getfield 93, 3) := by decide +kernel
theorem dX12_sorts_87 : decode cX12_sorts 87 = .ok (.iload 4, 2) := by decide +kernel
theorem dX12_sorts_89 : decode cX12_sorts 89 = .ok (.iload_n 3, 1) := by decide +kernel
theorem dX12_sorts_90 : decode cX12_sorts 90 = .ok (.iastore, 1) := by decide +kernel
theorem dX12_sorts_91 : decode cX12_sorts 91 = .ok (.iload_n 2, 1) := by decide +kernel
theorem dX12_sorts_92 : decode cX12_sorts 92 = .ok (.iconst 1, 1) := by decide +kernel
theorem dX12_sorts_93 : decode cX12_sorts 93 = .ok (.iadd, 1) := by decide +kernel
theorem dX12_sorts_94 : decode cX12_sorts 94 = .ok (.istore_n 2, 1) := by decide +kernel
theorem dX12_sorts_95 : decode cX12_sorts 95 = .ok (.iinc 3 1, 3) := by decide +kernel
theorem dX12_sorts_98 : decode cX12_sorts 98 = .ok (.goto (-94), 3) := by decide +kernel
theorem dX12_sorts_101 : decode cX12_sorts 101 = .ok (.iload_n 2, 1) := by decide +kernel
theorem dX12_sorts_102 : decode cX12_sorts 102 = .ok (.ireturn, 1) := by decide +kernel
theorem dX12_line_0 : decode cX12_line 0 = .ok (.aload_n 0, 1) := by decide +kernel
theorem dX12_line_1 : decode cX12_line 1 = .ok (.iconst 0, 1) := by decide +kernel
theorem dX12_line_2 : decode cX12_line 2 = .ok (.putfield 99, 3) := by decide +kernel
theorem dX12_line_5 : decode cX12_line 5 = .ok (.aload_n 0, 1) := by decide +kernel
theorem dX12_line_6 : decode cX12_line 6 = .ok (.invokevirtual 347, 3) := by decide +kernel
