theorem dX12_line_9 : decode cX12_line 9 = .ok (.istore_n 2, 1) := by decide +kernel
theorem dX12_line_10 : decode cX12_line 10 = .ok (.aload_n 0, 1) := by decide +kernel
theorem dX12_line_11 : decode cX12_line 11 = .ok (.iload_n 2, 1) := by decide +kernel
theorem dX12_line_12 : decode cX12_line 12 = .ok (.invokevirtual 350, 3) := by decide +kernel
theorem dX12_line_15 : decode cX12_line 15 = .ok (.istore_n 3, 1) := by decide +kernel
theorem dX12_line_16 : decode cX12_line 16 = .ok (.aload_n 0, 1) := by decide +kernel
theorem dX12_line_17 : decode cX12_line 17 = .ok (.iload_n 1, 1) := by decide +kernel
theorem dX12_line_18 : decode cX12_line 18 = .ok (.iconst 0, 1) := by decide +kernel
theorem dX12_line_19 : decode cX12_line 19 = .ok (.iload_n 3, 1) := by decide +kernel
theorem dX12_line_20 : decode cX12_line 20 = .ok (.iconst 1, 1) := by decide +kernel
theorem dX12_line_21 : decode cX12_line 21 = .ok (.isub, 1) := by decide +kernel
theorem dX12_line_22 : decode cX12_line 22 = .ok (.invokevirtual 121, 3) := by decide +kernel
theorem dX12_line_25 : decode cX12_line 25 = .ok (.ifCond .ne 5, 3) := by decide +kernel
theorem dX12_line_28 : decode cX12_line 28 = .ok (.iconst (-1), 1) := by decide +kernel
theorem dX12_line_29 : decode cX12_line 29 = .ok (.ireturn, 1) := by decide +kernel
theorem dX12_line_30 : decode cX12_line 30 = .ok (.aload_n 0, 1) := by decide +kernel
theorem dX12_line_31 : decode cX12_line 31 = .ok (.iload_n 2, 1) := by decide +kernel
theorem dX12_line_32 : decode cX12_line 32 = .ok (.invokevirtual 437, 3) := by decide +kernel
theorem dX12_line_35 : decode cX12_line 35 = .ok (.istore 4, 2) := by decide +kernel
theorem dX12_line_37 : decode cX12_line 37 = .ok (.iload 4, 2) := by decide +kernel
theorem dX12_line_39 : decode cX12_line 39 = .ok (.iconst 1, 1) := by decide +kernel
theorem dX12_line_40 : decode cX12_line 40 = .ok (.iadd, 1) := by decide +kernel
theorem dX12_line_41 : decode cX12_line 41 = .ok (.iconst 2, 1) := by decide +kernel
theorem dX12_line_42 : decode cX12_line 42 = .ok (.idiv, 1) := by decide +kernel
theorem dX12_line_43 : decode cX12_line 43 = .ok (.istore 5, 2) := by decide +kernel
theorem dX12_line_45 : decode cX12_line 45 = .ok (.iload_n 3, 1) := by decide +kernel
theorem dX12_line_46 : decode cX12_line 46 = .ok (.iload 4, 2) := by decide +kernel
theorem dX12_line_48 : decode cX12_line 48 = .ok (.isub, 1) := by decide +kernel
theorem dX12_line_49 : decode cX12_line 49 = .ok (.istore 6, 2) := by decide +kernel
theorem dX12_line_51 : decode cX12_line 51 = .ok (.iload_n 1, 1) := by decide +kernel
theorem dX12_line_52 : decode cX12_line 52 = .ok (.iload 5, 2) := by decide +kernel
theorem dX12_line_54 : decode cX12_line 54 = .ok (.if_icmp .ge 10, 3) := by decide +kernel
theorem dX12_line_57 : decode cX12_line 57 = .ok (.aload_n 0, 1) := by decide +kernel
theorem dX12_line_58 : decode cX12_line 58 = .ok (.getfield 93, 3) := by decide +kernel
theorem dX12_line_61 : decode cX12_line 61 = .ok (.iload_n 1, 1) := by decide +kernel
theorem dX12_line_62 : decode cX12_line 62 = .ok (.iaload, 1) := by decide +kernel
theorem dX12_line_63 : decode cX12_line 63 = .ok (.ireturn, 1) := by decide +kernel
theorem dX12_line_64 : decode cX12_line 64 = .ok (.iload_n 1, 1) := by decide +kernel
theorem dX12_line_65 : decode cX12_line 65 = .ok (.iload 5, 2) := by decide +kernel
theorem dX12_line_67 : decode cX12_line 67 = .ok (.iload 6, 2) := by decide +kernel
theorem dX12_line_69 : decode cX12_line 69 = .ok (.iadd, 1) := by decide +kernel
theorem dX12_line_70 : decode cX12_line 70 = .ok (.if_icmp .lt 13, 3) := by decide +kernel
theorem dX12_line_73 : decode cX12_line 73 = .ok (.aload_n 0, 1) := by decide +kernel
theorem dX12_line_74 : decode cX12_line 74 = .ok (.getfield 93, 3) := by decide +kernel
theorem dX12_line_77 : decode cX12_line 77 = .ok (.iload_n 1, 1) := by decide +kernel
theorem dX12_line_78 : decode cX12_line 78 = .ok (.iload 6, 2) := by decide +kernel
theorem dX12_line_80 : decode cX12_line 80 = .ok (.isub, 1) := by decide +kernel
theorem dX12_line_81 : decode cX12_line 81 = .ok (.iaload, 1) := by decide +kernel
theorem dX12_line_82 : decode cX12_line 82 = .ok (.ireturn, 1) := by decide +kernel
theorem dX12_line_83 : decode cX12_line 83 = .ok (.iload 5, 2) := by decide +kernel
theorem dX12_line_85 : decode cX12_line 85 = .ok (.istore 7, 2) := by decide +kernel
theorem dX12_line_87 : decode cX12_line 87 = .ok (.iconst 0, 1) := by decide +kernel
theorem dX12_line_88 : decode cX12_line 88 = .ok (.istore 8, 2) := by decide +kernel
theorem dX12_line_90 : decode cX12_line 90 = .ok (.iload_n 2, 1) := by decide +kernel
theorem dX12_line_91 : decode cX12_line 91 = .ok (.iload 8, 2) := by decide +kernel
theorem dX12_line_93 : decode cX12_line 93 = .ok (.ishr, 1) := by decide +kernel
theorem dX12_line_94 : decode cX12_line 94 = .ok (.iconst 1, 1) := by decide +kernel
theorem dX12_line_95 : decode cX12_line 95 = .ok (.iand, 1) := by decide +kernel
theorem dX12_line_96 : decode cX12_line 96 = .ok (.ifCond .eq 19, 3) := by decide +kernel
theorem dX12_line_99 : decode cX12_line 99 = .ok (.aload_n 0, 1) := by decide +kernel
theorem dX12_line_100 : decode cX12_line 100 = .ok (.getfield 19, 3) := by decide +kernel
theorem dX12_line_103 : decode cX12_line 103 = .ok (.iload 8, 2) := by decide +kernel
theorem dX12_line_105 : decode cX12_line 105 = .ok (.iaload, 1) := by decide +kernel
theorem dX12_line_106 : decode cX12_line 106 = .ok (.ifCond .eq 9, 3) := by decide +kernel
theorem dX12_line_109 : decode cX12_line 109 = .ok (.iload 7, 2) := by decide +kernel
theorem dX12_line_111 : decode cX12_line 111 = .ok (.iload_n 1, 1) := by decide +kernel
theorem dX12_line_112 : decode cX12_line 112 = .ok (.if_icmp .ge 39, 3) := by decide +kernel
theorem dX12_line_115 : decode cX12_line 115 = .ok (.iload_n 2, 1) := by decide +kernel
theorem dX12_line_116 : decode cX12_line 116 = .ok (.iload 8, 2) := by decide +kernel
theorem dX12_line_118 : decode cX12_line 118 = .ok (.ishr, 1) := by decide +kernel
theorem dX12_line_119 : decode cX12_line 119 = .ok (.iconst 1, 1) := by decide +kernel
theorem dX12_line_120 : decode cX12_line 120 = .ok (.iand, 1) := by decide +kernel
theorem dX12_line_121 : decode cX12_line 121 = .ok (.iconst 1, 1) := by decide +kernel
theorem dX12_line_122 : decode cX12_line 122 = .ok (.if_icmp .ne 20, 3) := by decide +kernel
theorem dX12_line_125 : decode cX12_line 125 = .ok (.aload_n 0, 1) := by decide +kernel
theorem dX12_line_126 : decode cX12_line 126 = .ok (.getfield 19, 3) := by decide +kernel
theorem dX12_line_129 : decode cX12_line 129 = .ok (.iload 8, 2) := by decide +kernel
theorem dX12_line_131 : decode cX12_line 131 = .ok (.iaload, 1) := by decide +kernel
theorem dX12_line_132 : decode cX12_line 132 = .ok (.iconst 1, 1) := by decide +kernel
theorem dX12_line_133 : decode cX12_line 133 = .ok (.if_icmp .ne 9, 3) := by decide +kernel
theorem dX12_line_136 : decode cX12_line 136 = .ok (.iload 7, 2) := by decide +kernel
theorem dX12_line_138 : decode cX12_line 138 = .ok (.iconst 1, 1) := by decide +kernel
theorem dX12_line_139 : decode cX12_line 139 = .ok (.iadd, 1) := by decide +kernel
theorem dX12_line_140 : decode cX12_line 140 = .ok (.istore 7, 2) := by decide +kernel
theorem dX12_line_142 : decode cX12_line 142 = .ok (.iload 8, 2) := by decide +kernel
theorem dX12_line_144 : decode cX12_line 144 = .ok (.iconst 1, 1) := by decide +kernel
theorem dX12_line_145 : decode cX12_line 145 = .ok (.iadd, 1) := by decide +kernel
theorem dX12_line_146 : decode cX12_line 146 = .ok (.istore 8, 2) := by decide +kernel
theorem dX12_line_148 : decode cX12_line 148 = .ok (.goto (-58), 3) := by decide +kernel
theorem dX12_line_151 : decode cX12_line 151 = .ok (.iload 8, 2) := by decide +kernel
theorem dX12_line_153 : decode cX12_line 153 = .ok (.ireturn, 1) := by decide +kernel
theorem dX12_manyOf_0 : decode cX12_manyOf 0 = .ok (.iconst 0, 1) := by decide +kernel
theorem dX12_manyOf_1 : decode cX12_manyOf 1 = .ok (.istore_n 2, 1) := by decide +kernel
theorem dX12_manyOf_2 : decode cX12_manyOf 2 = .ok (.iconst 0, 1) := by decide +kernel
theorem dX12_manyOf_3 : decode cX12_manyOf 3 = .ok (.istore_n 3, 1) := by decide +kernel
theorem dX12_manyOf_4 : decode cX12_manyOf 4 = .ok (.iload_n 3, 1) := by decide +kernel
theorem dX12_manyOf_5 : decode cX12_manyOf 5 = .ok (.aload_n 0, 1) := by decide +kernel
theorem dX12_manyOf_6 : decode cX12_manyOf 6 = .ok (.getfield 114, 3) := by decide +kernel
theorem dX12_manyOf_9 : decode cX12_manyOf 9 = .ok (.if_icmp .ge 26, 3) := by decide +kernel
theorem dX12_manyOf_12 : decode cX12_manyOf 12 = .ok (.aload_n 0, 1) := by decide +kernel
theorem dX12_manyOf_13 : decode cX12_manyOf 13 = .ok (.getfield 7, 3) := by decide +kernel
theorem dX12_manyOf_16 : decode cX12_manyOf 16 = .ok (.bipush 30, 2) := by decide +kernel
theorem dX12_manyOf_18 : decode cX12_manyOf 18 = .ok (.iload_n 3, 1) := by decide +kernel
theorem dX12_manyOf_19 : decode cX12_manyOf 19 = .ok (.iadd, 1) := by decide +kernel
theorem dX12_manyOf_20 : decode cX12_manyOf 20 = .ok (.iaload, 1) := by decide +kernel
theorem dX12_manyOf_21 : decode cX12_manyOf 21 = .ok (.iload_n 1, 1) := by decide +kernel
theorem dX12_manyOf_22 : decode cX12_manyOf 22 = .ok (.if_icmp .ne 7, 3) := by decide +kernel
theorem dX12_manyOf_25 : decode cX12_manyOf 25 = .ok (.iload_n 2, 1) := by decide +kernel
theorem dX12_manyOf_26 : decode cX12_manyOf 26 = .ok (.iconst 1, 1) := by decide +kernel
theorem dX12_manyOf_27 : decode cX12_manyOf 27 = .ok (.iadd, 1) := by decide +kernel
theorem dX12_manyOf_28 : decode cX12_manyOf 28 = .ok (.istore_n 2, 1) := by decide +kernel
theorem dX12_manyOf_29 : decode cX12_manyOf 29 = .ok (.iinc 3 1, 3) := by decide +kernel
theorem dX12_manyOf_32 : decode cX12_manyOf 32 = .ok (.goto (-28), 3) := by decide +kernel
theorem dX12_manyOf_35 : decode cX12_manyOf 35 = .ok (.iload_n 2, 1) := by decide +kernel
theorem dX12_manyOf_36 : decode cX12_manyOf 36 = .ok (.ireturn, 1) := by decide +kernel
theorem dX12_isAhead_0 : decode cX12_isAhead 0 = .ok (.iload_n 3, 1) := by decide +kernel
theorem dX12_isAhead_1 : decode cX12_isAhead 1 = .ok (.aload_n 0, 1) := by decide +kernel
theorem dX12_isAhead_2 : decode cX12_isAhead 2 = .ok (.iload_n 1, 1) := by decide +kernel
theorem dX12_isAhead_3 : decode cX12_isAhead 3 = .ok (.invokevirtual 440, 3) := by decide +kernel
theorem dX12_isAhead_6 : decode cX12_isAhead 6 = .ok (.imul, 1) := by decide +kernel
theorem dX12_isAhead_7 : decode cX12_isAhead 7 = .ok (.aload_n 0, 1) := by decide +kernel
theorem dX12_isAhead_8 : decode cX12_isAhead 8 = .ok (.getfield 114, 3) := by decide +kernel
theorem dX12_isAhead_11 : decode cX12_isAhead 11 = .ok (.irem, 1) := by decide +kernel
theorem dX12_isAhead_12 : decode cX12_isAhead 12 = .ok (.istore 4, 2) := by decide +kernel
theorem dX12_isAhead_14 : decode cX12_isAhead 14 = .ok (.iload_n 3, 1) := by decide +kernel
theorem dX12_isAhead_15 : decode cX12_isAhead 15 = .ok (.aload_n 0, 1) := by decide +kernel
theorem dX12_isAhead_16 : decode cX12_isAhead 16 = .ok (.iload_n 2, 1) := by decide +kernel
theorem dX12_isAhead_17 : decode cX12_isAhead 17 = .ok (.invokevirtual 440, 3) := by decide +kernel
theorem dX12_isAhead_20 : decode cX12_isAhead 20 = .ok (.imul, 1) := by decide +kernel
theorem dX12_isAhead_21 : decode cX12_isAhead 21 = .ok (.aload_n 0, 1) := by decide +kernel
theorem dX12_isAhead_22 : decode cX12_isAhead 22 = .ok (.getfield 114, 3) := by decide +kernel
theorem dX12_isAhead_25 : decode cX12_isAhead 25 = .ok (.irem, 1) := by decide +kernel
theorem dX12_isAhead_26 : decode cX12_isAhead 26 = .ok (.istore 5, 2) := by decide +kernel
theorem dX12_isAhead_28 : decode cX12_isAhead 28 = .ok (.iload 4, 2) := by decide +kernel
theorem dX12_isAhead_30 : decode cX12_isAhead 30 = .ok (.iload 5, 2) := by decide +kernel
theorem dX12_isAhead_32 : decode cX12_isAhead 32 = .ok (.if_icmp .gt 15, 3) := by decide +kernel
theorem dX12_isAhead_35 : decode cX12_isAhead 35 = .ok (.iload 4, 2) := by decide +kernel
theorem dX12_isAhead_37 : decode cX12_isAhead 37 = .ok (.iload 5, 2) := by decide +kernel
theorem dX12_isAhead_39 : decode cX12_isAhead 39 = .ok (.if_icmp .ne 12, 3) := by decide +kernel
theorem dX12_isAhead_42 : decode cX12_isAhead 42 = .ok (.iload_n 1, 1) := by decide +kernel
theorem dX12_isAhead_43 : decode cX12_isAhead 43 = .ok (.iload_n 2, 1) := by decide +kernel
theorem dX12_isAhead_44 : decode cX12_isAhead 44 = .ok (.if_icmp .ge 7, 3) := by decide +kernel
theorem dX12_isAhead_47 : decode cX12_isAhead 47 = .ok (.iconst 1, 1) := by decide +kernel
theorem dX12_isAhead_48 : decode cX12_isAhead 48 = .ok (.goto 4, 3) := by decide +kernel
theorem dX12_isAhead_51 : decode cX12_isAhead 51 = .ok (.iconst 0, 1) := by decide +kernel
theorem dX12_isAhead_52 : decode cX12_isAhead 52 = .ok (.ireturn, 1) := by decide +kernel
theorem dX12_owes_0 : decode cX12_owes 0 = .ok (.aload_n 0, 1) := by decide +kernel
theorem dX12_owes_1 : decode cX12_owes 1 = .ok (.iconst 0, 1) := by decide +kernel
theorem dX12_owes_2 : decode cX12_owes 2 = .ok (.putfield 99, 3) := by decide +kernel
theorem dX12_owes_5 : decode cX12_owes 5 = .ok (.aload_n 0, 1) := by decide +kernel
theorem dX12_owes_6 : decode cX12_owes 6 = .ok (.iload_n 1, 1) := by decide +kernel
theorem dX12_owes_7 : decode cX12_owes 7 = .ok (.invokevirtual 117, 3) := by decide +kernel
theorem dX12_owes_10 : decode cX12_owes 10 = .ok (.ifCond .eq 15, 3) := by decide +kernel
theorem dX12_owes_13 : decode cX12_owes 13 = .ok (.aload_n 0, 1) := by decide +kernel
theorem dX12_owes_14 : decode cX12_owes 14 = .ok (.iload_n 2, 1) := by decide +kernel
theorem dX12_owes_15 : decode cX12_owes 15 = .ok (.iconst 0, 1) := by decide +kernel
theorem dX12_owes_16 : decode cX12_owes 16 = .ok (.ldc_w 443, 3) := by decide +kernel
theorem dX12_owes_19 : decode cX12_owes 19 = .ok (.invokevirtual 121, 3) := by decide +kernel
theorem dX12_owes_22 : decode cX12_owes 22 = .ok (.ifCond .ne 5, 3) := by decide +kernel
theorem dX12_owes_25 : decode cX12_owes 25 = .ok (.iconst (-1), 1) := by decide +kernel
theorem dX12_owes_26 : decode cX12_owes 26 = .ok (.ireturn, 1) := by decide +kernel
theorem dX12_owes_27 : decode cX12_owes 27 = .ok (.aload_n 0, 1) := by decide +kernel
theorem dX12_owes_28 : decode cX12_owes 28 = .ok (.getfield 114, 3) := by decide +kernel
theorem dX12_owes_31 : decode cX12_owes 31 = .ok (.ifCond .ne 5, 3) := by decide +kernel
theorem dX12_owes_34 : decode cX12_owes 34 = .ok (.iconst 0, 1) := by decide +kernel
theorem dX12_owes_35 : decode cX12_owes 35 = .ok (.ireturn, 1) := by decide +kernel
theorem dX12_owes_36 : decode cX12_owes 36 = .ok (.iload_n 2, 1) := by decide +kernel
theorem dX12_owes_37 : decode cX12_owes 37 = .ok (.istore_n 3, 1) := by decide +kernel
theorem dX12_owes_38 : decode cX12_owes 38 = .ok (.iconst 0, 1) := by decide +kernel
theorem dX12_owes_39 : decode cX12_owes 39 = .ok (.istore 4, 2) := by decide +kernel
theorem dX12_owes_41 : decode cX12_owes 41 = .ok (.iconst 0, 1) := by decide +kernel
theorem dX12_owes_42 : decode cX12_owes 42 = .ok (.istore 5, 2) := by decide +kernel
theorem dX12_owes_44 : decode cX12_owes 44 = .ok (.iload 5, 2) := by decide +kernel
theorem dX12_owes_46 : decode cX12_owes 46 = .ok (.bipush 8, 2) := by decide +kernel
theorem dX12_owes_48 : decode cX12_owes 48 = .ok (.if_icmp .ge 48, 3) := by decide +kernel
theorem dX12_owes_51 : decode cX12_owes 51 = .ok (.iload_n 3, 1) := by decide +kernel
theorem dX12_owes_52 : decode cX12_owes 52 = .ok (.iload_n 2, 1) := by decide +kernel
theorem dX12_owes_53 : decode cX12_owes 53 = .ok (.aload_n 0, 1) := by decide +kernel
theorem dX12_owes_54 : decode cX12_owes 54 = .ok (.iload 5, 2) := by decide +kernel
theorem dX12_owes_56 : decode cX12_owes 56 = .ok (.invokevirtual 440, 3) := by decide +kernel
theorem dX12_owes_59 : decode cX12_owes 59 = .ok (.imul, 1) := by decide +kernel
theorem dX12_owes_60 : decode cX12_owes 60 = .ok (.aload_n 0, 1) := by decide +kernel
theorem dX12_owes_61 : decode cX12_owes 61 = .ok (.getfield 114, 3) := by decide +kernel
theorem dX12_owes_64 : decode cX12_owes 64 = .ok (.idiv, 1) := by decide +kernel
theorem dX12_owes_65 : decode cX12_owes 65 = .ok (.isub, 1) := by decide +kernel
theorem dX12_owes_66 : decode cX12_owes 66 = .ok (.istore_n 3, 1) := by decide +kernel
theorem dX12_owes_67 : decode cX12_owes 67 = .ok (.iload 5, 2) := by decide +kernel
theorem dX12_owes_69 : decode cX12_owes 69 = .ok (.iload_n 1, 1) := by decide +kernel
theorem dX12_owes_70 : decode cX12_owes 70 = .ok (.if_icmp .eq 20, 3) := by decide +kernel
theorem dX12_owes_73 : decode cX12_owes 73 = .ok (.aload_n 0, 1) := by decide +kernel
theorem dX12_owes_74 : decode cX12_owes 74 = .ok (.iload 5, 2) := by decide +kernel
theorem dX12_owes_76 : decode cX12_owes 76 = .ok (.iload_n 1, 1) := by decide +kernel
theorem dX12_owes_77 : decode cX12_owes 77 = .ok (.iload_n 2, 1) := by decide +kernel
theorem dX12_owes_78 : decode cX12_owes 78 = .ok (.invokevirtual 444, 3) := by decide +kernel
theorem dX12_owes_81 : decode cX12_owes 81 = .ok (.ifCond .eq 9, 3) := by decide +kernel
theorem dX12_owes_84 : decode cX12_owes 84 = .ok (.iload 4, 2) := by decide +kernel
theorem dX12_owes_86 : decode cX12_owes 86 = .ok (.iconst 1, 1) := by decide +kernel
theorem dX12_owes_87 : decode cX12_owes 87 = .ok (.iadd, 1) := by decide +kernel
theorem dX12_owes_88 : decode cX12_owes 88 = .ok (.istore 4, 2) := by decide +kernel
theorem dX12_owes_90 : decode cX12_owes 90 = .ok (.iinc 5 1, 3) := by decide +kernel
theorem dX12_owes_93 : decode cX12_owes 93 = .ok (.goto (-49), 3) := by decide +kernel
theorem dX12_owes_96 : decode cX12_owes 96 = .ok (.iload_n 2, 1) := by decide +kernel
theorem dX12_owes_97 : decode cX12_owes 97 = .ok (.aload_n 0, 1) := by decide +kernel
theorem dX12_owes_98 : decode cX12_owes 98 = .ok (.iload_n 1, 1) := by decide +kernel
theorem dX12_owes_99 : decode cX12_owes 99 = .ok (.invokevirtual 440, 3) := by decide +kernel
theorem dX12_owes_102 : decode cX12_owes 102 = .ok (.imul, 1) := by decide +kernel
theorem dX12_owes_103 : decode cX12_owes 103 = .ok (.aload_n 0, 1) := by decide +kernel
theorem dX12_owes_104 : decode cX12_owes 104 = .ok (.getfield 114, 3) := by decide +kernel
theorem dX12_owes_107 : decode cX12_owes 107 = .ok (.idiv, 1) := by decide +kernel
theorem dX12_owes_108 : decode cX12_owes 108 = .ok (.iload 4, 2) := by decide +kernel
theorem dX12_owes_110 : decode cX12_owes 110 = .ok (.iload_n 3, 1) := by decide +kernel
theorem dX12_owes_111 : decode cX12_owes 111 = .ok (.if_icmp .ge 7, 3) := by decide +kernel
theorem dX12_owes_114 : decode cX12_owes 114 = .ok (.iconst 1, 1) := by decide +kernel
theorem dX12_owes_115 : decode cX12_owes 115 = .ok (.goto 4, 3) := by decide +kernel
theorem dX12_owes_118 : decode cX12_owes 118 = .ok (.iconst 0, 1) := by decide +kernel
theorem dX12_owes_119 : decode cX12_owes 119 = .ok (.iadd, 1) := by decide +kernel
theorem dX12_owes_120 : decode cX12_owes 120 = .ok (.ireturn, 1) := by decide +kernel
theorem dX12_asks_0 : decode cX12_asks 0 = .ok (.aload_n 0, 1) := by decide +kernel
theorem dX12_asks_1 : decode cX12_asks 1 = .ok (.iconst 0, 1) := by decide +kernel
theorem dX12_asks_2 : decode cX12_asks 2 = .ok (.putfield 99, 3) := by decide +kernel
theorem dX12_asks_5 : decode cX12_asks 5 = .ok (.aload_n 0, 1) := by decide +kernel
theorem dX12_asks_6 : decode cX12_asks 6 = .ok (.iload_n 1, 1) := by decide +kernel
theorem dX12_asks_7 : decode cX12_asks 7 = .ok (.iconst 0, 1) := by decide +kernel
theorem dX12_asks_8 : decode cX12_asks 8 = .ok (.bipush 23, 2) := by decide +kernel
theorem dX12_asks_10 : decode cX12_asks 10 = .ok (.invokevirtual 121, 3) := by decide +kernel
theorem dX12_asks_13 : decode cX12_asks 13 = .ok (.ifCond .ne 5, 3) := by decide +kernel
theorem dX12_asks_16 : decode cX12_asks 16 = .ok (.iconst (-1), 1) := by decide +kernel
theorem dX12_asks_17 : decode cX12_asks 17 = .ok (.ireturn, 1) := by decide +kernel
theorem dX12_asks_18 : decode cX12_asks 18 = .ok (.iconst (-1), 1) := by decide +kernel
theorem dX12_asks_19 : decode cX12_asks 19 = .ok (.istore_n 2, 1) := by decide +kernel
theorem dX12_asks_20 : decode cX12_asks 20 = .ok (.iconst 0, 1) := by decide +kernel
theorem dX12_asks_21 : decode cX12_asks 21 = .ok (.istore_n 3, 1) := by decide +kernel
theorem dX12_asks_22 : decode cX12_asks 22 = .ok (.iload_n 3, 1) := by decide +kernel
theorem dX12_asks_23 : decode cX12_asks 23 = .ok (.aload_n 0, 1) := by decide +kernel
theorem dX12_asks_24 : decode cX12_asks 24 = .ok (.getfield 114, 3) := by decide +kernel
theorem dX12_asks_27 : decode cX12_asks 27 = .ok (.if_icmp .ge 43, 3) := by decide +kernel
theorem dX12_asks_30 : decode cX12_asks 30 = .ok (.aload_n 0, 1) := by decide +kernel
theorem dX12_asks_31 : decode cX12_asks 31 = .ok (.iload_n 1, 1) := by decide +kernel
theorem dX12_asks_32 : decode cX12_asks 32 = .ok (.invokevirtual 313, 3) := by decide +kernel
theorem dX12_asks_35 : decode cX12_asks 35 = .ok (.iload_n 3, 1) := by decide +kernel
theorem dX12_asks_36 : decode cX12_asks 36 = .ok (.ishr, 1) := by decide +kernel
theorem dX12_asks_37 : decode cX12_asks 37 = .ok (.iconst 1, 1) := by decide +kernel
theorem dX12_asks_38 : decode cX12_asks 38 = .ok (.iand, 1) := by decide +kernel
theorem dX12_asks_39 : decode cX12_asks 39 = .ok (.ifCond .ne 25, 3) := by decide +kernel
theorem dX12_asks_42 : decode cX12_asks 42 = .ok (.iload_n 2, 1) := by decide +kernel
theorem dX12_asks_43 : decode cX12_asks 43 = .ok (.iconst (-1), 1) := by decide +kernel
theorem dX12_asks_44 : decode cX12_asks 44 = .ok (.if_icmp .eq 18, 3) := by decide +kernel
theorem dX12_asks_47 : decode cX12_asks 47 = .ok (.aload_n 0, 1) := by decide +kernel
theorem dX12_asks_48 : decode cX12_asks 48 = .ok (.iload_n 3, 1) := by decide +kernel
theorem dX12_asks_49 : decode cX12_asks 49 = .ok (.iload_n 1, 1) := by decide +kernel
theorem dX12_asks_50 : decode cX12_asks 50 = .ok (.invokevirtual 332, 3) := by decide +kernel
theorem dX12_asks_53 : decode cX12_asks 53 = .ok (.aload_n 0, 1) := by decide +kernel
theorem dX12_asks_54 : decode cX12_asks 54 = .ok (.iload_n 2, 1) := by decide +kernel
theorem dX12_asks_55 : decode cX12_asks 55 = .ok (.iload_n 1, 1) := by decide +kernel
theorem dX12_asks_56 : decode cX12_asks 56 = .ok (.invokevirtual 332, 3) := by decide +kernel
theorem dX12_asks_59 : decode cX12_asks 59 = .ok (.if_icmp .ge 5, 3) := by decide +kernel
theorem dX12_asks_62 : decode cX12_asks 62 = .ok (.iload_n 3, 1) := by decide +kernel
theorem dX12_asks_63 : decode cX12_asks 63 = .ok (.istore_n 2, 1) := by decide +kernel
theorem dX12_asks_64 : decode cX12_asks 64 = .ok (.iinc 3 1, 3) := by decide +kernel
theorem dX12_asks_67 : decode cX12_asks 67 = .ok (.goto (-45), 3) := by decide +kernel
theorem dX12_asks_70 : decode cX12_asks 70 = .ok (.iload_n 2, 1) := by decide +kernel
theorem dX12_asks_71 : decode cX12_asks 71 = .ok (.ireturn, 1) := by decide +kernel
theorem dX12_keeps_0 : decode cX12_keeps 0 = .ok (.aload_n 0, 1) := by decide +kernel
theorem dX12_keeps_1 : decode cX12_keeps 1 = .ok (.aload_n 0, 1) := by decide +kernel
theorem dX12_keeps_2 : decode cX12_keeps 2 = .ok (.getfield 447, 3) := by decide +kernel
theorem dX12_keeps_5 : decode cX12_keeps 5 = .ok (.iconst 1, 1) := by decide +kernel
theorem dX12_keeps_6 : decode cX12_keeps 6 = .ok (.iadd, 1) := by decide +kernel
theorem dX12_keeps_7 : decode cX12_keeps 7 = .ok (.putfield 447, 3) := by decide +kernel
theorem dX12_keeps_10 : decode cX12_keeps 10 = .ok (.aload_n 0, 1) := by decide +kernel
theorem dX12_keeps_11 : decode cX12_keeps 11 = .ok (.getfield 450, 3) := by decide +kernel
theorem dX12_keeps_14 : decode cX12_keeps 14 = .ok (.ifCond .ne 15, 3) := by decide +kernel
theorem dX12_keeps_17 : decode cX12_keeps 17 = .ok (.aload_n 0, 1) := by decide +kernel
theorem dX12_keeps_18 : decode cX12_keeps 18 = .ok (.getfield 96, 3) := by decide +kernel
theorem dX12_keeps_21 : decode cX12_keeps 21 = .ok (.aload_n 0, 1) := by decide +kernel
theorem dX12_keeps_22 : decode cX12_keeps 22 = .ok (.getfield 447, 3) := by decide +kernel
theorem dX12_keeps_25 : decode cX12_keeps 25 = .ok (.iconst 1, 1) := by decide +kernel
theorem dX12_keeps_26 : decode cX12_keeps 26 = .ok (.isub, 1) := by decide +kernel
theorem dX12_keeps_27 : decode cX12_keeps 27 = .ok (.iaload, 1) := by decide +kernel
theorem dX12_keeps_28 : decode cX12_keeps 28 = .ok (.ireturn, 1) := by decide +kernel
theorem dX12_keeps_29 : decode cX12_keeps 29 = .ok (.aload_n 0, 1) := by decide +kernel
theorem dX12_keeps_30 : decode cX12_keeps 30 = .ok (.getfield 96, 3) := by decide +kernel
theorem dX12_keeps_33 : decode cX12_keeps 33 = .ok (.aload_n 0, 1) := by decide +kernel
theorem dX12_keeps_34 : decode cX12_keeps 34 = .ok (.getfield 447, 3) := by decide +kernel
theorem dX12_keeps_37 : decode cX12_keeps 37 = .ok (.iconst 1, 1) := by decide +kernel
theorem dX12_keeps_38 : decode cX12_keeps 38 = .ok (.isub, 1) := by decide +kernel
theorem dX12_keeps_39 : decode cX12_keeps 39 = .ok (.iload_n 1, 1) := by decide +kernel
theorem dX12_keeps_40 : decode cX12_keeps 40 = .ok (.iastore, 1) := by decide +kernel
theorem dX12_keeps_41 : decode cX12_keeps 41 = .ok (.iload_n 1, 1) := by decide +kernel
theorem dX12_keeps_42 : decode cX12_keeps 42 = .ok (.ireturn, 1) := by decide +kernel
theorem dX12_keepsLaw_0 : decode cX12_keepsLaw 0 = .ok (.aload_n 0, 1) := by decide +kernel
theorem dX12_keepsLaw_1 : decode cX12_keepsLaw 1 = .ok (.getfield 34, 3) := by decide +kernel
theorem dX12_keepsLaw_4 : decode cX12_keepsLaw 4 = .ok (.iload_n 1, 1) := by decide +kernel
theorem dX12_keepsLaw_5 : decode cX12_keepsLaw 5 = .ok (.aload_n 0, 1) := by decide +kernel
theorem dX12_keepsLaw_6 : decode cX12_keepsLaw 6 = .ok (.aload_n 0, 1) := by decide +kernel
theorem dX12_keepsLaw_7 : decode cX12_keepsLaw 7 = .ok (.getfield 34, 3) := by decide +kernel
theorem dX12_keepsLaw_10 : decode cX12_keepsLaw 10 = .ok (.iload_n 1, 1) := by decide +kernel
theorem dX12_keepsLaw_11 : decode cX12_keepsLaw 11 = .ok (.iaload, 1) := by decide +kernel
theorem dX12_keepsLaw_12 : decode cX12_keepsLaw 12 = .ok (.invokevirtual 453, 3) := by decide +kernel
theorem dX12_keepsLaw_15 : decode cX12_keepsLaw 15 = .ok (.iastore, 1) := by decide +kernel
theorem dX12_keepsLaw_16 : decode cX12_keepsLaw 16 = .ok (.bipush 16, 2) := by decide +kernel
theorem dX12_keepsLaw_18 : decode cX12_keepsLaw 18 = .ok (.iload_n 1, 1) := by decide +kernel
theorem dX12_keepsLaw_19 : decode cX12_keepsLaw 19 = .ok (.imul, 1) := by decide +kernel
theorem dX12_keepsLaw_20 : decode cX12_keepsLaw 20 = .ok (.istore_n 2, 1) := by decide +kernel
theorem dX12_keepsLaw_21 : decode cX12_keepsLaw 21 = .ok (.iload_n 2, 1) := by decide +kernel
theorem dX12_keepsLaw_22 : decode cX12_keepsLaw 22 = .ok (.bipush 16, 2) := by decide +kernel
theorem dX12_keepsLaw_24 : decode cX12_keepsLaw 24 = .ok (.iload_n 1, 1) := by decide +kernel
theorem dX12_keepsLaw_25 : decode cX12_keepsLaw 25 = .ok (.imul, 1) := by decide +kernel
theorem dX12_keepsLaw_26 : decode cX12_keepsLaw 26 = .ok (.bipush 16, 2) := by decide +kernel
theorem dX12_keepsLaw_28 : decode cX12_keepsLaw 28 = .ok (.iadd, 1) := by decide +kernel
theorem dX12_keepsLaw_29 : decode cX12_keepsLaw 29 = .ok (.if_icmp .ge 73, 3) := by decide +kernel
theorem dX12_keepsLaw_32 : decode cX12_keepsLaw 32 = .ok (.aload_n 0, 1) := by decide +kernel
theorem dX12_keepsLaw_33 : decode cX12_keepsLaw 33 = .ok (.getfield 37, 3) := by decide +kernel
theorem dX12_keepsLaw_36 : decode cX12_keepsLaw 36 = .ok (.iload_n 2, 1) := by decide +kernel
theorem dX12_keepsLaw_37 : decode cX12_keepsLaw 37 = .ok (.aload_n 0, 1) := by decide +kernel
theorem dX12_keepsLaw_38 : decode cX12_keepsLaw 38 = .ok (.aload_n 0, 1) := by decide +kernel
theorem dX12_keepsLaw_39 : decode cX12_keepsLaw 39 = .ok (.getfield 37, 3) := by decide +kernel
theorem dX12_keepsLaw_42 : decode cX12_keepsLaw 42 = .ok (.iload_n 2, 1) := by decide +kernel
theorem dX12_keepsLaw_43 : decode cX12_keepsLaw 43 = .ok (.iaload, 1) := by decide +kernel
theorem dX12_keepsLaw_44 : decode cX12_keepsLaw 44 = .ok (.invokevirtual 453, 3) := by decide +kernel
theorem dX12_keepsLaw_47 : decode cX12_keepsLaw 47 = .ok (.iastore, 1) := by decide +kernel
theorem dX12_keepsLaw_48 : decode cX12_keepsLaw 48 = .ok (.aload_n 0, 1) := by decide +kernel
theorem dX12_keepsLaw_49 : decode cX12_keepsLaw 49 = .ok (.getfield 40, 3) := by decide +kernel
theorem dX12_keepsLaw_52 : decode cX12_keepsLaw 52 = .ok (.iload_n 2, 1) := by decide +kernel
theorem dX12_keepsLaw_53 : decode cX12_keepsLaw 53 = .ok (.aload_n 0, 1) := by decide +kernel
theorem dX12_keepsLaw_54 : decode cX12_keepsLaw 54 = .ok (.aload_n 0, 1) := by decide +kernel
theorem dX12_keepsLaw_55 : decode cX12_keepsLaw 55 = .ok (.getfield 40, 3) := by decide +kernel
theorem dX12_keepsLaw_58 : decode cX12_keepsLaw 58 = .ok (.iload_n 2, 1) := by decide +kernel
theorem dX12_keepsLaw_59 : decode cX12_keepsLaw 59 = .ok (.iaload, 1) := by decide +kernel
theorem dX12_keepsLaw_60 : decode cX12_keepsLaw 60 = .ok (.invokevirtual 453, 3) := by decide +kernel
theorem dX12_keepsLaw_63 : decode cX12_keepsLaw 63 = .ok (.iastore, 1) := by decide +kernel
theorem dX12_keepsLaw_64 : decode cX12_keepsLaw 64 = .ok (.aload_n 0, 1) := by decide +kernel
theorem dX12_keepsLaw_65 : decode cX12_keepsLaw 65 = .ok (.getfield 43, 3) := by decide +kernel
theorem dX12_keepsLaw_68 : decode cX12_keepsLaw 68 = .ok (.iload_n 2, 1) := by decide +kernel
theorem dX12_keepsLaw_69 : decode cX12_keepsLaw 69 = .ok (.aload_n 0, 1) := by decide +kernel
theorem dX12_keepsLaw_70 : decode cX12_keepsLaw 70 = .ok (.aload_n 0, 1) := by decide +kernel
theorem dX12_keepsLaw_71 : decode cX12_keepsLaw 71 = .ok (.getfield 43, 3) := by decide +kernel
theorem dX12_keepsLaw_74 : decode cX12_keepsLaw 74 = .ok (.iload_n 2, 1) := by decide +kernel
theorem dX12_keepsLaw_75 : decode cX12_keepsLaw 75 = .ok (.iaload, 1) := by decide +kernel
theorem dX12_keepsLaw_76 : decode cX12_keepsLaw 76 = .ok (.invokevirtual 453, 3) := by decide +kernel
theorem dX12_keepsLaw_79 : decode cX12_keepsLaw 79 = .ok (.iastore, 1) := by decide +kernel
theorem dX12_keepsLaw_80 : decode cX12_keepsLaw 80 = .ok (.aload_n 0, 1) := by decide +kernel
theorem dX12_keepsLaw_81 : decode cX12_keepsLaw 81 = .ok (.getfield 46, 3) := by decide +kernel
theorem dX12_keepsLaw_84 : decode cX12_keepsLaw 84 = .ok (.iload_n 2, 1) := by decide +kernel
theorem dX12_keepsLaw_85 : decode cX12_keepsLaw 85 = .ok (.aload_n 0, 1) := by decide +kernel
theorem dX12_keepsLaw_86 : decode cX12_keepsLaw 86 = .ok (.aload_n 0, 1) := by decide +kernel
theorem dX12_keepsLaw_87 : decode cX12_keepsLaw 87 = .ok (.getfield 46, 3) := by decide +kernel
theorem dX12_keepsLaw_90 : decode cX12_keepsLaw 90 = .ok (.iload_n 2, 1) := by decide +kernel
theorem dX12_keepsLaw_91 : decode cX12_keepsLaw 91 = .ok (.iaload, 1) := by decide +kernel
theorem dX12_keepsLaw_92 : decode cX12_keepsLaw 92 = .ok (.invokevirtual 453, 3) := by decide +kernel
theorem dX12_keepsLaw_95 : decode cX12_keepsLaw 95 = .ok (.iastore, 1) := by decide +kernel
theorem dX12_keepsLaw_96 : decode cX12_keepsLaw 96 = .ok (.iinc 2 1, 3) := by decide +kernel
theorem dX12_keepsLaw_99 : decode cX12_keepsLaw 99 = .ok (.goto (-78), 3) := by decide +kernel
theorem dX12_keepsLaw_102 : decode cX12_keepsLaw 102 = .ok (.sipush 400, 3) := by decide +kernel
theorem dX12_keepsLaw_105 : decode cX12_keepsLaw 105 = .ok (.iload_n 1, 1) := by decide +kernel
theorem dX12_keepsLaw_106 : decode cX12_keepsLaw 106 = .ok (.imul, 1) := by decide +kernel
theorem dX12_keepsLaw_107 : decode cX12_keepsLaw 107 = .ok (.istore_n 2, 1) := by decide +kernel
theorem dX12_keepsLaw_108 : decode cX12_keepsLaw 108 = .ok (.iload_n 2, 1) := by decide +kernel
theorem dX12_keepsLaw_109 : decode cX12_keepsLaw 109 = .ok (.sipush 400, 3) := by decide +kernel
theorem dX12_keepsLaw_112 : decode cX12_keepsLaw 112 = .ok (.iload_n 1, 1) := by decide +kernel
theorem dX12_keepsLaw_113 : decode cX12_keepsLaw 113 = .ok (.imul, 1) := by decide +kernel
theorem dX12_keepsLaw_114 : decode cX12_keepsLaw 114 = .ok (.sipush 400, 3) := by decide +kernel
theorem dX12_keepsLaw_117 : decode cX12_keepsLaw 117 = .ok (.iadd, 1) := by decide +kernel
theorem dX12_keepsLaw_118 : decode cX12_keepsLaw 118 = .ok (.if_icmp .ge 41, 3) := by decide +kernel
theorem dX12_keepsLaw_121 : decode cX12_keepsLaw 121 = .ok (.aload_n 0, 1) := by decide +kernel
theorem dX12_keepsLaw_122 : decode cX12_keepsLaw 122 = .ok (.getfield 49, 3) := by decide +kernel
theorem dX12_keepsLaw_125 : decode cX12_keepsLaw 125 = .ok (.iload_n 2, 1) := by decide +kernel
theorem dX12_keepsLaw_126 : decode cX12_keepsLaw 126 = .ok (.aload_n 0, 1) := by decide +kernel
theorem dX12_keepsLaw_127 : decode cX12_keepsLaw 127 = .ok (.aload_n 0, 1) := by decide +kernel
theorem dX12_keepsLaw_128 : decode cX12_keepsLaw 128 = .ok (.getfield 49, 3) := by decide +kernel
theorem dX12_keepsLaw_131 : decode cX12_keepsLaw 131 = .ok (.iload_n 2, 1) := by decide +kernel
theorem dX12_keepsLaw_132 : decode cX12_keepsLaw 132 = .ok (.iaload, 1) := by decide +kernel
theorem dX12_keepsLaw_133 : decode cX12_keepsLaw 133 = .ok (.invokevirtual 453, 3) := by decide +kernel
theorem dX12_keepsLaw_136 : decode cX12_keepsLaw 136 = .ok (.iastore, 1) := by decide +kernel
theorem dX12_keepsLaw_137 : decode cX12_keepsLaw 137 = .ok (.aload_n 0, 1) := by decide +kernel
theorem dX12_keepsLaw_138 : decode cX12_keepsLaw 138 = .ok (.getfield 52, 3) := by decide +kernel
theorem dX12_keepsLaw_141 : decode cX12_keepsLaw 141 = .ok (.iload_n 2, 1) := by decide +kernel
theorem dX12_keepsLaw_142 : decode cX12_keepsLaw 142 = .ok (.aload_n 0, 1) := by decide +kernel
theorem dX12_keepsLaw_143 : decode cX12_keepsLaw 143 = .ok (.aload_n 0, 1) := by decide +kernel
theorem dX12_keepsLaw_144 : decode cX12_keepsLaw 144 = .ok (.getfield 52, 3) := by decide +kernel
theorem dX12_keepsLaw_147 : decode cX12_keepsLaw 147 = .ok (.iload_n 2, 1) := by decide +kernel
theorem dX12_keepsLaw_148 : decode cX12_keepsLaw 148 = .ok (.iaload, 1) := by decide +kernel
theorem dX12_keepsLaw_149 : decode cX12_keepsLaw 149 = .ok (.invokevirtual 453, 3) := by decide +kernel
theorem dX12_keepsLaw_152 : decode cX12_keepsLaw 152 = .ok (.iastore, 1) := by decide +kernel
theorem dX12_keepsLaw_153 : decode cX12_keepsLaw 153 = .ok (.iinc 2 1, 3) := by decide +kernel
theorem dX12_keepsLaw_156 : decode cX12_keepsLaw 156 = .ok (.goto (-48), 3) := by decide +kernel
theorem dX12_keepsLaw_159 : decode cX12_keepsLaw 159 = .ok (.return_, 1) := by decide +kernel
theorem dX12_keepsTold_0 : decode cX12_keepsTold 0 = .ok (.aload_n 0, 1) := by decide +kernel
theorem dX12_keepsTold_1 : decode cX12_keepsTold 1 = .ok (.aload_n 0, 1) := by decide +kernel
theorem dX12_keepsTold_2 : decode cX12_keepsTold 2 = .ok (.aload_n 0, 1) := by decide +kernel
theorem dX12_keepsTold_3 : decode cX12_keepsTold 3 = .ok (.getfield 114, 3) := by decide +kernel
theorem dX12_keepsTold_6 : decode cX12_keepsTold 6 = .ok (.invokevirtual 453, 3) := by decide +kernel
theorem dX12_keepsTold_9 : decode cX12_keepsTold 9 = .ok (.putfield 114, 3) := by decide +kernel
theorem dX12_keepsTold_12 : decode cX12_keepsTold 12 = .ok (.aload_n 0, 1) := by decide +kernel
theorem dX12_keepsTold_13 : decode cX12_keepsTold 13 = .ok (.aload_n 0, 1) := by decide +kernel
theorem dX12_keepsTold_14 : decode cX12_keepsTold 14 = .ok (.aload_n 0, 1) := by decide +kernel
theorem dX12_keepsTold_15 : decode cX12_keepsTold 15 = .ok (.getfield 132, 3) := by decide +kernel
theorem dX12_keepsTold_18 : decode cX12_keepsTold 18 = .ok (.invokevirtual 453, 3) := by decide +kernel
theorem dX12_keepsTold_21 : decode cX12_keepsTold 21 = .ok (.putfield 132, 3) := by decide +kernel
theorem dX12_keepsTold_24 : decode cX12_keepsTold 24 = .ok (.aload_n 0, 1) := by decide +kernel
theorem dX12_keepsTold_25 : decode cX12_keepsTold 25 = .ok (.aload_n 0, 1) := by decide +kernel
theorem dX12_keepsTold_26 : decode cX12_keepsTold 26 = .ok (.aload_n 0, 1) := by decide +kernel
theorem dX12_keepsTold_27 : decode cX12_keepsTold 27 = .ok (.getfield 135, 3) := by decide +kernel
theorem dX12_keepsTold_30 : decode cX12_keepsTold 30 = .ok (.invokevirtual 453, 3) := by decide +kernel
theorem dX12_keepsTold_33 : decode cX12_keepsTold 33 = .ok (.putfield 135, 3) := by decide +kernel
theorem dX12_keepsTold_36 : decode cX12_keepsTold 36 = .ok (.aload_n 0, 1) := by decide +kernel
theorem dX12_keepsTold_37 : decode cX12_keepsTold 37 = .ok (.aload_n 0, 1) := by decide +kernel
theorem dX12_keepsTold_38 : decode cX12_keepsTold 38 = .ok (.aload_n 0, 1) := by decide +kernel
theorem dX12_keepsTold_39 : decode cX12_keepsTold 39 = .ok (.getfield 138, 3) := by decide +kernel
theorem dX12_keepsTold_42 : decode cX12_keepsTold 42 = .ok (.invokevirtual 453, 3) := by decide +kernel
theorem dX12_keepsTold_45 : decode cX12_keepsTold 45 = .ok (.putfield 138, 3) := by decide +kernel
theorem dX12_keepsTold_48 : decode cX12_keepsTold 48 = .ok (.aload_n 0, 1) := by decide +kernel
theorem dX12_keepsTold_49 : decode cX12_keepsTold 49 = .ok (.aload_n 0, 1) := by decide +kernel
theorem dX12_keepsTold_50 : decode cX12_keepsTold 50 = .ok (.aload_n 0, 1) := by decide +kernel
theorem dX12_keepsTold_51 : decode cX12_keepsTold 51 = .ok (.getfield 267, 3) := by decide +kernel
theorem dX12_keepsTold_54 : decode cX12_keepsTold 54 = .ok (.invokevirtual 453, 3) := by decide +kernel
theorem dX12_keepsTold_57 : decode cX12_keepsTold 57 = .ok (.putfield 267, 3) := by decide +kernel
theorem dX12_keepsTold_60 : decode cX12_keepsTold 60 = .ok (.aload_n 0, 1) := by decide +kernel
theorem dX12_keepsTold_61 : decode cX12_keepsTold 61 = .ok (.aload_n 0, 1) := by decide +kernel
theorem dX12_keepsTold_62 : decode cX12_keepsTold 62 = .ok (.aload_n 0, 1) := by decide +kernel
theorem dX12_keepsTold_63 : decode cX12_keepsTold 63 = .ok (.getfield 270, 3) := by decide +kernel
theorem dX12_keepsTold_66 : decode cX12_keepsTold 66 = .ok (.invokevirtual 453, 3) := by decide +kernel
theorem dX12_keepsTold_69 : decode cX12_keepsTold 69 = .ok (.putfield 270, 3) := by decide +kernel
theorem dX12_keepsTold_72 : decode cX12_keepsTold 72 = .ok (.iconst 0, 1) := by decide +kernel
theorem dX12_keepsTold_73 : decode cX12_keepsTold 73 = .ok (.istore_n 1, 1) := by decide +kernel
theorem dX12_keepsTold_74 : decode cX12_keepsTold 74 = .ok (.iload_n 1, 1) := by decide +kernel
theorem dX12_keepsTold_75 : decode cX12_keepsTold 75 = .ok (.bipush 10, 2) := by decide +kernel
theorem dX12_keepsTold_77 : decode cX12_keepsTold 77 = .ok (.if_icmp .ge 25, 3) := by decide +kernel
theorem dX12_keepsTold_80 : decode cX12_keepsTold 80 = .ok (.aload_n 0, 1) := by decide +kernel
theorem dX12_keepsTold_81 : decode cX12_keepsTold 81 = .ok (.getfield 19, 3) := by decide +kernel
theorem dX12_keepsTold_84 : decode cX12_keepsTold 84 = .ok (.iload_n 1, 1) := by decide +kernel
theorem dX12_keepsTold_85 : decode cX12_keepsTold 85 = .ok (.aload_n 0, 1) := by decide +kernel
theorem dX12_keepsTold_86 : decode cX12_keepsTold 86 = .ok (.aload_n 0, 1) := by decide +kernel
theorem dX12_keepsTold_87 : decode cX12_keepsTold 87 = .ok (.getfield 19, 3) := by decide +kernel
theorem dX12_keepsTold_90 : decode cX12_keepsTold 90 = .ok (.iload_n 1, 1) := by decide +kernel
theorem dX12_keepsTold_91 : decode cX12_keepsTold 91 = .ok (.iaload, 1) := by decide +kernel
theorem dX12_keepsTold_92 : decode cX12_keepsTold 92 = .ok (.invokevirtual 453, 3) := by decide +kernel
theorem dX12_keepsTold_95 : decode cX12_keepsTold 95 = .ok (.iastore, 1) := by decide +kernel
theorem dX12_keepsTold_96 : decode cX12_keepsTold 96 = .ok (.iinc 1 1, 3) := by decide +kernel
theorem dX12_keepsTold_99 : decode cX12_keepsTold 99 = .ok (.goto (-25), 3) := by decide +kernel
theorem dX12_keepsTold_102 : decode cX12_keepsTold 102 = .ok (.iconst 0, 1) := by decide +kernel
theorem dX12_keepsTold_103 : decode cX12_keepsTold 103 = .ok (.istore_n 1, 1) := by decide +kernel
theorem dX12_keepsTold_104 : decode cX12_keepsTold 104 = .ok (.iload_n 1, 1) := by decide +kernel
theorem dX12_keepsTold_105 : decode cX12_keepsTold 105 = .ok (.bipush 64, 2) := by decide +kernel
theorem dX12_keepsTold_107 : decode cX12_keepsTold 107 = .ok (.if_icmp .ge 25, 3) := by decide +kernel
theorem dX12_keepsTold_110 : decode cX12_keepsTold 110 = .ok (.aload_n 0, 1) := by decide +kernel
theorem dX12_keepsTold_111 : decode cX12_keepsTold 111 = .ok (.getfield 22, 3) := by decide +kernel
theorem dX12_keepsTold_114 : decode cX12_keepsTold 114 = .ok (.iload_n 1, 1) := by decide +kernel
theorem dX12_keepsTold_115 : decode cX12_keepsTold 115 = .ok (.aload_n 0, 1) := by decide +kernel
theorem dX12_keepsTold_116 : decode cX12_keepsTold 116 = .ok (.aload_n 0, 1) := by decide +kernel
theorem dX12_keepsTold_117 : decode cX12_keepsTold 117 = .ok (.getfield 22, 3) := by decide +kernel
theorem dX12_keepsTold_120 : decode cX12_keepsTold 120 = .ok (.iload_n 1, 1) := by decide +kernel
theorem dX12_keepsTold_121 : decode cX12_keepsTold 121 = .ok (.iaload, 1) := by decide +kernel
theorem dX12_keepsTold_122 : decode cX12_keepsTold 122 = .ok (.invokevirtual 453, 3) := by decide +kernel
theorem dX12_keepsTold_125 : decode cX12_keepsTold 125 = .ok (.iastore, 1) := by decide +kernel
theorem dX12_keepsTold_126 : decode cX12_keepsTold 126 = .ok (.iinc 1 1, 3) := by decide +kernel
theorem dX12_keepsTold_129 : decode cX12_keepsTold 129 = .ok (.goto (-25), 3) := by decide +kernel
theorem dX12_keepsTold_132 : decode cX12_keepsTold 132 = .ok (.iconst 0, 1) := by decide +kernel
theorem dX12_keepsTold_133 : decode cX12_keepsTold 133 = .ok (.istore_n 1, 1) := by decide +kernel
theorem dX12_keepsTold_134 : decode cX12_keepsTold 134 = .ok (.iload_n 1, 1) := by decide +kernel
theorem dX12_keepsTold_135 : decode cX12_keepsTold 135 = .ok (.bipush 32, 2) := by decide +kernel
theorem dX12_keepsTold_137 : decode cX12_keepsTold 137 = .ok (.if_icmp .ge 25, 3) := by decide +kernel
theorem dX12_keepsTold_140 : decode cX12_keepsTold 140 = .ok (.aload_n 0, 1) := by decide +kernel
theorem dX12_keepsTold_141 : decode cX12_keepsTold 141 = .ok (.getfield 62, 3) := by decide +kernel
theorem dX12_keepsTold_144 : decode cX12_keepsTold 144 = .ok (.iload_n 1, 1) := by decide +kernel
theorem dX12_keepsTold_145 : decode cX12_keepsTold 145 = .ok (.aload_n 0, 1) := by decide +kernel
theorem dX12_keepsTold_146 : decode cX12_keepsTold 146 = .ok (.aload_n 0, 1) := by decide +kernel
theorem dX12_keepsTold_147 : decode cX12_keepsTold 147 = .ok (.getfield 62, 3) := by decide +kernel
theorem dX12_keepsTold_150 : decode cX12_keepsTold 150 = .ok (.iload_n 1, 1) := by decide +kernel
theorem dX12_keepsTold_151 : decode cX12_keepsTold 151 = .ok (.iaload, 1) := by decide +kernel
theorem dX12_keepsTold_152 : decode cX12_keepsTold 152 = .ok (.invokevirtual 453, 3) := by decide +kernel
theorem dX12_keepsTold_155 : decode cX12_keepsTold 155 = .ok (.iastore, 1) := by decide +kernel
theorem dX12_keepsTold_156 : decode cX12_keepsTold 156 = .ok (.iinc 1 1, 3) := by decide +kernel
theorem dX12_keepsTold_159 : decode cX12_keepsTold 159 = .ok (.goto (-25), 3) := by decide +kernel
theorem dX12_keepsTold_162 : decode cX12_keepsTold 162 = .ok (.iconst 0, 1) := by decide +kernel
theorem dX12_keepsTold_163 : decode cX12_keepsTold 163 = .ok (.istore_n 1, 1) := by decide +kernel
theorem dX12_keepsTold_164 : decode cX12_keepsTold 164 = .ok (.iload_n 1, 1) := by decide +kernel
theorem dX12_keepsTold_165 : decode cX12_keepsTold 165 = .ok (.bipush 48, 2) := by decide +kernel
theorem dX12_keepsTold_167 : decode cX12_keepsTold 167 = .ok (.if_icmp .ge 25, 3) := by decide +kernel
theorem dX12_keepsTold_170 : decode cX12_keepsTold 170 = .ok (.aload_n 0, 1) := by decide +kernel
theorem dX12_keepsTold_171 : decode cX12_keepsTold 171 = .ok (.getfield 65, 3) := by decide +kernel
theorem dX12_keepsTold_174 : decode cX12_keepsTold 174 = .ok (.iload_n 1, 1) := by decide +kernel
theorem dX12_keepsTold_175 : decode cX12_keepsTold 175 = .ok (.aload_n 0, 1) := by decide +kernel
theorem dX12_keepsTold_176 : decode cX12_keepsTold 176 = .ok (.aload_n 0, 1) := by decide +kernel
theorem dX12_keepsTold_177 : decode cX12_keepsTold 177 = .ok (.getfield 65, 3) := by decide +kernel
theorem dX12_keepsTold_180 : decode cX12_keepsTold 180 = .ok (.iload_n 1, 1) := by decide +kernel
theorem dX12_keepsTold_181 : decode cX12_keepsTold 181 = .ok (.iaload, 1) := by decide +kernel
theorem dX12_keepsTold_182 : decode cX12_keepsTold 182 = .ok (.invokevirtual 453, 3) := by decide +kernel
theorem dX12_keepsTold_185 : decode cX12_keepsTold 185 = .ok (.iastore, 1) := by decide +kernel
theorem dX12_keepsTold_186 : decode cX12_keepsTold 186 = .ok (.iinc 1 1, 3) := by decide +kernel
theorem dX12_keepsTold_189 : decode cX12_keepsTold 189 = .ok (.goto (-25), 3) := by decide +kernel
theorem dX12_keepsTold_192 : decode cX12_keepsTold 192 = .ok (.return_, 1) := by decide +kernel
theorem dX12_image_0 : decode cX12_image 0 = .ok (.aload_n 0, 1) := by decide +kernel
theorem dX12_image_1 : decode cX12_image 1 = .ok (.iconst 0, 1) := by decide +kernel
theorem dX12_image_2 : decode cX12_image 2 = .ok (.putfield 99, 3) := by decide +kernel
theorem dX12_image_5 : decode cX12_image 5 = .ok (.iload_n 1, 1) := by decide +kernel
theorem dX12_image_6 : decode cX12_image 6 = .ok (.ifCond .ne 12, 3) := by decide +kernel
theorem dX12_image_9 : decode cX12_image 9 = .ok (.aload_n 0, 1) := by decide +kernel
theorem dX12_image_10 : decode cX12_image 10 = .ok (.getfield 456, 3) := by decide +kernel
theorem dX12_image_13 : decode cX12_image 13 = .ok (.ifCond .ne 5, 3) := by decide +kernel
theorem dX12_image_16 : decode cX12_image 16 = .ok (.iconst 0, 1) := by decide +kernel
theorem dX12_image_17 : decode cX12_image 17 = .ok (.ireturn, 1) := by decide +kernel
theorem dX12_image_18 : decode cX12_image 18 = .ok (.aload_n 0, 1) := by decide +kernel
theorem dX12_image_19 : decode cX12_image 19 = .ok (.iload_n 1, 1) := by decide +kernel
theorem dX12_image_20 : decode cX12_image 20 = .ok (.putfield 450, 3) := by decide +kernel
theorem dX12_image_23 : decode cX12_image 23 = .ok (.aload_n 0, 1) := by decide +kernel
theorem dX12_image_24 : decode cX12_image 24 = .ok (.iconst 1, 1) := by decide +kernel
theorem dX12_image_25 : decode cX12_image 25 = .ok (.putfield 456, 3) := by decide +kernel
theorem dX12_image_28 : decode cX12_image 28 = .ok (.aload_n 0, 1) := by decide +kernel
theorem dX12_image_29 : decode cX12_image 29 = .ok (.iconst 0, 1) := by decide +kernel
theorem dX12_image_30 : decode cX12_image 30 = .ok (.putfield 447, 3) := by decide +kernel
theorem dX12_image_33 : decode cX12_image 33 = .ok (.iconst 0, 1) := by decide +kernel
theorem dX12_image_34 : decode cX12_image 34 = .ok (.istore_n 2, 1) := by decide +kernel
theorem dX12_image_35 : decode cX12_image 35 = .ok (.iload_n 2, 1) := by decide +kernel
theorem dX12_image_36 : decode cX12_image 36 = .ok (.bipush 40, 2) := by decide +kernel
theorem dX12_image_38 : decode cX12_image 38 = .ok (.if_icmp .ge 25, 3) := by decide +kernel
theorem dX12_image_41 : decode cX12_image 41 = .ok (.aload_n 0, 1) := by decide +kernel
theorem dX12_image_42 : decode cX12_image 42 = .ok (.getfield 7, 3) := by decide +kernel
theorem dX12_image_45 : decode cX12_image 45 = .ok (.iload_n 2, 1) := by decide +kernel
theorem dX12_image_46 : decode cX12_image 46 = .ok (.aload_n 0, 1) := by decide +kernel
theorem dX12_image_47 : decode cX12_image 47 = .ok (.aload_n 0, 1) := by decide +kernel
theorem dX12_image_48 : decode cX12_image 48 = .ok (.getfield 7, 3) := by decide +kernel
theorem dX12_image_51 : decode cX12_image 51 = .ok (.iload_n 2, 1) := by decide +kernel
theorem dX12_image_52 : decode cX12_image 52 = .ok (.iaload, 1) := by decide +kernel
theorem dX12_image_53 : decode cX12_image 53 = .ok (.invokevirtual 453, 3) := by decide +kernel
theorem dX12_image_56 : decode cX12_image 56 = .ok (.iastore, 1) := by decide +kernel
theorem dX12_image_57 : decode cX12_image 57 = .ok (.iinc 2 1, 3) := by decide +kernel
theorem dX12_image_60 : decode cX12_image 60 = .ok (.goto (-25), 3) := by decide +kernel
theorem dX12_image_63 : decode cX12_image 63 = .ok (.aload_n 0, 1) := by decide +kernel
theorem dX12_image_64 : decode cX12_image 64 = .ok (.invokevirtual 459, 3) := by decide +kernel
theorem dX12_image_67 : decode cX12_image 67 = .ok (.iconst 0, 1) := by decide +kernel
theorem dX12_image_68 : decode cX12_image 68 = .ok (.istore_n 2, 1) := by decide +kernel
theorem dX12_image_69 : decode cX12_image 69 = .ok (.iload_n 2, 1) := by decide +kernel
theorem dX12_image_70 : decode cX12_image 70 = .ok (.sipush 450, 3) := by decide +kernel
theorem dX12_image_73 : decode cX12_image 73 = .ok (.if_icmp .ge 25, 3) := by decide +kernel
theorem dX12_image_76 : decode cX12_image 76 = .ok (.aload_n 0, 1) := by decide +kernel
theorem dX12_image_77 : decode cX12_image 77 = .ok (.getfield 25, 3) := by decide +kernel
theorem dX12_image_80 : decode cX12_image 80 = .ok (.iload_n 2, 1) := by decide +kernel
theorem dX12_image_81 : decode cX12_image 81 = .ok (.aload_n 0, 1) := by decide +kernel
theorem dX12_image_82 : decode cX12_image 82 = .ok (.aload_n 0, 1) := by decide +kernel
theorem dX12_image_83 : decode cX12_image 83 = .ok (.getfield 25, 3) := by decide +kernel
theorem dX12_image_86 : decode cX12_image 86 = .ok (.iload_n 2, 1) := by decide +kernel
theorem dX12_image_87 : decode cX12_image 87 = .ok (.iaload, 1) := by decide +kernel
theorem dX12_image_88 : decode cX12_image 88 = .ok (.invokevirtual 453, 3) := by decide +kernel
theorem dX12_image_91 : decode cX12_image 91 = .ok (.iastore, 1) := by decide +kernel
theorem dX12_image_92 : decode cX12_image 92 = .ok (.iinc 2 1, 3) := by decide +kernel
theorem dX12_image_95 : decode cX12_image 95 = .ok (.goto (-26), 3) := by decide +kernel
theorem dX12_image_98 : decode cX12_image 98 = .ok (.aload_n 0, 1) := by decide +kernel
theorem dX12_image_99 : decode cX12_image 99 = .ok (.iconst 0, 1) := by decide +kernel
theorem dX12_image_100 : decode cX12_image 100 = .ok (.invokevirtual 462, 3) := by decide +kernel
theorem dX12_image_103 : decode cX12_image 103 = .ok (.aload_n 0, 1) := by decide +kernel
theorem dX12_image_104 : decode cX12_image 104 = .ok (.iconst 1, 1) := by decide +kernel
theorem dX12_image_105 : decode cX12_image 105 = .ok (.invokevirtual 462, 3) := by decide +kernel
theorem dX12_image_108 : decode cX12_image 108 = .ok (.iload_n 1, 1) := by decide +kernel
theorem dX12_image_109 : decode cX12_image 109 = .ok (.ifCond .ne 8, 3) := by decide +kernel
theorem dX12_image_112 : decode cX12_image 112 = .ok (.aload_n 0, 1) := by decide +kernel
theorem dX12_image_113 : decode cX12_image 113 = .ok (.iconst 0, 1) := by decide +kernel
theorem dX12_image_114 : decode cX12_image 114 = .ok (.putfield 102, 3) := by decide +kernel
theorem dX12_image_117 : decode cX12_image 117 = .ok (.iconst 1, 1) := by decide +kernel
theorem dX12_image_118 : decode cX12_image 118 = .ok (.ireturn, 1) := by decide +kernel
theorem dX12_look_0 : decode cX12_look 0 = .ok (.aload_n 0, 1) := by decide +kernel
theorem dX12_look_1 : decode cX12_look 1 = .ok (.iconst 0, 1) := by decide +kernel
theorem dX12_look_2 : decode cX12_look 2 = .ok (.putfield 99, 3) := by decide +kernel
theorem dX12_look_5 : decode cX12_look 5 = .ok (.iload_n 1, 1) := by decide +kernel
theorem dX12_look_6 : decode cX12_look 6 = .ok (.ifCond .ne 8, 3) := by decide +kernel
theorem dX12_look_9 : decode cX12_look 9 = .ok (.aload_n 0, 1) := by decide +kernel
theorem dX12_look_10 : decode cX12_look 10 = .ok (.getfield 114, 3) := by decide +kernel
theorem dX12_look_13 : decode cX12_look 13 = .ok (.ireturn, 1) := by decide +kernel
theorem dX12_look_14 : decode cX12_look 14 = .ok (.iload_n 1, 1) := by decide +kernel
theorem dX12_look_15 : decode cX12_look 15 = .ok (.iconst 1, 1) := by decide +kernel
theorem dX12_look_16 : decode cX12_look 16 = .ok (.if_icmp .ne 10, 3) := by decide +kernel
theorem dX12_look_19 : decode cX12_look 19 = .ok (.aload_n 0, 1) := by decide +kernel
theorem dX12_look_20 : decode cX12_look 20 = .ok (.getfield 7, 3) := by decide +kernel
theorem dX12_look_23 : decode cX12_look 23 = .ok (.iconst 0, 1) := by decide +kernel
theorem dX12_look_24 : decode cX12_look 24 = .ok (.iaload, 1) := by decide +kernel
theorem dX12_look_25 : decode cX12_look 25 = .ok (.ireturn, 1) := by decide +kernel
theorem dX12_look_26 : decode cX12_look 26 = .ok (.iload_n 1, 1) := by decide +kernel
theorem dX12_look_27 : decode cX12_look 27 = .ok (.iconst 2, 1) := by decide +kernel
theorem dX12_look_28 : decode cX12_look 28 = .ok (.if_icmp .ne 10, 3) := by decide +kernel
theorem dX12_look_31 : decode cX12_look 31 = .ok (.aload_n 0, 1) := by decide +kernel
theorem dX12_look_32 : decode cX12_look 32 = .ok (.getfield 7, 3) := by decide +kernel
theorem dX12_look_35 : decode cX12_look 35 = .ok (.iconst 3, 1) := by decide +kernel
theorem dX12_look_36 : decode cX12_look 36 = .ok (.iaload, 1) := by decide +kernel
theorem dX12_look_37 : decode cX12_look 37 = .ok (.ireturn, 1) := by decide +kernel
theorem dX12_look_38 : decode cX12_look 38 = .ok (.iload_n 1, 1) := by decide +kernel
theorem dX12_look_39 : decode cX12_look 39 = .ok (.iconst 3, 1) := by decide +kernel
theorem dX12_look_40 : decode cX12_look 40 = .ok (.if_icmp .ne 10, 3) := by decide +kernel
theorem dX12_look_43 : decode cX12_look 43 = .ok (.aload_n 0, 1) := by decide +kernel
theorem dX12_look_44 : decode cX12_look 44 = .ok (.getfield 7, 3) := by decide +kernel
theorem dX12_look_47 : decode cX12_look 47 = .ok (.iconst 4, 1) := by decide +kernel
theorem dX12_look_48 : decode cX12_look 48 = .ok (.iaload, 1) := by decide +kernel
theorem dX12_look_49 : decode cX12_look 49 = .ok (.ireturn, 1) := by decide +kernel
theorem dX12_look_50 : decode cX12_look 50 = .ok (.iload_n 1, 1) := by decide +kernel
theorem dX12_look_51 : decode cX12_look 51 = .ok (.iconst 4, 1) := by decide +kernel
theorem dX12_look_52 : decode cX12_look 52 = .ok (.if_icmp .ne 10, 3) := by decide +kernel
theorem dX12_look_55 : decode cX12_look 55 = .ok (.aload_n 0, 1) := by decide +kernel
theorem dX12_look_56 : decode cX12_look 56 = .ok (.getfield 7, 3) := by decide +kernel
theorem dX12_look_59 : decode cX12_look 59 = .ok (.iconst 5, 1) := by decide +kernel
theorem dX12_look_60 : decode cX12_look 60 = .ok (.iaload, 1) := by decide +kernel
theorem dX12_look_61 : decode cX12_look 61 = .ok (.ireturn, 1) := by decide +kernel
theorem dX12_look_62 : decode cX12_look 62 = .ok (.iload_n 1, 1) := by decide +kernel
theorem dX12_look_63 : decode cX12_look 63 = .ok (.iconst 5, 1) := by decide +kernel
theorem dX12_look_64 : decode cX12_look 64 = .ok (.if_icmp .ne 11, 3) := by decide +kernel
theorem dX12_look_67 : decode cX12_look 67 = .ok (.aload_n 0, 1) := by decide +kernel
theorem dX12_look_68 : decode cX12_look 68 = .ok (.getfield 7, 3) := by decide +kernel
theorem dX12_look_71 : decode cX12_look 71 = .ok (.bipush 6, 2) := by decide +kernel
theorem dX12_look_73 : decode cX12_look 73 = .ok (.iaload, 1) := by decide +kernel
theorem dX12_look_74 : decode cX12_look 74 = .ok (.ireturn, 1) := by decide +kernel
theorem dX12_look_75 : decode cX12_look 75 = .ok (.iload_n 1, 1) := by decide +kernel
theorem dX12_look_76 : decode cX12_look 76 = .ok (.bipush 6, 2) := by decide +kernel
theorem dX12_look_78 : decode cX12_look 78 = .ok (.if_icmp .ne 11, 3) := by decide +kernel
theorem dX12_look_81 : decode cX12_look 81 = .ok (.aload_n 0, 1) := by decide +kernel
theorem dX12_look_82 : decode cX12_look 82 = .ok (.getfield 7, 3) := by decide +kernel
theorem dX12_look_85 : decode cX12_look 85 = .ok (.bipush 7, 2) := by decide +kernel
theorem dX12_look_87 : decode cX12_look 87 = .ok (.iaload, 1) := by decide +kernel
theorem dX12_look_88 : decode cX12_look 88 = .ok (.ireturn, 1) := by decide +kernel
theorem dX12_look_89 : decode cX12_look 89 = .ok (.iload_n 1, 1) := by decide +kernel
theorem dX12_look_90 : decode cX12_look 90 = .ok (.bipush 7, 2) := by decide +kernel
theorem dX12_look_92 : decode cX12_look 92 = .ok (.if_icmp .ne 11, 3) := by decide +kernel
theorem dX12_look_95 : decode cX12_look 95 = .ok (.aload_n 0, 1) := by decide +kernel
theorem dX12_look_96 : decode cX12_look 96 = .ok (.getfield 7, 3) := by decide +kernel
theorem dX12_look_99 : decode cX12_look 99 = .ok (.bipush 8, 2) := by decide +kernel
theorem dX12_look_101 : decode cX12_look 101 = .ok (.iaload, 1) := by decide +kernel
theorem dX12_look_102 : decode cX12_look 102 = .ok (.ireturn, 1) := by decide +kernel
theorem dX12_look_103 : decode cX12_look 103 = .ok (.iload_n 1, 1) := by decide +kernel
theorem dX12_look_104 : decode cX12_look 104 = .ok (.bipush 8, 2) := by decide +kernel
theorem dX12_look_106 : decode cX12_look 106 = .ok (.if_icmp .ne 11, 3) := by decide +kernel
theorem dX12_look_109 : decode cX12_look 109 = .ok (.aload_n 0, 1) := by decide +kernel
theorem dX12_look_110 : decode cX12_look 110 = .ok (.getfield 7, 3) := by decide +kernel
theorem dX12_look_113 : decode cX12_look 113 = .ok (.bipush 9, 2) := by decide +kernel
theorem dX12_look_115 : decode cX12_look 115 = .ok (.iaload, 1) := by decide +kernel
theorem dX12_look_116 : decode cX12_look 116 = .ok (.ireturn, 1) := by decide +kernel
theorem dX12_look_117 : decode cX12_look 117 = .ok (.iload_n 1, 1) := by decide +kernel
theorem dX12_look_118 : decode cX12_look 118 = .ok (.bipush 9, 2) := by decide +kernel
theorem dX12_look_120 : decode cX12_look 120 = .ok (.if_icmp .ne 8, 3) := by decide +kernel
theorem dX12_look_123 : decode cX12_look 123 = .ok (.aload_n 0, 1) := by decide +kernel
theorem dX12_look_124 : decode cX12_look 124 = .ok (.invokevirtual 347, 3) := by decide +kernel
theorem dX12_look_127 : decode cX12_look 127 = .ok (.ireturn, 1) := by decide +kernel
theorem dX12_look_128 : decode cX12_look 128 = .ok (.iload_n 1, 1) := by decide +kernel
theorem dX12_look_129 : decode cX12_look 129 = .ok (.bipush 10, 2) := by decide +kernel
theorem dX12_look_131 : decode cX12_look 131 = .ok (.if_icmp .ne 10, 3) := by decide +kernel
theorem dX12_look_134 : decode cX12_look 134 = .ok (.aload_n 0, 1) := by decide +kernel
theorem dX12_look_135 : decode cX12_look 135 = .ok (.getfield 7, 3) := by decide +kernel
theorem dX12_look_138 : decode cX12_look 138 = .ok (.iconst 2, 1) := by decide +kernel
theorem dX12_look_139 : decode cX12_look 139 = .ok (.iaload, 1) := by decide +kernel
theorem dX12_look_140 : decode cX12_look 140 = .ok (.ireturn, 1) := by decide +kernel
theorem dX12_look_141 : decode cX12_look 141 = .ok (.iload_n 1, 1) := by decide +kernel
theorem dX12_look_142 : decode cX12_look 142 = .ok (.bipush 11, 2) := by decide +kernel
theorem dX12_look_144 : decode cX12_look 144 = .ok (.if_icmp .ne 10, 3) := by decide +kernel
theorem dX12_look_147 : decode cX12_look 147 = .ok (.aload_n 0, 1) := by decide +kernel
theorem dX12_look_148 : decode cX12_look 148 = .ok (.getfield 7, 3) := by decide +kernel
theorem dX12_look_151 : decode cX12_look 151 = .ok (.iconst 1, 1) := by decide +kernel
theorem dX12_look_152 : decode cX12_look 152 = .ok (.iaload, 1) := by decide +kernel
theorem dX12_look_153 : decode cX12_look 153 = .ok (.ireturn, 1) := by decide +kernel
theorem dX12_look_154 : decode cX12_look 154 = .ok (.iload_n 1, 1) := by decide +kernel
theorem dX12_look_155 : decode cX12_look 155 = .ok (.bipush 12, 2) := by decide +kernel
theorem dX12_look_157 : decode cX12_look 157 = .ok (.if_icmp .ne 10, 3) := by decide +kernel
theorem dX12_look_160 : decode cX12_look 160 = .ok (.aload_n 0, 1) := by decide +kernel
theorem dX12_look_161 : decode cX12_look 161 = .ok (.getfield 34, 3) := by decide +kernel
theorem dX12_look_164 : decode cX12_look 164 = .ok (.iconst 0, 1) := by decide +kernel
theorem dX12_look_165 : decode cX12_look 165 = .ok (.iaload, 1) := by decide +kernel
theorem dX12_look_166 : decode cX12_look 166 = .ok (.ireturn, 1) := by decide +kernel
theorem dX12_look_167 : decode cX12_look 167 = .ok (.iload_n 1, 1) := by decide +kernel
theorem dX12_look_168 : decode cX12_look 168 = .ok (.bipush 13, 2) := by decide +kernel
theorem dX12_look_170 : decode cX12_look 170 = .ok (.if_icmp .ne 10, 3) := by decide +kernel
theorem dX12_look_173 : decode cX12_look 173 = .ok (.aload_n 0, 1) := by decide +kernel
theorem dX12_look_174 : decode cX12_look 174 = .ok (.getfield 34, 3) := by decide +kernel
theorem dX12_look_177 : decode cX12_look 177 = .ok (.iconst 1, 1) := by decide +kernel
theorem dX12_look_178 : decode cX12_look 178 = .ok (.iaload, 1) := by decide +kernel
theorem dX12_look_179 : decode cX12_look 179 = .ok (.ireturn, 1) := by decide +kernel
theorem dX12_look_180 : decode cX12_look 180 = .ok (.iload_n 1, 1) := by decide +kernel
theorem dX12_look_181 : decode cX12_look 181 = .ok (.bipush 14, 2) := by decide +kernel
theorem dX12_look_183 : decode cX12_look 183 = .ok (.if_icmp .ne 8, 3) := by decide +kernel
theorem dX12_look_186 : decode cX12_look 186 = .ok (.aload_n 0, 1) := by decide +kernel
theorem dX12_look_187 : decode cX12_look 187 = .ok (.getfield 267, 3) := by decide +kernel
theorem dX12_look_190 : decode cX12_look 190 = .ok (.ireturn, 1) := by decide +kernel
theorem dX12_look_191 : decode cX12_look 191 = .ok (.iload_n 1, 1) := by decide +kernel
theorem dX12_look_192 : decode cX12_look 192 = .ok (.bipush 15, 2) := by decide +kernel
theorem dX12_look_194 : decode cX12_look 194 = .ok (.if_icmp .ne 8, 3) := by decide +kernel
theorem dX12_look_197 : decode cX12_look 197 = .ok (.aload_n 0, 1) := by decide +kernel
theorem dX12_look_198 : decode cX12_look 198 = .ok (.getfield 270, 3) := by decide +kernel
theorem dX12_look_201 : decode cX12_look 201 = .ok (.ireturn, 1) := by decide +kernel
theorem dX12_look_202 : decode cX12_look 202 = .ok (.iload_n 1, 1) := by decide +kernel
theorem dX12_look_203 : decode cX12_look 203 = .ok (.bipush 16, 2) := by decide +kernel
theorem dX12_look_205 : decode cX12_look 205 = .ok (.if_icmp .ne 8, 3) := by decide +kernel
theorem dX12_look_208 : decode cX12_look 208 = .ok (.aload_n 0, 1) := by decide +kernel
theorem dX12_look_209 : decode cX12_look 209 = .ok (.getfield 102, 3) := by decide +kernel
theorem dX12_look_212 : decode cX12_look 212 = .ok (.ireturn, 1) := by decide +kernel
theorem dX12_look_213 : decode cX12_look 213 = .ok (.iload_n 1, 1) := by decide +kernel
theorem dX12_look_214 : decode cX12_look 214 = .ok (.bipush 17, 2) := by decide +kernel
theorem dX12_look_216 : decode cX12_look 216 = .ok (.if_icmp .ne 8, 3) := by decide +kernel
theorem dX12_look_219 : decode cX12_look 219 = .ok (.aload_n 0, 1) := by decide +kernel
theorem dX12_look_220 : decode cX12_look 220 = .ok (.invokevirtual 420, 3) := by decide +kernel
theorem dX12_look_223 : decode cX12_look 223 = .ok (.ireturn, 1) := by decide +kernel
theorem dX12_look_224 : decode cX12_look 224 = .ok (.iload_n 1, 1) := by decide +kernel
theorem dX12_look_225 : decode cX12_look 225 = .ok (.bipush 20, 2) := by decide +kernel
theorem dX12_look_227 : decode cX12_look 227 = .ok (.if_icmp .ne 8, 3) := by decide +kernel
theorem dX12_look_230 : decode cX12_look 230 = .ok (.aload_n 0, 1) := by decide +kernel
theorem dX12_look_231 : decode cX12_look 231 = .ok (.getfield 132, 3) := by decide +kernel
theorem dX12_look_234 : decode cX12_look 234 = .ok (.ireturn, 1) := by decide +kernel
theorem dX12_look_235 : decode cX12_look 235 = .ok (.iload_n 1, 1) := by decide +kernel
theorem dX12_look_236 : decode cX12_look 236 = .ok (.bipush 21, 2) := by decide +kernel
theorem dX12_look_238 : decode cX12_look 238 = .ok (.if_icmp .ne 10, 3) := by decide +kernel
theorem dX12_look_241 : decode cX12_look 241 = .ok (.aload_n 0, 1) := by decide +kernel
theorem dX12_look_242 : decode cX12_look 242 = .ok (.getfield 135, 3) := by decide +kernel
theorem dX12_look_245 : decode cX12_look 245 = .ok (.goto 17, 3) := by decide +kernel
theorem dX12_look_248 : decode cX12_look 248 = .ok (.iload_n 1, 1) := by decide +kernel
theorem dX12_look_249 : decode cX12_look 249 = .ok (.bipush 22, 2) := by decide +kernel
theorem dX12_look_251 : decode cX12_look 251 = .ok (.if_icmp .ne 10, 3) := by decide +kernel
theorem dX12_look_254 : decode cX12_look 254 = .ok (.aload_n 0, 1) := by decide +kernel
theorem dX12_look_255 : decode cX12_look 255 = .ok (.getfield 138, 3) := by decide +kernel
theorem dX12_look_258 : decode cX12_look 258 = .ok (.goto 4, 3) := by decide +kernel
theorem dX12_look_261 : decode cX12_look 261 = .ok (.iconst (-1), 1) := by decide +kernel
theorem dX12_look_262 : decode cX12_look 262 = .ok (.ireturn, 1) := by decide +kernel
theorem dJ6_bitCount_0f7a4_0 : decode cJ6_bitCount_0f7a4 0 = .ok (.iload_n 0, 1) := by decide +kernel
theorem dJ6_bitCount_0f7a4_1 : decode cJ6_bitCount_0f7a4 1 = .ok (.iload_n 0, 1) := by decide +kernel
theorem dJ6_bitCount_0f7a4_2 : decode cJ6_bitCount_0f7a4 2 = .ok (.iconst 1, 1) := by decide +kernel
theorem dJ6_bitCount_0f7a4_3 : decode cJ6_bitCount_0f7a4 3 = .ok (.iushr, 1) := by decide +kernel
theorem dJ6_bitCount_0f7a4_4 : decode cJ6_bitCount_0f7a4 4 = .ok (.ldc_w 265, 3) := by decide +kernel
theorem dJ6_bitCount_0f7a4_7 : decode cJ6_bitCount_0f7a4 7 = .ok (.iand, 1) := by decide +kernel
theorem dJ6_bitCount_0f7a4_8 : decode cJ6_bitCount_0f7a4 8 = .ok (.isub, 1) := by decide +kernel
theorem dJ6_bitCount_0f7a4_9 : decode cJ6_bitCount_0f7a4 9 = .ok (.istore_n 0, 1) := by decide +kernel
theorem dJ6_bitCount_0f7a4_10 : decode cJ6_bitCount_0f7a4 10 = .ok (.iload_n 0, 1) := by decide +kernel
theorem dJ6_bitCount_0f7a4_11 : decode cJ6_bitCount_0f7a4 11 = .ok (.ldc_w 266, 3) := by decide +kernel
theorem dJ6_bitCount_0f7a4_14 : decode cJ6_bitCount_0f7a4 14 = .ok (.iand, 1) := by decide +kernel
theorem dJ6_bitCount_0f7a4_15 : decode cJ6_bitCount_0f7a4 15 = .ok (.iload_n 0, 1) := by decide +kernel
theorem dJ6_bitCount_0f7a4_16 : decode cJ6_bitCount_0f7a4 16 = .ok (.iconst 2, 1) := by decide +kernel
theorem dJ6_bitCount_0f7a4_17 : decode cJ6_bitCount_0f7a4 17 = .ok (.iushr, 1) := by decide +kernel
theorem dJ6_bitCount_0f7a4_18 : decode cJ6_bitCount_0f7a4 18 = .ok (.ldc_w 266, 3) := by decide +kernel
theorem dJ6_bitCount_0f7a4_21 : decode cJ6_bitCount_0f7a4 21 = .ok (.iand, 1) := by decide +kernel
theorem dJ6_bitCount_0f7a4_22 : decode cJ6_bitCount_0f7a4 22 = .ok (.iadd, 1) := by decide +kernel
theorem dJ6_bitCount_0f7a4_23 : decode cJ6_bitCount_0f7a4 23 = .ok (.istore_n 0, 1) := by decide +kernel
theorem dJ6_bitCount_0f7a4_24 : decode cJ6_bitCount_0f7a4 24 = .ok (.iload_n 0, 1) := by decide +kernel
theorem dJ6_bitCount_0f7a4_25 : decode cJ6_bitCount_0f7a4 25 = .ok (.iload_n 0, 1) := by decide +kernel
theorem dJ6_bitCount_0f7a4_26 : decode cJ6_bitCount_0f7a4 26 = .ok (.iconst 4, 1) := by decide +kernel
theorem dJ6_bitCount_0f7a4_27 : decode cJ6_bitCount_0f7a4 27 = .ok (.iushr, 1) := by decide +kernel
theorem dJ6_bitCount_0f7a4_28 : decode cJ6_bitCount_0f7a4 28 = .ok (.iadd, 1) := by decide +kernel
theorem dJ6_bitCount_0f7a4_29 : decode cJ6_bitCount_0f7a4 29 = .ok (.ldc_w 267, 3) := by decide +kernel
theorem dJ6_bitCount_0f7a4_32 : decode cJ6_bitCount_0f7a4 32 = .ok (.iand, 1) := by decide +kernel
theorem dJ6_bitCount_0f7a4_33 : decode cJ6_bitCount_0f7a4 33 = .ok (.istore_n 0, 1) := by decide +kernel
theorem dJ6_bitCount_0f7a4_34 : decode cJ6_bitCount_0f7a4 34 = .ok (.iload_n 0, 1) := by decide +kernel
theorem dJ6_bitCount_0f7a4_35 : decode cJ6_bitCount_0f7a4 35 = .ok (.iload_n 0, 1) := by decide +kernel
theorem dJ6_bitCount_0f7a4_36 : decode cJ6_bitCount_0f7a4 36 = .ok (.bipush 8, 2) := by decide +kernel
theorem dJ6_bitCount_0f7a4_38 : decode cJ6_bitCount_0f7a4 38 = .ok (.iushr, 1) := by decide +kernel
theorem dJ6_bitCount_0f7a4_39 : decode cJ6_bitCount_0f7a4 39 = .ok (.iadd, 1) := by decide +kernel
theorem dJ6_bitCount_0f7a4_40 : decode cJ6_bitCount_0f7a4 40 = .ok (.istore_n 0, 1) := by decide +kernel
theorem dJ6_bitCount_0f7a4_41 : decode cJ6_bitCount_0f7a4 41 = .ok (.iload_n 0, 1) := by decide +kernel
theorem dJ6_bitCount_0f7a4_42 : decode cJ6_bitCount_0f7a4 42 = .ok (.iload_n 0, 1) := by decide +kernel
theorem dJ6_bitCount_0f7a4_43 : decode cJ6_bitCount_0f7a4 43 = .ok (.bipush 16, 2) := by decide +kernel
theorem dJ6_bitCount_0f7a4_45 : decode cJ6_bitCount_0f7a4 45 = .ok (.iushr, 1) := by decide +kernel
theorem dJ6_bitCount_0f7a4_46 : decode cJ6_bitCount_0f7a4 46 = .ok (.iadd, 1) := by decide +kernel
theorem dJ6_bitCount_0f7a4_47 : decode cJ6_bitCount_0f7a4 47 = .ok (.istore_n 0, 1) := by decide +kernel
theorem dJ6_bitCount_0f7a4_48 : decode cJ6_bitCount_0f7a4 48 = .ok (.iload_n 0, 1) := by decide +kernel
theorem dJ6_bitCount_0f7a4_49 : decode cJ6_bitCount_0f7a4 49 = .ok (.bipush 63, 2) := by decide +kernel
theorem dJ6_bitCount_0f7a4_51 : decode cJ6_bitCount_0f7a4 51 = .ok (.iand, 1) := by decide +kernel
theorem dJ6_bitCount_0f7a4_52 : decode cJ6_bitCount_0f7a4 52 = .ok (.ireturn, 1) := by decide +kernel
theorem dJ9_floorMod_7cf53_0 : decode cJ9_floorMod_7cf53 0 = .ok (.iload_n 0, 1) := by decide +kernel
theorem dJ9_floorMod_7cf53_1 : decode cJ9_floorMod_7cf53 1 = .ok (.iload_n 1, 1) := by decide +kernel
theorem dJ9_floorMod_7cf53_2 : decode cJ9_floorMod_7cf53 2 = .ok (.irem, 1) := by decide +kernel
theorem dJ9_floorMod_7cf53_3 : decode cJ9_floorMod_7cf53 3 = .ok (.istore_n 2, 1) := by decide +kernel
theorem dJ9_floorMod_7cf53_4 : decode cJ9_floorMod_7cf53 4 = .ok (.iload_n 0, 1) := by decide +kernel
theorem dJ9_floorMod_7cf53_5 : decode cJ9_floorMod_7cf53 5 = .ok (.iload_n 1, 1) := by decide +kernel
theorem dJ9_floorMod_7cf53_6 : decode cJ9_floorMod_7cf53 6 = .ok (.ixor, 1) := by decide +kernel
theorem dJ9_floorMod_7cf53_7 : decode cJ9_floorMod_7cf53 7 = .ok (.ifCond .ge 11, 3) := by decide +kernel
theorem dJ9_floorMod_7cf53_10 : decode cJ9_floorMod_7cf53 10 = .ok (.iload_n 2, 1) := by decide +kernel
theorem dJ9_floorMod_7cf53_11 : decode cJ9_floorMod_7cf53 11 = .ok (.ifCond .eq 7, 3) := by decide +kernel
theorem dJ9_floorMod_7cf53_14 : decode cJ9_floorMod_7cf53 14 = .ok (.iload_n 2, 1) := by decide +kernel
theorem dJ9_floorMod_7cf53_15 : decode cJ9_floorMod_7cf53 15 = .ok (.iload_n 1, 1) := by decide +kernel
theorem dJ9_floorMod_7cf53_16 : decode cJ9_floorMod_7cf53 16 = .ok (.iadd, 1) := by decide +kernel
theorem dJ9_floorMod_7cf53_17 : decode cJ9_floorMod_7cf53 17 = .ok (.ireturn, 1) := by decide +kernel
theorem dJ9_floorMod_7cf53_18 : decode cJ9_floorMod_7cf53 18 = .ok (.iload_n 2, 1) := by decide +kernel
theorem dJ9_floorMod_7cf53_19 : decode cJ9_floorMod_7cf53 19 = .ok (.ireturn, 1) := by decide +kernel
theorem dJ9_abs_0f7a4_0 : decode cJ9_abs_0f7a4 0 = .ok (.iload_n 0, 1) := by decide +kernel
theorem dJ9_abs_0f7a4_1 : decode cJ9_abs_0f7a4 1 = .ok (.ifCond .ge 8, 3) := by decide +kernel
theorem dJ9_abs_0f7a4_4 : decode cJ9_abs_0f7a4 4 = .ok (.iload_n 0, 1) := by decide +kernel
theorem dJ9_abs_0f7a4_5 : decode cJ9_abs_0f7a4 5 = .ok (.ineg, 1) := by decide +kernel
theorem dJ9_abs_0f7a4_6 : decode cJ9_abs_0f7a4 6 = .ok (.goto 4, 3) := by decide +kernel
theorem dJ9_abs_0f7a4_9 : decode cJ9_abs_0f7a4 9 = .ok (.iload_n 0, 1) := by decide +kernel
theorem dJ9_abs_0f7a4_10 : decode cJ9_abs_0f7a4 10 = .ok (.ireturn, 1) := by decide +kernel
theorem dJ9_max_7cf53_0 : decode cJ9_max_7cf53 0 = .ok (.iload_n 0, 1) := by decide +kernel
theorem dJ9_max_7cf53_1 : decode cJ9_max_7cf53 1 = .ok (.iload_n 1, 1) := by decide +kernel
theorem dJ9_max_7cf53_2 : decode cJ9_max_7cf53 2 = .ok (.if_icmp .lt 7, 3) := by decide +kernel
theorem dJ9_max_7cf53_5 : decode cJ9_max_7cf53 5 = .ok (.iload_n 0, 1) := by decide +kernel
theorem dJ9_max_7cf53_6 : decode cJ9_max_7cf53 6 = .ok (.goto 4, 3) := by decide +kernel
theorem dJ9_max_7cf53_9 : decode cJ9_max_7cf53 9 = .ok (.iload_n 1, 1) := by decide +kernel
theorem dJ9_max_7cf53_10 : decode cJ9_max_7cf53 10 = .ok (.ireturn, 1) := by decide +kernel
theorem dJ9_min_7cf53_0 : decode cJ9_min_7cf53 0 = .ok (.iload_n 0, 1) := by decide +kernel
theorem dJ9_min_7cf53_1 : decode cJ9_min_7cf53 1 = .ok (.iload_n 1, 1) := by decide +kernel
theorem dJ9_min_7cf53_2 : decode cJ9_min_7cf53 2 = .ok (.if_icmp .gt 7, 3) := by decide +kernel
theorem dJ9_min_7cf53_5 : decode cJ9_min_7cf53 5 = .ok (.iload_n 0, 1) := by decide +kernel
theorem dJ9_min_7cf53_6 : decode cJ9_min_7cf53 6 = .ok (.goto 4, 3) := by decide +kernel
theorem dJ9_min_7cf53_9 : decode cJ9_min_7cf53 9 = .ok (.iload_n 1, 1) := by decide +kernel
theorem dJ9_min_7cf53_10 : decode cJ9_min_7cf53 10 = .ok (.ireturn, 1) := by decide +kernel
theorem dJ0_length_8abf5_0 : decode cJ0_length_8abf5 0 = .ok (.aload_n 0, 1) := by decide +kernel
theorem dJ0_length_8abf5_1 : decode cJ0_length_8abf5 1 = .ok (.getfield 9, 3) := by decide +kernel
theorem dJ0_length_8abf5_4 : decode cJ0_length_8abf5 4 = .ok (.arraylength, 1) := by decide +kernel
theorem dJ0_length_8abf5_5 : decode cJ0_length_8abf5 5 = .ok (.aload_n 0, 1) := by decide +kernel
theorem dJ0_length_8abf5_6 : decode cJ0_length_8abf5 6 = .ok (.invokevirtual 335, 3) := by decide +kernel
theorem dJ0_length_8abf5_9 : decode cJ0_length_8abf5 9 = .ok (.ishr, 1) := by decide +kernel
theorem dJ0_length_8abf5_10 : decode cJ0_length_8abf5 10 = .ok (.ireturn, 1) := by decide +kernel
theorem dJ0_charAt_5068e_0 : decode cJ0_charAt_5068e 0 = .ok (.aload_n 0, 1) := by decide +kernel
theorem dJ0_charAt_5068e_1 : decode cJ0_charAt_5068e 1 = .ok (.invokevirtual 492, 3) := by decide +kernel
theorem dJ0_charAt_5068e_4 : decode cJ0_charAt_5068e 4 = .ok (.ifCond .eq 12, 3) := by decide +kernel
theorem dJ0_charAt_5068e_7 : decode cJ0_charAt_5068e 7 = .ok (.aload_n 0, 1) := by decide +kernel
theorem dJ0_charAt_5068e_8 : decode cJ0_charAt_5068e 8 = .ok (.getfield 9, 3) := by decide +kernel
theorem dJ0_charAt_5068e_11 : decode cJ0_charAt_5068e 11 = .ok (.iload_n 1, 1) := by decide +kernel
theorem dJ0_charAt_5068e_12 : decode cJ0_charAt_5068e 12 = .ok (.invokestatic 495, 3) := by decide +kernel
theorem dJ0_charAt_5068e_15 : decode cJ0_charAt_5068e 15 = .ok (.ireturn, 1) := by decide +kernel
theorem dJ0_charAt_5068e_16 : decode cJ0_charAt_5068e 16 = .ok (.aload_n 0, 1) := by decide +kernel
theorem dJ0_charAt_5068e_17 : decode cJ0_charAt_5068e 17 = .ok (.getfield 9, 3) := by decide +kernel
theorem dJ0_charAt_5068e_20 : decode cJ0_charAt_5068e 20 = .ok (.iload_n 1, 1) := by decide +kernel
theorem dJ0_charAt_5068e_21 : decode cJ0_charAt_5068e 21 = .ok (.invokestatic 498, 3) := by decide +kernel
theorem dJ0_charAt_5068e_24 : decode cJ0_charAt_5068e 24 = .ok (.ireturn, 1) := by decide +kernel
theorem dJ0_coder_7d493_0 : decode cJ0_coder_7d493 0 = .ok (.getstatic 38, 3) := by decide +kernel
theorem dJ0_coder_7d493_3 : decode cJ0_coder_7d493 3 = .ok (.ifCond .eq 10, 3) := by decide +kernel
theorem dJ0_coder_7d493_6 : decode cJ0_coder_7d493 6 = .ok (.aload_n 0, 1) := by decide +kernel
theorem dJ0_coder_7d493_7 : decode cJ0_coder_7d493 7 = .ok (.getfield 15, 3) := by decide +kernel
theorem dJ0_coder_7d493_10 : decode cJ0_coder_7d493 10 = .ok (.goto 4, 3) := by decide +kernel
theorem dJ0_coder_7d493_13 : decode cJ0_coder_7d493 13 = .ok (.iconst 1, 1) := by decide +kernel
theorem dJ0_coder_7d493_14 : decode cJ0_coder_7d493 14 = .ok (.ireturn, 1) := by decide +kernel
theorem dJ0_isLatin1_aae02_0 : decode cJ0_isLatin1_aae02 0 = .ok (.getstatic 38, 3) := by decide +kernel
theorem dJ0_isLatin1_aae02_3 : decode cJ0_isLatin1_aae02 3 = .ok (.ifCond .eq 14, 3) := by decide +kernel
theorem dJ0_isLatin1_aae02_6 : decode cJ0_isLatin1_aae02 6 = .ok (.aload_n 0, 1) := by decide +kernel
theorem dJ0_isLatin1_aae02_7 : decode cJ0_isLatin1_aae02 7 = .ok (.getfield 15, 3) := by decide +kernel
theorem dJ0_isLatin1_aae02_10 : decode cJ0_isLatin1_aae02 10 = .ok (.ifCond .ne 7, 3) := by decide +kernel
theorem dJ0_isLatin1_aae02_13 : decode cJ0_isLatin1_aae02 13 = .ok (.iconst 1, 1) := by decide +kernel
theorem dJ0_isLatin1_aae02_14 : decode cJ0_isLatin1_aae02 14 = .ok (.goto 4, 3) := by decide +kernel
theorem dJ0_isLatin1_aae02_17 : decode cJ0_isLatin1_aae02 17 = .ok (.iconst 0, 1) := by decide +kernel
theorem dJ0_isLatin1_aae02_18 : decode cJ0_isLatin1_aae02 18 = .ok (.ireturn, 1) := by decide +kernel
theorem dJ0_checkIndex_df160_0 : decode cJ0_checkIndex_df160 0 = .ok (.iload_n 0, 1) := by decide +kernel
theorem dJ0_checkIndex_df160_1 : decode cJ0_checkIndex_df160 1 = .ok (.iload_n 1, 1) := by decide +kernel
theorem dJ0_checkIndex_df160_2 : decode cJ0_checkIndex_df160 2 = .ok (.getstatic 1053, 3) := by decide +kernel
theorem dJ0_checkIndex_df160_5 : decode cJ0_checkIndex_df160 5 = .ok (.invokestatic 1059, 3) := by decide +kernel
theorem dJ0_checkIndex_df160_8 : decode cJ0_checkIndex_df160 8 = .ok (.pop, 1) := by decide +kernel
theorem dJ0_checkIndex_df160_9 : decode cJ0_checkIndex_df160 9 = .ok (.return_, 1) := by decide +kernel
theorem dJ1_charAt_3b067_0 : decode cJ1_charAt_3b067 0 = .ok (.iload_n 1, 1) := by decide +kernel
theorem dJ1_charAt_3b067_1 : decode cJ1_charAt_3b067 1 = .ok (.aload_n 0, 1) := by decide +kernel
theorem dJ1_charAt_3b067_2 : decode cJ1_charAt_3b067 2 = .ok (.arraylength, 1) := by decide +kernel
theorem dJ1_charAt_3b067_3 : decode cJ1_charAt_3b067 3 = .ok (.invokestatic 9, 3) := by decide +kernel
theorem dJ1_charAt_3b067_6 : decode cJ1_charAt_3b067 6 = .ok (.aload_n 0, 1) := by decide +kernel
theorem dJ1_charAt_3b067_7 : decode cJ1_charAt_3b067 7 = .ok (.iload_n 1, 1) := by decide +kernel
theorem dJ1_charAt_3b067_8 : decode cJ1_charAt_3b067 8 = .ok (.baload, 1) := by decide +kernel
theorem dJ1_charAt_3b067_9 : decode cJ1_charAt_3b067 9 = .ok (.sipush 255, 3) := by decide +kernel
theorem dJ1_charAt_3b067_12 : decode cJ1_charAt_3b067 12 = .ok (.iand, 1) := by decide +kernel
theorem dJ1_charAt_3b067_13 : decode cJ1_charAt_3b067 13 = .ok (.i2c, 1) := by decide +kernel
theorem dJ1_charAt_3b067_14 : decode cJ1_charAt_3b067 14 = .ok (.ireturn, 1) := by decide +kernel
theorem dJ2_getChar_3b067_0 : decode cJ2_getChar_3b067 0 = .ok (.getstatic 44, 3) := by decide +kernel
theorem dJ2_getChar_3b067_3 : decode cJ2_getChar_3b067 3 = .ok (.ifCond .ne 25, 3) := by decide +kernel
theorem dJ2_getChar_3b067_6 : decode cJ2_getChar_3b067 6 = .ok (.iload_n 1, 1) := by decide +kernel
theorem dJ2_getChar_3b067_7 : decode cJ2_getChar_3b067 7 = .ok (.ifCond .lt 11, 3) := by decide +kernel
theorem dJ2_getChar_3b067_10 : decode cJ2_getChar_3b067 10 = .ok (.iload_n 1, 1) := by decide +kernel
theorem dJ2_getChar_3b067_11 : decode cJ2_getChar_3b067 11 = .ok (.aload_n 0, 1) := by decide +kernel
theorem dJ2_getChar_3b067_12 : decode cJ2_getChar_3b067 12 = .ok (.invokestatic 48, 3) := by decide +kernel
theorem dJ2_getChar_3b067_15 : decode cJ2_getChar_3b067 15 = .ok (.if_icmp .lt 13, 3) := by decide +kernel
theorem dJ2_getChar_3b067_18 : decode cJ2_getChar_3b067 18 = .ok (.new 52, 3) := by decide +kernel
theorem dJ2_getChar_3b067_21 : decode cJ2_getChar_3b067 21 = .ok (.dup, 1) := by decide +kernel
theorem dJ2_getChar_3b067_22 : decode cJ2_getChar_3b067 22 = .ok (.ldc 54, 2) := by decide +kernel
theorem dJ2_getChar_3b067_24 : decode cJ2_getChar_3b067 24 = .ok (.invokespecial 56, 3) := by decide +kernel
theorem dJ2_getChar_3b067_27 : decode cJ2_getChar_3b067 27 = .ok (.athrow, 1) := by decide +kernel
theorem dJ2_getChar_3b067_28 : decode cJ2_getChar_3b067 28 = .ok (.iload_n 1, 1) := by decide +kernel
theorem dJ2_getChar_3b067_29 : decode cJ2_getChar_3b067 29 = .ok (.iconst 1, 1) := by decide +kernel
theorem dJ2_getChar_3b067_30 : decode cJ2_getChar_3b067 30 = .ok (.ishl, 1) := by decide +kernel
theorem dJ2_getChar_3b067_31 : decode cJ2_getChar_3b067 31 = .ok (.istore_n 1, 1) := by decide +kernel
theorem dJ2_getChar_3b067_32 : decode cJ2_getChar_3b067 32 = .ok (.aload_n 0, 1) := by decide +kernel
theorem dJ2_getChar_3b067_33 : decode cJ2_getChar_3b067 33 = .ok (.iload_n 1, 1) := by decide +kernel
theorem dJ2_getChar_3b067_34 : decode cJ2_getChar_3b067 34 = .ok (.iinc 1 1, 3) := by decide +kernel
theorem dJ2_getChar_3b067_37 : decode cJ2_getChar_3b067 37 = .ok (.baload, 1) := by decide +kernel
theorem dJ2_getChar_3b067_38 : decode cJ2_getChar_3b067 38 = .ok (.sipush 255, 3) := by decide +kernel
theorem dJ2_getChar_3b067_41 : decode cJ2_getChar_3b067 41 = .ok (.iand, 1) := by decide +kernel
theorem dJ2_getChar_3b067_42 : decode cJ2_getChar_3b067 42 = .ok (.getstatic 59, 3) := by decide +kernel
theorem dJ2_getChar_3b067_45 : decode cJ2_getChar_3b067 45 = .ok (.ishl, 1) := by decide +kernel
theorem dJ2_getChar_3b067_46 : decode cJ2_getChar_3b067 46 = .ok (.aload_n 0, 1) := by decide +kernel
theorem dJ2_getChar_3b067_47 : decode cJ2_getChar_3b067 47 = .ok (.iload_n 1, 1) := by decide +kernel
theorem dJ2_getChar_3b067_48 : decode cJ2_getChar_3b067 48 = .ok (.baload, 1) := by decide +kernel
theorem dJ2_getChar_3b067_49 : decode cJ2_getChar_3b067 49 = .ok (.sipush 255, 3) := by decide +kernel
theorem dJ2_getChar_3b067_52 : decode cJ2_getChar_3b067 52 = .ok (.iand, 1) := by decide +kernel
theorem dJ2_getChar_3b067_53 : decode cJ2_getChar_3b067 53 = .ok (.getstatic 63, 3) := by decide +kernel
theorem dJ2_getChar_3b067_56 : decode cJ2_getChar_3b067 56 = .ok (.ishl, 1) := by decide +kernel
theorem dJ2_getChar_3b067_57 : decode cJ2_getChar_3b067 57 = .ok (.ior, 1) := by decide +kernel
theorem dJ2_getChar_3b067_58 : decode cJ2_getChar_3b067 58 = .ok (.i2c, 1) := by decide +kernel
theorem dJ2_getChar_3b067_59 : decode cJ2_getChar_3b067 59 = .ok (.ireturn, 1) := by decide +kernel
theorem dJ2_length_9d52b_0 : decode cJ2_length_9d52b 0 = .ok (.aload_n 0, 1) := by decide +kernel
theorem dJ2_length_9d52b_1 : decode cJ2_length_9d52b 1 = .ok (.arraylength, 1) := by decide +kernel
theorem dJ2_length_9d52b_2 : decode cJ2_length_9d52b 2 = .ok (.iconst 1, 1) := by decide +kernel
theorem dJ2_length_9d52b_3 : decode cJ2_length_9d52b 3 = .ok (.ishr, 1) := by decide +kernel
theorem dJ2_length_9d52b_4 : decode cJ2_length_9d52b 4 = .ok (.ireturn, 1) := by decide +kernel
theorem dJ2_charAt_3b067_0 : decode cJ2_charAt_3b067 0 = .ok (.iload_n 1, 1) := by decide +kernel
theorem dJ2_charAt_3b067_1 : decode cJ2_charAt_3b067 1 = .ok (.aload_n 0, 1) := by decide +kernel
theorem dJ2_charAt_3b067_2 : decode cJ2_charAt_3b067 2 = .ok (.invokestatic 67, 3) := by decide +kernel
theorem dJ2_charAt_3b067_5 : decode cJ2_charAt_3b067 5 = .ok (.aload_n 0, 1) := by decide +kernel
theorem dJ2_charAt_3b067_6 : decode cJ2_charAt_3b067 6 = .ok (.iload_n 1, 1) := by decide +kernel
theorem dJ2_charAt_3b067_7 : decode cJ2_charAt_3b067 7 = .ok (.invokestatic 71, 3) := by decide +kernel
theorem dJ2_charAt_3b067_10 : decode cJ2_charAt_3b067 10 = .ok (.ireturn, 1) := by decide +kernel
theorem dJ2_checkIndex_2214a_0 : decode cJ2_checkIndex_2214a 0 = .ok (.iload_n 0, 1) := by decide +kernel
theorem dJ2_checkIndex_2214a_1 : decode cJ2_checkIndex_2214a 1 = .ok (.aload_n 1, 1) := by decide +kernel
theorem dJ2_checkIndex_2214a_2 : decode cJ2_checkIndex_2214a 2 = .ok (.invokestatic 48, 3) := by decide +kernel
theorem dJ2_checkIndex_2214a_5 : decode cJ2_checkIndex_2214a 5 = .ok (.invokestatic 414, 3) := by decide +kernel
theorem dJ2_checkIndex_2214a_8 : decode cJ2_checkIndex_2214a 8 = .ok (.return_, 1) := by decide +kernel
theorem dJ7_fill_53178_0 : decode cJ7_fill_53178 0 = .ok (.iconst 0, 1) := by decide +kernel
theorem dJ7_fill_53178_1 : decode cJ7_fill_53178 1 = .ok (.istore_n 2, 1) := by decide +kernel
theorem dJ7_fill_53178_2 : decode cJ7_fill_53178 2 = .ok (.aload_n 0, 1) := by decide +kernel
theorem dJ7_fill_53178_3 : decode cJ7_fill_53178 3 = .ok (.arraylength, 1) := by decide +kernel
theorem dJ7_fill_53178_4 : decode cJ7_fill_53178 4 = .ok (.istore_n 3, 1) := by decide +kernel
theorem dJ7_fill_53178_5 : decode cJ7_fill_53178 5 = .ok (.iload_n 2, 1) := by decide +kernel
theorem dJ7_fill_53178_6 : decode cJ7_fill_53178 6 = .ok (.iload_n 3, 1) := by decide +kernel
theorem dJ7_fill_53178_7 : decode cJ7_fill_53178 7 = .ok (.if_icmp .ge 13, 3) := by decide +kernel
theorem dJ7_fill_53178_10 : decode cJ7_fill_53178 10 = .ok (.aload_n 0, 1) := by decide +kernel
theorem dJ7_fill_53178_11 : decode cJ7_fill_53178 11 = .ok (.iload_n 2, 1) := by decide +kernel
theorem dJ7_fill_53178_12 : decode cJ7_fill_53178 12 = .ok (.iload_n 1, 1) := by decide +kernel
theorem dJ7_fill_53178_13 : decode cJ7_fill_53178 13 = .ok (.iastore, 1) := by decide +kernel
theorem dJ7_fill_53178_14 : decode cJ7_fill_53178 14 = .ok (.iinc 2 1, 3) := by decide +kernel
theorem dJ7_fill_53178_17 : decode cJ7_fill_53178 17 = .ok (.goto (-12), 3) := by decide +kernel
theorem dJ7_fill_53178_20 : decode cJ7_fill_53178 20 = .ok (.return_, 1) := by decide +kernel
theorem dJ3_checkIndex_8e157_0 : decode cJ3_checkIndex_8e157 0 = .ok (.iload_n 0, 1) := by decide +kernel
theorem dJ3_checkIndex_8e157_1 : decode cJ3_checkIndex_8e157 1 = .ok (.ifCond .lt 8, 3) := by decide +kernel
theorem dJ3_checkIndex_8e157_4 : decode cJ3_checkIndex_8e157 4 = .ok (.iload_n 0, 1) := by decide +kernel
theorem dJ3_checkIndex_8e157_5 : decode cJ3_checkIndex_8e157 5 = .ok (.iload_n 1, 1) := by decide +kernel
theorem dJ3_checkIndex_8e157_6 : decode cJ3_checkIndex_8e157 6 = .ok (.if_icmp .lt 10, 3) := by decide +kernel
theorem dJ3_checkIndex_8e157_9 : decode cJ3_checkIndex_8e157 9 = .ok (.aload_n 2, 1) := by decide +kernel
theorem dJ3_checkIndex_8e157_10 : decode cJ3_checkIndex_8e157 10 = .ok (.iload_n 0, 1) := by decide +kernel
theorem dJ3_checkIndex_8e157_11 : decode cJ3_checkIndex_8e157 11 = .ok (.iload_n 1, 1) := by decide +kernel
theorem dJ3_checkIndex_8e157_12 : decode cJ3_checkIndex_8e157 12 = .ok (.invokestatic 95, 3) := by decide +kernel
theorem dJ3_checkIndex_8e157_15 : decode cJ3_checkIndex_8e157 15 = .ok (.athrow, 1) := by decide +kernel
theorem dJ3_checkIndex_8e157_16 : decode cJ3_checkIndex_8e157 16 = .ok (.iload_n 0, 1) := by decide +kernel
theorem dJ3_checkIndex_8e157_17 : decode cJ3_checkIndex_8e157 17 = .ok (.ireturn, 1) := by decide +kernel
theorem dL_law_0 : decode cL_law 0 = .ok (.new 7, 3) := by decide +kernel
theorem dL_law_3 : decode cL_law 3 = .ok (.dup, 1) := by decide +kernel
theorem dL_law_4 : decode cL_law 4 = .ok (.invokespecial 9, 3) := by decide +kernel
theorem dL_law_7 : decode cL_law 7 = .ok (.astore_n 1, 1) := by decide +kernel
theorem dL_law_8 : decode cL_law 8 = .ok (.new 10, 3) := by decide +kernel
theorem dL_law_11 : decode cL_law 11 = .ok (.dup, 1) := by decide +kernel
theorem dL_law_12 : decode cL_law 12 = .ok (.invokespecial 12, 3) := by decide +kernel
theorem dL_law_15 : decode cL_law 15 = .ok (.astore_n 2, 1) := by decide +kernel
theorem dL_law_16 : decode cL_law 16 = .ok (.iconst 0, 1) := by decide +kernel
theorem dL_law_17 : decode cL_law 17 = .ok (.istore_n 3, 1) := by decide +kernel
theorem dL_law_18 : decode cL_law 18 = .ok (.iload_n 3, 1) := by decide +kernel
theorem dL_law_19 : decode cL_law 19 = .ok (.aload_n 0, 1) := by decide +kernel
theorem dL_law_20 : decode cL_law 20 = .ok (.arraylength, 1) := by decide +kernel
theorem dL_law_21 : decode cL_law 21 = .ok (.bipush 6, 2) := by decide +kernel
theorem dL_law_23 : decode cL_law 23 = .ok (.isub, 1) := by decide +kernel
theorem dL_law_24 : decode cL_law 24 = .ok (.if_icmp .gt 1069, 3) := by decide +kernel
theorem dL_law_27 : decode cL_law 27 = .ok (.aload_n 0, 1) := by decide +kernel
theorem dL_law_28 : decode cL_law 28 = .ok (.iload_n 3, 1) := by decide +kernel
theorem dL_law_29 : decode cL_law 29 = .ok (.iaload, 1) := by decide +kernel
theorem dL_law_30 : decode cL_law 30 = .ok (.bipush 31, 2) := by decide +kernel
theorem dL_law_32 : decode cL_law 32 = .ok (.iand, 1) := by decide +kernel
theorem dL_law_33 : decode cL_law 33 = .ok (.tableswitch 1054 0 28 #[131, 154, 187, 230, 273, 336, 359, 382, 405, 428, 461, 484, 517, 550, 583, 616, 649, 672, 695, 728, 771, 814, 867, 900, 923, 956, 979, 992, 1031], 131) := by decide +kernel
theorem dL_law_164 : decode cL_law 164 = .ok (.aload_n 1, 1) := by decide +kernel
theorem dL_law_165 : decode cL_law 165 = .ok (.aload_n 0, 1) := by decide +kernel
theorem dL_law_166 : decode cL_law 166 = .ok (.iload_n 3, 1) := by decide +kernel
theorem dL_law_167 : decode cL_law 167 = .ok (.iconst 1, 1) := by decide +kernel
theorem dL_law_168 : decode cL_law 168 = .ok (.iadd, 1) := by decide +kernel
theorem dL_law_169 : decode cL_law 169 = .ok (.iaload, 1) := by decide +kernel
theorem dL_law_170 : decode cL_law 170 = .ok (.invokevirtual 13, 3) := by decide +kernel
theorem dL_law_173 : decode cL_law 173 = .ok (.aload_n 2, 1) := by decide +kernel
theorem dL_law_174 : decode cL_law 174 = .ok (.aload_n 0, 1) := by decide +kernel
theorem dL_law_175 : decode cL_law 175 = .ok (.iload_n 3, 1) := by decide +kernel
theorem dL_law_176 : decode cL_law 176 = .ok (.iconst 1, 1) := by decide +kernel
theorem dL_law_177 : decode cL_law 177 = .ok (.iadd, 1) := by decide +kernel
theorem dL_law_178 : decode cL_law 178 = .ok (.iaload, 1) := by decide +kernel
theorem dL_law_179 : decode cL_law 179 = .ok (.invokevirtual 17, 3) := by decide +kernel
theorem dL_law_182 : decode cL_law 182 = .ok (.if_icmp .eq 905, 3) := by decide +kernel
theorem dL_law_185 : decode cL_law 185 = .ok (.iconst 0, 1) := by decide +kernel
theorem dL_law_186 : decode cL_law 186 = .ok (.ireturn, 1) := by decide +kernel
theorem dL_law_187 : decode cL_law 187 = .ok (.aload_n 1, 1) := by decide +kernel
theorem dL_law_188 : decode cL_law 188 = .ok (.aload_n 0, 1) := by decide +kernel
theorem dL_law_189 : decode cL_law 189 = .ok (.iload_n 3, 1) := by decide +kernel
theorem dL_law_190 : decode cL_law 190 = .ok (.iconst 1, 1) := by decide +kernel
theorem dL_law_191 : decode cL_law 191 = .ok (.iadd, 1) := by decide +kernel
theorem dL_law_192 : decode cL_law 192 = .ok (.iaload, 1) := by decide +kernel
theorem dL_law_193 : decode cL_law 193 = .ok (.aload_n 0, 1) := by decide +kernel
theorem dL_law_194 : decode cL_law 194 = .ok (.iload_n 3, 1) := by decide +kernel
theorem dL_law_195 : decode cL_law 195 = .ok (.iconst 2, 1) := by decide +kernel
theorem dL_law_196 : decode cL_law 196 = .ok (.iadd, 1) := by decide +kernel
theorem dL_law_197 : decode cL_law 197 = .ok (.iaload, 1) := by decide +kernel
theorem dL_law_198 : decode cL_law 198 = .ok (.invokevirtual 18, 3) := by decide +kernel
theorem dL_law_201 : decode cL_law 201 = .ok (.aload_n 2, 1) := by decide +kernel
theorem dL_law_202 : decode cL_law 202 = .ok (.aload_n 0, 1) := by decide +kernel
theorem dL_law_203 : decode cL_law 203 = .ok (.iload_n 3, 1) := by decide +kernel
theorem dL_law_204 : decode cL_law 204 = .ok (.iconst 1, 1) := by decide +kernel
theorem dL_law_205 : decode cL_law 205 = .ok (.iadd, 1) := by decide +kernel
theorem dL_law_206 : decode cL_law 206 = .ok (.iaload, 1) := by decide +kernel
theorem dL_law_207 : decode cL_law 207 = .ok (.aload_n 0, 1) := by decide +kernel
theorem dL_law_208 : decode cL_law 208 = .ok (.iload_n 3, 1) := by decide +kernel
theorem dL_law_209 : decode cL_law 209 = .ok (.iconst 2, 1) := by decide +kernel
theorem dL_law_210 : decode cL_law 210 = .ok (.iadd, 1) := by decide +kernel
theorem dL_law_211 : decode cL_law 211 = .ok (.iaload, 1) := by decide +kernel
theorem dL_law_212 : decode cL_law 212 = .ok (.invokevirtual 22, 3) := by decide +kernel
theorem dL_law_215 : decode cL_law 215 = .ok (.if_icmp .eq 872, 3) := by decide +kernel
theorem dL_law_218 : decode cL_law 218 = .ok (.iconst 0, 1) := by decide +kernel
theorem dL_law_219 : decode cL_law 219 = .ok (.ireturn, 1) := by decide +kernel
theorem dL_law_220 : decode cL_law 220 = .ok (.aload_n 1, 1) := by decide +kernel
theorem dL_law_221 : decode cL_law 221 = .ok (.aload_n 0, 1) := by decide +kernel
theorem dL_law_222 : decode cL_law 222 = .ok (.iload_n 3, 1) := by decide +kernel
theorem dL_law_223 : decode cL_law 223 = .ok (.iconst 1, 1) := by decide +kernel
theorem dL_law_224 : decode cL_law 224 = .ok (.iadd, 1) := by decide +kernel
theorem dL_law_225 : decode cL_law 225 = .ok (.iaload, 1) := by decide +kernel
theorem dL_law_226 : decode cL_law 226 = .ok (.aload_n 0, 1) := by decide +kernel
theorem dL_law_227 : decode cL_law 227 = .ok (.iload_n 3, 1) := by decide +kernel
theorem dL_law_228 : decode cL_law 228 = .ok (.iconst 2, 1) := by decide +kernel
theorem dL_law_229 : decode cL_law 229 = .ok (.iadd, 1) := by decide +kernel
