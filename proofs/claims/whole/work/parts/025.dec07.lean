theorem dX12_takesLaw_171 : decode cX12_takesLaw 171 = .ok (.aload_n 0, 1) := by decide +kernel
theorem dX12_takesLaw_172 : decode cX12_takesLaw 172 = .ok (.getfield 34, 3) := by decide +kernel
theorem dX12_takesLaw_175 : decode cX12_takesLaw 175 = .ok (.aload_n 0, 1) := by decide +kernel
theorem dX12_takesLaw_176 : decode cX12_takesLaw 176 = .ok (.getfield 229, 3) := by decide +kernel
theorem dX12_takesLaw_179 : decode cX12_takesLaw 179 = .ok (.iload_n 1, 1) := by decide +kernel
theorem dX12_takesLaw_180 : decode cX12_takesLaw 180 = .ok (.iastore, 1) := by decide +kernel
theorem dX12_takesLaw_181 : decode cX12_takesLaw 181 = .ok (.return_, 1) := by decide +kernel
theorem dX12_readNumber_0 : decode cX12_readNumber 0 = .ok (.aload_n 0, 1) := by decide +kernel
theorem dX12_readNumber_1 : decode cX12_readNumber 1 = .ok (.getfield 157, 3) := by decide +kernel
theorem dX12_readNumber_4 : decode cX12_readNumber 4 = .ok (.iconst 3, 1) := by decide +kernel
theorem dX12_readNumber_5 : decode cX12_readNumber 5 = .ok (.if_icmp .eq 9, 3) := by decide +kernel
theorem dX12_readNumber_8 : decode cX12_readNumber 8 = .ok (.aload_n 0, 1) := by decide +kernel
theorem dX12_readNumber_9 : decode cX12_readNumber 9 = .ok (.iconst 1, 1) := by decide +kernel
theorem dX12_readNumber_10 : decode cX12_readNumber 10 = .ok (.invokevirtual 188, 3) := by decide +kernel
theorem dX12_readNumber_13 : decode cX12_readNumber 13 = .ok (.ireturn, 1) := by decide +kernel
theorem dX12_readNumber_14 : decode cX12_readNumber 14 = .ok (.aload_n 0, 1) := by decide +kernel
theorem dX12_readNumber_15 : decode cX12_readNumber 15 = .ok (.aload_n 0, 1) := by decide +kernel
theorem dX12_readNumber_16 : decode cX12_readNumber 16 = .ok (.getfield 160, 3) := by decide +kernel
theorem dX12_readNumber_19 : decode cX12_readNumber 19 = .ok (.iload_n 1, 1) := by decide +kernel
theorem dX12_readNumber_20 : decode cX12_readNumber 20 = .ok (.iload_n 2, 1) := by decide +kernel
theorem dX12_readNumber_21 : decode cX12_readNumber 21 = .ok (.invokevirtual 121, 3) := by decide +kernel
theorem dX12_readNumber_24 : decode cX12_readNumber 24 = .ok (.ifCond .ne 9, 3) := by decide +kernel
theorem dX12_readNumber_27 : decode cX12_readNumber 27 = .ok (.aload_n 0, 1) := by decide +kernel
theorem dX12_readNumber_28 : decode cX12_readNumber 28 = .ok (.iconst 2, 1) := by decide +kernel
theorem dX12_readNumber_29 : decode cX12_readNumber 29 = .ok (.invokevirtual 188, 3) := by decide +kernel
theorem dX12_readNumber_32 : decode cX12_readNumber 32 = .ok (.ireturn, 1) := by decide +kernel
theorem dX12_readNumber_33 : decode cX12_readNumber 33 = .ok (.aload_n 0, 1) := by decide +kernel
theorem dX12_readNumber_34 : decode cX12_readNumber 34 = .ok (.getfield 160, 3) := by decide +kernel
theorem dX12_readNumber_37 : decode cX12_readNumber 37 = .ok (.istore_n 3, 1) := by decide +kernel
theorem dX12_readNumber_38 : decode cX12_readNumber 38 = .ok (.aload_n 0, 1) := by decide +kernel
theorem dX12_readNumber_39 : decode cX12_readNumber 39 = .ok (.invokevirtual 195, 3) := by decide +kernel
theorem dX12_readNumber_42 : decode cX12_readNumber 42 = .ok (.iload_n 3, 1) := by decide +kernel
theorem dX12_readNumber_43 : decode cX12_readNumber 43 = .ok (.ireturn, 1) := by decide +kernel
theorem dX12_readWord_0 : decode cX12_readWord 0 = .ok (.aload_n 0, 1) := by decide +kernel
theorem dX12_readWord_1 : decode cX12_readWord 1 = .ok (.iload_n 1, 1) := by decide +kernel
theorem dX12_readWord_2 : decode cX12_readWord 2 = .ok (.invokevirtual 217, 3) := by decide +kernel
theorem dX12_readWord_5 : decode cX12_readWord 5 = .ok (.ifCond .ne 9, 3) := by decide +kernel
theorem dX12_readWord_8 : decode cX12_readWord 8 = .ok (.aload_n 0, 1) := by decide +kernel
theorem dX12_readWord_9 : decode cX12_readWord 9 = .ok (.iconst 1, 1) := by decide +kernel
theorem dX12_readWord_10 : decode cX12_readWord 10 = .ok (.invokevirtual 188, 3) := by decide +kernel
theorem dX12_readWord_13 : decode cX12_readWord 13 = .ok (.ireturn, 1) := by decide +kernel
theorem dX12_readWord_14 : decode cX12_readWord 14 = .ok (.aload_n 0, 1) := by decide +kernel
theorem dX12_readWord_15 : decode cX12_readWord 15 = .ok (.invokevirtual 195, 3) := by decide +kernel
theorem dX12_readWord_18 : decode cX12_readWord 18 = .ok (.iconst 0, 1) := by decide +kernel
theorem dX12_readWord_19 : decode cX12_readWord 19 = .ok (.ireturn, 1) := by decide +kernel
theorem dX12_readMark_0 : decode cX12_readMark 0 = .ok (.aload_n 0, 1) := by decide +kernel
theorem dX12_readMark_1 : decode cX12_readMark 1 = .ok (.iload_n 1, 1) := by decide +kernel
theorem dX12_readMark_2 : decode cX12_readMark 2 = .ok (.invokevirtual 202, 3) := by decide +kernel
theorem dX12_readMark_5 : decode cX12_readMark 5 = .ok (.ifCond .ne 9, 3) := by decide +kernel
theorem dX12_readMark_8 : decode cX12_readMark 8 = .ok (.aload_n 0, 1) := by decide +kernel
theorem dX12_readMark_9 : decode cX12_readMark 9 = .ok (.iconst 1, 1) := by decide +kernel
theorem dX12_readMark_10 : decode cX12_readMark 10 = .ok (.invokevirtual 188, 3) := by decide +kernel
theorem dX12_readMark_13 : decode cX12_readMark 13 = .ok (.ireturn, 1) := by decide +kernel
theorem dX12_readMark_14 : decode cX12_readMark 14 = .ok (.aload_n 0, 1) := by decide +kernel
theorem dX12_readMark_15 : decode cX12_readMark 15 = .ok (.invokevirtual 195, 3) := by decide +kernel
theorem dX12_readMark_18 : decode cX12_readMark 18 = .ok (.iconst 0, 1) := by decide +kernel
theorem dX12_readMark_19 : decode cX12_readMark 19 = .ok (.ireturn, 1) := by decide +kernel
theorem dX12_readTold_0 : decode cX12_readTold 0 = .ok (.aload_n 0, 1) := by decide +kernel
theorem dX12_readTold_1 : decode cX12_readTold 1 = .ok (.iload_n 1, 1) := by decide +kernel
theorem dX12_readTold_2 : decode cX12_readTold 2 = .ok (.invokevirtual 239, 3) := by decide +kernel
theorem dX12_readTold_5 : decode cX12_readTold 5 = .ok (.iconst (-1), 1) := by decide +kernel
theorem dX12_readTold_6 : decode cX12_readTold 6 = .ok (.if_icmp .ne 7, 3) := by decide +kernel
theorem dX12_readTold_9 : decode cX12_readTold 9 = .ok (.iconst (-1), 1) := by decide +kernel
theorem dX12_readTold_10 : decode cX12_readTold 10 = .ok (.goto 9, 3) := by decide +kernel
theorem dX12_readTold_13 : decode cX12_readTold 13 = .ok (.aload_n 0, 1) := by decide +kernel
theorem dX12_readTold_14 : decode cX12_readTold 14 = .ok (.iload_n 2, 1) := by decide +kernel
theorem dX12_readTold_15 : decode cX12_readTold 15 = .ok (.iload_n 3, 1) := by decide +kernel
theorem dX12_readTold_16 : decode cX12_readTold 16 = .ok (.invokevirtual 242, 3) := by decide +kernel
theorem dX12_readTold_19 : decode cX12_readTold 19 = .ok (.ireturn, 1) := by decide +kernel
theorem dX12_readStone_0 : decode cX12_readStone 0 = .ok (.aload_n 0, 1) := by decide +kernel
theorem dX12_readStone_1 : decode cX12_readStone 1 = .ok (.getfield 62, 3) := by decide +kernel
theorem dX12_readStone_4 : decode cX12_readStone 4 = .ok (.iload_n 1, 1) := by decide +kernel
theorem dX12_readStone_5 : decode cX12_readStone 5 = .ok (.iconst 0, 1) := by decide +kernel
theorem dX12_readStone_6 : decode cX12_readStone 6 = .ok (.iadd, 1) := by decide +kernel
theorem dX12_readStone_7 : decode cX12_readStone 7 = .ok (.aload_n 0, 1) := by decide +kernel
theorem dX12_readStone_8 : decode cX12_readStone 8 = .ok (.bipush 18, 2) := by decide +kernel
theorem dX12_readStone_10 : decode cX12_readStone 10 = .ok (.iconst 0, 1) := by decide +kernel
theorem dX12_readStone_11 : decode cX12_readStone 11 = .ok (.bipush 7, 2) := by decide +kernel
theorem dX12_readStone_13 : decode cX12_readStone 13 = .ok (.invokevirtual 245, 3) := by decide +kernel
theorem dX12_readStone_16 : decode cX12_readStone 16 = .ok (.iastore, 1) := by decide +kernel
theorem dX12_readStone_17 : decode cX12_readStone 17 = .ok (.aload_n 0, 1) := by decide +kernel
theorem dX12_readStone_18 : decode cX12_readStone 18 = .ok (.getfield 62, 3) := by decide +kernel
theorem dX12_readStone_21 : decode cX12_readStone 21 = .ok (.iload_n 1, 1) := by decide +kernel
theorem dX12_readStone_22 : decode cX12_readStone 22 = .ok (.iconst 0, 1) := by decide +kernel
theorem dX12_readStone_23 : decode cX12_readStone 23 = .ok (.iadd, 1) := by decide +kernel
theorem dX12_readStone_24 : decode cX12_readStone 24 = .ok (.iaload, 1) := by decide +kernel
theorem dX12_readStone_25 : decode cX12_readStone 25 = .ok (.iconst (-1), 1) := by decide +kernel
theorem dX12_readStone_26 : decode cX12_readStone 26 = .ok (.if_icmp .ne 5, 3) := by decide +kernel
theorem dX12_readStone_29 : decode cX12_readStone 29 = .ok (.iconst (-1), 1) := by decide +kernel
theorem dX12_readStone_30 : decode cX12_readStone 30 = .ok (.ireturn, 1) := by decide +kernel
theorem dX12_readStone_31 : decode cX12_readStone 31 = .ok (.aload_n 0, 1) := by decide +kernel
theorem dX12_readStone_32 : decode cX12_readStone 32 = .ok (.getfield 62, 3) := by decide +kernel
theorem dX12_readStone_35 : decode cX12_readStone 35 = .ok (.iload_n 1, 1) := by decide +kernel
theorem dX12_readStone_36 : decode cX12_readStone 36 = .ok (.iconst 1, 1) := by decide +kernel
theorem dX12_readStone_37 : decode cX12_readStone 37 = .ok (.iadd, 1) := by decide +kernel
theorem dX12_readStone_38 : decode cX12_readStone 38 = .ok (.aload_n 0, 1) := by decide +kernel
theorem dX12_readStone_39 : decode cX12_readStone 39 = .ok (.bipush 19, 2) := by decide +kernel
theorem dX12_readStone_41 : decode cX12_readStone 41 = .ok (.iconst 1, 1) := by decide +kernel
theorem dX12_readStone_42 : decode cX12_readStone 42 = .ok (.bipush 24, 2) := by decide +kernel
theorem dX12_readStone_44 : decode cX12_readStone 44 = .ok (.invokevirtual 245, 3) := by decide +kernel
theorem dX12_readStone_47 : decode cX12_readStone 47 = .ok (.iastore, 1) := by decide +kernel
theorem dX12_readStone_48 : decode cX12_readStone 48 = .ok (.aload_n 0, 1) := by decide +kernel
theorem dX12_readStone_49 : decode cX12_readStone 49 = .ok (.getfield 62, 3) := by decide +kernel
theorem dX12_readStone_52 : decode cX12_readStone 52 = .ok (.iload_n 1, 1) := by decide +kernel
theorem dX12_readStone_53 : decode cX12_readStone 53 = .ok (.iconst 1, 1) := by decide +kernel
theorem dX12_readStone_54 : decode cX12_readStone 54 = .ok (.iadd, 1) := by decide +kernel
theorem dX12_readStone_55 : decode cX12_readStone 55 = .ok (.iaload, 1) := by decide +kernel
theorem dX12_readStone_56 : decode cX12_readStone 56 = .ok (.iconst (-1), 1) := by decide +kernel
theorem dX12_readStone_57 : decode cX12_readStone 57 = .ok (.if_icmp .ne 5, 3) := by decide +kernel
theorem dX12_readStone_60 : decode cX12_readStone 60 = .ok (.iconst (-1), 1) := by decide +kernel
theorem dX12_readStone_61 : decode cX12_readStone 61 = .ok (.ireturn, 1) := by decide +kernel
theorem dX12_readStone_62 : decode cX12_readStone 62 = .ok (.aload_n 0, 1) := by decide +kernel
theorem dX12_readStone_63 : decode cX12_readStone 63 = .ok (.getfield 62, 3) := by decide +kernel
theorem dX12_readStone_66 : decode cX12_readStone 66 = .ok (.iload_n 1, 1) := by decide +kernel
theorem dX12_readStone_67 : decode cX12_readStone 67 = .ok (.iconst 2, 1) := by decide +kernel
theorem dX12_readStone_68 : decode cX12_readStone 68 = .ok (.iadd, 1) := by decide +kernel
theorem dX12_readStone_69 : decode cX12_readStone 69 = .ok (.aload_n 0, 1) := by decide +kernel
theorem dX12_readStone_70 : decode cX12_readStone 70 = .ok (.bipush 16, 2) := by decide +kernel
theorem dX12_readStone_72 : decode cX12_readStone 72 = .ok (.invokevirtual 217, 3) := by decide +kernel
theorem dX12_readStone_75 : decode cX12_readStone 75 = .ok (.ifCond .eq 21, 3) := by decide +kernel
theorem dX12_readStone_78 : decode cX12_readStone 78 = .ok (.aload_n 0, 1) := by decide +kernel
theorem dX12_readStone_79 : decode cX12_readStone 79 = .ok (.bipush 16, 2) := by decide +kernel
theorem dX12_readStone_81 : decode cX12_readStone 81 = .ok (.iconst 1, 1) := by decide +kernel
theorem dX12_readStone_82 : decode cX12_readStone 82 = .ok (.aload_n 0, 1) := by decide +kernel
theorem dX12_readStone_83 : decode cX12_readStone 83 = .ok (.getfield 62, 3) := by decide +kernel
theorem dX12_readStone_86 : decode cX12_readStone 86 = .ok (.iload_n 1, 1) := by decide +kernel
theorem dX12_readStone_87 : decode cX12_readStone 87 = .ok (.iconst 1, 1) := by decide +kernel
theorem dX12_readStone_88 : decode cX12_readStone 88 = .ok (.iadd, 1) := by decide +kernel
theorem dX12_readStone_89 : decode cX12_readStone 89 = .ok (.iaload, 1) := by decide +kernel
theorem dX12_readStone_90 : decode cX12_readStone 90 = .ok (.invokevirtual 245, 3) := by decide +kernel
theorem dX12_readStone_93 : decode cX12_readStone 93 = .ok (.goto 4, 3) := by decide +kernel
theorem dX12_readStone_96 : decode cX12_readStone 96 = .ok (.iconst 0, 1) := by decide +kernel
theorem dX12_readStone_97 : decode cX12_readStone 97 = .ok (.iastore, 1) := by decide +kernel
theorem dX12_readStone_98 : decode cX12_readStone 98 = .ok (.aload_n 0, 1) := by decide +kernel
theorem dX12_readStone_99 : decode cX12_readStone 99 = .ok (.getfield 62, 3) := by decide +kernel
theorem dX12_readStone_102 : decode cX12_readStone 102 = .ok (.iload_n 1, 1) := by decide +kernel
theorem dX12_readStone_103 : decode cX12_readStone 103 = .ok (.iconst 2, 1) := by decide +kernel
theorem dX12_readStone_104 : decode cX12_readStone 104 = .ok (.iadd, 1) := by decide +kernel
theorem dX12_readStone_105 : decode cX12_readStone 105 = .ok (.iaload, 1) := by decide +kernel
theorem dX12_readStone_106 : decode cX12_readStone 106 = .ok (.iconst (-1), 1) := by decide +kernel
theorem dX12_readStone_107 : decode cX12_readStone 107 = .ok (.if_icmp .ne 5, 3) := by decide +kernel
theorem dX12_readStone_110 : decode cX12_readStone 110 = .ok (.iconst (-1), 1) := by decide +kernel
theorem dX12_readStone_111 : decode cX12_readStone 111 = .ok (.ireturn, 1) := by decide +kernel
theorem dX12_readStone_112 : decode cX12_readStone 112 = .ok (.aload_n 0, 1) := by decide +kernel
theorem dX12_readStone_113 : decode cX12_readStone 113 = .ok (.getfield 62, 3) := by decide +kernel
theorem dX12_readStone_116 : decode cX12_readStone 116 = .ok (.iload_n 1, 1) := by decide +kernel
theorem dX12_readStone_117 : decode cX12_readStone 117 = .ok (.iconst 3, 1) := by decide +kernel
theorem dX12_readStone_118 : decode cX12_readStone 118 = .ok (.iadd, 1) := by decide +kernel
theorem dX12_readStone_119 : decode cX12_readStone 119 = .ok (.aload_n 0, 1) := by decide +kernel
theorem dX12_readStone_120 : decode cX12_readStone 120 = .ok (.bipush 17, 2) := by decide +kernel
theorem dX12_readStone_122 : decode cX12_readStone 122 = .ok (.iconst 0, 1) := by decide +kernel
theorem dX12_readStone_123 : decode cX12_readStone 123 = .ok (.bipush 99, 2) := by decide +kernel
theorem dX12_readStone_125 : decode cX12_readStone 125 = .ok (.invokevirtual 245, 3) := by decide +kernel
theorem dX12_readStone_128 : decode cX12_readStone 128 = .ok (.iastore, 1) := by decide +kernel
theorem dX12_readStone_129 : decode cX12_readStone 129 = .ok (.aload_n 0, 1) := by decide +kernel
theorem dX12_readStone_130 : decode cX12_readStone 130 = .ok (.getfield 62, 3) := by decide +kernel
theorem dX12_readStone_133 : decode cX12_readStone 133 = .ok (.iload_n 1, 1) := by decide +kernel
theorem dX12_readStone_134 : decode cX12_readStone 134 = .ok (.iconst 3, 1) := by decide +kernel
theorem dX12_readStone_135 : decode cX12_readStone 135 = .ok (.iadd, 1) := by decide +kernel
theorem dX12_readStone_136 : decode cX12_readStone 136 = .ok (.iaload, 1) := by decide +kernel
theorem dX12_readStone_137 : decode cX12_readStone 137 = .ok (.iconst (-1), 1) := by decide +kernel
theorem dX12_readStone_138 : decode cX12_readStone 138 = .ok (.if_icmp .ne 7, 3) := by decide +kernel
theorem dX12_readStone_141 : decode cX12_readStone 141 = .ok (.iconst (-1), 1) := by decide +kernel
theorem dX12_readStone_142 : decode cX12_readStone 142 = .ok (.goto 9, 3) := by decide +kernel
theorem dX12_readStone_145 : decode cX12_readStone 145 = .ok (.aload_n 0, 1) := by decide +kernel
theorem dX12_readStone_146 : decode cX12_readStone 146 = .ok (.bipush 59, 2) := by decide +kernel
theorem dX12_readStone_148 : decode cX12_readStone 148 = .ok (.invokevirtual 249, 3) := by decide +kernel
theorem dX12_readStone_151 : decode cX12_readStone 151 = .ok (.ireturn, 1) := by decide +kernel
theorem dX12_readStones_0 : decode cX12_readStones 0 = .ok (.iconst 0, 1) := by decide +kernel
theorem dX12_readStones_1 : decode cX12_readStones 1 = .ok (.istore_n 1, 1) := by decide +kernel
theorem dX12_readStones_2 : decode cX12_readStones 2 = .ok (.aload_n 0, 1) := by decide +kernel
theorem dX12_readStones_3 : decode cX12_readStones 3 = .ok (.bipush 18, 2) := by decide +kernel
theorem dX12_readStones_5 : decode cX12_readStones 5 = .ok (.invokevirtual 217, 3) := by decide +kernel
theorem dX12_readStones_8 : decode cX12_readStones 8 = .ok (.ifCond .eq 38, 3) := by decide +kernel
theorem dX12_readStones_11 : decode cX12_readStones 11 = .ok (.iload_n 1, 1) := by decide +kernel
theorem dX12_readStones_12 : decode cX12_readStones 12 = .ok (.bipush 8, 2) := by decide +kernel
theorem dX12_readStones_14 : decode cX12_readStones 14 = .ok (.if_icmp .ne 9, 3) := by decide +kernel
theorem dX12_readStones_17 : decode cX12_readStones 17 = .ok (.aload_n 0, 1) := by decide +kernel
theorem dX12_readStones_18 : decode cX12_readStones 18 = .ok (.iconst 3, 1) := by decide +kernel
theorem dX12_readStones_19 : decode cX12_readStones 19 = .ok (.invokevirtual 188, 3) := by decide +kernel
theorem dX12_readStones_22 : decode cX12_readStones 22 = .ok (.ireturn, 1) := by decide +kernel
theorem dX12_readStones_23 : decode cX12_readStones 23 = .ok (.aload_n 0, 1) := by decide +kernel
theorem dX12_readStones_24 : decode cX12_readStones 24 = .ok (.bipush 32, 2) := by decide +kernel
theorem dX12_readStones_26 : decode cX12_readStones 26 = .ok (.iconst 4, 1) := by decide +kernel
theorem dX12_readStones_27 : decode cX12_readStones 27 = .ok (.iload_n 1, 1) := by decide +kernel
theorem dX12_readStones_28 : decode cX12_readStones 28 = .ok (.imul, 1) := by decide +kernel
theorem dX12_readStones_29 : decode cX12_readStones 29 = .ok (.iadd, 1) := by decide +kernel
theorem dX12_readStones_30 : decode cX12_readStones 30 = .ok (.invokevirtual 252, 3) := by decide +kernel
theorem dX12_readStones_33 : decode cX12_readStones 33 = .ok (.iconst (-1), 1) := by decide +kernel
theorem dX12_readStones_34 : decode cX12_readStones 34 = .ok (.if_icmp .ne 5, 3) := by decide +kernel
theorem dX12_readStones_37 : decode cX12_readStones 37 = .ok (.iconst (-1), 1) := by decide +kernel
theorem dX12_readStones_38 : decode cX12_readStones 38 = .ok (.ireturn, 1) := by decide +kernel
theorem dX12_readStones_39 : decode cX12_readStones 39 = .ok (.iload_n 1, 1) := by decide +kernel
theorem dX12_readStones_40 : decode cX12_readStones 40 = .ok (.iconst 1, 1) := by decide +kernel
theorem dX12_readStones_41 : decode cX12_readStones 41 = .ok (.iadd, 1) := by decide +kernel
theorem dX12_readStones_42 : decode cX12_readStones 42 = .ok (.istore_n 1, 1) := by decide +kernel
theorem dX12_readStones_43 : decode cX12_readStones 43 = .ok (.goto (-41), 3) := by decide +kernel
theorem dX12_readStones_46 : decode cX12_readStones 46 = .ok (.aload_n 0, 1) := by decide +kernel
theorem dX12_readStones_47 : decode cX12_readStones 47 = .ok (.getfield 157, 3) := by decide +kernel
theorem dX12_readStones_50 : decode cX12_readStones 50 = .ok (.ifCond .ne 7, 3) := by decide +kernel
theorem dX12_readStones_53 : decode cX12_readStones 53 = .ok (.iload_n 1, 1) := by decide +kernel
theorem dX12_readStones_54 : decode cX12_readStones 54 = .ok (.goto 8, 3) := by decide +kernel
theorem dX12_readStones_57 : decode cX12_readStones 57 = .ok (.aload_n 0, 1) := by decide +kernel
theorem dX12_readStones_58 : decode cX12_readStones 58 = .ok (.iconst 1, 1) := by decide +kernel
theorem dX12_readStones_59 : decode cX12_readStones 59 = .ok (.invokevirtual 188, 3) := by decide +kernel
theorem dX12_readStones_62 : decode cX12_readStones 62 = .ok (.ireturn, 1) := by decide +kernel
theorem dX12_readShift_0 : decode cX12_readShift 0 = .ok (.aload_n 0, 1) := by decide +kernel
theorem dX12_readShift_1 : decode cX12_readShift 1 = .ok (.getfield 65, 3) := by decide +kernel
theorem dX12_readShift_4 : decode cX12_readShift 4 = .ok (.iload_n 1, 1) := by decide +kernel
theorem dX12_readShift_5 : decode cX12_readShift 5 = .ok (.aload_n 0, 1) := by decide +kernel
theorem dX12_readShift_6 : decode cX12_readShift 6 = .ok (.bipush 20, 2) := by decide +kernel
theorem dX12_readShift_8 : decode cX12_readShift 8 = .ok (.iconst 0, 1) := by decide +kernel
theorem dX12_readShift_9 : decode cX12_readShift 9 = .ok (.aload_n 0, 1) := by decide +kernel
theorem dX12_readShift_10 : decode cX12_readShift 10 = .ok (.getfield 114, 3) := by decide +kernel
theorem dX12_readShift_13 : decode cX12_readShift 13 = .ok (.iconst 1, 1) := by decide +kernel
theorem dX12_readShift_14 : decode cX12_readShift 14 = .ok (.isub, 1) := by decide +kernel
theorem dX12_readShift_15 : decode cX12_readShift 15 = .ok (.invokevirtual 245, 3) := by decide +kernel
theorem dX12_readShift_18 : decode cX12_readShift 18 = .ok (.iastore, 1) := by decide +kernel
theorem dX12_readShift_19 : decode cX12_readShift 19 = .ok (.aload_n 0, 1) := by decide +kernel
theorem dX12_readShift_20 : decode cX12_readShift 20 = .ok (.getfield 65, 3) := by decide +kernel
theorem dX12_readShift_23 : decode cX12_readShift 23 = .ok (.iload_n 1, 1) := by decide +kernel
theorem dX12_readShift_24 : decode cX12_readShift 24 = .ok (.iaload, 1) := by decide +kernel
theorem dX12_readShift_25 : decode cX12_readShift 25 = .ok (.iconst (-1), 1) := by decide +kernel
theorem dX12_readShift_26 : decode cX12_readShift 26 = .ok (.if_icmp .ne 5, 3) := by decide +kernel
theorem dX12_readShift_29 : decode cX12_readShift 29 = .ok (.iconst (-1), 1) := by decide +kernel
theorem dX12_readShift_30 : decode cX12_readShift 30 = .ok (.ireturn, 1) := by decide +kernel
theorem dX12_readShift_31 : decode cX12_readShift 31 = .ok (.aload_n 0, 1) := by decide +kernel
theorem dX12_readShift_32 : decode cX12_readShift 32 = .ok (.getfield 65, 3) := by decide +kernel
theorem dX12_readShift_35 : decode cX12_readShift 35 = .ok (.iload_n 1, 1) := by decide +kernel
theorem dX12_readShift_36 : decode cX12_readShift 36 = .ok (.iconst 1, 1) := by decide +kernel
theorem dX12_readShift_37 : decode cX12_readShift 37 = .ok (.iadd, 1) := by decide +kernel
theorem dX12_readShift_38 : decode cX12_readShift 38 = .ok (.aload_n 0, 1) := by decide +kernel
theorem dX12_readShift_39 : decode cX12_readShift 39 = .ok (.bipush 21, 2) := by decide +kernel
theorem dX12_readShift_41 : decode cX12_readShift 41 = .ok (.iconst 0, 1) := by decide +kernel
theorem dX12_readShift_42 : decode cX12_readShift 42 = .ok (.bipush 23, 2) := by decide +kernel
theorem dX12_readShift_44 : decode cX12_readShift 44 = .ok (.invokevirtual 245, 3) := by decide +kernel
theorem dX12_readShift_47 : decode cX12_readShift 47 = .ok (.iastore, 1) := by decide +kernel
theorem dX12_readShift_48 : decode cX12_readShift 48 = .ok (.aload_n 0, 1) := by decide +kernel
theorem dX12_readShift_49 : decode cX12_readShift 49 = .ok (.getfield 65, 3) := by decide +kernel
theorem dX12_readShift_52 : decode cX12_readShift 52 = .ok (.iload_n 1, 1) := by decide +kernel
theorem dX12_readShift_53 : decode cX12_readShift 53 = .ok (.iconst 1, 1) := by decide +kernel
theorem dX12_readShift_54 : decode cX12_readShift 54 = .ok (.iadd, 1) := by decide +kernel
theorem dX12_readShift_55 : decode cX12_readShift 55 = .ok (.iaload, 1) := by decide +kernel
theorem dX12_readShift_56 : decode cX12_readShift 56 = .ok (.iconst (-1), 1) := by decide +kernel
theorem dX12_readShift_57 : decode cX12_readShift 57 = .ok (.if_icmp .ne 5, 3) := by decide +kernel
theorem dX12_readShift_60 : decode cX12_readShift 60 = .ok (.iconst (-1), 1) := by decide +kernel
theorem dX12_readShift_61 : decode cX12_readShift 61 = .ok (.ireturn, 1) := by decide +kernel
theorem dX12_readShift_62 : decode cX12_readShift 62 = .ok (.aload_n 0, 1) := by decide +kernel
theorem dX12_readShift_63 : decode cX12_readShift 63 = .ok (.getfield 65, 3) := by decide +kernel
theorem dX12_readShift_66 : decode cX12_readShift 66 = .ok (.iload_n 1, 1) := by decide +kernel
theorem dX12_readShift_67 : decode cX12_readShift 67 = .ok (.iconst 2, 1) := by decide +kernel
theorem dX12_readShift_68 : decode cX12_readShift 68 = .ok (.iadd, 1) := by decide +kernel
theorem dX12_readShift_69 : decode cX12_readShift 69 = .ok (.aload_n 0, 1) := by decide +kernel
theorem dX12_readShift_70 : decode cX12_readShift 70 = .ok (.bipush 19, 2) := by decide +kernel
theorem dX12_readShift_72 : decode cX12_readShift 72 = .ok (.iconst 1, 1) := by decide +kernel
theorem dX12_readShift_73 : decode cX12_readShift 73 = .ok (.bipush 24, 2) := by decide +kernel
theorem dX12_readShift_75 : decode cX12_readShift 75 = .ok (.invokevirtual 245, 3) := by decide +kernel
theorem dX12_readShift_78 : decode cX12_readShift 78 = .ok (.iastore, 1) := by decide +kernel
theorem dX12_readShift_79 : decode cX12_readShift 79 = .ok (.aload_n 0, 1) := by decide +kernel
theorem dX12_readShift_80 : decode cX12_readShift 80 = .ok (.getfield 65, 3) := by decide +kernel
theorem dX12_readShift_83 : decode cX12_readShift 83 = .ok (.iload_n 1, 1) := by decide +kernel
theorem dX12_readShift_84 : decode cX12_readShift 84 = .ok (.iconst 2, 1) := by decide +kernel
theorem dX12_readShift_85 : decode cX12_readShift 85 = .ok (.iadd, 1) := by decide +kernel
theorem dX12_readShift_86 : decode cX12_readShift 86 = .ok (.iaload, 1) := by decide +kernel
theorem dX12_readShift_87 : decode cX12_readShift 87 = .ok (.iconst (-1), 1) := by decide +kernel
theorem dX12_readShift_88 : decode cX12_readShift 88 = .ok (.if_icmp .ne 7, 3) := by decide +kernel
theorem dX12_readShift_91 : decode cX12_readShift 91 = .ok (.iconst (-1), 1) := by decide +kernel
theorem dX12_readShift_92 : decode cX12_readShift 92 = .ok (.goto 9, 3) := by decide +kernel
theorem dX12_readShift_95 : decode cX12_readShift 95 = .ok (.aload_n 0, 1) := by decide +kernel
theorem dX12_readShift_96 : decode cX12_readShift 96 = .ok (.bipush 59, 2) := by decide +kernel
theorem dX12_readShift_98 : decode cX12_readShift 98 = .ok (.invokevirtual 249, 3) := by decide +kernel
theorem dX12_readShift_101 : decode cX12_readShift 101 = .ok (.ireturn, 1) := by decide +kernel
theorem dX12_readShifts_0 : decode cX12_readShifts 0 = .ok (.iconst 0, 1) := by decide +kernel
theorem dX12_readShifts_1 : decode cX12_readShifts 1 = .ok (.istore_n 1, 1) := by decide +kernel
theorem dX12_readShifts_2 : decode cX12_readShifts 2 = .ok (.aload_n 0, 1) := by decide +kernel
theorem dX12_readShifts_3 : decode cX12_readShifts 3 = .ok (.bipush 20, 2) := by decide +kernel
theorem dX12_readShifts_5 : decode cX12_readShifts 5 = .ok (.invokevirtual 217, 3) := by decide +kernel
theorem dX12_readShifts_8 : decode cX12_readShifts 8 = .ok (.ifCond .eq 38, 3) := by decide +kernel
theorem dX12_readShifts_11 : decode cX12_readShifts 11 = .ok (.iload_n 1, 1) := by decide +kernel
theorem dX12_readShifts_12 : decode cX12_readShifts 12 = .ok (.bipush 16, 2) := by decide +kernel
theorem dX12_readShifts_14 : decode cX12_readShifts 14 = .ok (.if_icmp .ne 9, 3) := by decide +kernel
theorem dX12_readShifts_17 : decode cX12_readShifts 17 = .ok (.aload_n 0, 1) := by decide +kernel
theorem dX12_readShifts_18 : decode cX12_readShifts 18 = .ok (.iconst 3, 1) := by decide +kernel
theorem dX12_readShifts_19 : decode cX12_readShifts 19 = .ok (.invokevirtual 188, 3) := by decide +kernel
theorem dX12_readShifts_22 : decode cX12_readShifts 22 = .ok (.ireturn, 1) := by decide +kernel
theorem dX12_readShifts_23 : decode cX12_readShifts 23 = .ok (.aload_n 0, 1) := by decide +kernel
theorem dX12_readShifts_24 : decode cX12_readShifts 24 = .ok (.bipush 48, 2) := by decide +kernel
theorem dX12_readShifts_26 : decode cX12_readShifts 26 = .ok (.iconst 3, 1) := by decide +kernel
theorem dX12_readShifts_27 : decode cX12_readShifts 27 = .ok (.iload_n 1, 1) := by decide +kernel
theorem dX12_readShifts_28 : decode cX12_readShifts 28 = .ok (.imul, 1) := by decide +kernel
theorem dX12_readShifts_29 : decode cX12_readShifts 29 = .ok (.iadd, 1) := by decide +kernel
theorem dX12_readShifts_30 : decode cX12_readShifts 30 = .ok (.invokevirtual 255, 3) := by decide +kernel
theorem dX12_readShifts_33 : decode cX12_readShifts 33 = .ok (.iconst (-1), 1) := by decide +kernel
theorem dX12_readShifts_34 : decode cX12_readShifts 34 = .ok (.if_icmp .ne 5, 3) := by decide +kernel
theorem dX12_readShifts_37 : decode cX12_readShifts 37 = .ok (.iconst (-1), 1) := by decide +kernel
theorem dX12_readShifts_38 : decode cX12_readShifts 38 = .ok (.ireturn, 1) := by decide +kernel
theorem dX12_readShifts_39 : decode cX12_readShifts 39 = .ok (.iload_n 1, 1) := by decide +kernel
theorem dX12_readShifts_40 : decode cX12_readShifts 40 = .ok (.iconst 1, 1) := by decide +kernel
theorem dX12_readShifts_41 : decode cX12_readShifts 41 = .ok (.iadd, 1) := by decide +kernel
theorem dX12_readShifts_42 : decode cX12_readShifts 42 = .ok (.istore_n 1, 1) := by decide +kernel
theorem dX12_readShifts_43 : decode cX12_readShifts 43 = .ok (.goto (-41), 3) := by decide +kernel
theorem dX12_readShifts_46 : decode cX12_readShifts 46 = .ok (.aload_n 0, 1) := by decide +kernel
theorem dX12_readShifts_47 : decode cX12_readShifts 47 = .ok (.getfield 157, 3) := by decide +kernel
theorem dX12_readShifts_50 : decode cX12_readShifts 50 = .ok (.ifCond .ne 7, 3) := by decide +kernel
theorem dX12_readShifts_53 : decode cX12_readShifts 53 = .ok (.iload_n 1, 1) := by decide +kernel
theorem dX12_readShifts_54 : decode cX12_readShifts 54 = .ok (.goto 8, 3) := by decide +kernel
theorem dX12_readShifts_57 : decode cX12_readShifts 57 = .ok (.aload_n 0, 1) := by decide +kernel
theorem dX12_readShifts_58 : decode cX12_readShifts 58 = .ok (.iconst 1, 1) := by decide +kernel
theorem dX12_readShifts_59 : decode cX12_readShifts 59 = .ok (.invokevirtual 188, 3) := by decide +kernel
theorem dX12_readShifts_62 : decode cX12_readShifts 62 = .ok (.ireturn, 1) := by decide +kernel
theorem dX12_readsText_0 : decode cX12_readsText 0 = .ok (.aload_n 0, 1) := by decide +kernel
theorem dX12_readsText_1 : decode cX12_readsText 1 = .ok (.iload_n 1, 1) := by decide +kernel
theorem dX12_readsText_2 : decode cX12_readsText 2 = .ok (.putfield 229, 3) := by decide +kernel
theorem dX12_readsText_5 : decode cX12_readsText 5 = .ok (.aload_n 0, 1) := by decide +kernel
theorem dX12_readsText_6 : decode cX12_readsText 6 = .ok (.invokevirtual 195, 3) := by decide +kernel
theorem dX12_readsText_9 : decode cX12_readsText 9 = .ok (.iload_n 1, 1) := by decide +kernel
theorem dX12_readsText_10 : decode cX12_readsText 10 = .ok (.iconst 2, 1) := by decide +kernel
theorem dX12_readsText_11 : decode cX12_readsText 11 = .ok (.if_icmp .ne 10, 3) := by decide +kernel
theorem dX12_readsText_14 : decode cX12_readsText 14 = .ok (.aload_n 0, 1) := by decide +kernel
theorem dX12_readsText_15 : decode cX12_readsText 15 = .ok (.invokevirtual 258, 3) := by decide +kernel
theorem dX12_readsText_18 : decode cX12_readsText 18 = .ok (.goto 19, 3) := by decide +kernel
theorem dX12_readsText_21 : decode cX12_readsText 21 = .ok (.iload_n 1, 1) := by decide +kernel
theorem dX12_readsText_22 : decode cX12_readsText 22 = .ok (.iconst 3, 1) := by decide +kernel
theorem dX12_readsText_23 : decode cX12_readsText 23 = .ok (.if_icmp .ne 10, 3) := by decide +kernel
theorem dX12_readsText_26 : decode cX12_readsText 26 = .ok (.aload_n 0, 1) := by decide +kernel
theorem dX12_readsText_27 : decode cX12_readsText 27 = .ok (.invokevirtual 261, 3) := by decide +kernel
theorem dX12_readsText_30 : decode cX12_readsText 30 = .ok (.goto 7, 3) := by decide +kernel
theorem dX12_readsText_33 : decode cX12_readsText 33 = .ok (.aload_n 0, 1) := by decide +kernel
theorem dX12_readsText_34 : decode cX12_readsText 34 = .ok (.invokevirtual 264, 3) := by decide +kernel
theorem dX12_readsText_37 : decode cX12_readsText 37 = .ok (.ireturn, 1) := by decide +kernel
theorem dX12_takesOther_0 : decode cX12_takesOther 0 = .ok (.iload_n 1, 1) := by decide +kernel
theorem dX12_takesOther_1 : decode cX12_takesOther 1 = .ok (.iconst 2, 1) := by decide +kernel
theorem dX12_takesOther_2 : decode cX12_takesOther 2 = .ok (.if_icmp .ne 55, 3) := by decide +kernel
theorem dX12_takesOther_5 : decode cX12_takesOther 5 = .ok (.iconst 0, 1) := by decide +kernel
theorem dX12_takesOther_6 : decode cX12_takesOther 6 = .ok (.istore_n 3, 1) := by decide +kernel
theorem dX12_takesOther_7 : decode cX12_takesOther 7 = .ok (.iload_n 3, 1) := by decide +kernel
theorem dX12_takesOther_8 : decode cX12_takesOther 8 = .ok (.iconst 4, 1) := by decide +kernel
theorem dX12_takesOther_9 : decode cX12_takesOther 9 = .ok (.iload_n 2, 1) := by decide +kernel
theorem dX12_takesOther_10 : decode cX12_takesOther 10 = .ok (.imul, 1) := by decide +kernel
theorem dX12_takesOther_11 : decode cX12_takesOther 11 = .ok (.if_icmp .ge 24, 3) := by decide +kernel
theorem dX12_takesOther_14 : decode cX12_takesOther 14 = .ok (.aload_n 0, 1) := by decide +kernel
theorem dX12_takesOther_15 : decode cX12_takesOther 15 = .ok (.getfield 62, 3) := by decide +kernel
theorem dX12_takesOther_18 : decode cX12_takesOther 18 = .ok (.iload_n 3, 1) := by decide +kernel
theorem dX12_takesOther_19 : decode cX12_takesOther 19 = .ok (.aload_n 0, 1) := by decide +kernel
theorem dX12_takesOther_20 : decode cX12_takesOther 20 = .ok (.getfield 62, 3) := by decide +kernel
theorem dX12_takesOther_23 : decode cX12_takesOther 23 = .ok (.bipush 32, 2) := by decide +kernel
theorem dX12_takesOther_25 : decode cX12_takesOther 25 = .ok (.iload_n 3, 1) := by decide +kernel
theorem dX12_takesOther_26 : decode cX12_takesOther 26 = .ok (.iadd, 1) := by decide +kernel
theorem dX12_takesOther_27 : decode cX12_takesOther 27 = .ok (.iaload, 1) := by decide +kernel
theorem dX12_takesOther_28 : decode cX12_takesOther 28 = .ok (.iastore, 1) := by decide +kernel
theorem dX12_takesOther_29 : decode cX12_takesOther 29 = .ok (.iinc 3 1, 3) := by decide +kernel
theorem dX12_takesOther_32 : decode cX12_takesOther 32 = .ok (.goto (-25), 3) := by decide +kernel
theorem dX12_takesOther_35 : decode cX12_takesOther 35 = .ok (.aload_n 0, 1) := by decide +kernel
theorem dX12_takesOther_36 : decode cX12_takesOther 36 = .ok (.iload_n 2, 1) := by decide +kernel
theorem dX12_takesOther_37 : decode cX12_takesOther 37 = .ok (.putfield 267, 3) := by decide +kernel
theorem dX12_takesOther_40 : decode cX12_takesOther 40 = .ok (.aload_n 0, 1) := by decide +kernel
theorem dX12_takesOther_41 : decode cX12_takesOther 41 = .ok (.getfield 7, 3) := by decide +kernel
theorem dX12_takesOther_44 : decode cX12_takesOther 44 = .ok (.iconst 3, 1) := by decide +kernel
theorem dX12_takesOther_45 : decode cX12_takesOther 45 = .ok (.iconst 0, 1) := by decide +kernel
theorem dX12_takesOther_46 : decode cX12_takesOther 46 = .ok (.iastore, 1) := by decide +kernel
theorem dX12_takesOther_47 : decode cX12_takesOther 47 = .ok (.aload_n 0, 1) := by decide +kernel
theorem dX12_takesOther_48 : decode cX12_takesOther 48 = .ok (.getfield 7, 3) := by decide +kernel
theorem dX12_takesOther_51 : decode cX12_takesOther 51 = .ok (.iconst 4, 1) := by decide +kernel
theorem dX12_takesOther_52 : decode cX12_takesOther 52 = .ok (.iconst 0, 1) := by decide +kernel
theorem dX12_takesOther_53 : decode cX12_takesOther 53 = .ok (.iastore, 1) := by decide +kernel
theorem dX12_takesOther_54 : decode cX12_takesOther 54 = .ok (.goto 38, 3) := by decide +kernel
theorem dX12_takesOther_57 : decode cX12_takesOther 57 = .ok (.iconst 0, 1) := by decide +kernel
theorem dX12_takesOther_58 : decode cX12_takesOther 58 = .ok (.istore_n 3, 1) := by decide +kernel
theorem dX12_takesOther_59 : decode cX12_takesOther 59 = .ok (.iload_n 3, 1) := by decide +kernel
theorem dX12_takesOther_60 : decode cX12_takesOther 60 = .ok (.iconst 3, 1) := by decide +kernel
theorem dX12_takesOther_61 : decode cX12_takesOther 61 = .ok (.iload_n 2, 1) := by decide +kernel
theorem dX12_takesOther_62 : decode cX12_takesOther 62 = .ok (.imul, 1) := by decide +kernel
theorem dX12_takesOther_63 : decode cX12_takesOther 63 = .ok (.if_icmp .ge 24, 3) := by decide +kernel
theorem dX12_takesOther_66 : decode cX12_takesOther 66 = .ok (.aload_n 0, 1) := by decide +kernel
theorem dX12_takesOther_67 : decode cX12_takesOther 67 = .ok (.getfield 65, 3) := by decide +kernel
theorem dX12_takesOther_70 : decode cX12_takesOther 70 = .ok (.iload_n 3, 1) := by decide +kernel
theorem dX12_takesOther_71 : decode cX12_takesOther 71 = .ok (.aload_n 0, 1) := by decide +kernel
theorem dX12_takesOther_72 : decode cX12_takesOther 72 = .ok (.getfield 65, 3) := by decide +kernel
theorem dX12_takesOther_75 : decode cX12_takesOther 75 = .ok (.bipush 48, 2) := by decide +kernel
theorem dX12_takesOther_77 : decode cX12_takesOther 77 = .ok (.iload_n 3, 1) := by decide +kernel
theorem dX12_takesOther_78 : decode cX12_takesOther 78 = .ok (.iadd, 1) := by decide +kernel
theorem dX12_takesOther_79 : decode cX12_takesOther 79 = .ok (.iaload, 1) := by decide +kernel
theorem dX12_takesOther_80 : decode cX12_takesOther 80 = .ok (.iastore, 1) := by decide +kernel
theorem dX12_takesOther_81 : decode cX12_takesOther 81 = .ok (.iinc 3 1, 3) := by decide +kernel
theorem dX12_takesOther_84 : decode cX12_takesOther 84 = .ok (.goto (-25), 3) := by decide +kernel
theorem dX12_takesOther_87 : decode cX12_takesOther 87 = .ok (.aload_n 0, 1) := by decide +kernel
theorem dX12_takesOther_88 : decode cX12_takesOther 88 = .ok (.iload_n 2, 1) := by decide +kernel
theorem dX12_takesOther_89 : decode cX12_takesOther 89 = .ok (.putfield 270, 3) := by decide +kernel
theorem dX12_takesOther_92 : decode cX12_takesOther 92 = .ok (.aload_n 0, 1) := by decide +kernel
theorem dX12_takesOther_93 : decode cX12_takesOther 93 = .ok (.iconst 0, 1) := by decide +kernel
theorem dX12_takesOther_94 : decode cX12_takesOther 94 = .ok (.putfield 102, 3) := by decide +kernel
theorem dX12_takesOther_97 : decode cX12_takesOther 97 = .ok (.return_, 1) := by decide +kernel
theorem dX12_text_0 : decode cX12_text 0 = .ok (.aload_n 0, 1) := by decide +kernel
theorem dX12_text_1 : decode cX12_text 1 = .ok (.iconst 0, 1) := by decide +kernel
theorem dX12_text_2 : decode cX12_text 2 = .ok (.putfield 99, 3) := by decide +kernel
theorem dX12_text_5 : decode cX12_text 5 = .ok (.aload_n 0, 1) := by decide +kernel
theorem dX12_text_6 : decode cX12_text 6 = .ok (.iconst 0, 1) := by decide +kernel
theorem dX12_text_7 : decode cX12_text 7 = .ok (.putfield 273, 3) := by decide +kernel
theorem dX12_text_10 : decode cX12_text 10 = .ok (.aload_n 0, 1) := by decide +kernel
theorem dX12_text_11 : decode cX12_text 11 = .ok (.iconst (-1), 1) := by decide +kernel
theorem dX12_text_12 : decode cX12_text 12 = .ok (.putfield 58, 3) := by decide +kernel
theorem dX12_text_15 : decode cX12_text 15 = .ok (.aload_n 0, 1) := by decide +kernel
theorem dX12_text_16 : decode cX12_text 16 = .ok (.iconst 0, 1) := by decide +kernel
theorem dX12_text_17 : decode cX12_text 17 = .ok (.putfield 148, 3) := by decide +kernel
theorem dX12_text_20 : decode cX12_text 20 = .ok (.aload_n 0, 1) := by decide +kernel
theorem dX12_text_21 : decode cX12_text 21 = .ok (.iconst 0, 1) := by decide +kernel
theorem dX12_text_22 : decode cX12_text 22 = .ok (.putfield 182, 3) := by decide +kernel
theorem dX12_text_25 : decode cX12_text 25 = .ok (.aload_n 0, 1) := by decide +kernel
theorem dX12_text_26 : decode cX12_text 26 = .ok (.iconst 0, 1) := by decide +kernel
theorem dX12_text_27 : decode cX12_text 27 = .ok (.putfield 214, 3) := by decide +kernel
theorem dX12_text_30 : decode cX12_text 30 = .ok (.iconst (-1), 1) := by decide +kernel
theorem dX12_text_31 : decode cX12_text 31 = .ok (.istore_n 2, 1) := by decide +kernel
theorem dX12_text_32 : decode cX12_text 32 = .ok (.aload_n 0, 1) := by decide +kernel
theorem dX12_text_33 : decode cX12_text 33 = .ok (.iload_n 1, 1) := by decide +kernel
theorem dX12_text_34 : decode cX12_text 34 = .ok (.iconst 0, 1) := by decide +kernel
theorem dX12_text_35 : decode cX12_text 35 = .ok (.iconst 3, 1) := by decide +kernel
theorem dX12_text_36 : decode cX12_text 36 = .ok (.invokevirtual 121, 3) := by decide +kernel
theorem dX12_text_39 : decode cX12_text 39 = .ok (.ifCond .eq 30, 3) := by decide +kernel
theorem dX12_text_42 : decode cX12_text 42 = .ok (.aload_n 0, 1) := by decide +kernel
theorem dX12_text_43 : decode cX12_text 43 = .ok (.iload_n 1, 1) := by decide +kernel
theorem dX12_text_44 : decode cX12_text 44 = .ok (.invokevirtual 276, 3) := by decide +kernel
theorem dX12_text_47 : decode cX12_text 47 = .ok (.istore_n 2, 1) := by decide +kernel
theorem dX12_text_48 : decode cX12_text 48 = .ok (.iload_n 2, 1) := by decide +kernel
theorem dX12_text_49 : decode cX12_text 49 = .ok (.iconst (-1), 1) := by decide +kernel
theorem dX12_text_50 : decode cX12_text 50 = .ok (.if_icmp .ne 19, 3) := by decide +kernel
theorem dX12_text_53 : decode cX12_text 53 = .ok (.aload_n 0, 1) := by decide +kernel
theorem dX12_text_54 : decode cX12_text 54 = .ok (.aload_n 0, 1) := by decide +kernel
theorem dX12_text_55 : decode cX12_text 55 = .ok (.getfield 176, 3) := by decide +kernel
theorem dX12_text_58 : decode cX12_text 58 = .ok (.putfield 273, 3) := by decide +kernel
theorem dX12_text_61 : decode cX12_text 61 = .ok (.aload_n 0, 1) := by decide +kernel
theorem dX12_text_62 : decode cX12_text 62 = .ok (.aload_n 0, 1) := by decide +kernel
theorem dX12_text_63 : decode cX12_text 63 = .ok (.getfield 179, 3) := by decide +kernel
theorem dX12_text_66 : decode cX12_text 66 = .ok (.putfield 58, 3) := by decide +kernel
theorem dX12_text_69 : decode cX12_text 69 = .ok (.aload_n 0, 1) := by decide +kernel
theorem dX12_text_70 : decode cX12_text 70 = .ok (.iconst 0, 1) := by decide +kernel
theorem dX12_text_71 : decode cX12_text 71 = .ok (.putfield 141, 3) := by decide +kernel
theorem dX12_text_74 : decode cX12_text 74 = .ok (.iload_n 2, 1) := by decide +kernel
theorem dX12_text_75 : decode cX12_text 75 = .ok (.iconst (-1), 1) := by decide +kernel
theorem dX12_text_76 : decode cX12_text 76 = .ok (.if_icmp .ne 5, 3) := by decide +kernel
theorem dX12_text_79 : decode cX12_text 79 = .ok (.iconst (-1), 1) := by decide +kernel
theorem dX12_text_80 : decode cX12_text 80 = .ok (.ireturn, 1) := by decide +kernel
theorem dX12_text_81 : decode cX12_text 81 = .ok (.iload_n 1, 1) := by decide +kernel
theorem dX12_text_82 : decode cX12_text 82 = .ok (.iconst 1, 1) := by decide +kernel
theorem dX12_text_83 : decode cX12_text 83 = .ok (.if_icmp .gt 11, 3) := by decide +kernel
theorem dX12_text_86 : decode cX12_text 86 = .ok (.aload_n 0, 1) := by decide +kernel
theorem dX12_text_87 : decode cX12_text 87 = .ok (.iload_n 2, 1) := by decide +kernel
theorem dX12_text_88 : decode cX12_text 88 = .ok (.invokevirtual 279, 3) := by decide +kernel
theorem dX12_text_91 : decode cX12_text 91 = .ok (.goto 9, 3) := by decide +kernel
theorem dX12_text_94 : decode cX12_text 94 = .ok (.aload_n 0, 1) := by decide +kernel
theorem dX12_text_95 : decode cX12_text 95 = .ok (.iload_n 1, 1) := by decide +kernel
theorem dX12_text_96 : decode cX12_text 96 = .ok (.iload_n 2, 1) := by decide +kernel
theorem dX12_text_97 : decode cX12_text 97 = .ok (.invokevirtual 282, 3) := by decide +kernel
theorem dX12_text_100 : decode cX12_text 100 = .ok (.iload_n 2, 1) := by decide +kernel
theorem dX12_text_101 : decode cX12_text 101 = .ok (.ireturn, 1) := by decide +kernel
theorem dX12_fault_0 : decode cX12_fault 0 = .ok (.aload_n 0, 1) := by decide +kernel
theorem dX12_fault_1 : decode cX12_fault 1 = .ok (.iconst 0, 1) := by decide +kernel
theorem dX12_fault_2 : decode cX12_fault 2 = .ok (.putfield 99, 3) := by decide +kernel
theorem dX12_fault_5 : decode cX12_fault 5 = .ok (.iload_n 1, 1) := by decide +kernel
theorem dX12_fault_6 : decode cX12_fault 6 = .ok (.ifCond .ne 10, 3) := by decide +kernel
theorem dX12_fault_9 : decode cX12_fault 9 = .ok (.aload_n 0, 1) := by decide +kernel
theorem dX12_fault_10 : decode cX12_fault 10 = .ok (.getfield 273, 3) := by decide +kernel
theorem dX12_fault_13 : decode cX12_fault 13 = .ok (.goto 16, 3) := by decide +kernel
theorem dX12_fault_16 : decode cX12_fault 16 = .ok (.iload_n 1, 1) := by decide +kernel
theorem dX12_fault_17 : decode cX12_fault 17 = .ok (.iconst 1, 1) := by decide +kernel
theorem dX12_fault_18 : decode cX12_fault 18 = .ok (.if_icmp .ne 10, 3) := by decide +kernel
theorem dX12_fault_21 : decode cX12_fault 21 = .ok (.aload_n 0, 1) := by decide +kernel
theorem dX12_fault_22 : decode cX12_fault 22 = .ok (.getfield 58, 3) := by decide +kernel
theorem dX12_fault_25 : decode cX12_fault 25 = .ok (.goto 4, 3) := by decide +kernel
theorem dX12_fault_28 : decode cX12_fault 28 = .ok (.iconst (-1), 1) := by decide +kernel
theorem dX12_fault_29 : decode cX12_fault 29 = .ok (.ireturn, 1) := by decide +kernel
theorem dX12_twoOf_0 : decode cX12_twoOf 0 = .ok (.iload_n 1, 1) := by decide +kernel
theorem dX12_twoOf_1 : decode cX12_twoOf 1 = .ok (.iconst 2, 1) := by decide +kernel
theorem dX12_twoOf_2 : decode cX12_twoOf 2 = .ok (.if_icmp .ne 7, 3) := by decide +kernel
theorem dX12_twoOf_5 : decode cX12_twoOf 5 = .ok (.iload_n 2, 1) := by decide +kernel
theorem dX12_twoOf_6 : decode cX12_twoOf 6 = .ok (.iload_n 3, 1) := by decide +kernel
theorem dX12_twoOf_7 : decode cX12_twoOf 7 = .ok (.iadd, 1) := by decide +kernel
theorem dX12_twoOf_8 : decode cX12_twoOf 8 = .ok (.ireturn, 1) := by decide +kernel
theorem dX12_twoOf_9 : decode cX12_twoOf 9 = .ok (.iload_n 1, 1) := by decide +kernel
theorem dX12_twoOf_10 : decode cX12_twoOf 10 = .ok (.iconst 3, 1) := by decide +kernel
theorem dX12_twoOf_11 : decode cX12_twoOf 11 = .ok (.if_icmp .ne 7, 3) := by decide +kernel
theorem dX12_twoOf_14 : decode cX12_twoOf 14 = .ok (.iload_n 2, 1) := by decide +kernel
theorem dX12_twoOf_15 : decode cX12_twoOf 15 = .ok (.iload_n 3, 1) := by decide +kernel
theorem dX12_twoOf_16 : decode cX12_twoOf 16 = .ok (.isub, 1) := by decide +kernel
theorem dX12_twoOf_17 : decode cX12_twoOf 17 = .ok (.ireturn, 1) := by decide +kernel
theorem dX12_twoOf_18 : decode cX12_twoOf 18 = .ok (.iload_n 1, 1) := by decide +kernel
theorem dX12_twoOf_19 : decode cX12_twoOf 19 = .ok (.iconst 4, 1) := by decide +kernel
theorem dX12_twoOf_20 : decode cX12_twoOf 20 = .ok (.if_icmp .ne 7, 3) := by decide +kernel
theorem dX12_twoOf_23 : decode cX12_twoOf 23 = .ok (.iload_n 2, 1) := by decide +kernel
theorem dX12_twoOf_24 : decode cX12_twoOf 24 = .ok (.iload_n 3, 1) := by decide +kernel
theorem dX12_twoOf_25 : decode cX12_twoOf 25 = .ok (.imul, 1) := by decide +kernel
theorem dX12_twoOf_26 : decode cX12_twoOf 26 = .ok (.ireturn, 1) := by decide +kernel
theorem dX12_twoOf_27 : decode cX12_twoOf 27 = .ok (.iload_n 1, 1) := by decide +kernel
theorem dX12_twoOf_28 : decode cX12_twoOf 28 = .ok (.iconst 5, 1) := by decide +kernel
theorem dX12_twoOf_29 : decode cX12_twoOf 29 = .ok (.if_icmp .ne 7, 3) := by decide +kernel
theorem dX12_twoOf_32 : decode cX12_twoOf 32 = .ok (.iload_n 2, 1) := by decide +kernel
theorem dX12_twoOf_33 : decode cX12_twoOf 33 = .ok (.iload_n 3, 1) := by decide +kernel
theorem dX12_twoOf_34 : decode cX12_twoOf 34 = .ok (.idiv, 1) := by decide +kernel
theorem dX12_twoOf_35 : decode cX12_twoOf 35 = .ok (.ireturn, 1) := by decide +kernel
theorem dX12_twoOf_36 : decode cX12_twoOf 36 = .ok (.iload_n 1, 1) := by decide +kernel
theorem dX12_twoOf_37 : decode cX12_twoOf 37 = .ok (.bipush 6, 2) := by decide +kernel
theorem dX12_twoOf_39 : decode cX12_twoOf 39 = .ok (.if_icmp .ne 14, 3) := by decide +kernel
theorem dX12_twoOf_42 : decode cX12_twoOf 42 = .ok (.iload_n 2, 1) := by decide +kernel
theorem dX12_twoOf_43 : decode cX12_twoOf 43 = .ok (.iload_n 3, 1) := by decide +kernel
theorem dX12_twoOf_44 : decode cX12_twoOf 44 = .ok (.if_icmp .ge 7, 3) := by decide +kernel
theorem dX12_twoOf_47 : decode cX12_twoOf 47 = .ok (.iconst 1, 1) := by decide +kernel
theorem dX12_twoOf_48 : decode cX12_twoOf 48 = .ok (.goto 4, 3) := by decide +kernel
theorem dX12_twoOf_51 : decode cX12_twoOf 51 = .ok (.iconst 0, 1) := by decide +kernel
theorem dX12_twoOf_52 : decode cX12_twoOf 52 = .ok (.ireturn, 1) := by decide +kernel
theorem dX12_twoOf_53 : decode cX12_twoOf 53 = .ok (.iload_n 1, 1) := by decide +kernel
theorem dX12_twoOf_54 : decode cX12_twoOf 54 = .ok (.bipush 7, 2) := by decide +kernel
theorem dX12_twoOf_56 : decode cX12_twoOf 56 = .ok (.if_icmp .ne 14, 3) := by decide +kernel
theorem dX12_twoOf_59 : decode cX12_twoOf 59 = .ok (.iload_n 2, 1) := by decide +kernel
theorem dX12_twoOf_60 : decode cX12_twoOf 60 = .ok (.iload_n 3, 1) := by decide +kernel
theorem dX12_twoOf_61 : decode cX12_twoOf 61 = .ok (.if_icmp .ne 7, 3) := by decide +kernel
theorem dX12_twoOf_64 : decode cX12_twoOf 64 = .ok (.iconst 1, 1) := by decide +kernel
theorem dX12_twoOf_65 : decode cX12_twoOf 65 = .ok (.goto 4, 3) := by decide +kernel
theorem dX12_twoOf_68 : decode cX12_twoOf 68 = .ok (.iconst 0, 1) := by decide +kernel
theorem dX12_twoOf_69 : decode cX12_twoOf 69 = .ok (.ireturn, 1) := by decide +kernel
theorem dX12_twoOf_70 : decode cX12_twoOf 70 = .ok (.iload_n 1, 1) := by decide +kernel
theorem dX12_twoOf_71 : decode cX12_twoOf 71 = .ok (.bipush 8, 2) := by decide +kernel
theorem dX12_twoOf_73 : decode cX12_twoOf 73 = .ok (.if_icmp .ne 14, 3) := by decide +kernel
theorem dX12_twoOf_76 : decode cX12_twoOf 76 = .ok (.iload_n 2, 1) := by decide +kernel
theorem dX12_twoOf_77 : decode cX12_twoOf 77 = .ok (.iload_n 3, 1) := by decide +kernel
theorem dX12_twoOf_78 : decode cX12_twoOf 78 = .ok (.if_icmp .le 7, 3) := by decide +kernel
theorem dX12_twoOf_81 : decode cX12_twoOf 81 = .ok (.iconst 1, 1) := by decide +kernel
theorem dX12_twoOf_82 : decode cX12_twoOf 82 = .ok (.goto 4, 3) := by decide +kernel
theorem dX12_twoOf_85 : decode cX12_twoOf 85 = .ok (.iconst 0, 1) := by decide +kernel
theorem dX12_twoOf_86 : decode cX12_twoOf 86 = .ok (.ireturn, 1) := by decide +kernel
theorem dX12_twoOf_87 : decode cX12_twoOf 87 = .ok (.iload_n 1, 1) := by decide +kernel
theorem dX12_twoOf_88 : decode cX12_twoOf 88 = .ok (.bipush 10, 2) := by decide +kernel
theorem dX12_twoOf_90 : decode cX12_twoOf 90 = .ok (.if_icmp .ne 9, 3) := by decide +kernel
theorem dX12_twoOf_93 : decode cX12_twoOf 93 = .ok (.iload_n 2, 1) := by decide +kernel
theorem dX12_twoOf_94 : decode cX12_twoOf 94 = .ok (.iload_n 3, 1) := by decide +kernel
theorem dX12_twoOf_95 : decode cX12_twoOf 95 = .ok (.imul, 1) := by decide +kernel
theorem dX12_twoOf_96 : decode cX12_twoOf 96 = .ok (.goto 14, 3) := by decide +kernel
theorem dX12_twoOf_99 : decode cX12_twoOf 99 = .ok (.iload_n 2, 1) := by decide +kernel
theorem dX12_twoOf_100 : decode cX12_twoOf 100 = .ok (.iload_n 3, 1) := by decide +kernel
theorem dX12_twoOf_101 : decode cX12_twoOf 101 = .ok (.iadd, 1) := by decide +kernel
theorem dX12_twoOf_102 : decode cX12_twoOf 102 = .ok (.ifCond .le 7, 3) := by decide +kernel
theorem dX12_twoOf_105 : decode cX12_twoOf 105 = .ok (.iconst 1, 1) := by decide +kernel
theorem dX12_twoOf_106 : decode cX12_twoOf 106 = .ok (.goto 4, 3) := by decide +kernel
theorem dX12_twoOf_109 : decode cX12_twoOf 109 = .ok (.iconst 0, 1) := by decide +kernel
theorem dX12_twoOf_110 : decode cX12_twoOf 110 = .ok (.ireturn, 1) := by decide +kernel
theorem dX12_runs_0 : decode cX12_runs 0 = .ok (.iconst 0, 1) := by decide +kernel
theorem dX12_runs_1 : decode cX12_runs 1 = .ok (.istore 4, 2) := by decide +kernel
theorem dX12_runs_3 : decode cX12_runs 3 = .ok (.sipush 400, 3) := by decide +kernel
theorem dX12_runs_6 : decode cX12_runs 6 = .ok (.iload_n 1, 1) := by decide +kernel
theorem dX12_runs_7 : decode cX12_runs 7 = .ok (.imul, 1) := by decide +kernel
theorem dX12_runs_8 : decode cX12_runs 8 = .ok (.iload_n 2, 1) := by decide +kernel
theorem dX12_runs_9 : decode cX12_runs 9 = .ok (.iadd, 1) := by decide +kernel
theorem dX12_runs_10 : decode cX12_runs 10 = .ok (.istore 5, 2) := by decide +kernel
theorem dX12_runs_12 : decode cX12_runs 12 = .ok (.iload 5, 2) := by decide +kernel
theorem dX12_runs_14 : decode cX12_runs 14 = .ok (.sipush 400, 3) := by decide +kernel
theorem dX12_runs_17 : decode cX12_runs 17 = .ok (.iload_n 1, 1) := by decide +kernel
theorem dX12_runs_18 : decode cX12_runs 18 = .ok (.imul, 1) := by decide +kernel
theorem dX12_runs_19 : decode cX12_runs 19 = .ok (.iload_n 3, 1) := by decide +kernel
theorem dX12_runs_20 : decode cX12_runs 20 = .ok (.iadd, 1) := by decide +kernel
theorem dX12_runs_21 : decode cX12_runs 21 = .ok (.if_icmp .ge 155, 3) := by decide +kernel
theorem dX12_runs_24 : decode cX12_runs 24 = .ok (.aload_n 0, 1) := by decide +kernel
theorem dX12_runs_25 : decode cX12_runs 25 = .ok (.getfield 49, 3) := by decide +kernel
theorem dX12_runs_28 : decode cX12_runs 28 = .ok (.iload 5, 2) := by decide +kernel
theorem dX12_runs_30 : decode cX12_runs 30 = .ok (.iaload, 1) := by decide +kernel
theorem dX12_runs_31 : decode cX12_runs 31 = .ok (.ifCond .eq 14, 3) := by decide +kernel
theorem dX12_runs_34 : decode cX12_runs 34 = .ok (.aload_n 0, 1) := by decide +kernel
theorem dX12_runs_35 : decode cX12_runs 35 = .ok (.getfield 49, 3) := by decide +kernel
theorem dX12_runs_38 : decode cX12_runs 38 = .ok (.iload 5, 2) := by decide +kernel
theorem dX12_runs_40 : decode cX12_runs 40 = .ok (.iaload, 1) := by decide +kernel
theorem dX12_runs_41 : decode cX12_runs 41 = .ok (.iconst 1, 1) := by decide +kernel
theorem dX12_runs_42 : decode cX12_runs 42 = .ok (.if_icmp .ne 51, 3) := by decide +kernel
theorem dX12_runs_45 : decode cX12_runs 45 = .ok (.aload_n 0, 1) := by decide +kernel
theorem dX12_runs_46 : decode cX12_runs 46 = .ok (.getfield 71, 3) := by decide +kernel
theorem dX12_runs_49 : decode cX12_runs 49 = .ok (.iload 4, 2) := by decide +kernel
theorem dX12_runs_51 : decode cX12_runs 51 = .ok (.aload_n 0, 1) := by decide +kernel
theorem dX12_runs_52 : decode cX12_runs 52 = .ok (.getfield 49, 3) := by decide +kernel
theorem dX12_runs_55 : decode cX12_runs 55 = .ok (.iload 5, 2) := by decide +kernel
theorem dX12_runs_57 : decode cX12_runs 57 = .ok (.iaload, 1) := by decide +kernel
theorem dX12_runs_58 : decode cX12_runs 58 = .ok (.ifCond .ne 13, 3) := by decide +kernel
theorem dX12_runs_61 : decode cX12_runs 61 = .ok (.aload_n 0, 1) := by decide +kernel
theorem dX12_runs_62 : decode cX12_runs 62 = .ok (.getfield 52, 3) := by decide +kernel
theorem dX12_runs_65 : decode cX12_runs 65 = .ok (.iload 5, 2) := by decide +kernel
theorem dX12_runs_67 : decode cX12_runs 67 = .ok (.iaload, 1) := by decide +kernel
theorem dX12_runs_68 : decode cX12_runs 68 = .ok (.goto 15, 3) := by decide +kernel
theorem dX12_runs_71 : decode cX12_runs 71 = .ok (.aload_n 0, 1) := by decide +kernel
theorem dX12_runs_72 : decode cX12_runs 72 = .ok (.getfield 68, 3) := by decide +kernel
theorem dX12_runs_75 : decode cX12_runs 75 = .ok (.aload_n 0, 1) := by decide +kernel
theorem dX12_runs_76 : decode cX12_runs 76 = .ok (.getfield 52, 3) := by decide +kernel
theorem dX12_runs_79 : decode cX12_runs 79 = .ok (.iload 5, 2) := by decide +kernel
theorem dX12_runs_81 : decode cX12_runs 81 = .ok (.iaload, 1) := by decide +kernel
theorem dX12_runs_82 : decode cX12_runs 82 = .ok (.iaload, 1) := by decide +kernel
theorem dX12_runs_83 : decode cX12_runs 83 = .ok (.iastore, 1) := by decide +kernel
theorem dX12_runs_84 : decode cX12_runs 84 = .ok (.iload 4, 2) := by decide +kernel
theorem dX12_runs_86 : decode cX12_runs 86 = .ok (.iconst 1, 1) := by decide +kernel
theorem dX12_runs_87 : decode cX12_runs 87 = .ok (.iadd, 1) := by decide +kernel
theorem dX12_runs_88 : decode cX12_runs 88 = .ok (.istore 4, 2) := by decide +kernel
theorem dX12_runs_90 : decode cX12_runs 90 = .ok (.goto 80, 3) := by decide +kernel
theorem dX12_runs_93 : decode cX12_runs 93 = .ok (.aload_n 0, 1) := by decide +kernel
theorem dX12_runs_94 : decode cX12_runs 94 = .ok (.getfield 49, 3) := by decide +kernel
theorem dX12_runs_97 : decode cX12_runs 97 = .ok (.iload 5, 2) := by decide +kernel
theorem dX12_runs_99 : decode cX12_runs 99 = .ok (.iaload, 1) := by decide +kernel
theorem dX12_runs_100 : decode cX12_runs 100 = .ok (.bipush 9, 2) := by decide +kernel
theorem dX12_runs_102 : decode cX12_runs 102 = .ok (.if_icmp .ne 26, 3) := by decide +kernel
theorem dX12_runs_105 : decode cX12_runs 105 = .ok (.aload_n 0, 1) := by decide +kernel
theorem dX12_runs_106 : decode cX12_runs 106 = .ok (.getfield 71, 3) := by decide +kernel
theorem dX12_runs_109 : decode cX12_runs 109 = .ok (.iload 4, 2) := by decide +kernel
theorem dX12_runs_111 : decode cX12_runs 111 = .ok (.iconst 1, 1) := by decide +kernel
theorem dX12_runs_112 : decode cX12_runs 112 = .ok (.isub, 1) := by decide +kernel
theorem dX12_runs_113 : decode cX12_runs 113 = .ok (.iconst 1, 1) := by decide +kernel
theorem dX12_runs_114 : decode cX12_runs 114 = .ok (.aload_n 0, 1) := by decide +kernel
theorem dX12_runs_115 : decode cX12_runs 115 = .ok (.getfield 71, 3) := by decide +kernel
theorem dX12_runs_118 : decode cX12_runs 118 = .ok (.iload 4, 2) := by decide +kernel
theorem dX12_runs_120 : decode cX12_runs 120 = .ok (.iconst 1, 1) := by decide +kernel
theorem dX12_runs_121 : decode cX12_runs 121 = .ok (.isub, 1) := by decide +kernel
theorem dX12_runs_122 : decode cX12_runs 122 = .ok (.iaload, 1) := by decide +kernel
theorem dX12_runs_123 : decode cX12_runs 123 = .ok (.isub, 1) := by decide +kernel
theorem dX12_runs_124 : decode cX12_runs 124 = .ok (.iastore, 1) := by decide +kernel
theorem dX12_runs_125 : decode cX12_runs 125 = .ok (.goto 45, 3) := by decide +kernel
theorem dX12_runs_128 : decode cX12_runs 128 = .ok (.iload 4, 2) := by decide +kernel
theorem dX12_runs_130 : decode cX12_runs 130 = .ok (.iconst 1, 1) := by decide +kernel
theorem dX12_runs_131 : decode cX12_runs 131 = .ok (.isub, 1) := by decide +kernel
theorem dX12_runs_132 : decode cX12_runs 132 = .ok (.istore 4, 2) := by decide +kernel
theorem dX12_runs_134 : decode cX12_runs 134 = .ok (.aload_n 0, 1) := by decide +kernel
theorem dX12_runs_135 : decode cX12_runs 135 = .ok (.getfield 71, 3) := by decide +kernel
theorem dX12_runs_138 : decode cX12_runs 138 = .ok (.iload 4, 2) := by decide +kernel
theorem dX12_runs_140 : decode cX12_runs 140 = .ok (.iconst 1, 1) := by decide +kernel
theorem dX12_runs_141 : decode cX12_runs 141 = .ok (.isub, 1) := by decide +kernel
theorem dX12_runs_142 : decode cX12_runs 142 = .ok (.aload_n 0, 1) := by decide +kernel
theorem dX12_runs_143 : decode cX12_runs 143 = .ok (.aload_n 0, 1) := by decide +kernel
theorem dX12_runs_144 : decode cX12_runs 144 = .ok (.getfield 49, 3) := by decide +kernel
theorem dX12_runs_147 : decode cX12_runs 147 = .ok (.iload 5, 2) := by decide +kernel
theorem dX12_runs_149 : decode cX12_runs 149 = .ok (.iaload, 1) := by decide +kernel
theorem dX12_runs_150 : decode cX12_runs 150 = .ok (.aload_n 0, 1) := by decide +kernel
theorem dX12_runs_151 : decode cX12_runs 151 = .ok (.getfield 71, 3) := by decide +kernel
theorem dX12_runs_154 : decode cX12_runs 154 = .ok (.iload 4, 2) := by decide +kernel
theorem dX12_runs_156 : decode cX12_runs 156 = .ok (.iconst 1, 1) := by decide +kernel
theorem dX12_runs_157 : decode cX12_runs 157 = .ok (.isub, 1) := by decide +kernel
theorem dX12_runs_158 : decode cX12_runs 158 = .ok (.iaload, 1) := by decide +kernel
theorem dX12_runs_159 : decode cX12_runs 159 = .ok (.aload_n 0, 1) := by decide +kernel
theorem dX12_runs_160 : decode cX12_runs 160 = .ok (.getfield 71, 3) := by decide +kernel
theorem dX12_runs_163 : decode cX12_runs 163 = .ok (.iload 4, 2) := by decide +kernel
theorem dX12_runs_165 : decode cX12_runs 165 = .ok (.iaload, 1) := by decide +kernel
theorem dX12_runs_166 : decode cX12_runs 166 = .ok (.invokevirtual 285, 3) := by decide +kernel
theorem dX12_runs_169 : decode cX12_runs 169 = .ok (.iastore, 1) := by decide +kernel
theorem dX12_runs_170 : decode cX12_runs 170 = .ok (.iinc 5 1, 3) := by decide +kernel
theorem dX12_runs_173 : decode cX12_runs 173 = .ok (.goto (-161), 3) := by decide +kernel
theorem dX12_runs_176 : decode cX12_runs 176 = .ok (.aload_n 0, 1) := by decide +kernel
theorem dX12_runs_177 : decode cX12_runs 177 = .ok (.getfield 71, 3) := by decide +kernel
theorem dX12_runs_180 : decode cX12_runs 180 = .ok (.iconst 0, 1) := by decide +kernel
theorem dX12_runs_181 : decode cX12_runs 181 = .ok (.iaload, 1) := by decide +kernel
theorem dX12_runs_182 : decode cX12_runs 182 = .ok (.ireturn, 1) := by decide +kernel
theorem dX12_lineOf_0 : decode cX12_lineOf 0 = .ok (.iconst 0, 1) := by decide +kernel
theorem dX12_lineOf_1 : decode cX12_lineOf 1 = .ok (.istore_n 3, 1) := by decide +kernel
theorem dX12_lineOf_2 : decode cX12_lineOf 2 = .ok (.iload_n 3, 1) := by decide +kernel
theorem dX12_lineOf_3 : decode cX12_lineOf 3 = .ok (.aload_n 0, 1) := by decide +kernel
theorem dX12_lineOf_4 : decode cX12_lineOf 4 = .ok (.getfield 34, 3) := by decide +kernel
theorem dX12_lineOf_7 : decode cX12_lineOf 7 = .ok (.iload_n 1, 1) := by decide +kernel
theorem dX12_lineOf_8 : decode cX12_lineOf 8 = .ok (.iaload, 1) := by decide +kernel
theorem dX12_lineOf_9 : decode cX12_lineOf 9 = .ok (.if_icmp .ge 75, 3) := by decide +kernel
theorem dX12_lineOf_12 : decode cX12_lineOf 12 = .ok (.bipush 16, 2) := by decide +kernel
theorem dX12_lineOf_14 : decode cX12_lineOf 14 = .ok (.iload_n 1, 1) := by decide +kernel
theorem dX12_lineOf_15 : decode cX12_lineOf 15 = .ok (.imul, 1) := by decide +kernel
theorem dX12_lineOf_16 : decode cX12_lineOf 16 = .ok (.iload_n 3, 1) := by decide +kernel
theorem dX12_lineOf_17 : decode cX12_lineOf 17 = .ok (.iadd, 1) := by decide +kernel
theorem dX12_lineOf_18 : decode cX12_lineOf 18 = .ok (.istore 4, 2) := by decide +kernel
theorem dX12_lineOf_20 : decode cX12_lineOf 20 = .ok (.iload_n 2, 1) := by decide +kernel
theorem dX12_lineOf_21 : decode cX12_lineOf 21 = .ok (.iconst (-1), 1) := by decide +kernel
theorem dX12_lineOf_22 : decode cX12_lineOf 22 = .ok (.if_icmp .eq 14, 3) := by decide +kernel
theorem dX12_lineOf_25 : decode cX12_lineOf 25 = .ok (.aload_n 0, 1) := by decide +kernel
theorem dX12_lineOf_26 : decode cX12_lineOf 26 = .ok (.getfield 37, 3) := by decide +kernel
theorem dX12_lineOf_29 : decode cX12_lineOf 29 = .ok (.iload 4, 2) := by decide +kernel
theorem dX12_lineOf_31 : decode cX12_lineOf 31 = .ok (.iaload, 1) := by decide +kernel
theorem dX12_lineOf_32 : decode cX12_lineOf 32 = .ok (.iload_n 2, 1) := by decide +kernel
theorem dX12_lineOf_33 : decode cX12_lineOf 33 = .ok (.if_icmp .ne 45, 3) := by decide +kernel
theorem dX12_lineOf_36 : decode cX12_lineOf 36 = .ok (.aload_n 0, 1) := by decide +kernel
theorem dX12_lineOf_37 : decode cX12_lineOf 37 = .ok (.getfield 43, 3) := by decide +kernel
theorem dX12_lineOf_40 : decode cX12_lineOf 40 = .ok (.iload 4, 2) := by decide +kernel
theorem dX12_lineOf_42 : decode cX12_lineOf 42 = .ok (.iaload, 1) := by decide +kernel
theorem dX12_lineOf_43 : decode cX12_lineOf 43 = .ok (.aload_n 0, 1) := by decide +kernel
theorem dX12_lineOf_44 : decode cX12_lineOf 44 = .ok (.getfield 46, 3) := by decide +kernel
theorem dX12_lineOf_47 : decode cX12_lineOf 47 = .ok (.iload 4, 2) := by decide +kernel
theorem dX12_lineOf_49 : decode cX12_lineOf 49 = .ok (.iaload, 1) := by decide +kernel
theorem dX12_lineOf_50 : decode cX12_lineOf 50 = .ok (.if_icmp .eq 25, 3) := by decide +kernel
theorem dX12_lineOf_53 : decode cX12_lineOf 53 = .ok (.aload_n 0, 1) := by decide +kernel
theorem dX12_lineOf_54 : decode cX12_lineOf 54 = .ok (.iload_n 1, 1) := by decide +kernel
theorem dX12_lineOf_55 : decode cX12_lineOf 55 = .ok (.aload_n 0, 1) := by decide +kernel
theorem dX12_lineOf_56 : decode cX12_lineOf 56 = .ok (.getfield 43, 3) := by decide +kernel
theorem dX12_lineOf_59 : decode cX12_lineOf 59 = .ok (.iload 4, 2) := by decide +kernel
theorem dX12_lineOf_61 : decode cX12_lineOf 61 = .ok (.iaload, 1) := by decide +kernel
theorem dX12_lineOf_62 : decode cX12_lineOf 62 = .ok (.aload_n 0, 1) := by decide +kernel
theorem dX12_lineOf_63 : decode cX12_lineOf 63 = .ok (.getfield 46, 3) := by decide +kernel
theorem dX12_lineOf_66 : decode cX12_lineOf 66 = .ok (.iload 4, 2) := by decide +kernel
theorem dX12_lineOf_68 : decode cX12_lineOf 68 = .ok (.iaload, 1) := by decide +kernel
theorem dX12_lineOf_69 : decode cX12_lineOf 69 = .ok (.invokevirtual 288, 3) := by decide +kernel
theorem dX12_lineOf_72 : decode cX12_lineOf 72 = .ok (.ifCond .eq 6, 3) := by decide +kernel
theorem dX12_lineOf_75 : decode cX12_lineOf 75 = .ok (.iload 4, 2) := by decide +kernel
theorem dX12_lineOf_77 : decode cX12_lineOf 77 = .ok (.ireturn, 1) := by decide +kernel
theorem dX12_lineOf_78 : decode cX12_lineOf 78 = .ok (.iinc 3 1, 3) := by decide +kernel
theorem dX12_lineOf_81 : decode cX12_lineOf 81 = .ok (.goto (-79), 3) := by decide +kernel
theorem dX12_lineOf_84 : decode cX12_lineOf 84 = .ok (.iconst (-1), 1) := by decide +kernel
theorem dX12_lineOf_85 : decode cX12_lineOf 85 = .ok (.ireturn, 1) := by decide +kernel
theorem dX12_ofStone_0 : decode cX12_ofStone 0 = .ok (.aload_n 0, 1) := by decide +kernel
theorem dX12_ofStone_1 : decode cX12_ofStone 1 = .ok (.getfield 62, 3) := by decide +kernel
theorem dX12_ofStone_4 : decode cX12_ofStone 4 = .ok (.iconst 4, 1) := by decide +kernel
theorem dX12_ofStone_5 : decode cX12_ofStone 5 = .ok (.iload_n 1, 1) := by decide +kernel
theorem dX12_ofStone_6 : decode cX12_ofStone 6 = .ok (.imul, 1) := by decide +kernel
theorem dX12_ofStone_7 : decode cX12_ofStone 7 = .ok (.iload_n 2, 1) := by decide +kernel
theorem dX12_ofStone_8 : decode cX12_ofStone 8 = .ok (.iadd, 1) := by decide +kernel
theorem dX12_ofStone_9 : decode cX12_ofStone 9 = .ok (.iaload, 1) := by decide +kernel
theorem dX12_ofStone_10 : decode cX12_ofStone 10 = .ok (.ireturn, 1) := by decide +kernel
theorem dX12_longHere_0 : decode cX12_longHere 0 = .ok (.aload_n 0, 1) := by decide +kernel
theorem dX12_longHere_1 : decode cX12_longHere 1 = .ok (.aload_n 0, 1) := by decide +kernel
theorem dX12_longHere_2 : decode cX12_longHere 2 = .ok (.getfield 7, 3) := by decide +kernel
theorem dX12_longHere_5 : decode cX12_longHere 5 = .ok (.iconst 3, 1) := by decide +kernel
theorem dX12_longHere_6 : decode cX12_longHere 6 = .ok (.iaload, 1) := by decide +kernel
theorem dX12_longHere_7 : decode cX12_longHere 7 = .ok (.iconst 1, 1) := by decide +kernel
theorem dX12_longHere_8 : decode cX12_longHere 8 = .ok (.invokevirtual 291, 3) := by decide +kernel
theorem dX12_longHere_11 : decode cX12_longHere 11 = .ok (.ireturn, 1) := by decide +kernel
theorem dX12_isOnRiver_0 : decode cX12_isOnRiver 0 = .ok (.aload_n 0, 1) := by decide +kernel
theorem dX12_isOnRiver_1 : decode cX12_isOnRiver 1 = .ok (.getfield 267, 3) := by decide +kernel
theorem dX12_isOnRiver_4 : decode cX12_isOnRiver 4 = .ok (.ifCond .le 32, 3) := by decide +kernel
theorem dX12_isOnRiver_7 : decode cX12_isOnRiver 7 = .ok (.aload_n 0, 1) := by decide +kernel
theorem dX12_isOnRiver_8 : decode cX12_isOnRiver 8 = .ok (.getfield 7, 3) := by decide +kernel
theorem dX12_isOnRiver_11 : decode cX12_isOnRiver 11 = .ok (.iconst 4, 1) := by decide +kernel
theorem dX12_isOnRiver_12 : decode cX12_isOnRiver 12 = .ok (.iaload, 1) := by decide +kernel
theorem dX12_isOnRiver_13 : decode cX12_isOnRiver 13 = .ok (.aload_n 0, 1) := by decide +kernel
theorem dX12_isOnRiver_14 : decode cX12_isOnRiver 14 = .ok (.invokevirtual 294, 3) := by decide +kernel
theorem dX12_isOnRiver_17 : decode cX12_isOnRiver 17 = .ok (.aload_n 0, 1) := by decide +kernel
theorem dX12_isOnRiver_18 : decode cX12_isOnRiver 18 = .ok (.aload_n 0, 1) := by decide +kernel
theorem dX12_isOnRiver_19 : decode cX12_isOnRiver 19 = .ok (.getfield 7, 3) := by decide +kernel
theorem dX12_isOnRiver_22 : decode cX12_isOnRiver 22 = .ok (.iconst 3, 1) := by decide +kernel
theorem dX12_isOnRiver_23 : decode cX12_isOnRiver 23 = .ok (.iaload, 1) := by decide +kernel
theorem dX12_isOnRiver_24 : decode cX12_isOnRiver 24 = .ok (.iconst 2, 1) := by decide +kernel
theorem dX12_isOnRiver_25 : decode cX12_isOnRiver 25 = .ok (.invokevirtual 291, 3) := by decide +kernel
theorem dX12_isOnRiver_28 : decode cX12_isOnRiver 28 = .ok (.isub, 1) := by decide +kernel
theorem dX12_isOnRiver_29 : decode cX12_isOnRiver 29 = .ok (.if_icmp .lt 7, 3) := by decide +kernel
theorem dX12_isOnRiver_32 : decode cX12_isOnRiver 32 = .ok (.iconst 1, 1) := by decide +kernel
theorem dX12_isOnRiver_33 : decode cX12_isOnRiver 33 = .ok (.goto 4, 3) := by decide +kernel
theorem dX12_isOnRiver_36 : decode cX12_isOnRiver 36 = .ok (.iconst 0, 1) := by decide +kernel
theorem dX12_isOnRiver_37 : decode cX12_isOnRiver 37 = .ok (.ireturn, 1) := by decide +kernel
theorem dX12_asksOf_0 : decode cX12_asksOf 0 = .ok (.aload_n 0, 1) := by decide +kernel
theorem dX12_asksOf_1 : decode cX12_asksOf 1 = .ok (.getfield 68, 3) := by decide +kernel
theorem dX12_asksOf_4 : decode cX12_asksOf 4 = .ok (.iconst 0, 1) := by decide +kernel
theorem dX12_asksOf_5 : decode cX12_asksOf 5 = .ok (.aload_n 0, 1) := by decide +kernel
theorem dX12_asksOf_6 : decode cX12_asksOf 6 = .ok (.getfield 7, 3) := by decide +kernel
theorem dX12_asksOf_9 : decode cX12_asksOf 9 = .ok (.bipush 10, 2) := by decide +kernel
theorem dX12_asksOf_11 : decode cX12_asksOf 11 = .ok (.iload_n 1, 1) := by decide +kernel
theorem dX12_asksOf_12 : decode cX12_asksOf 12 = .ok (.iadd, 1) := by decide +kernel
theorem dX12_asksOf_13 : decode cX12_asksOf 13 = .ok (.iaload, 1) := by decide +kernel
theorem dX12_asksOf_14 : decode cX12_asksOf 14 = .ok (.iastore, 1) := by decide +kernel
theorem dX12_asksOf_15 : decode cX12_asksOf 15 = .ok (.aload_n 0, 1) := by decide +kernel
theorem dX12_asksOf_16 : decode cX12_asksOf 16 = .ok (.getfield 68, 3) := by decide +kernel
theorem dX12_asksOf_19 : decode cX12_asksOf 19 = .ok (.iconst 1, 1) := by decide +kernel
theorem dX12_asksOf_20 : decode cX12_asksOf 20 = .ok (.aload_n 0, 1) := by decide +kernel
theorem dX12_asksOf_21 : decode cX12_asksOf 21 = .ok (.getfield 7, 3) := by decide +kernel
theorem dX12_asksOf_24 : decode cX12_asksOf 24 = .ok (.bipush 20, 2) := by decide +kernel
theorem dX12_asksOf_26 : decode cX12_asksOf 26 = .ok (.iload_n 1, 1) := by decide +kernel
theorem dX12_asksOf_27 : decode cX12_asksOf 27 = .ok (.iadd, 1) := by decide +kernel
theorem dX12_asksOf_28 : decode cX12_asksOf 28 = .ok (.iaload, 1) := by decide +kernel
theorem dX12_asksOf_29 : decode cX12_asksOf 29 = .ok (.iastore, 1) := by decide +kernel
theorem dX12_asksOf_30 : decode cX12_asksOf 30 = .ok (.aload_n 0, 1) := by decide +kernel
theorem dX12_asksOf_31 : decode cX12_asksOf 31 = .ok (.getfield 68, 3) := by decide +kernel
theorem dX12_asksOf_34 : decode cX12_asksOf 34 = .ok (.iconst 2, 1) := by decide +kernel
theorem dX12_asksOf_35 : decode cX12_asksOf 35 = .ok (.aload_n 0, 1) := by decide +kernel
theorem dX12_asksOf_36 : decode cX12_asksOf 36 = .ok (.getfield 19, 3) := by decide +kernel
theorem dX12_asksOf_39 : decode cX12_asksOf 39 = .ok (.iload_n 1, 1) := by decide +kernel
theorem dX12_asksOf_40 : decode cX12_asksOf 40 = .ok (.iaload, 1) := by decide +kernel
theorem dX12_asksOf_41 : decode cX12_asksOf 41 = .ok (.iastore, 1) := by decide +kernel
theorem dX12_asksOf_42 : decode cX12_asksOf 42 = .ok (.aload_n 0, 1) := by decide +kernel
theorem dX12_asksOf_43 : decode cX12_asksOf 43 = .ok (.getfield 68, 3) := by decide +kernel
theorem dX12_asksOf_46 : decode cX12_asksOf 46 = .ok (.iconst 3, 1) := by decide +kernel
theorem dX12_asksOf_47 : decode cX12_asksOf 47 = .ok (.iload_n 2, 1) := by decide +kernel
theorem dX12_asksOf_48 : decode cX12_asksOf 48 = .ok (.iastore, 1) := by decide +kernel
theorem dX12_asksOf_49 : decode cX12_asksOf 49 = .ok (.aload_n 0, 1) := by decide +kernel
theorem dX12_asksOf_50 : decode cX12_asksOf 50 = .ok (.getfield 68, 3) := by decide +kernel
theorem dX12_asksOf_53 : decode cX12_asksOf 53 = .ok (.iconst 4, 1) := by decide +kernel
theorem dX12_asksOf_54 : decode cX12_asksOf 54 = .ok (.aload_n 0, 1) := by decide +kernel
theorem dX12_asksOf_55 : decode cX12_asksOf 55 = .ok (.getfield 7, 3) := by decide +kernel
theorem dX12_asksOf_58 : decode cX12_asksOf 58 = .ok (.iconst 0, 1) := by decide +kernel
theorem dX12_asksOf_59 : decode cX12_asksOf 59 = .ok (.iaload, 1) := by decide +kernel
theorem dX12_asksOf_60 : decode cX12_asksOf 60 = .ok (.bipush 24, 2) := by decide +kernel
theorem dX12_asksOf_62 : decode cX12_asksOf 62 = .ok (.idiv, 1) := by decide +kernel
theorem dX12_asksOf_63 : decode cX12_asksOf 63 = .ok (.iastore, 1) := by decide +kernel
theorem dX12_asksOf_64 : decode cX12_asksOf 64 = .ok (.aload_n 0, 1) := by decide +kernel
theorem dX12_asksOf_65 : decode cX12_asksOf 65 = .ok (.getfield 68, 3) := by decide +kernel
theorem dX12_asksOf_68 : decode cX12_asksOf 68 = .ok (.iconst 5, 1) := by decide +kernel
theorem dX12_asksOf_69 : decode cX12_asksOf 69 = .ok (.aload_n 0, 1) := by decide +kernel
theorem dX12_asksOf_70 : decode cX12_asksOf 70 = .ok (.getfield 267, 3) := by decide +kernel
theorem dX12_asksOf_73 : decode cX12_asksOf 73 = .ok (.ifCond .le 30, 3) := by decide +kernel
theorem dX12_asksOf_76 : decode cX12_asksOf 76 = .ok (.aload_n 0, 1) := by decide +kernel
theorem dX12_asksOf_77 : decode cX12_asksOf 77 = .ok (.aload_n 0, 1) := by decide +kernel
theorem dX12_asksOf_78 : decode cX12_asksOf 78 = .ok (.getfield 7, 3) := by decide +kernel
theorem dX12_asksOf_81 : decode cX12_asksOf 81 = .ok (.iconst 3, 1) := by decide +kernel
theorem dX12_asksOf_82 : decode cX12_asksOf 82 = .ok (.iaload, 1) := by decide +kernel
theorem dX12_asksOf_83 : decode cX12_asksOf 83 = .ok (.iconst 0, 1) := by decide +kernel
theorem dX12_asksOf_84 : decode cX12_asksOf 84 = .ok (.invokevirtual 291, 3) := by decide +kernel
theorem dX12_asksOf_87 : decode cX12_asksOf 87 = .ok (.aload_n 0, 1) := by decide +kernel
theorem dX12_asksOf_88 : decode cX12_asksOf 88 = .ok (.getfield 7, 3) := by decide +kernel
theorem dX12_asksOf_91 : decode cX12_asksOf 91 = .ok (.bipush 30, 2) := by decide +kernel
theorem dX12_asksOf_93 : decode cX12_asksOf 93 = .ok (.iload_n 1, 1) := by decide +kernel
theorem dX12_asksOf_94 : decode cX12_asksOf 94 = .ok (.iadd, 1) := by decide +kernel
theorem dX12_asksOf_95 : decode cX12_asksOf 95 = .ok (.iaload, 1) := by decide +kernel
theorem dX12_asksOf_96 : decode cX12_asksOf 96 = .ok (.if_icmp .ne 7, 3) := by decide +kernel
theorem dX12_asksOf_99 : decode cX12_asksOf 99 = .ok (.iconst 1, 1) := by decide +kernel
theorem dX12_asksOf_100 : decode cX12_asksOf 100 = .ok (.goto 4, 3) := by decide +kernel
theorem dX12_asksOf_103 : decode cX12_asksOf 103 = .ok (.iconst 0, 1) := by decide +kernel
theorem dX12_asksOf_104 : decode cX12_asksOf 104 = .ok (.iastore, 1) := by decide +kernel
theorem dX12_asksOf_105 : decode cX12_asksOf 105 = .ok (.aload_n 0, 1) := by decide +kernel
theorem dX12_asksOf_106 : decode cX12_asksOf 106 = .ok (.getfield 68, 3) := by decide +kernel
theorem dX12_asksOf_109 : decode cX12_asksOf 109 = .ok (.bipush 6, 2) := by decide +kernel
theorem dX12_asksOf_111 : decode cX12_asksOf 111 = .ok (.aload_n 0, 1) := by decide +kernel
theorem dX12_asksOf_112 : decode cX12_asksOf 112 = .ok (.getfield 7, 3) := by decide +kernel
theorem dX12_asksOf_115 : decode cX12_asksOf 115 = .ok (.iconst 3, 1) := by decide +kernel
theorem dX12_asksOf_116 : decode cX12_asksOf 116 = .ok (.iaload, 1) := by decide +kernel
theorem dX12_asksOf_117 : decode cX12_asksOf 117 = .ok (.iastore, 1) := by decide +kernel
theorem dX12_asksOf_118 : decode cX12_asksOf 118 = .ok (.aload_n 0, 1) := by decide +kernel
theorem dX12_asksOf_119 : decode cX12_asksOf 119 = .ok (.getfield 68, 3) := by decide +kernel
theorem dX12_asksOf_122 : decode cX12_asksOf 122 = .ok (.bipush 7, 2) := by decide +kernel
theorem dX12_asksOf_124 : decode cX12_asksOf 124 = .ok (.aload_n 0, 1) := by decide +kernel
theorem dX12_asksOf_125 : decode cX12_asksOf 125 = .ok (.invokevirtual 297, 3) := by decide +kernel
theorem dX12_asksOf_128 : decode cX12_asksOf 128 = .ok (.ifCond .eq 7, 3) := by decide +kernel
theorem dX12_asksOf_131 : decode cX12_asksOf 131 = .ok (.iconst 1, 1) := by decide +kernel
theorem dX12_asksOf_132 : decode cX12_asksOf 132 = .ok (.goto 4, 3) := by decide +kernel
theorem dX12_asksOf_135 : decode cX12_asksOf 135 = .ok (.iconst 0, 1) := by decide +kernel
theorem dX12_asksOf_136 : decode cX12_asksOf 136 = .ok (.iastore, 1) := by decide +kernel
theorem dX12_asksOf_137 : decode cX12_asksOf 137 = .ok (.aload_n 0, 1) := by decide +kernel
theorem dX12_asksOf_138 : decode cX12_asksOf 138 = .ok (.getfield 68, 3) := by decide +kernel
theorem dX12_asksOf_141 : decode cX12_asksOf 141 = .ok (.bipush 8, 2) := by decide +kernel
theorem dX12_asksOf_143 : decode cX12_asksOf 143 = .ok (.aload_n 0, 1) := by decide +kernel
theorem dX12_asksOf_144 : decode cX12_asksOf 144 = .ok (.getfield 7, 3) := by decide +kernel
theorem dX12_asksOf_147 : decode cX12_asksOf 147 = .ok (.bipush 9, 2) := by decide +kernel
theorem dX12_asksOf_149 : decode cX12_asksOf 149 = .ok (.iaload, 1) := by decide +kernel
theorem dX12_asksOf_150 : decode cX12_asksOf 150 = .ok (.iastore, 1) := by decide +kernel
theorem dX12_asksOf_151 : decode cX12_asksOf 151 = .ok (.return_, 1) := by decide +kernel
theorem dX12_clockNow_0 : decode cX12_clockNow 0 = .ok (.aload_n 0, 1) := by decide +kernel
theorem dX12_clockNow_1 : decode cX12_clockNow 1 = .ok (.getfield 7, 3) := by decide +kernel
theorem dX12_clockNow_4 : decode cX12_clockNow 4 = .ok (.iconst 0, 1) := by decide +kernel
theorem dX12_clockNow_5 : decode cX12_clockNow 5 = .ok (.iaload, 1) := by decide +kernel
theorem dX12_clockNow_6 : decode cX12_clockNow 6 = .ok (.bipush 24, 2) := by decide +kernel
theorem dX12_clockNow_8 : decode cX12_clockNow 8 = .ok (.irem, 1) := by decide +kernel
theorem dX12_clockNow_9 : decode cX12_clockNow 9 = .ok (.ireturn, 1) := by decide +kernel
theorem dX12_hasShift_0 : decode cX12_hasShift 0 = .ok (.iload_n 2, 1) := by decide +kernel
theorem dX12_hasShift_1 : decode cX12_hasShift 1 = .ok (.aload_n 0, 1) := by decide +kernel
theorem dX12_hasShift_2 : decode cX12_hasShift 2 = .ok (.getfield 65, 3) := by decide +kernel
theorem dX12_hasShift_5 : decode cX12_hasShift 5 = .ok (.iconst 3, 1) := by decide +kernel
theorem dX12_hasShift_6 : decode cX12_hasShift 6 = .ok (.iload_n 1, 1) := by decide +kernel
theorem dX12_hasShift_7 : decode cX12_hasShift 7 = .ok (.imul, 1) := by decide +kernel
theorem dX12_hasShift_8 : decode cX12_hasShift 8 = .ok (.iconst 1, 1) := by decide +kernel
theorem dX12_hasShift_9 : decode cX12_hasShift 9 = .ok (.iadd, 1) := by decide +kernel
theorem dX12_hasShift_10 : decode cX12_hasShift 10 = .ok (.iaload, 1) := by decide +kernel
theorem dX12_hasShift_11 : decode cX12_hasShift 11 = .ok (.isub, 1) := by decide +kernel
theorem dX12_hasShift_12 : decode cX12_hasShift 12 = .ok (.bipush 24, 2) := by decide +kernel
theorem dX12_hasShift_14 : decode cX12_hasShift 14 = .ok (.iadd, 1) := by decide +kernel
theorem dX12_hasShift_15 : decode cX12_hasShift 15 = .ok (.bipush 24, 2) := by decide +kernel
theorem dX12_hasShift_17 : decode cX12_hasShift 17 = .ok (.irem, 1) := by decide +kernel
theorem dX12_hasShift_18 : decode cX12_hasShift 18 = .ok (.aload_n 0, 1) := by decide +kernel
theorem dX12_hasShift_19 : decode cX12_hasShift 19 = .ok (.getfield 65, 3) := by decide +kernel
theorem dX12_hasShift_22 : decode cX12_hasShift 22 = .ok (.iconst 3, 1) := by decide +kernel
theorem dX12_hasShift_23 : decode cX12_hasShift 23 = .ok (.iload_n 1, 1) := by decide +kernel
theorem dX12_hasShift_24 : decode cX12_hasShift 24 = .ok (.imul, 1) := by decide +kernel
theorem dX12_hasShift_25 : decode cX12_hasShift 25 = .ok (.iconst 2, 1) := by decide +kernel
theorem dX12_hasShift_26 : decode cX12_hasShift 26 = .ok (.iadd, 1) := by decide +kernel
theorem dX12_hasShift_27 : decode cX12_hasShift 27 = .ok (.iaload, 1) := by decide +kernel
theorem dX12_hasShift_28 : decode cX12_hasShift 28 = .ok (.if_icmp .ge 7, 3) := by decide +kernel
theorem dX12_hasShift_31 : decode cX12_hasShift 31 = .ok (.iconst 1, 1) := by decide +kernel
theorem dX12_hasShift_32 : decode cX12_hasShift 32 = .ok (.goto 4, 3) := by decide +kernel
theorem dX12_hasShift_35 : decode cX12_hasShift 35 = .ok (.iconst 0, 1) := by decide +kernel
theorem dX12_hasShift_36 : decode cX12_hasShift 36 = .ok (.ireturn, 1) := by decide +kernel
theorem dX12_shiftsAt_0 : decode cX12_shiftsAt 0 = .ok (.iconst 0, 1) := by decide +kernel
theorem dX12_shiftsAt_1 : decode cX12_shiftsAt 1 = .ok (.istore_n 2, 1) := by decide +kernel
theorem dX12_shiftsAt_2 : decode cX12_shiftsAt 2 = .ok (.iconst 0, 1) := by decide +kernel
theorem dX12_shiftsAt_3 : decode cX12_shiftsAt 3 = .ok (.istore_n 3, 1) := by decide +kernel
theorem dX12_shiftsAt_4 : decode cX12_shiftsAt 4 = .ok (.iload_n 3, 1) := by decide +kernel
theorem dX12_shiftsAt_5 : decode cX12_shiftsAt 5 = .ok (.aload_n 0, 1) := by decide +kernel
theorem dX12_shiftsAt_6 : decode cX12_shiftsAt 6 = .ok (.getfield 270, 3) := by decide +kernel
theorem dX12_shiftsAt_9 : decode cX12_shiftsAt 9 = .ok (.if_icmp .ge 31, 3) := by decide +kernel
theorem dX12_shiftsAt_12 : decode cX12_shiftsAt 12 = .ok (.aload_n 0, 1) := by decide +kernel
theorem dX12_shiftsAt_13 : decode cX12_shiftsAt 13 = .ok (.iload_n 3, 1) := by decide +kernel
theorem dX12_shiftsAt_14 : decode cX12_shiftsAt 14 = .ok (.iload_n 1, 1) := by decide +kernel
theorem dX12_shiftsAt_15 : decode cX12_shiftsAt 15 = .ok (.invokevirtual 300, 3) := by decide +kernel
theorem dX12_shiftsAt_18 : decode cX12_shiftsAt 18 = .ok (.ifCond .eq 16, 3) := by decide +kernel
theorem dX12_shiftsAt_21 : decode cX12_shiftsAt 21 = .ok (.iload_n 2, 1) := by decide +kernel
theorem dX12_shiftsAt_22 : decode cX12_shiftsAt 22 = .ok (.iconst 1, 1) := by decide +kernel
theorem dX12_shiftsAt_23 : decode cX12_shiftsAt 23 = .ok (.aload_n 0, 1) := by decide +kernel
theorem dX12_shiftsAt_24 : decode cX12_shiftsAt 24 = .ok (.getfield 65, 3) := by decide +kernel
theorem dX12_shiftsAt_27 : decode cX12_shiftsAt 27 = .ok (.iconst 3, 1) := by decide +kernel
theorem dX12_shiftsAt_28 : decode cX12_shiftsAt 28 = .ok (.iload_n 3, 1) := by decide +kernel
theorem dX12_shiftsAt_29 : decode cX12_shiftsAt 29 = .ok (.imul, 1) := by decide +kernel
theorem dX12_shiftsAt_30 : decode cX12_shiftsAt 30 = .ok (.iaload, 1) := by decide +kernel
theorem dX12_shiftsAt_31 : decode cX12_shiftsAt 31 = .ok (.ishl, 1) := by decide +kernel
theorem dX12_shiftsAt_32 : decode cX12_shiftsAt 32 = .ok (.ior, 1) := by decide +kernel
theorem dX12_shiftsAt_33 : decode cX12_shiftsAt 33 = .ok (.istore_n 2, 1) := by decide +kernel
theorem dX12_shiftsAt_34 : decode cX12_shiftsAt 34 = .ok (.iinc 3 1, 3) := by decide +kernel
theorem dX12_shiftsAt_37 : decode cX12_shiftsAt 37 = .ok (.goto (-33), 3) := by decide +kernel
theorem dX12_shiftsAt_40 : decode cX12_shiftsAt 40 = .ok (.iload_n 2, 1) := by decide +kernel
theorem dX12_shiftsAt_41 : decode cX12_shiftsAt 41 = .ok (.ireturn, 1) := by decide +kernel
theorem dX12_doesGo_0 : decode cX12_doesGo 0 = .ok (.aload_n 0, 1) := by decide +kernel
theorem dX12_doesGo_1 : decode cX12_doesGo 1 = .ok (.iload_n 1, 1) := by decide +kernel
theorem dX12_doesGo_2 : decode cX12_doesGo 2 = .ok (.aload_n 0, 1) := by decide +kernel
theorem dX12_doesGo_3 : decode cX12_doesGo 3 = .ok (.invokevirtual 304, 3) := by decide +kernel
theorem dX12_doesGo_6 : decode cX12_doesGo 6 = .ok (.invokevirtual 307, 3) := by decide +kernel
theorem dX12_doesGo_9 : decode cX12_doesGo 9 = .ok (.aload_n 0, 1) := by decide +kernel
theorem dX12_doesGo_10 : decode cX12_doesGo 10 = .ok (.iconst 0, 1) := by decide +kernel
theorem dX12_doesGo_11 : decode cX12_doesGo 11 = .ok (.iconst (-1), 1) := by decide +kernel
theorem dX12_doesGo_12 : decode cX12_doesGo 12 = .ok (.invokevirtual 310, 3) := by decide +kernel
theorem dX12_doesGo_15 : decode cX12_doesGo 15 = .ok (.istore_n 2, 1) := by decide +kernel
theorem dX12_doesGo_16 : decode cX12_doesGo 16 = .ok (.iload_n 2, 1) := by decide +kernel
theorem dX12_doesGo_17 : decode cX12_doesGo 17 = .ok (.iconst (-1), 1) := by decide +kernel
theorem dX12_doesGo_18 : decode cX12_doesGo 18 = .ok (.if_icmp .eq 12, 3) := by decide +kernel
theorem dX12_doesGo_21 : decode cX12_doesGo 21 = .ok (.aload_n 0, 1) := by decide +kernel
theorem dX12_doesGo_22 : decode cX12_doesGo 22 = .ok (.getfield 37, 3) := by decide +kernel
theorem dX12_doesGo_25 : decode cX12_doesGo 25 = .ok (.iload_n 2, 1) := by decide +kernel
theorem dX12_doesGo_26 : decode cX12_doesGo 26 = .ok (.iaload, 1) := by decide +kernel
theorem dX12_doesGo_27 : decode cX12_doesGo 27 = .ok (.ifCond .ne 7, 3) := by decide +kernel
theorem dX12_doesGo_30 : decode cX12_doesGo 30 = .ok (.iconst 1, 1) := by decide +kernel
theorem dX12_doesGo_31 : decode cX12_doesGo 31 = .ok (.goto 4, 3) := by decide +kernel
theorem dX12_doesGo_34 : decode cX12_doesGo 34 = .ok (.iconst 0, 1) := by decide +kernel
theorem dX12_doesGo_35 : decode cX12_doesGo 35 = .ok (.ireturn, 1) := by decide +kernel
theorem dX12_goers_0 : decode cX12_goers 0 = .ok (.iconst 0, 1) := by decide +kernel
theorem dX12_goers_1 : decode cX12_goers 1 = .ok (.istore_n 1, 1) := by decide +kernel
theorem dX12_goers_2 : decode cX12_goers 2 = .ok (.iconst 0, 1) := by decide +kernel
theorem dX12_goers_3 : decode cX12_goers 3 = .ok (.istore_n 2, 1) := by decide +kernel
theorem dX12_goers_4 : decode cX12_goers 4 = .ok (.iload_n 2, 1) := by decide +kernel
theorem dX12_goers_5 : decode cX12_goers 5 = .ok (.aload_n 0, 1) := by decide +kernel
theorem dX12_goers_6 : decode cX12_goers 6 = .ok (.getfield 114, 3) := by decide +kernel
theorem dX12_goers_9 : decode cX12_goers 9 = .ok (.if_icmp .ge 39, 3) := by decide +kernel
theorem dX12_goers_12 : decode cX12_goers 12 = .ok (.aload_n 0, 1) := by decide +kernel
theorem dX12_goers_13 : decode cX12_goers 13 = .ok (.aload_n 0, 1) := by decide +kernel
theorem dX12_goers_14 : decode cX12_goers 14 = .ok (.invokevirtual 304, 3) := by decide +kernel
theorem dX12_goers_17 : decode cX12_goers 17 = .ok (.invokevirtual 313, 3) := by decide +kernel
theorem dX12_goers_20 : decode cX12_goers 20 = .ok (.iload_n 2, 1) := by decide +kernel
theorem dX12_goers_21 : decode cX12_goers 21 = .ok (.ishr, 1) := by decide +kernel
theorem dX12_goers_22 : decode cX12_goers 22 = .ok (.iconst 1, 1) := by decide +kernel
theorem dX12_goers_23 : decode cX12_goers 23 = .ok (.iand, 1) := by decide +kernel
theorem dX12_goers_24 : decode cX12_goers 24 = .ok (.iconst 1, 1) := by decide +kernel
theorem dX12_goers_25 : decode cX12_goers 25 = .ok (.if_icmp .ne 17, 3) := by decide +kernel
theorem dX12_goers_28 : decode cX12_goers 28 = .ok (.aload_n 0, 1) := by decide +kernel
theorem dX12_goers_29 : decode cX12_goers 29 = .ok (.iload_n 2, 1) := by decide +kernel
theorem dX12_goers_30 : decode cX12_goers 30 = .ok (.invokevirtual 316, 3) := by decide +kernel
theorem dX12_goers_33 : decode cX12_goers 33 = .ok (.ifCond .eq 9, 3) := by decide +kernel
theorem dX12_goers_36 : decode cX12_goers 36 = .ok (.iload_n 1, 1) := by decide +kernel
theorem dX12_goers_37 : decode cX12_goers 37 = .ok (.iconst 1, 1) := by decide +kernel
theorem dX12_goers_38 : decode cX12_goers 38 = .ok (.iload_n 2, 1) := by decide +kernel
theorem dX12_goers_39 : decode cX12_goers 39 = .ok (.ishl, 1) := by decide +kernel
theorem dX12_goers_40 : decode cX12_goers 40 = .ok (.ior, 1) := by decide +kernel
theorem dX12_goers_41 : decode cX12_goers 41 = .ok (.istore_n 1, 1) := by decide +kernel
theorem dX12_goers_42 : decode cX12_goers 42 = .ok (.iinc 2 1, 3) := by decide +kernel
theorem dX12_goers_45 : decode cX12_goers 45 = .ok (.goto (-41), 3) := by decide +kernel
theorem dX12_goers_48 : decode cX12_goers 48 = .ok (.iload_n 1, 1) := by decide +kernel
theorem dX12_goers_49 : decode cX12_goers 49 = .ok (.ireturn, 1) := by decide +kernel
theorem dX12_tells_0 : decode cX12_tells 0 = .ok (.aload_n 0, 1) := by decide +kernel
theorem dX12_tells_1 : decode cX12_tells 1 = .ok (.iload_n 1, 1) := by decide +kernel
theorem dX12_tells_2 : decode cX12_tells 2 = .ok (.iload_n 2, 1) := by decide +kernel
theorem dX12_tells_3 : decode cX12_tells 3 = .ok (.invokevirtual 307, 3) := by decide +kernel
theorem dX12_tells_6 : decode cX12_tells 6 = .ok (.aload_n 0, 1) := by decide +kernel
theorem dX12_tells_7 : decode cX12_tells 7 = .ok (.iconst 1, 1) := by decide +kernel
theorem dX12_tells_8 : decode cX12_tells 8 = .ok (.iload_n 3, 1) := by decide +kernel
theorem dX12_tells_9 : decode cX12_tells 9 = .ok (.invokevirtual 310, 3) := by decide +kernel
theorem dX12_tells_12 : decode cX12_tells 12 = .ok (.istore 5, 2) := by decide +kernel
theorem dX12_tells_14 : decode cX12_tells 14 = .ok (.aload_n 0, 1) := by decide +kernel
theorem dX12_tells_15 : decode cX12_tells 15 = .ok (.iload 5, 2) := by decide +kernel
theorem dX12_tells_17 : decode cX12_tells 17 = .ok (.iconst (-1), 1) := by decide +kernel
theorem dX12_tells_18 : decode cX12_tells 18 = .ok (.if_icmp .ne 8, 3) := by decide +kernel
theorem dX12_tells_21 : decode cX12_tells 21 = .ok (.iload 4, 2) := by decide +kernel
theorem dX12_tells_23 : decode cX12_tells 23 = .ok (.goto 22, 3) := by decide +kernel
theorem dX12_tells_26 : decode cX12_tells 26 = .ok (.aload_n 0, 1) := by decide +kernel
theorem dX12_tells_27 : decode cX12_tells 27 = .ok (.iconst 1, 1) := by decide +kernel
theorem dX12_tells_28 : decode cX12_tells 28 = .ok (.aload_n 0, 1) := by decide +kernel
theorem dX12_tells_29 : decode cX12_tells 29 = .ok (.getfield 40, 3) := by decide +kernel
theorem dX12_tells_32 : decode cX12_tells 32 = .ok (.iload 5, 2) := by decide +kernel
theorem dX12_tells_34 : decode cX12_tells 34 = .ok (.iaload, 1) := by decide +kernel
theorem dX12_tells_35 : decode cX12_tells 35 = .ok (.aload_n 0, 1) := by decide +kernel
theorem dX12_tells_36 : decode cX12_tells 36 = .ok (.getfield 43, 3) := by decide +kernel
theorem dX12_tells_39 : decode cX12_tells 39 = .ok (.iload 5, 2) := by decide +kernel
theorem dX12_tells_41 : decode cX12_tells 41 = .ok (.iaload, 1) := by decide +kernel
theorem dX12_tells_42 : decode cX12_tells 42 = .ok (.invokevirtual 288, 3) := by decide +kernel
theorem dX12_tells_45 : decode cX12_tells 45 = .ok (.iconst 0, 1) := by decide +kernel
theorem dX12_tells_46 : decode cX12_tells 46 = .ok (.bipush 99, 2) := by decide +kernel
theorem dX12_tells_48 : decode cX12_tells 48 = .ok (.invokevirtual 319, 3) := by decide +kernel
theorem dX12_tells_51 : decode cX12_tells 51 = .ok (.ireturn, 1) := by decide +kernel
theorem dX12_tireOf_0 : decode cX12_tireOf 0 = .ok (.aload_n 0, 1) := by decide +kernel
theorem dX12_tireOf_1 : decode cX12_tireOf 1 = .ok (.iload_n 1, 1) := by decide +kernel
theorem dX12_tireOf_2 : decode cX12_tireOf 2 = .ok (.iload_n 2, 1) := by decide +kernel
theorem dX12_tireOf_3 : decode cX12_tireOf 3 = .ok (.iconst 2, 1) := by decide +kernel
theorem dX12_tireOf_4 : decode cX12_tireOf 4 = .ok (.bipush 10, 2) := by decide +kernel
theorem dX12_tireOf_6 : decode cX12_tireOf 6 = .ok (.invokevirtual 322, 3) := by decide +kernel
theorem dX12_tireOf_9 : decode cX12_tireOf 9 = .ok (.ireturn, 1) := by decide +kernel
theorem dX12_easeOf_0 : decode cX12_easeOf 0 = .ok (.aload_n 0, 1) := by decide +kernel
theorem dX12_easeOf_1 : decode cX12_easeOf 1 = .ok (.iload_n 1, 1) := by decide +kernel
theorem dX12_easeOf_2 : decode cX12_easeOf 2 = .ok (.aload_n 0, 1) := by decide +kernel
theorem dX12_easeOf_3 : decode cX12_easeOf 3 = .ok (.invokevirtual 304, 3) := by decide +kernel
theorem dX12_easeOf_6 : decode cX12_easeOf 6 = .ok (.iconst 3, 1) := by decide +kernel
theorem dX12_easeOf_7 : decode cX12_easeOf 7 = .ok (.iconst 5, 1) := by decide +kernel
theorem dX12_easeOf_8 : decode cX12_easeOf 8 = .ok (.invokevirtual 322, 3) := by decide +kernel
theorem dX12_easeOf_11 : decode cX12_easeOf 11 = .ok (.ireturn, 1) := by decide +kernel
theorem dX12_eatOf_0 : decode cX12_eatOf 0 = .ok (.aload_n 0, 1) := by decide +kernel
theorem dX12_eatOf_1 : decode cX12_eatOf 1 = .ok (.iload_n 1, 1) := by decide +kernel
theorem dX12_eatOf_2 : decode cX12_eatOf 2 = .ok (.aload_n 0, 1) := by decide +kernel
theorem dX12_eatOf_3 : decode cX12_eatOf 3 = .ok (.invokevirtual 304, 3) := by decide +kernel
theorem dX12_eatOf_6 : decode cX12_eatOf 6 = .ok (.iconst 4, 1) := by decide +kernel
theorem dX12_eatOf_7 : decode cX12_eatOf 7 = .ok (.iconst 1, 1) := by decide +kernel
theorem dX12_eatOf_8 : decode cX12_eatOf 8 = .ok (.invokevirtual 322, 3) := by decide +kernel
