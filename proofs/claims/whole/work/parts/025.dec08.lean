theorem dX12_eatOf_11 : decode cX12_eatOf 11 = .ok (.ireturn, 1) := by decide +kernel
theorem dX12_notes_0 : decode cX12_notes 0 = .ok (.aload_n 0, 1) := by decide +kernel
theorem dX12_notes_1 : decode cX12_notes 1 = .ok (.getfield 105, 3) := by decide +kernel
theorem dX12_notes_4 : decode cX12_notes 4 = .ok (.ifCond .ne 15, 3) := by decide +kernel
theorem dX12_notes_7 : decode cX12_notes 7 = .ok (.aload_n 0, 1) := by decide +kernel
theorem dX12_notes_8 : decode cX12_notes 8 = .ok (.getfield 7, 3) := by decide +kernel
theorem dX12_notes_11 : decode cX12_notes 11 = .ok (.iconst 2, 1) := by decide +kernel
theorem dX12_notes_12 : decode cX12_notes 12 = .ok (.iaload, 1) := by decide +kernel
theorem dX12_notes_13 : decode cX12_notes 13 = .ok (.sipush 150, 3) := by decide +kernel
theorem dX12_notes_16 : decode cX12_notes 16 = .ok (.if_icmp .ne 4, 3) := by decide +kernel
theorem dX12_notes_19 : decode cX12_notes 19 = .ok (.return_, 1) := by decide +kernel
theorem dX12_notes_20 : decode cX12_notes 20 = .ok (.iconst 3, 1) := by decide +kernel
theorem dX12_notes_21 : decode cX12_notes 21 = .ok (.aload_n 0, 1) := by decide +kernel
theorem dX12_notes_22 : decode cX12_notes 22 = .ok (.getfield 7, 3) := by decide +kernel
theorem dX12_notes_25 : decode cX12_notes 25 = .ok (.iconst 2, 1) := by decide +kernel
theorem dX12_notes_26 : decode cX12_notes 26 = .ok (.iaload, 1) := by decide +kernel
theorem dX12_notes_27 : decode cX12_notes 27 = .ok (.imul, 1) := by decide +kernel
theorem dX12_notes_28 : decode cX12_notes 28 = .ok (.istore_n 3, 1) := by decide +kernel
theorem dX12_notes_29 : decode cX12_notes 29 = .ok (.aload_n 0, 1) := by decide +kernel
theorem dX12_notes_30 : decode cX12_notes 30 = .ok (.getfield 25, 3) := by decide +kernel
theorem dX12_notes_33 : decode cX12_notes 33 = .ok (.iload_n 3, 1) := by decide +kernel
theorem dX12_notes_34 : decode cX12_notes 34 = .ok (.aload_n 0, 1) := by decide +kernel
theorem dX12_notes_35 : decode cX12_notes 35 = .ok (.getfield 7, 3) := by decide +kernel
theorem dX12_notes_38 : decode cX12_notes 38 = .ok (.iconst 0, 1) := by decide +kernel
theorem dX12_notes_39 : decode cX12_notes 39 = .ok (.iaload, 1) := by decide +kernel
theorem dX12_notes_40 : decode cX12_notes 40 = .ok (.iastore, 1) := by decide +kernel
theorem dX12_notes_41 : decode cX12_notes 41 = .ok (.aload_n 0, 1) := by decide +kernel
theorem dX12_notes_42 : decode cX12_notes 42 = .ok (.getfield 25, 3) := by decide +kernel
theorem dX12_notes_45 : decode cX12_notes 45 = .ok (.iload_n 3, 1) := by decide +kernel
theorem dX12_notes_46 : decode cX12_notes 46 = .ok (.iconst 1, 1) := by decide +kernel
theorem dX12_notes_47 : decode cX12_notes 47 = .ok (.iadd, 1) := by decide +kernel
theorem dX12_notes_48 : decode cX12_notes 48 = .ok (.iload_n 1, 1) := by decide +kernel
theorem dX12_notes_49 : decode cX12_notes 49 = .ok (.iastore, 1) := by decide +kernel
theorem dX12_notes_50 : decode cX12_notes 50 = .ok (.aload_n 0, 1) := by decide +kernel
theorem dX12_notes_51 : decode cX12_notes 51 = .ok (.getfield 25, 3) := by decide +kernel
theorem dX12_notes_54 : decode cX12_notes 54 = .ok (.iload_n 3, 1) := by decide +kernel
theorem dX12_notes_55 : decode cX12_notes 55 = .ok (.iconst 2, 1) := by decide +kernel
theorem dX12_notes_56 : decode cX12_notes 56 = .ok (.iadd, 1) := by decide +kernel
theorem dX12_notes_57 : decode cX12_notes 57 = .ok (.iload_n 2, 1) := by decide +kernel
theorem dX12_notes_58 : decode cX12_notes 58 = .ok (.iastore, 1) := by decide +kernel
theorem dX12_notes_59 : decode cX12_notes 59 = .ok (.aload_n 0, 1) := by decide +kernel
theorem dX12_notes_60 : decode cX12_notes 60 = .ok (.getfield 7, 3) := by decide +kernel
theorem dX12_notes_63 : decode cX12_notes 63 = .ok (.iconst 2, 1) := by decide +kernel
theorem dX12_notes_64 : decode cX12_notes 64 = .ok (.aload_n 0, 1) := by decide +kernel
theorem dX12_notes_65 : decode cX12_notes 65 = .ok (.getfield 7, 3) := by decide +kernel
theorem dX12_notes_68 : decode cX12_notes 68 = .ok (.iconst 2, 1) := by decide +kernel
theorem dX12_notes_69 : decode cX12_notes 69 = .ok (.iaload, 1) := by decide +kernel
theorem dX12_notes_70 : decode cX12_notes 70 = .ok (.iconst 1, 1) := by decide +kernel
theorem dX12_notes_71 : decode cX12_notes 71 = .ok (.iadd, 1) := by decide +kernel
theorem dX12_notes_72 : decode cX12_notes 72 = .ok (.iastore, 1) := by decide +kernel
theorem dX12_notes_73 : decode cX12_notes 73 = .ok (.return_, 1) := by decide +kernel
theorem dX12_counts_0 : decode cX12_counts 0 = .ok (.iload_n 1, 1) := by decide +kernel
theorem dX12_counts_1 : decode cX12_counts 1 = .ok (.ifCond .ne 25, 3) := by decide +kernel
theorem dX12_counts_4 : decode cX12_counts 4 = .ok (.aload_n 0, 1) := by decide +kernel
theorem dX12_counts_5 : decode cX12_counts 5 = .ok (.getfield 7, 3) := by decide +kernel
theorem dX12_counts_8 : decode cX12_counts 8 = .ok (.bipush 6, 2) := by decide +kernel
theorem dX12_counts_10 : decode cX12_counts 10 = .ok (.aload_n 0, 1) := by decide +kernel
theorem dX12_counts_11 : decode cX12_counts 11 = .ok (.getfield 7, 3) := by decide +kernel
theorem dX12_counts_14 : decode cX12_counts 14 = .ok (.bipush 6, 2) := by decide +kernel
theorem dX12_counts_16 : decode cX12_counts 16 = .ok (.iaload, 1) := by decide +kernel
theorem dX12_counts_17 : decode cX12_counts 17 = .ok (.iconst 1, 1) := by decide +kernel
theorem dX12_counts_18 : decode cX12_counts 18 = .ok (.iadd, 1) := by decide +kernel
theorem dX12_counts_19 : decode cX12_counts 19 = .ok (.iastore, 1) := by decide +kernel
theorem dX12_counts_20 : decode cX12_counts 20 = .ok (.aload_n 0, 1) := by decide +kernel
theorem dX12_counts_21 : decode cX12_counts 21 = .ok (.iconst 1, 1) := by decide +kernel
theorem dX12_counts_22 : decode cX12_counts 22 = .ok (.iconst 0, 1) := by decide +kernel
theorem dX12_counts_23 : decode cX12_counts 23 = .ok (.invokevirtual 326, 3) := by decide +kernel
theorem dX12_counts_26 : decode cX12_counts 26 = .ok (.iload_n 1, 1) := by decide +kernel
theorem dX12_counts_27 : decode cX12_counts 27 = .ok (.aload_n 0, 1) := by decide +kernel
theorem dX12_counts_28 : decode cX12_counts 28 = .ok (.getfield 132, 3) := by decide +kernel
theorem dX12_counts_31 : decode cX12_counts 31 = .ok (.if_icmp .lt 4, 3) := by decide +kernel
theorem dX12_counts_34 : decode cX12_counts 34 = .ok (.return_, 1) := by decide +kernel
theorem dX12_counts_35 : decode cX12_counts 35 = .ok (.aload_n 0, 1) := by decide +kernel
theorem dX12_counts_36 : decode cX12_counts 36 = .ok (.getfield 7, 3) := by decide +kernel
theorem dX12_counts_39 : decode cX12_counts 39 = .ok (.iconst 5, 1) := by decide +kernel
theorem dX12_counts_40 : decode cX12_counts 40 = .ok (.aload_n 0, 1) := by decide +kernel
theorem dX12_counts_41 : decode cX12_counts 41 = .ok (.getfield 7, 3) := by decide +kernel
theorem dX12_counts_44 : decode cX12_counts 44 = .ok (.iconst 5, 1) := by decide +kernel
theorem dX12_counts_45 : decode cX12_counts 45 = .ok (.iaload, 1) := by decide +kernel
theorem dX12_counts_46 : decode cX12_counts 46 = .ok (.iconst 1, 1) := by decide +kernel
theorem dX12_counts_47 : decode cX12_counts 47 = .ok (.iadd, 1) := by decide +kernel
theorem dX12_counts_48 : decode cX12_counts 48 = .ok (.iastore, 1) := by decide +kernel
theorem dX12_counts_49 : decode cX12_counts 49 = .ok (.iload_n 1, 1) := by decide +kernel
theorem dX12_counts_50 : decode cX12_counts 50 = .ok (.ifCond .le 9, 3) := by decide +kernel
theorem dX12_counts_53 : decode cX12_counts 53 = .ok (.aload_n 0, 1) := by decide +kernel
theorem dX12_counts_54 : decode cX12_counts 54 = .ok (.iconst 2, 1) := by decide +kernel
theorem dX12_counts_55 : decode cX12_counts 55 = .ok (.iload_n 1, 1) := by decide +kernel
theorem dX12_counts_56 : decode cX12_counts 56 = .ok (.invokevirtual 326, 3) := by decide +kernel
theorem dX12_counts_59 : decode cX12_counts 59 = .ok (.aload_n 0, 1) := by decide +kernel
theorem dX12_counts_60 : decode cX12_counts 60 = .ok (.getfield 105, 3) := by decide +kernel
theorem dX12_counts_63 : decode cX12_counts 63 = .ok (.ifCond .ne 24, 3) := by decide +kernel
theorem dX12_counts_66 : decode cX12_counts 66 = .ok (.aload_n 0, 1) := by decide +kernel
theorem dX12_counts_67 : decode cX12_counts 67 = .ok (.getfield 138, 3) := by decide +kernel
theorem dX12_counts_70 : decode cX12_counts 70 = .ok (.ifCond .eq 17, 3) := by decide +kernel
theorem dX12_counts_73 : decode cX12_counts 73 = .ok (.aload_n 0, 1) := by decide +kernel
theorem dX12_counts_74 : decode cX12_counts 74 = .ok (.sipush 1000, 3) := by decide +kernel
theorem dX12_counts_77 : decode cX12_counts 77 = .ok (.invokevirtual 329, 3) := by decide +kernel
theorem dX12_counts_80 : decode cX12_counts 80 = .ok (.aload_n 0, 1) := by decide +kernel
theorem dX12_counts_81 : decode cX12_counts 81 = .ok (.getfield 138, 3) := by decide +kernel
theorem dX12_counts_84 : decode cX12_counts 84 = .ok (.if_icmp .lt 4, 3) := by decide +kernel
theorem dX12_counts_87 : decode cX12_counts 87 = .ok (.return_, 1) := by decide +kernel
theorem dX12_counts_88 : decode cX12_counts 88 = .ok (.aload_n 0, 1) := by decide +kernel
theorem dX12_counts_89 : decode cX12_counts 89 = .ok (.getfield 7, 3) := by decide +kernel
theorem dX12_counts_92 : decode cX12_counts 92 = .ok (.bipush 7, 2) := by decide +kernel
theorem dX12_counts_94 : decode cX12_counts 94 = .ok (.aload_n 0, 1) := by decide +kernel
theorem dX12_counts_95 : decode cX12_counts 95 = .ok (.getfield 7, 3) := by decide +kernel
theorem dX12_counts_98 : decode cX12_counts 98 = .ok (.bipush 7, 2) := by decide +kernel
theorem dX12_counts_100 : decode cX12_counts 100 = .ok (.iaload, 1) := by decide +kernel
theorem dX12_counts_101 : decode cX12_counts 101 = .ok (.iconst 1, 1) := by decide +kernel
theorem dX12_counts_102 : decode cX12_counts 102 = .ok (.iadd, 1) := by decide +kernel
theorem dX12_counts_103 : decode cX12_counts 103 = .ok (.iastore, 1) := by decide +kernel
theorem dX12_counts_104 : decode cX12_counts 104 = .ok (.aload_n 0, 1) := by decide +kernel
theorem dX12_counts_105 : decode cX12_counts 105 = .ok (.iconst 4, 1) := by decide +kernel
theorem dX12_counts_106 : decode cX12_counts 106 = .ok (.iconst 0, 1) := by decide +kernel
theorem dX12_counts_107 : decode cX12_counts 107 = .ok (.invokevirtual 326, 3) := by decide +kernel
theorem dX12_counts_110 : decode cX12_counts 110 = .ok (.return_, 1) := by decide +kernel
theorem dX12_walks_0 : decode cX12_walks 0 = .ok (.iconst 0, 1) := by decide +kernel
theorem dX12_walks_1 : decode cX12_walks 1 = .ok (.istore_n 2, 1) := by decide +kernel
theorem dX12_walks_2 : decode cX12_walks 2 = .ok (.iconst 0, 1) := by decide +kernel
theorem dX12_walks_3 : decode cX12_walks 3 = .ok (.istore_n 3, 1) := by decide +kernel
theorem dX12_walks_4 : decode cX12_walks 4 = .ok (.iload_n 3, 1) := by decide +kernel
theorem dX12_walks_5 : decode cX12_walks 5 = .ok (.aload_n 0, 1) := by decide +kernel
theorem dX12_walks_6 : decode cX12_walks 6 = .ok (.getfield 114, 3) := by decide +kernel
theorem dX12_walks_9 : decode cX12_walks 9 = .ok (.if_icmp .ge 71, 3) := by decide +kernel
theorem dX12_walks_12 : decode cX12_walks 12 = .ok (.iload_n 1, 1) := by decide +kernel
theorem dX12_walks_13 : decode cX12_walks 13 = .ok (.iload_n 3, 1) := by decide +kernel
theorem dX12_walks_14 : decode cX12_walks 14 = .ok (.ishr, 1) := by decide +kernel
theorem dX12_walks_15 : decode cX12_walks 15 = .ok (.iconst 1, 1) := by decide +kernel
theorem dX12_walks_16 : decode cX12_walks 16 = .ok (.iand, 1) := by decide +kernel
theorem dX12_walks_17 : decode cX12_walks 17 = .ok (.iconst 1, 1) := by decide +kernel
theorem dX12_walks_18 : decode cX12_walks 18 = .ok (.if_icmp .ne 7, 3) := by decide +kernel
theorem dX12_walks_21 : decode cX12_walks 21 = .ok (.iconst 1, 1) := by decide +kernel
theorem dX12_walks_22 : decode cX12_walks 22 = .ok (.goto 4, 3) := by decide +kernel
theorem dX12_walks_25 : decode cX12_walks 25 = .ok (.iconst 0, 1) := by decide +kernel
theorem dX12_walks_26 : decode cX12_walks 26 = .ok (.istore 4, 2) := by decide +kernel
theorem dX12_walks_28 : decode cX12_walks 28 = .ok (.aload_n 0, 1) := by decide +kernel
theorem dX12_walks_29 : decode cX12_walks 29 = .ok (.getfield 74, 3) := by decide +kernel
theorem dX12_walks_32 : decode cX12_walks 32 = .ok (.iload_n 3, 1) := by decide +kernel
theorem dX12_walks_33 : decode cX12_walks 33 = .ok (.iload 4, 2) := by decide +kernel
theorem dX12_walks_35 : decode cX12_walks 35 = .ok (.ifCond .eq 15, 3) := by decide +kernel
theorem dX12_walks_38 : decode cX12_walks 38 = .ok (.aload_n 0, 1) := by decide +kernel
theorem dX12_walks_39 : decode cX12_walks 39 = .ok (.iload_n 3, 1) := by decide +kernel
theorem dX12_walks_40 : decode cX12_walks 40 = .ok (.aload_n 0, 1) := by decide +kernel
theorem dX12_walks_41 : decode cX12_walks 41 = .ok (.invokevirtual 304, 3) := by decide +kernel
theorem dX12_walks_44 : decode cX12_walks 44 = .ok (.invokevirtual 332, 3) := by decide +kernel
theorem dX12_walks_47 : decode cX12_walks 47 = .ok (.goto 9, 3) := by decide +kernel
theorem dX12_walks_50 : decode cX12_walks 50 = .ok (.aload_n 0, 1) := by decide +kernel
theorem dX12_walks_51 : decode cX12_walks 51 = .ok (.iload_n 3, 1) := by decide +kernel
theorem dX12_walks_52 : decode cX12_walks 52 = .ok (.invokevirtual 335, 3) := by decide +kernel
theorem dX12_walks_55 : decode cX12_walks 55 = .ok (.ineg, 1) := by decide +kernel
theorem dX12_walks_56 : decode cX12_walks 56 = .ok (.iastore, 1) := by decide +kernel
theorem dX12_walks_57 : decode cX12_walks 57 = .ok (.iload_n 2, 1) := by decide +kernel
theorem dX12_walks_58 : decode cX12_walks 58 = .ok (.iload 4, 2) := by decide +kernel
theorem dX12_walks_60 : decode cX12_walks 60 = .ok (.ifCond .eq 11, 3) := by decide +kernel
theorem dX12_walks_63 : decode cX12_walks 63 = .ok (.aload_n 0, 1) := by decide +kernel
theorem dX12_walks_64 : decode cX12_walks 64 = .ok (.iload_n 3, 1) := by decide +kernel
theorem dX12_walks_65 : decode cX12_walks 65 = .ok (.invokevirtual 338, 3) := by decide +kernel
theorem dX12_walks_68 : decode cX12_walks 68 = .ok (.goto 4, 3) := by decide +kernel
theorem dX12_walks_71 : decode cX12_walks 71 = .ok (.iconst 0, 1) := by decide +kernel
theorem dX12_walks_72 : decode cX12_walks 72 = .ok (.iadd, 1) := by decide +kernel
theorem dX12_walks_73 : decode cX12_walks 73 = .ok (.istore_n 2, 1) := by decide +kernel
theorem dX12_walks_74 : decode cX12_walks 74 = .ok (.iinc 3 1, 3) := by decide +kernel
theorem dX12_walks_77 : decode cX12_walks 77 = .ok (.goto (-73), 3) := by decide +kernel
theorem dX12_walks_80 : decode cX12_walks 80 = .ok (.iconst 0, 1) := by decide +kernel
theorem dX12_walks_81 : decode cX12_walks 81 = .ok (.istore_n 3, 1) := by decide +kernel
theorem dX12_walks_82 : decode cX12_walks 82 = .ok (.iload_n 3, 1) := by decide +kernel
theorem dX12_walks_83 : decode cX12_walks 83 = .ok (.aload_n 0, 1) := by decide +kernel
theorem dX12_walks_84 : decode cX12_walks 84 = .ok (.getfield 114, 3) := by decide +kernel
theorem dX12_walks_87 : decode cX12_walks 87 = .ok (.if_icmp .ge 82, 3) := by decide +kernel
theorem dX12_walks_90 : decode cX12_walks 90 = .ok (.aload_n 0, 1) := by decide +kernel
theorem dX12_walks_91 : decode cX12_walks 91 = .ok (.getfield 7, 3) := by decide +kernel
theorem dX12_walks_94 : decode cX12_walks 94 = .ok (.bipush 10, 2) := by decide +kernel
theorem dX12_walks_96 : decode cX12_walks 96 = .ok (.iload_n 3, 1) := by decide +kernel
theorem dX12_walks_97 : decode cX12_walks 97 = .ok (.iadd, 1) := by decide +kernel
theorem dX12_walks_98 : decode cX12_walks 98 = .ok (.aload_n 0, 1) := by decide +kernel
theorem dX12_walks_99 : decode cX12_walks 99 = .ok (.aload_n 0, 1) := by decide +kernel
theorem dX12_walks_100 : decode cX12_walks 100 = .ok (.getfield 7, 3) := by decide +kernel
theorem dX12_walks_103 : decode cX12_walks 103 = .ok (.bipush 10, 2) := by decide +kernel
theorem dX12_walks_105 : decode cX12_walks 105 = .ok (.iload_n 3, 1) := by decide +kernel
theorem dX12_walks_106 : decode cX12_walks 106 = .ok (.iadd, 1) := by decide +kernel
theorem dX12_walks_107 : decode cX12_walks 107 = .ok (.iaload, 1) := by decide +kernel
theorem dX12_walks_108 : decode cX12_walks 108 = .ok (.aload_n 0, 1) := by decide +kernel
theorem dX12_walks_109 : decode cX12_walks 109 = .ok (.getfield 74, 3) := by decide +kernel
theorem dX12_walks_112 : decode cX12_walks 112 = .ok (.iload_n 3, 1) := by decide +kernel
theorem dX12_walks_113 : decode cX12_walks 113 = .ok (.iaload, 1) := by decide +kernel
theorem dX12_walks_114 : decode cX12_walks 114 = .ok (.iadd, 1) := by decide +kernel
theorem dX12_walks_115 : decode cX12_walks 115 = .ok (.iconst 0, 1) := by decide +kernel
theorem dX12_walks_116 : decode cX12_walks 116 = .ok (.sipush 999, 3) := by decide +kernel
theorem dX12_walks_119 : decode cX12_walks 119 = .ok (.invokevirtual 319, 3) := by decide +kernel
theorem dX12_walks_122 : decode cX12_walks 122 = .ok (.iastore, 1) := by decide +kernel
theorem dX12_walks_123 : decode cX12_walks 123 = .ok (.aload_n 0, 1) := by decide +kernel
theorem dX12_walks_124 : decode cX12_walks 124 = .ok (.getfield 7, 3) := by decide +kernel
theorem dX12_walks_127 : decode cX12_walks 127 = .ok (.bipush 20, 2) := by decide +kernel
theorem dX12_walks_129 : decode cX12_walks 129 = .ok (.iload_n 3, 1) := by decide +kernel
theorem dX12_walks_130 : decode cX12_walks 130 = .ok (.iadd, 1) := by decide +kernel
theorem dX12_walks_131 : decode cX12_walks 131 = .ok (.iload_n 1, 1) := by decide +kernel
theorem dX12_walks_132 : decode cX12_walks 132 = .ok (.iload_n 3, 1) := by decide +kernel
theorem dX12_walks_133 : decode cX12_walks 133 = .ok (.ishr, 1) := by decide +kernel
theorem dX12_walks_134 : decode cX12_walks 134 = .ok (.iconst 1, 1) := by decide +kernel
theorem dX12_walks_135 : decode cX12_walks 135 = .ok (.iand, 1) := by decide +kernel
theorem dX12_walks_136 : decode cX12_walks 136 = .ok (.iconst 1, 1) := by decide +kernel
theorem dX12_walks_137 : decode cX12_walks 137 = .ok (.if_icmp .ne 24, 3) := by decide +kernel
theorem dX12_walks_140 : decode cX12_walks 140 = .ok (.aload_n 0, 1) := by decide +kernel
theorem dX12_walks_141 : decode cX12_walks 141 = .ok (.sipush 999, 3) := by decide +kernel
theorem dX12_walks_144 : decode cX12_walks 144 = .ok (.aload_n 0, 1) := by decide +kernel
theorem dX12_walks_145 : decode cX12_walks 145 = .ok (.getfield 7, 3) := by decide +kernel
theorem dX12_walks_148 : decode cX12_walks 148 = .ok (.bipush 20, 2) := by decide +kernel
theorem dX12_walks_150 : decode cX12_walks 150 = .ok (.iload_n 3, 1) := by decide +kernel
theorem dX12_walks_151 : decode cX12_walks 151 = .ok (.iadd, 1) := by decide +kernel
theorem dX12_walks_152 : decode cX12_walks 152 = .ok (.iaload, 1) := by decide +kernel
theorem dX12_walks_153 : decode cX12_walks 153 = .ok (.iconst 1, 1) := by decide +kernel
theorem dX12_walks_154 : decode cX12_walks 154 = .ok (.iadd, 1) := by decide +kernel
theorem dX12_walks_155 : decode cX12_walks 155 = .ok (.invokevirtual 341, 3) := by decide +kernel
theorem dX12_walks_158 : decode cX12_walks 158 = .ok (.goto 4, 3) := by decide +kernel
theorem dX12_walks_161 : decode cX12_walks 161 = .ok (.iconst 0, 1) := by decide +kernel
theorem dX12_walks_162 : decode cX12_walks 162 = .ok (.iastore, 1) := by decide +kernel
theorem dX12_walks_163 : decode cX12_walks 163 = .ok (.iinc 3 1, 3) := by decide +kernel
theorem dX12_walks_166 : decode cX12_walks 166 = .ok (.goto (-84), 3) := by decide +kernel
theorem dX12_walks_169 : decode cX12_walks 169 = .ok (.aload_n 0, 1) := by decide +kernel
theorem dX12_walks_170 : decode cX12_walks 170 = .ok (.getfield 7, 3) := by decide +kernel
theorem dX12_walks_173 : decode cX12_walks 173 = .ok (.bipush 9, 2) := by decide +kernel
theorem dX12_walks_175 : decode cX12_walks 175 = .ok (.aload_n 0, 1) := by decide +kernel
theorem dX12_walks_176 : decode cX12_walks 176 = .ok (.iconst 0, 1) := by decide +kernel
theorem dX12_walks_177 : decode cX12_walks 177 = .ok (.aload_n 0, 1) := by decide +kernel
theorem dX12_walks_178 : decode cX12_walks 178 = .ok (.getfield 7, 3) := by decide +kernel
theorem dX12_walks_181 : decode cX12_walks 181 = .ok (.bipush 9, 2) := by decide +kernel
theorem dX12_walks_183 : decode cX12_walks 183 = .ok (.iaload, 1) := by decide +kernel
theorem dX12_walks_184 : decode cX12_walks 184 = .ok (.iload_n 2, 1) := by decide +kernel
theorem dX12_walks_185 : decode cX12_walks 185 = .ok (.isub, 1) := by decide +kernel
theorem dX12_walks_186 : decode cX12_walks 186 = .ok (.invokevirtual 344, 3) := by decide +kernel
theorem dX12_walks_189 : decode cX12_walks 189 = .ok (.iastore, 1) := by decide +kernel
theorem dX12_walks_190 : decode cX12_walks 190 = .ok (.return_, 1) := by decide +kernel
theorem dX12_moves_0 : decode cX12_moves 0 = .ok (.aload_n 0, 1) := by decide +kernel
theorem dX12_moves_1 : decode cX12_moves 1 = .ok (.getfield 105, 3) := by decide +kernel
theorem dX12_moves_4 : decode cX12_moves 4 = .ok (.ifCond .ne 38, 3) := by decide +kernel
theorem dX12_moves_7 : decode cX12_moves 7 = .ok (.aload_n 0, 1) := by decide +kernel
theorem dX12_moves_8 : decode cX12_moves 8 = .ok (.getfield 135, 3) := by decide +kernel
theorem dX12_moves_11 : decode cX12_moves 11 = .ok (.ifCond .le 31, 3) := by decide +kernel
theorem dX12_moves_14 : decode cX12_moves 14 = .ok (.aload_n 0, 1) := by decide +kernel
theorem dX12_moves_15 : decode cX12_moves 15 = .ok (.invokevirtual 297, 3) := by decide +kernel
theorem dX12_moves_18 : decode cX12_moves 18 = .ok (.ifCond .eq 24, 3) := by decide +kernel
theorem dX12_moves_21 : decode cX12_moves 21 = .ok (.aload_n 0, 1) := by decide +kernel
theorem dX12_moves_22 : decode cX12_moves 22 = .ok (.sipush 1000, 3) := by decide +kernel
theorem dX12_moves_25 : decode cX12_moves 25 = .ok (.invokevirtual 329, 3) := by decide +kernel
theorem dX12_moves_28 : decode cX12_moves 28 = .ok (.aload_n 0, 1) := by decide +kernel
theorem dX12_moves_29 : decode cX12_moves 29 = .ok (.getfield 135, 3) := by decide +kernel
theorem dX12_moves_32 : decode cX12_moves 32 = .ok (.if_icmp .ge 10, 3) := by decide +kernel
theorem dX12_moves_35 : decode cX12_moves 35 = .ok (.aload_n 0, 1) := by decide +kernel
theorem dX12_moves_36 : decode cX12_moves 36 = .ok (.iconst 3, 1) := by decide +kernel
theorem dX12_moves_37 : decode cX12_moves 37 = .ok (.iconst 0, 1) := by decide +kernel
theorem dX12_moves_38 : decode cX12_moves 38 = .ok (.invokevirtual 326, 3) := by decide +kernel
theorem dX12_moves_41 : decode cX12_moves 41 = .ok (.return_, 1) := by decide +kernel
theorem dX12_moves_42 : decode cX12_moves 42 = .ok (.aload_n 0, 1) := by decide +kernel
theorem dX12_moves_43 : decode cX12_moves 43 = .ok (.getfield 7, 3) := by decide +kernel
theorem dX12_moves_46 : decode cX12_moves 46 = .ok (.iconst 4, 1) := by decide +kernel
theorem dX12_moves_47 : decode cX12_moves 47 = .ok (.aload_n 0, 1) := by decide +kernel
theorem dX12_moves_48 : decode cX12_moves 48 = .ok (.getfield 7, 3) := by decide +kernel
theorem dX12_moves_51 : decode cX12_moves 51 = .ok (.iconst 4, 1) := by decide +kernel
theorem dX12_moves_52 : decode cX12_moves 52 = .ok (.iaload, 1) := by decide +kernel
theorem dX12_moves_53 : decode cX12_moves 53 = .ok (.iconst 1, 1) := by decide +kernel
theorem dX12_moves_54 : decode cX12_moves 54 = .ok (.iadd, 1) := by decide +kernel
theorem dX12_moves_55 : decode cX12_moves 55 = .ok (.iastore, 1) := by decide +kernel
theorem dX12_moves_56 : decode cX12_moves 56 = .ok (.aload_n 0, 1) := by decide +kernel
theorem dX12_moves_57 : decode cX12_moves 57 = .ok (.getfield 7, 3) := by decide +kernel
theorem dX12_moves_60 : decode cX12_moves 60 = .ok (.iconst 4, 1) := by decide +kernel
theorem dX12_moves_61 : decode cX12_moves 61 = .ok (.iaload, 1) := by decide +kernel
theorem dX12_moves_62 : decode cX12_moves 62 = .ok (.aload_n 0, 1) := by decide +kernel
theorem dX12_moves_63 : decode cX12_moves 63 = .ok (.invokevirtual 294, 3) := by decide +kernel
theorem dX12_moves_66 : decode cX12_moves 66 = .ok (.if_icmp .ge 4, 3) := by decide +kernel
theorem dX12_moves_69 : decode cX12_moves 69 = .ok (.return_, 1) := by decide +kernel
theorem dX12_moves_70 : decode cX12_moves 70 = .ok (.aload_n 0, 1) := by decide +kernel
theorem dX12_moves_71 : decode cX12_moves 71 = .ok (.getfield 7, 3) := by decide +kernel
theorem dX12_moves_74 : decode cX12_moves 74 = .ok (.iconst 4, 1) := by decide +kernel
theorem dX12_moves_75 : decode cX12_moves 75 = .ok (.iconst 0, 1) := by decide +kernel
theorem dX12_moves_76 : decode cX12_moves 76 = .ok (.iastore, 1) := by decide +kernel
theorem dX12_moves_77 : decode cX12_moves 77 = .ok (.aload_n 0, 1) := by decide +kernel
theorem dX12_moves_78 : decode cX12_moves 78 = .ok (.getfield 7, 3) := by decide +kernel
theorem dX12_moves_81 : decode cX12_moves 81 = .ok (.iconst 3, 1) := by decide +kernel
theorem dX12_moves_82 : decode cX12_moves 82 = .ok (.aload_n 0, 1) := by decide +kernel
theorem dX12_moves_83 : decode cX12_moves 83 = .ok (.getfield 7, 3) := by decide +kernel
theorem dX12_moves_86 : decode cX12_moves 86 = .ok (.iconst 3, 1) := by decide +kernel
theorem dX12_moves_87 : decode cX12_moves 87 = .ok (.iaload, 1) := by decide +kernel
theorem dX12_moves_88 : decode cX12_moves 88 = .ok (.iconst 1, 1) := by decide +kernel
theorem dX12_moves_89 : decode cX12_moves 89 = .ok (.iadd, 1) := by decide +kernel
theorem dX12_moves_90 : decode cX12_moves 90 = .ok (.aload_n 0, 1) := by decide +kernel
theorem dX12_moves_91 : decode cX12_moves 91 = .ok (.getfield 267, 3) := by decide +kernel
theorem dX12_moves_94 : decode cX12_moves 94 = .ok (.irem, 1) := by decide +kernel
theorem dX12_moves_95 : decode cX12_moves 95 = .ok (.iastore, 1) := by decide +kernel
theorem dX12_moves_96 : decode cX12_moves 96 = .ok (.aload_n 0, 1) := by decide +kernel
theorem dX12_moves_97 : decode cX12_moves 97 = .ok (.getfield 7, 3) := by decide +kernel
theorem dX12_moves_100 : decode cX12_moves 100 = .ok (.iconst 3, 1) := by decide +kernel
theorem dX12_moves_101 : decode cX12_moves 101 = .ok (.iaload, 1) := by decide +kernel
theorem dX12_moves_102 : decode cX12_moves 102 = .ok (.ifCond .ne 19, 3) := by decide +kernel
theorem dX12_moves_105 : decode cX12_moves 105 = .ok (.aload_n 0, 1) := by decide +kernel
theorem dX12_moves_106 : decode cX12_moves 106 = .ok (.getfield 7, 3) := by decide +kernel
theorem dX12_moves_109 : decode cX12_moves 109 = .ok (.bipush 8, 2) := by decide +kernel
theorem dX12_moves_111 : decode cX12_moves 111 = .ok (.aload_n 0, 1) := by decide +kernel
theorem dX12_moves_112 : decode cX12_moves 112 = .ok (.getfield 7, 3) := by decide +kernel
theorem dX12_moves_115 : decode cX12_moves 115 = .ok (.bipush 8, 2) := by decide +kernel
theorem dX12_moves_117 : decode cX12_moves 117 = .ok (.iaload, 1) := by decide +kernel
theorem dX12_moves_118 : decode cX12_moves 118 = .ok (.iconst 1, 1) := by decide +kernel
theorem dX12_moves_119 : decode cX12_moves 119 = .ok (.iadd, 1) := by decide +kernel
theorem dX12_moves_120 : decode cX12_moves 120 = .ok (.iastore, 1) := by decide +kernel
theorem dX12_moves_121 : decode cX12_moves 121 = .ok (.aload_n 0, 1) := by decide +kernel
theorem dX12_moves_122 : decode cX12_moves 122 = .ok (.getfield 7, 3) := by decide +kernel
theorem dX12_moves_125 : decode cX12_moves 125 = .ok (.bipush 9, 2) := by decide +kernel
theorem dX12_moves_127 : decode cX12_moves 127 = .ok (.aload_n 0, 1) := by decide +kernel
theorem dX12_moves_128 : decode cX12_moves 128 = .ok (.aload_n 0, 1) := by decide +kernel
theorem dX12_moves_129 : decode cX12_moves 129 = .ok (.getfield 7, 3) := by decide +kernel
theorem dX12_moves_132 : decode cX12_moves 132 = .ok (.bipush 9, 2) := by decide +kernel
theorem dX12_moves_134 : decode cX12_moves 134 = .ok (.iaload, 1) := by decide +kernel
theorem dX12_moves_135 : decode cX12_moves 135 = .ok (.aload_n 0, 1) := by decide +kernel
theorem dX12_moves_136 : decode cX12_moves 136 = .ok (.aload_n 0, 1) := by decide +kernel
theorem dX12_moves_137 : decode cX12_moves 137 = .ok (.getfield 7, 3) := by decide +kernel
theorem dX12_moves_140 : decode cX12_moves 140 = .ok (.iconst 3, 1) := by decide +kernel
theorem dX12_moves_141 : decode cX12_moves 141 = .ok (.iaload, 1) := by decide +kernel
theorem dX12_moves_142 : decode cX12_moves 142 = .ok (.iconst 3, 1) := by decide +kernel
theorem dX12_moves_143 : decode cX12_moves 143 = .ok (.invokevirtual 291, 3) := by decide +kernel
theorem dX12_moves_146 : decode cX12_moves 146 = .ok (.iadd, 1) := by decide +kernel
theorem dX12_moves_147 : decode cX12_moves 147 = .ok (.iconst 0, 1) := by decide +kernel
theorem dX12_moves_148 : decode cX12_moves 148 = .ok (.sipush 9999, 3) := by decide +kernel
theorem dX12_moves_151 : decode cX12_moves 151 = .ok (.invokevirtual 319, 3) := by decide +kernel
theorem dX12_moves_154 : decode cX12_moves 154 = .ok (.iastore, 1) := by decide +kernel
theorem dX12_moves_155 : decode cX12_moves 155 = .ok (.aload_n 0, 1) := by decide +kernel
theorem dX12_moves_156 : decode cX12_moves 156 = .ok (.iconst 0, 1) := by decide +kernel
theorem dX12_moves_157 : decode cX12_moves 157 = .ok (.aload_n 0, 1) := by decide +kernel
theorem dX12_moves_158 : decode cX12_moves 158 = .ok (.getfield 7, 3) := by decide +kernel
theorem dX12_moves_161 : decode cX12_moves 161 = .ok (.iconst 3, 1) := by decide +kernel
theorem dX12_moves_162 : decode cX12_moves 162 = .ok (.iaload, 1) := by decide +kernel
theorem dX12_moves_163 : decode cX12_moves 163 = .ok (.invokevirtual 326, 3) := by decide +kernel
theorem dX12_moves_166 : decode cX12_moves 166 = .ok (.return_, 1) := by decide +kernel
theorem dX12_goesBy_0 : decode cX12_goesBy 0 = .ok (.aload_n 0, 1) := by decide +kernel
theorem dX12_goesBy_1 : decode cX12_goesBy 1 = .ok (.invokevirtual 347, 3) := by decide +kernel
theorem dX12_goesBy_4 : decode cX12_goesBy 4 = .ok (.istore_n 1, 1) := by decide +kernel
theorem dX12_goesBy_5 : decode cX12_goesBy 5 = .ok (.aload_n 0, 1) := by decide +kernel
theorem dX12_goesBy_6 : decode cX12_goesBy 6 = .ok (.aload_n 0, 1) := by decide +kernel
theorem dX12_goesBy_7 : decode cX12_goesBy 7 = .ok (.iload_n 1, 1) := by decide +kernel
theorem dX12_goesBy_8 : decode cX12_goesBy 8 = .ok (.invokevirtual 350, 3) := by decide +kernel
theorem dX12_goesBy_11 : decode cX12_goesBy 11 = .ok (.invokevirtual 353, 3) := by decide +kernel
theorem dX12_goesBy_14 : decode cX12_goesBy 14 = .ok (.aload_n 0, 1) := by decide +kernel
theorem dX12_goesBy_15 : decode cX12_goesBy 15 = .ok (.iload_n 1, 1) := by decide +kernel
theorem dX12_goesBy_16 : decode cX12_goesBy 16 = .ok (.invokevirtual 356, 3) := by decide +kernel
theorem dX12_goesBy_19 : decode cX12_goesBy 19 = .ok (.iload_n 1, 1) := by decide +kernel
theorem dX12_goesBy_20 : decode cX12_goesBy 20 = .ok (.ifCond .eq 14, 3) := by decide +kernel
theorem dX12_goesBy_23 : decode cX12_goesBy 23 = .ok (.aload_n 0, 1) := by decide +kernel
theorem dX12_goesBy_24 : decode cX12_goesBy 24 = .ok (.getfield 267, 3) := by decide +kernel
theorem dX12_goesBy_27 : decode cX12_goesBy 27 = .ok (.ifCond .le 7, 3) := by decide +kernel
theorem dX12_goesBy_30 : decode cX12_goesBy 30 = .ok (.aload_n 0, 1) := by decide +kernel
theorem dX12_goesBy_31 : decode cX12_goesBy 31 = .ok (.invokevirtual 359, 3) := by decide +kernel
theorem dX12_goesBy_34 : decode cX12_goesBy 34 = .ok (.aload_n 0, 1) := by decide +kernel
theorem dX12_goesBy_35 : decode cX12_goesBy 35 = .ok (.getfield 7, 3) := by decide +kernel
theorem dX12_goesBy_38 : decode cX12_goesBy 38 = .ok (.iconst 0, 1) := by decide +kernel
theorem dX12_goesBy_39 : decode cX12_goesBy 39 = .ok (.aload_n 0, 1) := by decide +kernel
theorem dX12_goesBy_40 : decode cX12_goesBy 40 = .ok (.getfield 7, 3) := by decide +kernel
theorem dX12_goesBy_43 : decode cX12_goesBy 43 = .ok (.iconst 0, 1) := by decide +kernel
theorem dX12_goesBy_44 : decode cX12_goesBy 44 = .ok (.iaload, 1) := by decide +kernel
theorem dX12_goesBy_45 : decode cX12_goesBy 45 = .ok (.iconst 1, 1) := by decide +kernel
theorem dX12_goesBy_46 : decode cX12_goesBy 46 = .ok (.iadd, 1) := by decide +kernel
theorem dX12_goesBy_47 : decode cX12_goesBy 47 = .ok (.iastore, 1) := by decide +kernel
theorem dX12_goesBy_48 : decode cX12_goesBy 48 = .ok (.return_, 1) := by decide +kernel
theorem dX12_hours_0 : decode cX12_hours 0 = .ok (.aload_n 0, 1) := by decide +kernel
theorem dX12_hours_1 : decode cX12_hours 1 = .ok (.iconst 0, 1) := by decide +kernel
theorem dX12_hours_2 : decode cX12_hours 2 = .ok (.putfield 99, 3) := by decide +kernel
theorem dX12_hours_5 : decode cX12_hours 5 = .ok (.aload_n 0, 1) := by decide +kernel
theorem dX12_hours_6 : decode cX12_hours 6 = .ok (.iload_n 1, 1) := by decide +kernel
theorem dX12_hours_7 : decode cX12_hours 7 = .ok (.iconst 1, 1) := by decide +kernel
theorem dX12_hours_8 : decode cX12_hours 8 = .ok (.bipush 99, 2) := by decide +kernel
theorem dX12_hours_10 : decode cX12_hours 10 = .ok (.invokevirtual 121, 3) := by decide +kernel
theorem dX12_hours_13 : decode cX12_hours 13 = .ok (.ifCond .eq 17, 3) := by decide +kernel
theorem dX12_hours_16 : decode cX12_hours 16 = .ok (.aload_n 0, 1) := by decide +kernel
theorem dX12_hours_17 : decode cX12_hours 17 = .ok (.getfield 7, 3) := by decide +kernel
theorem dX12_hours_20 : decode cX12_hours 20 = .ok (.iconst 0, 1) := by decide +kernel
theorem dX12_hours_21 : decode cX12_hours 21 = .ok (.iaload, 1) := by decide +kernel
theorem dX12_hours_22 : decode cX12_hours 22 = .ok (.iload_n 1, 1) := by decide +kernel
theorem dX12_hours_23 : decode cX12_hours 23 = .ok (.iadd, 1) := by decide +kernel
theorem dX12_hours_24 : decode cX12_hours 24 = .ok (.sipush 9999, 3) := by decide +kernel
theorem dX12_hours_27 : decode cX12_hours 27 = .ok (.if_icmp .le 5, 3) := by decide +kernel
theorem dX12_hours_30 : decode cX12_hours 30 = .ok (.iconst (-1), 1) := by decide +kernel
theorem dX12_hours_31 : decode cX12_hours 31 = .ok (.ireturn, 1) := by decide +kernel
theorem dX12_hours_32 : decode cX12_hours 32 = .ok (.aload_n 0, 1) := by decide +kernel
theorem dX12_hours_33 : decode cX12_hours 33 = .ok (.getfield 7, 3) := by decide +kernel
theorem dX12_hours_36 : decode cX12_hours 36 = .ok (.iconst 5, 1) := by decide +kernel
theorem dX12_hours_37 : decode cX12_hours 37 = .ok (.iaload, 1) := by decide +kernel
theorem dX12_hours_38 : decode cX12_hours 38 = .ok (.istore_n 2, 1) := by decide +kernel
theorem dX12_hours_39 : decode cX12_hours 39 = .ok (.iconst 0, 1) := by decide +kernel
theorem dX12_hours_40 : decode cX12_hours 40 = .ok (.istore_n 3, 1) := by decide +kernel
theorem dX12_hours_41 : decode cX12_hours 41 = .ok (.iload_n 3, 1) := by decide +kernel
theorem dX12_hours_42 : decode cX12_hours 42 = .ok (.iload_n 1, 1) := by decide +kernel
theorem dX12_hours_43 : decode cX12_hours 43 = .ok (.if_icmp .ge 17, 3) := by decide +kernel
theorem dX12_hours_46 : decode cX12_hours 46 = .ok (.aload_n 0, 1) := by decide +kernel
theorem dX12_hours_47 : decode cX12_hours 47 = .ok (.invokevirtual 362, 3) := by decide +kernel
theorem dX12_hours_50 : decode cX12_hours 50 = .ok (.aload_n 0, 1) := by decide +kernel
theorem dX12_hours_51 : decode cX12_hours 51 = .ok (.invokevirtual 365, 3) := by decide +kernel
theorem dX12_hours_54 : decode cX12_hours 54 = .ok (.iinc 3 1, 3) := by decide +kernel
theorem dX12_hours_57 : decode cX12_hours 57 = .ok (.goto (-16), 3) := by decide +kernel
theorem dX12_hours_60 : decode cX12_hours 60 = .ok (.aload_n 0, 1) := by decide +kernel
theorem dX12_hours_61 : decode cX12_hours 61 = .ok (.getfield 7, 3) := by decide +kernel
theorem dX12_hours_64 : decode cX12_hours 64 = .ok (.iconst 5, 1) := by decide +kernel
theorem dX12_hours_65 : decode cX12_hours 65 = .ok (.iaload, 1) := by decide +kernel
theorem dX12_hours_66 : decode cX12_hours 66 = .ok (.iload_n 2, 1) := by decide +kernel
theorem dX12_hours_67 : decode cX12_hours 67 = .ok (.isub, 1) := by decide +kernel
theorem dX12_hours_68 : decode cX12_hours 68 = .ok (.ireturn, 1) := by decide +kernel
theorem dX12_move_0 : decode cX12_move 0 = .ok (.aload_n 0, 1) := by decide +kernel
theorem dX12_move_1 : decode cX12_move 1 = .ok (.iconst 0, 1) := by decide +kernel
theorem dX12_move_2 : decode cX12_move 2 = .ok (.putfield 99, 3) := by decide +kernel
theorem dX12_move_5 : decode cX12_move 5 = .ok (.aload_n 0, 1) := by decide +kernel
theorem dX12_move_6 : decode cX12_move 6 = .ok (.iload_n 1, 1) := by decide +kernel
theorem dX12_move_7 : decode cX12_move 7 = .ok (.invokevirtual 129, 3) := by decide +kernel
theorem dX12_move_10 : decode cX12_move 10 = .ok (.ifCond .eq 24, 3) := by decide +kernel
theorem dX12_move_13 : decode cX12_move 13 = .ok (.aload_n 0, 1) := by decide +kernel
theorem dX12_move_14 : decode cX12_move 14 = .ok (.iload_n 2, 1) := by decide +kernel
theorem dX12_move_15 : decode cX12_move 15 = .ok (.invokevirtual 117, 3) := by decide +kernel
theorem dX12_move_18 : decode cX12_move 18 = .ok (.ifCond .eq 16, 3) := by decide +kernel
theorem dX12_move_21 : decode cX12_move 21 = .ok (.aload_n 0, 1) := by decide +kernel
theorem dX12_move_22 : decode cX12_move 22 = .ok (.getfield 7, 3) := by decide +kernel
theorem dX12_move_25 : decode cX12_move 25 = .ok (.bipush 30, 2) := by decide +kernel
theorem dX12_move_27 : decode cX12_move 27 = .ok (.iload_n 1, 1) := by decide +kernel
theorem dX12_move_28 : decode cX12_move 28 = .ok (.iadd, 1) := by decide +kernel
theorem dX12_move_29 : decode cX12_move 29 = .ok (.iaload, 1) := by decide +kernel
theorem dX12_move_30 : decode cX12_move 30 = .ok (.iload_n 2, 1) := by decide +kernel
theorem dX12_move_31 : decode cX12_move 31 = .ok (.if_icmp .ne 5, 3) := by decide +kernel
theorem dX12_move_34 : decode cX12_move 34 = .ok (.iconst 0, 1) := by decide +kernel
theorem dX12_move_35 : decode cX12_move 35 = .ok (.ireturn, 1) := by decide +kernel
theorem dX12_move_36 : decode cX12_move 36 = .ok (.aload_n 0, 1) := by decide +kernel
theorem dX12_move_37 : decode cX12_move 37 = .ok (.invokevirtual 362, 3) := by decide +kernel
theorem dX12_move_40 : decode cX12_move 40 = .ok (.aload_n 0, 1) := by decide +kernel
theorem dX12_move_41 : decode cX12_move 41 = .ok (.getfield 7, 3) := by decide +kernel
theorem dX12_move_44 : decode cX12_move 44 = .ok (.bipush 30, 2) := by decide +kernel
theorem dX12_move_46 : decode cX12_move 46 = .ok (.iload_n 1, 1) := by decide +kernel
theorem dX12_move_47 : decode cX12_move 47 = .ok (.iadd, 1) := by decide +kernel
theorem dX12_move_48 : decode cX12_move 48 = .ok (.iload_n 2, 1) := by decide +kernel
theorem dX12_move_49 : decode cX12_move 49 = .ok (.iastore, 1) := by decide +kernel
theorem dX12_move_50 : decode cX12_move 50 = .ok (.iconst 1, 1) := by decide +kernel
theorem dX12_move_51 : decode cX12_move 51 = .ok (.ireturn, 1) := by decide +kernel
theorem dX12_carry_0 : decode cX12_carry 0 = .ok (.aload_n 0, 1) := by decide +kernel
theorem dX12_carry_1 : decode cX12_carry 1 = .ok (.iconst 0, 1) := by decide +kernel
theorem dX12_carry_2 : decode cX12_carry 2 = .ok (.putfield 99, 3) := by decide +kernel
theorem dX12_carry_5 : decode cX12_carry 5 = .ok (.aload_n 0, 1) := by decide +kernel
theorem dX12_carry_6 : decode cX12_carry 6 = .ok (.iload_n 1, 1) := by decide +kernel
theorem dX12_carry_7 : decode cX12_carry 7 = .ok (.iconst 1, 1) := by decide +kernel
theorem dX12_carry_8 : decode cX12_carry 8 = .ok (.sipush 999, 3) := by decide +kernel
theorem dX12_carry_11 : decode cX12_carry 11 = .ok (.invokevirtual 121, 3) := by decide +kernel
theorem dX12_carry_14 : decode cX12_carry 14 = .ok (.ifCond .eq 18, 3) := by decide +kernel
theorem dX12_carry_17 : decode cX12_carry 17 = .ok (.aload_n 0, 1) := by decide +kernel
theorem dX12_carry_18 : decode cX12_carry 18 = .ok (.getfield 7, 3) := by decide +kernel
theorem dX12_carry_21 : decode cX12_carry 21 = .ok (.bipush 9, 2) := by decide +kernel
theorem dX12_carry_23 : decode cX12_carry 23 = .ok (.iaload, 1) := by decide +kernel
theorem dX12_carry_24 : decode cX12_carry 24 = .ok (.iload_n 1, 1) := by decide +kernel
theorem dX12_carry_25 : decode cX12_carry 25 = .ok (.iadd, 1) := by decide +kernel
theorem dX12_carry_26 : decode cX12_carry 26 = .ok (.sipush 9999, 3) := by decide +kernel
theorem dX12_carry_29 : decode cX12_carry 29 = .ok (.if_icmp .le 5, 3) := by decide +kernel
theorem dX12_carry_32 : decode cX12_carry 32 = .ok (.iconst (-1), 1) := by decide +kernel
theorem dX12_carry_33 : decode cX12_carry 33 = .ok (.ireturn, 1) := by decide +kernel
theorem dX12_carry_34 : decode cX12_carry 34 = .ok (.aload_n 0, 1) := by decide +kernel
theorem dX12_carry_35 : decode cX12_carry 35 = .ok (.invokevirtual 362, 3) := by decide +kernel
theorem dX12_carry_38 : decode cX12_carry 38 = .ok (.aload_n 0, 1) := by decide +kernel
theorem dX12_carry_39 : decode cX12_carry 39 = .ok (.getfield 7, 3) := by decide +kernel
theorem dX12_carry_42 : decode cX12_carry 42 = .ok (.bipush 9, 2) := by decide +kernel
theorem dX12_carry_44 : decode cX12_carry 44 = .ok (.aload_n 0, 1) := by decide +kernel
theorem dX12_carry_45 : decode cX12_carry 45 = .ok (.getfield 7, 3) := by decide +kernel
theorem dX12_carry_48 : decode cX12_carry 48 = .ok (.bipush 9, 2) := by decide +kernel
theorem dX12_carry_50 : decode cX12_carry 50 = .ok (.iaload, 1) := by decide +kernel
theorem dX12_carry_51 : decode cX12_carry 51 = .ok (.iload_n 1, 1) := by decide +kernel
theorem dX12_carry_52 : decode cX12_carry 52 = .ok (.iadd, 1) := by decide +kernel
theorem dX12_carry_53 : decode cX12_carry 53 = .ok (.iastore, 1) := by decide +kernel
theorem dX12_carry_54 : decode cX12_carry 54 = .ok (.aload_n 0, 1) := by decide +kernel
theorem dX12_carry_55 : decode cX12_carry 55 = .ok (.getfield 7, 3) := by decide +kernel
theorem dX12_carry_58 : decode cX12_carry 58 = .ok (.bipush 9, 2) := by decide +kernel
theorem dX12_carry_60 : decode cX12_carry 60 = .ok (.iaload, 1) := by decide +kernel
theorem dX12_carry_61 : decode cX12_carry 61 = .ok (.ireturn, 1) := by decide +kernel
theorem dX12_clocksOf_0 : decode cX12_clocksOf 0 = .ok (.iconst 0, 1) := by decide +kernel
theorem dX12_clocksOf_1 : decode cX12_clocksOf 1 = .ok (.istore_n 2, 1) := by decide +kernel
theorem dX12_clocksOf_2 : decode cX12_clocksOf 2 = .ok (.iconst 0, 1) := by decide +kernel
theorem dX12_clocksOf_3 : decode cX12_clocksOf 3 = .ok (.istore_n 3, 1) := by decide +kernel
theorem dX12_clocksOf_4 : decode cX12_clocksOf 4 = .ok (.iload_n 3, 1) := by decide +kernel
theorem dX12_clocksOf_5 : decode cX12_clocksOf 5 = .ok (.bipush 24, 2) := by decide +kernel
theorem dX12_clocksOf_7 : decode cX12_clocksOf 7 = .ok (.if_icmp .ge 28, 3) := by decide +kernel
theorem dX12_clocksOf_10 : decode cX12_clocksOf 10 = .ok (.aload_n 0, 1) := by decide +kernel
theorem dX12_clocksOf_11 : decode cX12_clocksOf 11 = .ok (.iload_n 3, 1) := by decide +kernel
theorem dX12_clocksOf_12 : decode cX12_clocksOf 12 = .ok (.invokevirtual 313, 3) := by decide +kernel
theorem dX12_clocksOf_15 : decode cX12_clocksOf 15 = .ok (.iload_n 1, 1) := by decide +kernel
theorem dX12_clocksOf_16 : decode cX12_clocksOf 16 = .ok (.ishr, 1) := by decide +kernel
theorem dX12_clocksOf_17 : decode cX12_clocksOf 17 = .ok (.iconst 1, 1) := by decide +kernel
theorem dX12_clocksOf_18 : decode cX12_clocksOf 18 = .ok (.iand, 1) := by decide +kernel
theorem dX12_clocksOf_19 : decode cX12_clocksOf 19 = .ok (.iconst 1, 1) := by decide +kernel
theorem dX12_clocksOf_20 : decode cX12_clocksOf 20 = .ok (.if_icmp .ne 9, 3) := by decide +kernel
theorem dX12_clocksOf_23 : decode cX12_clocksOf 23 = .ok (.iload_n 2, 1) := by decide +kernel
theorem dX12_clocksOf_24 : decode cX12_clocksOf 24 = .ok (.iconst 1, 1) := by decide +kernel
theorem dX12_clocksOf_25 : decode cX12_clocksOf 25 = .ok (.iload_n 3, 1) := by decide +kernel
theorem dX12_clocksOf_26 : decode cX12_clocksOf 26 = .ok (.ishl, 1) := by decide +kernel
theorem dX12_clocksOf_27 : decode cX12_clocksOf 27 = .ok (.ior, 1) := by decide +kernel
theorem dX12_clocksOf_28 : decode cX12_clocksOf 28 = .ok (.istore_n 2, 1) := by decide +kernel
theorem dX12_clocksOf_29 : decode cX12_clocksOf 29 = .ok (.iinc 3 1, 3) := by decide +kernel
theorem dX12_clocksOf_32 : decode cX12_clocksOf 32 = .ok (.goto (-28), 3) := by decide +kernel
theorem dX12_clocksOf_35 : decode cX12_clocksOf 35 = .ok (.iload_n 2, 1) := by decide +kernel
theorem dX12_clocksOf_36 : decode cX12_clocksOf 36 = .ok (.ireturn, 1) := by decide +kernel
theorem dX12_of_0 : decode cX12_of 0 = .ok (.aload_n 0, 1) := by decide +kernel
theorem dX12_of_1 : decode cX12_of 1 = .ok (.iconst 0, 1) := by decide +kernel
theorem dX12_of_2 : decode cX12_of 2 = .ok (.putfield 99, 3) := by decide +kernel
theorem dX12_of_5 : decode cX12_of 5 = .ok (.aload_n 0, 1) := by decide +kernel
theorem dX12_of_6 : decode cX12_of 6 = .ok (.iload_n 1, 1) := by decide +kernel
theorem dX12_of_7 : decode cX12_of 7 = .ok (.invokevirtual 129, 3) := by decide +kernel
theorem dX12_of_10 : decode cX12_of 10 = .ok (.ifCond .ne 6, 3) := by decide +kernel
theorem dX12_of_13 : decode cX12_of 13 = .ok (.bipush (-2), 2) := by decide +kernel
theorem dX12_of_15 : decode cX12_of 15 = .ok (.ireturn, 1) := by decide +kernel
theorem dX12_of_16 : decode cX12_of 16 = .ok (.iload_n 2, 1) := by decide +kernel
theorem dX12_of_17 : decode cX12_of 17 = .ok (.ifCond .ne 13, 3) := by decide +kernel
theorem dX12_of_20 : decode cX12_of 20 = .ok (.aload_n 0, 1) := by decide +kernel
theorem dX12_of_21 : decode cX12_of 21 = .ok (.getfield 7, 3) := by decide +kernel
theorem dX12_of_24 : decode cX12_of 24 = .ok (.bipush 30, 2) := by decide +kernel
theorem dX12_of_26 : decode cX12_of 26 = .ok (.iload_n 1, 1) := by decide +kernel
theorem dX12_of_27 : decode cX12_of 27 = .ok (.iadd, 1) := by decide +kernel
theorem dX12_of_28 : decode cX12_of 28 = .ok (.iaload, 1) := by decide +kernel
theorem dX12_of_29 : decode cX12_of 29 = .ok (.ireturn, 1) := by decide +kernel
theorem dX12_of_30 : decode cX12_of 30 = .ok (.iload_n 2, 1) := by decide +kernel
theorem dX12_of_31 : decode cX12_of 31 = .ok (.iconst 1, 1) := by decide +kernel
theorem dX12_of_32 : decode cX12_of 32 = .ok (.if_icmp .ne 10, 3) := by decide +kernel
theorem dX12_of_35 : decode cX12_of 35 = .ok (.aload_n 0, 1) := by decide +kernel
theorem dX12_of_36 : decode cX12_of 36 = .ok (.getfield 19, 3) := by decide +kernel
theorem dX12_of_39 : decode cX12_of 39 = .ok (.iload_n 1, 1) := by decide +kernel
theorem dX12_of_40 : decode cX12_of 40 = .ok (.iaload, 1) := by decide +kernel
theorem dX12_of_41 : decode cX12_of 41 = .ok (.ireturn, 1) := by decide +kernel
theorem dX12_of_42 : decode cX12_of 42 = .ok (.iload_n 2, 1) := by decide +kernel
theorem dX12_of_43 : decode cX12_of 43 = .ok (.iconst 2, 1) := by decide +kernel
theorem dX12_of_44 : decode cX12_of 44 = .ok (.if_icmp .ne 13, 3) := by decide +kernel
theorem dX12_of_47 : decode cX12_of 47 = .ok (.aload_n 0, 1) := by decide +kernel
theorem dX12_of_48 : decode cX12_of 48 = .ok (.getfield 7, 3) := by decide +kernel
theorem dX12_of_51 : decode cX12_of 51 = .ok (.bipush 10, 2) := by decide +kernel
theorem dX12_of_53 : decode cX12_of 53 = .ok (.iload_n 1, 1) := by decide +kernel
theorem dX12_of_54 : decode cX12_of 54 = .ok (.iadd, 1) := by decide +kernel
theorem dX12_of_55 : decode cX12_of 55 = .ok (.iaload, 1) := by decide +kernel
theorem dX12_of_56 : decode cX12_of 56 = .ok (.ireturn, 1) := by decide +kernel
theorem dX12_of_57 : decode cX12_of 57 = .ok (.iload_n 2, 1) := by decide +kernel
theorem dX12_of_58 : decode cX12_of 58 = .ok (.iconst 3, 1) := by decide +kernel
theorem dX12_of_59 : decode cX12_of 59 = .ok (.if_icmp .ne 13, 3) := by decide +kernel
theorem dX12_of_62 : decode cX12_of 62 = .ok (.aload_n 0, 1) := by decide +kernel
theorem dX12_of_63 : decode cX12_of 63 = .ok (.getfield 7, 3) := by decide +kernel
theorem dX12_of_66 : decode cX12_of 66 = .ok (.bipush 20, 2) := by decide +kernel
theorem dX12_of_68 : decode cX12_of 68 = .ok (.iload_n 1, 1) := by decide +kernel
theorem dX12_of_69 : decode cX12_of 69 = .ok (.iadd, 1) := by decide +kernel
theorem dX12_of_70 : decode cX12_of 70 = .ok (.iaload, 1) := by decide +kernel
theorem dX12_of_71 : decode cX12_of 71 = .ok (.ireturn, 1) := by decide +kernel
theorem dX12_of_72 : decode cX12_of 72 = .ok (.iload_n 2, 1) := by decide +kernel
theorem dX12_of_73 : decode cX12_of 73 = .ok (.iconst 4, 1) := by decide +kernel
theorem dX12_of_74 : decode cX12_of 74 = .ok (.if_icmp .ne 12, 3) := by decide +kernel
theorem dX12_of_77 : decode cX12_of 77 = .ok (.aload_n 0, 1) := by decide +kernel
theorem dX12_of_78 : decode cX12_of 78 = .ok (.invokevirtual 347, 3) := by decide +kernel
theorem dX12_of_81 : decode cX12_of 81 = .ok (.iload_n 1, 1) := by decide +kernel
theorem dX12_of_82 : decode cX12_of 82 = .ok (.ishr, 1) := by decide +kernel
theorem dX12_of_83 : decode cX12_of 83 = .ok (.iconst 1, 1) := by decide +kernel
theorem dX12_of_84 : decode cX12_of 84 = .ok (.iand, 1) := by decide +kernel
theorem dX12_of_85 : decode cX12_of 85 = .ok (.ireturn, 1) := by decide +kernel
theorem dX12_of_86 : decode cX12_of 86 = .ok (.iload_n 2, 1) := by decide +kernel
theorem dX12_of_87 : decode cX12_of 87 = .ok (.iconst 5, 1) := by decide +kernel
theorem dX12_of_88 : decode cX12_of 88 = .ok (.if_icmp .ne 13, 3) := by decide +kernel
theorem dX12_of_91 : decode cX12_of 91 = .ok (.aload_n 0, 1) := by decide +kernel
theorem dX12_of_92 : decode cX12_of 92 = .ok (.iload_n 1, 1) := by decide +kernel
theorem dX12_of_93 : decode cX12_of 93 = .ok (.aload_n 0, 1) := by decide +kernel
theorem dX12_of_94 : decode cX12_of 94 = .ok (.invokevirtual 304, 3) := by decide +kernel
theorem dX12_of_97 : decode cX12_of 97 = .ok (.invokevirtual 332, 3) := by decide +kernel
theorem dX12_of_100 : decode cX12_of 100 = .ok (.ireturn, 1) := by decide +kernel
theorem dX12_of_101 : decode cX12_of 101 = .ok (.iload_n 2, 1) := by decide +kernel
theorem dX12_of_102 : decode cX12_of 102 = .ok (.bipush 6, 2) := by decide +kernel
theorem dX12_of_104 : decode cX12_of 104 = .ok (.if_icmp .ne 9, 3) := by decide +kernel
theorem dX12_of_107 : decode cX12_of 107 = .ok (.aload_n 0, 1) := by decide +kernel
theorem dX12_of_108 : decode cX12_of 108 = .ok (.iload_n 1, 1) := by decide +kernel
theorem dX12_of_109 : decode cX12_of 109 = .ok (.invokevirtual 335, 3) := by decide +kernel
theorem dX12_of_112 : decode cX12_of 112 = .ok (.ireturn, 1) := by decide +kernel
theorem dX12_of_113 : decode cX12_of 113 = .ok (.iload_n 2, 1) := by decide +kernel
theorem dX12_of_114 : decode cX12_of 114 = .ok (.bipush 7, 2) := by decide +kernel
theorem dX12_of_116 : decode cX12_of 116 = .ok (.if_icmp .ne 11, 3) := by decide +kernel
theorem dX12_of_119 : decode cX12_of 119 = .ok (.aload_n 0, 1) := by decide +kernel
theorem dX12_of_120 : decode cX12_of 120 = .ok (.iload_n 1, 1) := by decide +kernel
theorem dX12_of_121 : decode cX12_of 121 = .ok (.invokevirtual 338, 3) := by decide +kernel
theorem dX12_of_124 : decode cX12_of 124 = .ok (.goto 19, 3) := by decide +kernel
theorem dX12_of_127 : decode cX12_of 127 = .ok (.iload_n 2, 1) := by decide +kernel
theorem dX12_of_128 : decode cX12_of 128 = .ok (.bipush 8, 2) := by decide +kernel
theorem dX12_of_130 : decode cX12_of 130 = .ok (.if_icmp .ne 11, 3) := by decide +kernel
theorem dX12_of_133 : decode cX12_of 133 = .ok (.aload_n 0, 1) := by decide +kernel
theorem dX12_of_134 : decode cX12_of 134 = .ok (.iload_n 1, 1) := by decide +kernel
theorem dX12_of_135 : decode cX12_of 135 = .ok (.invokevirtual 368, 3) := by decide +kernel
theorem dX12_of_138 : decode cX12_of 138 = .ok (.goto 5, 3) := by decide +kernel
theorem dX12_of_141 : decode cX12_of 141 = .ok (.bipush (-2), 2) := by decide +kernel
theorem dX12_of_143 : decode cX12_of 143 = .ok (.ireturn, 1) := by decide +kernel
theorem dX12_stone_0 : decode cX12_stone 0 = .ok (.aload_n 0, 1) := by decide +kernel
theorem dX12_stone_1 : decode cX12_stone 1 = .ok (.iconst 0, 1) := by decide +kernel
theorem dX12_stone_2 : decode cX12_stone 2 = .ok (.putfield 99, 3) := by decide +kernel
theorem dX12_stone_5 : decode cX12_stone 5 = .ok (.aload_n 0, 1) := by decide +kernel
theorem dX12_stone_6 : decode cX12_stone 6 = .ok (.iload_n 1, 1) := by decide +kernel
theorem dX12_stone_7 : decode cX12_stone 7 = .ok (.iconst 0, 1) := by decide +kernel
theorem dX12_stone_8 : decode cX12_stone 8 = .ok (.aload_n 0, 1) := by decide +kernel
theorem dX12_stone_9 : decode cX12_stone 9 = .ok (.getfield 267, 3) := by decide +kernel
theorem dX12_stone_12 : decode cX12_stone 12 = .ok (.iconst 1, 1) := by decide +kernel
theorem dX12_stone_13 : decode cX12_stone 13 = .ok (.isub, 1) := by decide +kernel
theorem dX12_stone_14 : decode cX12_stone 14 = .ok (.invokevirtual 121, 3) := by decide +kernel
theorem dX12_stone_17 : decode cX12_stone 17 = .ok (.ifCond .eq 22, 3) := by decide +kernel
theorem dX12_stone_20 : decode cX12_stone 20 = .ok (.aload_n 0, 1) := by decide +kernel
theorem dX12_stone_21 : decode cX12_stone 21 = .ok (.iload_n 2, 1) := by decide +kernel
theorem dX12_stone_22 : decode cX12_stone 22 = .ok (.iconst 0, 1) := by decide +kernel
theorem dX12_stone_23 : decode cX12_stone 23 = .ok (.iconst 3, 1) := by decide +kernel
theorem dX12_stone_24 : decode cX12_stone 24 = .ok (.invokevirtual 121, 3) := by decide +kernel
theorem dX12_stone_27 : decode cX12_stone 27 = .ok (.ifCond .eq 12, 3) := by decide +kernel
theorem dX12_stone_30 : decode cX12_stone 30 = .ok (.aload_n 0, 1) := by decide +kernel
theorem dX12_stone_31 : decode cX12_stone 31 = .ok (.iload_n 1, 1) := by decide +kernel
theorem dX12_stone_32 : decode cX12_stone 32 = .ok (.iload_n 2, 1) := by decide +kernel
theorem dX12_stone_33 : decode cX12_stone 33 = .ok (.invokevirtual 291, 3) := by decide +kernel
theorem dX12_stone_36 : decode cX12_stone 36 = .ok (.goto 4, 3) := by decide +kernel
theorem dX12_stone_39 : decode cX12_stone 39 = .ok (.iconst (-1), 1) := by decide +kernel
theorem dX12_stone_40 : decode cX12_stone 40 = .ok (.ireturn, 1) := by decide +kernel
theorem dX12_book_0 : decode cX12_book 0 = .ok (.aload_n 0, 1) := by decide +kernel
theorem dX12_book_1 : decode cX12_book 1 = .ok (.iconst 0, 1) := by decide +kernel
theorem dX12_book_2 : decode cX12_book 2 = .ok (.putfield 99, 3) := by decide +kernel
theorem dX12_book_5 : decode cX12_book 5 = .ok (.aload_n 0, 1) := by decide +kernel
theorem dX12_book_6 : decode cX12_book 6 = .ok (.iload_n 1, 1) := by decide +kernel
theorem dX12_book_7 : decode cX12_book 7 = .ok (.iconst 0, 1) := by decide +kernel
theorem dX12_book_8 : decode cX12_book 8 = .ok (.aload_n 0, 1) := by decide +kernel
theorem dX12_book_9 : decode cX12_book 9 = .ok (.getfield 7, 3) := by decide +kernel
theorem dX12_book_12 : decode cX12_book 12 = .ok (.iconst 2, 1) := by decide +kernel
theorem dX12_book_13 : decode cX12_book 13 = .ok (.iaload, 1) := by decide +kernel
theorem dX12_book_14 : decode cX12_book 14 = .ok (.iconst 1, 1) := by decide +kernel
theorem dX12_book_15 : decode cX12_book 15 = .ok (.isub, 1) := by decide +kernel
theorem dX12_book_16 : decode cX12_book 16 = .ok (.invokevirtual 121, 3) := by decide +kernel
theorem dX12_book_19 : decode cX12_book 19 = .ok (.ifCond .eq 26, 3) := by decide +kernel
theorem dX12_book_22 : decode cX12_book 22 = .ok (.aload_n 0, 1) := by decide +kernel
theorem dX12_book_23 : decode cX12_book 23 = .ok (.iload_n 2, 1) := by decide +kernel
theorem dX12_book_24 : decode cX12_book 24 = .ok (.iconst 0, 1) := by decide +kernel
theorem dX12_book_25 : decode cX12_book 25 = .ok (.iconst 2, 1) := by decide +kernel
theorem dX12_book_26 : decode cX12_book 26 = .ok (.invokevirtual 121, 3) := by decide +kernel
theorem dX12_book_29 : decode cX12_book 29 = .ok (.ifCond .eq 16, 3) := by decide +kernel
theorem dX12_book_32 : decode cX12_book 32 = .ok (.aload_n 0, 1) := by decide +kernel
theorem dX12_book_33 : decode cX12_book 33 = .ok (.getfield 25, 3) := by decide +kernel
theorem dX12_book_36 : decode cX12_book 36 = .ok (.iconst 3, 1) := by decide +kernel
theorem dX12_book_37 : decode cX12_book 37 = .ok (.iload_n 1, 1) := by decide +kernel
theorem dX12_book_38 : decode cX12_book 38 = .ok (.imul, 1) := by decide +kernel
theorem dX12_book_39 : decode cX12_book 39 = .ok (.iload_n 2, 1) := by decide +kernel
theorem dX12_book_40 : decode cX12_book 40 = .ok (.iadd, 1) := by decide +kernel
theorem dX12_book_41 : decode cX12_book 41 = .ok (.iaload, 1) := by decide +kernel
theorem dX12_book_42 : decode cX12_book 42 = .ok (.goto 4, 3) := by decide +kernel
theorem dX12_book_45 : decode cX12_book 45 = .ok (.iconst (-1), 1) := by decide +kernel
theorem dX12_book_46 : decode cX12_book 46 = .ok (.ireturn, 1) := by decide +kernel
theorem dX12_goes_0 : decode cX12_goes 0 = .ok (.aload_n 0, 1) := by decide +kernel
theorem dX12_goes_1 : decode cX12_goes 1 = .ok (.iconst 0, 1) := by decide +kernel
theorem dX12_goes_2 : decode cX12_goes 2 = .ok (.putfield 99, 3) := by decide +kernel
theorem dX12_goes_5 : decode cX12_goes 5 = .ok (.aload_n 0, 1) := by decide +kernel
theorem dX12_goes_6 : decode cX12_goes 6 = .ok (.iload_n 1, 1) := by decide +kernel
theorem dX12_goes_7 : decode cX12_goes 7 = .ok (.iconst 1, 1) := by decide +kernel
theorem dX12_goes_8 : decode cX12_goes 8 = .ok (.bipush 99, 2) := by decide +kernel
theorem dX12_goes_10 : decode cX12_goes 10 = .ok (.invokevirtual 121, 3) := by decide +kernel
theorem dX12_goes_13 : decode cX12_goes 13 = .ok (.ifCond .eq 13, 3) := by decide +kernel
theorem dX12_goes_16 : decode cX12_goes 16 = .ok (.aload_n 0, 1) := by decide +kernel
theorem dX12_goes_17 : decode cX12_goes 17 = .ok (.iload_n 2, 1) := by decide +kernel
theorem dX12_goes_18 : decode cX12_goes 18 = .ok (.iconst 0, 1) := by decide +kernel
theorem dX12_goes_19 : decode cX12_goes 19 = .ok (.iconst 4, 1) := by decide +kernel
theorem dX12_goes_20 : decode cX12_goes 20 = .ok (.invokevirtual 121, 3) := by decide +kernel
theorem dX12_goes_23 : decode cX12_goes 23 = .ok (.ifCond .ne 5, 3) := by decide +kernel
theorem dX12_goes_26 : decode cX12_goes 26 = .ok (.iconst (-1), 1) := by decide +kernel
theorem dX12_goes_27 : decode cX12_goes 27 = .ok (.ireturn, 1) := by decide +kernel
theorem dX12_goes_28 : decode cX12_goes 28 = .ok (.aload_n 0, 1) := by decide +kernel
theorem dX12_goes_29 : decode cX12_goes 29 = .ok (.invokevirtual 371, 3) := by decide +kernel
theorem dX12_goes_32 : decode cX12_goes 32 = .ok (.iconst (-1), 1) := by decide +kernel
theorem dX12_goes_33 : decode cX12_goes 33 = .ok (.istore_n 3, 1) := by decide +kernel
theorem dX12_goes_34 : decode cX12_goes 34 = .ok (.iconst 0, 1) := by decide +kernel
theorem dX12_goes_35 : decode cX12_goes 35 = .ok (.istore 4, 2) := by decide +kernel
theorem dX12_goes_37 : decode cX12_goes 37 = .ok (.iconst 0, 1) := by decide +kernel
theorem dX12_goes_38 : decode cX12_goes 38 = .ok (.istore 5, 2) := by decide +kernel
theorem dX12_goes_40 : decode cX12_goes 40 = .ok (.iload 5, 2) := by decide +kernel
theorem dX12_goes_42 : decode cX12_goes 42 = .ok (.iload_n 1, 1) := by decide +kernel
theorem dX12_goes_43 : decode cX12_goes 43 = .ok (.if_icmp .ge 46, 3) := by decide +kernel
theorem dX12_goes_46 : decode cX12_goes 46 = .ok (.aload_n 0, 1) := by decide +kernel
theorem dX12_goes_47 : decode cX12_goes 47 = .ok (.getfield 7, 3) := by decide +kernel
theorem dX12_goes_50 : decode cX12_goes 50 = .ok (.iconst 5, 1) := by decide +kernel
theorem dX12_goes_51 : decode cX12_goes 51 = .ok (.iaload, 1) := by decide +kernel
theorem dX12_goes_52 : decode cX12_goes 52 = .ok (.istore 6, 2) := by decide +kernel
theorem dX12_goes_54 : decode cX12_goes 54 = .ok (.aload_n 0, 1) := by decide +kernel
theorem dX12_goes_55 : decode cX12_goes 55 = .ok (.invokevirtual 365, 3) := by decide +kernel
theorem dX12_goes_58 : decode cX12_goes 58 = .ok (.aload_n 0, 1) := by decide +kernel
theorem dX12_goes_59 : decode cX12_goes 59 = .ok (.getfield 7, 3) := by decide +kernel
theorem dX12_goes_62 : decode cX12_goes 62 = .ok (.iconst 5, 1) := by decide +kernel
theorem dX12_goes_63 : decode cX12_goes 63 = .ok (.iaload, 1) := by decide +kernel
theorem dX12_goes_64 : decode cX12_goes 64 = .ok (.iload 6, 2) := by decide +kernel
theorem dX12_goes_66 : decode cX12_goes 66 = .ok (.if_icmp .le 17, 3) := by decide +kernel
theorem dX12_goes_69 : decode cX12_goes 69 = .ok (.iload_n 3, 1) := by decide +kernel
theorem dX12_goes_70 : decode cX12_goes 70 = .ok (.iconst (-1), 1) := by decide +kernel
theorem dX12_goes_71 : decode cX12_goes 71 = .ok (.if_icmp .ne 12, 3) := by decide +kernel
theorem dX12_goes_74 : decode cX12_goes 74 = .ok (.aload_n 0, 1) := by decide +kernel
theorem dX12_goes_75 : decode cX12_goes 75 = .ok (.getfield 7, 3) := by decide +kernel
theorem dX12_goes_78 : decode cX12_goes 78 = .ok (.iconst 0, 1) := by decide +kernel
theorem dX12_goes_79 : decode cX12_goes 79 = .ok (.iaload, 1) := by decide +kernel
theorem dX12_goes_80 : decode cX12_goes 80 = .ok (.iconst 1, 1) := by decide +kernel
theorem dX12_goes_81 : decode cX12_goes 81 = .ok (.isub, 1) := by decide +kernel
theorem dX12_goes_82 : decode cX12_goes 82 = .ok (.istore_n 3, 1) := by decide +kernel
theorem dX12_goes_83 : decode cX12_goes 83 = .ok (.iinc 5 1, 3) := by decide +kernel
theorem dX12_goes_86 : decode cX12_goes 86 = .ok (.goto (-46), 3) := by decide +kernel
theorem dX12_goes_89 : decode cX12_goes 89 = .ok (.iconst 0, 1) := by decide +kernel
theorem dX12_goes_90 : decode cX12_goes 90 = .ok (.istore 5, 2) := by decide +kernel
theorem dX12_goes_92 : decode cX12_goes 92 = .ok (.iload 5, 2) := by decide +kernel
theorem dX12_goes_94 : decode cX12_goes 94 = .ok (.aload_n 0, 1) := by decide +kernel
theorem dX12_goes_95 : decode cX12_goes 95 = .ok (.getfield 114, 3) := by decide +kernel
theorem dX12_goes_98 : decode cX12_goes 98 = .ok (.if_icmp .ge 27, 3) := by decide +kernel
theorem dX12_goes_101 : decode cX12_goes 101 = .ok (.aload_n 0, 1) := by decide +kernel
theorem dX12_goes_102 : decode cX12_goes 102 = .ok (.iload 4, 2) := by decide +kernel
theorem dX12_goes_104 : decode cX12_goes 104 = .ok (.aload_n 0, 1) := by decide +kernel
theorem dX12_goes_105 : decode cX12_goes 105 = .ok (.getfield 7, 3) := by decide +kernel
theorem dX12_goes_108 : decode cX12_goes 108 = .ok (.bipush 10, 2) := by decide +kernel
theorem dX12_goes_110 : decode cX12_goes 110 = .ok (.iload 5, 2) := by decide +kernel
theorem dX12_goes_112 : decode cX12_goes 112 = .ok (.iadd, 1) := by decide +kernel
theorem dX12_goes_113 : decode cX12_goes 113 = .ok (.iaload, 1) := by decide +kernel
theorem dX12_goes_114 : decode cX12_goes 114 = .ok (.invokevirtual 344, 3) := by decide +kernel
theorem dX12_goes_117 : decode cX12_goes 117 = .ok (.istore 4, 2) := by decide +kernel
theorem dX12_goes_119 : decode cX12_goes 119 = .ok (.iinc 5 1, 3) := by decide +kernel
theorem dX12_goes_122 : decode cX12_goes 122 = .ok (.goto (-30), 3) := by decide +kernel
theorem dX12_goes_125 : decode cX12_goes 125 = .ok (.iload_n 2, 1) := by decide +kernel
theorem dX12_goes_126 : decode cX12_goes 126 = .ok (.ifCond .ne 19, 3) := by decide +kernel
theorem dX12_goes_129 : decode cX12_goes 129 = .ok (.aload_n 0, 1) := by decide +kernel
theorem dX12_goes_130 : decode cX12_goes 130 = .ok (.getfield 7, 3) := by decide +kernel
theorem dX12_goes_133 : decode cX12_goes 133 = .ok (.iconst 5, 1) := by decide +kernel
theorem dX12_goes_134 : decode cX12_goes 134 = .ok (.iaload, 1) := by decide +kernel
theorem dX12_goes_135 : decode cX12_goes 135 = .ok (.aload_n 0, 1) := by decide +kernel
theorem dX12_goes_136 : decode cX12_goes 136 = .ok (.getfield 16, 3) := by decide +kernel
theorem dX12_goes_139 : decode cX12_goes 139 = .ok (.iconst 5, 1) := by decide +kernel
theorem dX12_goes_140 : decode cX12_goes 140 = .ok (.iaload, 1) := by decide +kernel
theorem dX12_goes_141 : decode cX12_goes 141 = .ok (.isub, 1) := by decide +kernel
theorem dX12_goes_142 : decode cX12_goes 142 = .ok (.goto 42, 3) := by decide +kernel
theorem dX12_goes_145 : decode cX12_goes 145 = .ok (.iload_n 2, 1) := by decide +kernel
theorem dX12_goes_146 : decode cX12_goes 146 = .ok (.iconst 1, 1) := by decide +kernel
theorem dX12_goes_147 : decode cX12_goes 147 = .ok (.if_icmp .ne 7, 3) := by decide +kernel
theorem dX12_goes_150 : decode cX12_goes 150 = .ok (.iload_n 3, 1) := by decide +kernel
theorem dX12_goes_151 : decode cX12_goes 151 = .ok (.goto 33, 3) := by decide +kernel
theorem dX12_goes_154 : decode cX12_goes 154 = .ok (.iload_n 2, 1) := by decide +kernel
theorem dX12_goes_155 : decode cX12_goes 155 = .ok (.iconst 2, 1) := by decide +kernel
theorem dX12_goes_156 : decode cX12_goes 156 = .ok (.if_icmp .ne 12, 3) := by decide +kernel
theorem dX12_goes_159 : decode cX12_goes 159 = .ok (.aload_n 0, 1) := by decide +kernel
theorem dX12_goes_160 : decode cX12_goes 160 = .ok (.getfield 7, 3) := by decide +kernel
theorem dX12_goes_163 : decode cX12_goes 163 = .ok (.iconst 3, 1) := by decide +kernel
theorem dX12_goes_164 : decode cX12_goes 164 = .ok (.iaload, 1) := by decide +kernel
theorem dX12_goes_165 : decode cX12_goes 165 = .ok (.goto 19, 3) := by decide +kernel
theorem dX12_goes_168 : decode cX12_goes 168 = .ok (.iload_n 2, 1) := by decide +kernel
theorem dX12_goes_169 : decode cX12_goes 169 = .ok (.iconst 3, 1) := by decide +kernel
theorem dX12_goes_170 : decode cX12_goes 170 = .ok (.if_icmp .ne 12, 3) := by decide +kernel
theorem dX12_goes_173 : decode cX12_goes 173 = .ok (.aload_n 0, 1) := by decide +kernel
theorem dX12_goes_174 : decode cX12_goes 174 = .ok (.getfield 7, 3) := by decide +kernel
theorem dX12_goes_177 : decode cX12_goes 177 = .ok (.iconst 4, 1) := by decide +kernel
theorem dX12_goes_178 : decode cX12_goes 178 = .ok (.iaload, 1) := by decide +kernel
theorem dX12_goes_179 : decode cX12_goes 179 = .ok (.goto 5, 3) := by decide +kernel
theorem dX12_goes_182 : decode cX12_goes 182 = .ok (.iload 4, 2) := by decide +kernel
theorem dX12_goes_184 : decode cX12_goes 184 = .ok (.istore 5, 2) := by decide +kernel
theorem dX12_goes_186 : decode cX12_goes 186 = .ok (.aload_n 0, 1) := by decide +kernel
theorem dX12_goes_187 : decode cX12_goes 187 = .ok (.invokevirtual 374, 3) := by decide +kernel
theorem dX12_goes_190 : decode cX12_goes 190 = .ok (.iload 5, 2) := by decide +kernel
theorem dX12_goes_192 : decode cX12_goes 192 = .ok (.ireturn, 1) := by decide +kernel
theorem dX12_doesCover_0 : decode cX12_doesCover 0 = .ok (.iconst 0, 1) := by decide +kernel
theorem dX12_doesCover_1 : decode cX12_doesCover 1 = .ok (.istore_n 2, 1) := by decide +kernel
theorem dX12_doesCover_2 : decode cX12_doesCover 2 = .ok (.iload_n 2, 1) := by decide +kernel
theorem dX12_doesCover_3 : decode cX12_doesCover 3 = .ok (.bipush 24, 2) := by decide +kernel
theorem dX12_doesCover_5 : decode cX12_doesCover 5 = .ok (.if_icmp .ge 82, 3) := by decide +kernel
theorem dX12_doesCover_8 : decode cX12_doesCover 8 = .ok (.iconst 0, 1) := by decide +kernel
theorem dX12_doesCover_9 : decode cX12_doesCover 9 = .ok (.istore_n 3, 1) := by decide +kernel
theorem dX12_doesCover_10 : decode cX12_doesCover 10 = .ok (.iconst 0, 1) := by decide +kernel
theorem dX12_doesCover_11 : decode cX12_doesCover 11 = .ok (.istore 4, 2) := by decide +kernel
theorem dX12_doesCover_13 : decode cX12_doesCover 13 = .ok (.iload 4, 2) := by decide +kernel
theorem dX12_doesCover_15 : decode cX12_doesCover 15 = .ok (.aload_n 0, 1) := by decide +kernel
theorem dX12_doesCover_16 : decode cX12_doesCover 16 = .ok (.getfield 270, 3) := by decide +kernel
theorem dX12_doesCover_19 : decode cX12_doesCover 19 = .ok (.if_icmp .ge 48, 3) := by decide +kernel
theorem dX12_doesCover_22 : decode cX12_doesCover 22 = .ok (.iload_n 1, 1) := by decide +kernel
theorem dX12_doesCover_23 : decode cX12_doesCover 23 = .ok (.iload 4, 2) := by decide +kernel
theorem dX12_doesCover_25 : decode cX12_doesCover 25 = .ok (.ishr, 1) := by decide +kernel
theorem dX12_doesCover_26 : decode cX12_doesCover 26 = .ok (.iconst 1, 1) := by decide +kernel
theorem dX12_doesCover_27 : decode cX12_doesCover 27 = .ok (.iand, 1) := by decide +kernel
theorem dX12_doesCover_28 : decode cX12_doesCover 28 = .ok (.iconst 1, 1) := by decide +kernel
theorem dX12_doesCover_29 : decode cX12_doesCover 29 = .ok (.if_icmp .ne 32, 3) := by decide +kernel
theorem dX12_doesCover_32 : decode cX12_doesCover 32 = .ok (.aload_n 0, 1) := by decide +kernel
theorem dX12_doesCover_33 : decode cX12_doesCover 33 = .ok (.getfield 77, 3) := by decide +kernel
theorem dX12_doesCover_36 : decode cX12_doesCover 36 = .ok (.iload 4, 2) := by decide +kernel
theorem dX12_doesCover_38 : decode cX12_doesCover 38 = .ok (.iaload, 1) := by decide +kernel
theorem dX12_doesCover_39 : decode cX12_doesCover 39 = .ok (.iload_n 2, 1) := by decide +kernel
theorem dX12_doesCover_40 : decode cX12_doesCover 40 = .ok (.ishr, 1) := by decide +kernel
theorem dX12_doesCover_41 : decode cX12_doesCover 41 = .ok (.iconst 1, 1) := by decide +kernel
theorem dX12_doesCover_42 : decode cX12_doesCover 42 = .ok (.iand, 1) := by decide +kernel
theorem dX12_doesCover_43 : decode cX12_doesCover 43 = .ok (.iconst 1, 1) := by decide +kernel
theorem dX12_doesCover_44 : decode cX12_doesCover 44 = .ok (.if_icmp .ne 17, 3) := by decide +kernel
theorem dX12_doesCover_47 : decode cX12_doesCover 47 = .ok (.iload_n 3, 1) := by decide +kernel
theorem dX12_doesCover_48 : decode cX12_doesCover 48 = .ok (.iconst 1, 1) := by decide +kernel
theorem dX12_doesCover_49 : decode cX12_doesCover 49 = .ok (.aload_n 0, 1) := by decide +kernel
theorem dX12_doesCover_50 : decode cX12_doesCover 50 = .ok (.getfield 65, 3) := by decide +kernel
theorem dX12_doesCover_53 : decode cX12_doesCover 53 = .ok (.iconst 3, 1) := by decide +kernel
theorem dX12_doesCover_54 : decode cX12_doesCover 54 = .ok (.iload 4, 2) := by decide +kernel
theorem dX12_doesCover_56 : decode cX12_doesCover 56 = .ok (.imul, 1) := by decide +kernel
theorem dX12_doesCover_57 : decode cX12_doesCover 57 = .ok (.iaload, 1) := by decide +kernel
theorem dX12_doesCover_58 : decode cX12_doesCover 58 = .ok (.ishl, 1) := by decide +kernel
theorem dX12_doesCover_59 : decode cX12_doesCover 59 = .ok (.ior, 1) := by decide +kernel
theorem dX12_doesCover_60 : decode cX12_doesCover 60 = .ok (.istore_n 3, 1) := by decide +kernel
theorem dX12_doesCover_61 : decode cX12_doesCover 61 = .ok (.iinc 4 1, 3) := by decide +kernel
theorem dX12_doesCover_64 : decode cX12_doesCover 64 = .ok (.goto (-51), 3) := by decide +kernel
theorem dX12_doesCover_67 : decode cX12_doesCover 67 = .ok (.aload_n 0, 1) := by decide +kernel
theorem dX12_doesCover_68 : decode cX12_doesCover 68 = .ok (.iload_n 3, 1) := by decide +kernel
theorem dX12_doesCover_69 : decode cX12_doesCover 69 = .ok (.invokevirtual 350, 3) := by decide +kernel
theorem dX12_doesCover_72 : decode cX12_doesCover 72 = .ok (.aload_n 0, 1) := by decide +kernel
theorem dX12_doesCover_73 : decode cX12_doesCover 73 = .ok (.getfield 132, 3) := by decide +kernel
theorem dX12_doesCover_76 : decode cX12_doesCover 76 = .ok (.if_icmp .ge 5, 3) := by decide +kernel
theorem dX12_doesCover_79 : decode cX12_doesCover 79 = .ok (.iconst 0, 1) := by decide +kernel
theorem dX12_doesCover_80 : decode cX12_doesCover 80 = .ok (.ireturn, 1) := by decide +kernel
theorem dX12_doesCover_81 : decode cX12_doesCover 81 = .ok (.iinc 2 1, 3) := by decide +kernel
theorem dX12_doesCover_84 : decode cX12_doesCover 84 = .ok (.goto (-82), 3) := by decide +kernel
theorem dX12_doesCover_87 : decode cX12_doesCover 87 = .ok (.iconst 1, 1) := by decide +kernel
theorem dX12_doesCover_88 : decode cX12_doesCover 88 = .ok (.ireturn, 1) := by decide +kernel
theorem dX12_coverSet_0 : decode cX12_coverSet 0 = .ok (.iconst 0, 1) := by decide +kernel
theorem dX12_coverSet_1 : decode cX12_coverSet 1 = .ok (.istore_n 1, 1) := by decide +kernel
theorem dX12_coverSet_2 : decode cX12_coverSet 2 = .ok (.iload_n 1, 1) := by decide +kernel
theorem dX12_coverSet_3 : decode cX12_coverSet 3 = .ok (.aload_n 0, 1) := by decide +kernel
theorem dX12_coverSet_4 : decode cX12_coverSet 4 = .ok (.getfield 270, 3) := by decide +kernel
theorem dX12_coverSet_7 : decode cX12_coverSet 7 = .ok (.if_icmp .ge 55, 3) := by decide +kernel
theorem dX12_coverSet_10 : decode cX12_coverSet 10 = .ok (.aload_n 0, 1) := by decide +kernel
theorem dX12_coverSet_11 : decode cX12_coverSet 11 = .ok (.getfield 77, 3) := by decide +kernel
theorem dX12_coverSet_14 : decode cX12_coverSet 14 = .ok (.iload_n 1, 1) := by decide +kernel
theorem dX12_coverSet_15 : decode cX12_coverSet 15 = .ok (.iconst 0, 1) := by decide +kernel
theorem dX12_coverSet_16 : decode cX12_coverSet 16 = .ok (.iastore, 1) := by decide +kernel
theorem dX12_coverSet_17 : decode cX12_coverSet 17 = .ok (.iconst 0, 1) := by decide +kernel
theorem dX12_coverSet_18 : decode cX12_coverSet 18 = .ok (.istore_n 2, 1) := by decide +kernel
theorem dX12_coverSet_19 : decode cX12_coverSet 19 = .ok (.iload_n 2, 1) := by decide +kernel
theorem dX12_coverSet_20 : decode cX12_coverSet 20 = .ok (.bipush 24, 2) := by decide +kernel
theorem dX12_coverSet_22 : decode cX12_coverSet 22 = .ok (.if_icmp .ge 34, 3) := by decide +kernel
theorem dX12_coverSet_25 : decode cX12_coverSet 25 = .ok (.aload_n 0, 1) := by decide +kernel
theorem dX12_coverSet_26 : decode cX12_coverSet 26 = .ok (.iload_n 1, 1) := by decide +kernel
theorem dX12_coverSet_27 : decode cX12_coverSet 27 = .ok (.iload_n 2, 1) := by decide +kernel
theorem dX12_coverSet_28 : decode cX12_coverSet 28 = .ok (.invokevirtual 300, 3) := by decide +kernel
theorem dX12_coverSet_31 : decode cX12_coverSet 31 = .ok (.ifCond .eq 19, 3) := by decide +kernel
theorem dX12_coverSet_34 : decode cX12_coverSet 34 = .ok (.aload_n 0, 1) := by decide +kernel
theorem dX12_coverSet_35 : decode cX12_coverSet 35 = .ok (.getfield 77, 3) := by decide +kernel
theorem dX12_coverSet_38 : decode cX12_coverSet 38 = .ok (.iload_n 1, 1) := by decide +kernel
theorem dX12_coverSet_39 : decode cX12_coverSet 39 = .ok (.aload_n 0, 1) := by decide +kernel
theorem dX12_coverSet_40 : decode cX12_coverSet 40 = .ok (.getfield 77, 3) := by decide +kernel
theorem dX12_coverSet_43 : decode cX12_coverSet 43 = .ok (.iload_n 1, 1) := by decide +kernel
theorem dX12_coverSet_44 : decode cX12_coverSet 44 = .ok (.iaload, 1) := by decide +kernel
theorem dX12_coverSet_45 : decode cX12_coverSet 45 = .ok (.iconst 1, 1) := by decide +kernel
theorem dX12_coverSet_46 : decode cX12_coverSet 46 = .ok (.iload_n 2, 1) := by decide +kernel
theorem dX12_coverSet_47 : decode cX12_coverSet 47 = .ok (.ishl, 1) := by decide +kernel
theorem dX12_coverSet_48 : decode cX12_coverSet 48 = .ok (.ior, 1) := by decide +kernel
theorem dX12_coverSet_49 : decode cX12_coverSet 49 = .ok (.iastore, 1) := by decide +kernel
theorem dX12_coverSet_50 : decode cX12_coverSet 50 = .ok (.iinc 2 1, 3) := by decide +kernel
theorem dX12_coverSet_53 : decode cX12_coverSet 53 = .ok (.goto (-34), 3) := by decide +kernel
theorem dX12_coverSet_56 : decode cX12_coverSet 56 = .ok (.iinc 1 1, 3) := by decide +kernel
theorem dX12_coverSet_59 : decode cX12_coverSet 59 = .ok (.goto (-57), 3) := by decide +kernel
theorem dX12_coverSet_62 : decode cX12_coverSet 62 = .ok (.iconst (-1), 1) := by decide +kernel
theorem dX12_coverSet_63 : decode cX12_coverSet 63 = .ok (.istore_n 1, 1) := by decide +kernel
theorem dX12_coverSet_64 : decode cX12_coverSet 64 = .ok (.iconst 0, 1) := by decide +kernel
theorem dX12_coverSet_65 : decode cX12_coverSet 65 = .ok (.istore_n 2, 1) := by decide +kernel
theorem dX12_coverSet_66 : decode cX12_coverSet 66 = .ok (.iload_n 2, 1) := by decide +kernel
theorem dX12_coverSet_67 : decode cX12_coverSet 67 = .ok (.iconst 1, 1) := by decide +kernel
theorem dX12_coverSet_68 : decode cX12_coverSet 68 = .ok (.aload_n 0, 1) := by decide +kernel
theorem dX12_coverSet_69 : decode cX12_coverSet 69 = .ok (.getfield 270, 3) := by decide +kernel
theorem dX12_coverSet_72 : decode cX12_coverSet 72 = .ok (.ishl, 1) := by decide +kernel
theorem dX12_coverSet_73 : decode cX12_coverSet 73 = .ok (.if_icmp .ge 37, 3) := by decide +kernel
theorem dX12_coverSet_76 : decode cX12_coverSet 76 = .ok (.iload_n 1, 1) := by decide +kernel
theorem dX12_coverSet_77 : decode cX12_coverSet 77 = .ok (.iconst (-1), 1) := by decide +kernel
theorem dX12_coverSet_78 : decode cX12_coverSet 78 = .ok (.if_icmp .eq 16, 3) := by decide +kernel
theorem dX12_coverSet_81 : decode cX12_coverSet 81 = .ok (.aload_n 0, 1) := by decide +kernel
theorem dX12_coverSet_82 : decode cX12_coverSet 82 = .ok (.iload_n 2, 1) := by decide +kernel
theorem dX12_coverSet_83 : decode cX12_coverSet 83 = .ok (.invokevirtual 350, 3) := by decide +kernel
theorem dX12_coverSet_86 : decode cX12_coverSet 86 = .ok (.aload_n 0, 1) := by decide +kernel
theorem dX12_coverSet_87 : decode cX12_coverSet 87 = .ok (.iload_n 1, 1) := by decide +kernel
theorem dX12_coverSet_88 : decode cX12_coverSet 88 = .ok (.invokevirtual 350, 3) := by decide +kernel
theorem dX12_coverSet_91 : decode cX12_coverSet 91 = .ok (.if_icmp .ge 13, 3) := by decide +kernel
theorem dX12_coverSet_94 : decode cX12_coverSet 94 = .ok (.aload_n 0, 1) := by decide +kernel
theorem dX12_coverSet_95 : decode cX12_coverSet 95 = .ok (.iload_n 2, 1) := by decide +kernel
theorem dX12_coverSet_96 : decode cX12_coverSet 96 = .ok (.invokevirtual 377, 3) := by decide +kernel
theorem dX12_coverSet_99 : decode cX12_coverSet 99 = .ok (.ifCond .eq 5, 3) := by decide +kernel
theorem dX12_coverSet_102 : decode cX12_coverSet 102 = .ok (.iload_n 2, 1) := by decide +kernel
theorem dX12_coverSet_103 : decode cX12_coverSet 103 = .ok (.istore_n 1, 1) := by decide +kernel
theorem dX12_coverSet_104 : decode cX12_coverSet 104 = .ok (.iinc 2 1, 3) := by decide +kernel
theorem dX12_coverSet_107 : decode cX12_coverSet 107 = .ok (.goto (-41), 3) := by decide +kernel
theorem dX12_coverSet_110 : decode cX12_coverSet 110 = .ok (.iload_n 1, 1) := by decide +kernel
theorem dX12_coverSet_111 : decode cX12_coverSet 111 = .ok (.ireturn, 1) := by decide +kernel
theorem dX12_cover_0 : decode cX12_cover 0 = .ok (.aload_n 0, 1) := by decide +kernel
theorem dX12_cover_1 : decode cX12_cover 1 = .ok (.iconst 0, 1) := by decide +kernel
theorem dX12_cover_2 : decode cX12_cover 2 = .ok (.putfield 99, 3) := by decide +kernel
theorem dX12_cover_5 : decode cX12_cover 5 = .ok (.aload_n 0, 1) := by decide +kernel
theorem dX12_cover_6 : decode cX12_cover 6 = .ok (.iload_n 1, 1) := by decide +kernel
theorem dX12_cover_7 : decode cX12_cover 7 = .ok (.iconst 0, 1) := by decide +kernel
theorem dX12_cover_8 : decode cX12_cover 8 = .ok (.iconst 1, 1) := by decide +kernel
theorem dX12_cover_9 : decode cX12_cover 9 = .ok (.invokevirtual 121, 3) := by decide +kernel
theorem dX12_cover_12 : decode cX12_cover 12 = .ok (.ifCond .ne 5, 3) := by decide +kernel
theorem dX12_cover_15 : decode cX12_cover 15 = .ok (.iconst (-1), 1) := by decide +kernel
theorem dX12_cover_16 : decode cX12_cover 16 = .ok (.ireturn, 1) := by decide +kernel
theorem dX12_cover_17 : decode cX12_cover 17 = .ok (.aload_n 0, 1) := by decide +kernel
theorem dX12_cover_18 : decode cX12_cover 18 = .ok (.invokevirtual 380, 3) := by decide +kernel
theorem dX12_cover_21 : decode cX12_cover 21 = .ok (.istore_n 2, 1) := by decide +kernel
theorem dX12_cover_22 : decode cX12_cover 22 = .ok (.iload_n 2, 1) := by decide +kernel
theorem dX12_cover_23 : decode cX12_cover 23 = .ok (.iconst (-1), 1) := by decide +kernel
theorem dX12_cover_24 : decode cX12_cover 24 = .ok (.if_icmp .eq 8, 3) := by decide +kernel
theorem dX12_cover_27 : decode cX12_cover 27 = .ok (.iload_n 1, 1) := by decide +kernel
theorem dX12_cover_28 : decode cX12_cover 28 = .ok (.iconst 1, 1) := by decide +kernel
theorem dX12_cover_29 : decode cX12_cover 29 = .ok (.if_icmp .ne 7, 3) := by decide +kernel
theorem dX12_cover_32 : decode cX12_cover 32 = .ok (.iload_n 2, 1) := by decide +kernel
theorem dX12_cover_33 : decode cX12_cover 33 = .ok (.goto 8, 3) := by decide +kernel
theorem dX12_cover_36 : decode cX12_cover 36 = .ok (.aload_n 0, 1) := by decide +kernel
theorem dX12_cover_37 : decode cX12_cover 37 = .ok (.iload_n 2, 1) := by decide +kernel
theorem dX12_cover_38 : decode cX12_cover 38 = .ok (.invokevirtual 350, 3) := by decide +kernel
theorem dX12_cover_41 : decode cX12_cover 41 = .ok (.ireturn, 1) := by decide +kernel
theorem dX12_takenBy_0 : decode cX12_takenBy 0 = .ok (.iload_n 1, 1) := by decide +kernel
theorem dX12_takenBy_1 : decode cX12_takenBy 1 = .ok (.ifCond .ne 7, 3) := by decide +kernel
theorem dX12_takenBy_4 : decode cX12_takenBy 4 = .ok (.iconst 0, 1) := by decide +kernel
theorem dX12_takenBy_5 : decode cX12_takenBy 5 = .ok (.goto 27, 3) := by decide +kernel
theorem dX12_takenBy_8 : decode cX12_takenBy 8 = .ok (.iload_n 1, 1) := by decide +kernel
theorem dX12_takenBy_9 : decode cX12_takenBy 9 = .ok (.iconst 5, 1) := by decide +kernel
theorem dX12_takenBy_10 : decode cX12_takenBy 10 = .ok (.if_icmp .ge 11, 3) := by decide +kernel
theorem dX12_takenBy_13 : decode cX12_takenBy 13 = .ok (.iconst 1, 1) := by decide +kernel
theorem dX12_takenBy_14 : decode cX12_takenBy 14 = .ok (.iload_n 1, 1) := by decide +kernel
theorem dX12_takenBy_15 : decode cX12_takenBy 15 = .ok (.iconst 1, 1) := by decide +kernel
theorem dX12_takenBy_16 : decode cX12_takenBy 16 = .ok (.isub, 1) := by decide +kernel
theorem dX12_takenBy_17 : decode cX12_takenBy 17 = .ok (.ishl, 1) := by decide +kernel
theorem dX12_takenBy_18 : decode cX12_takenBy 18 = .ok (.goto 14, 3) := by decide +kernel
theorem dX12_takenBy_21 : decode cX12_takenBy 21 = .ok (.iload_n 1, 1) := by decide +kernel
theorem dX12_takenBy_22 : decode cX12_takenBy 22 = .ok (.iconst 5, 1) := by decide +kernel
theorem dX12_takenBy_23 : decode cX12_takenBy 23 = .ok (.if_icmp .ne 7, 3) := by decide +kernel
theorem dX12_takenBy_26 : decode cX12_takenBy 26 = .ok (.iconst 5, 1) := by decide +kernel
theorem dX12_takenBy_27 : decode cX12_takenBy 27 = .ok (.goto 5, 3) := by decide +kernel
theorem dX12_takenBy_30 : decode cX12_takenBy 30 = .ok (.bipush 10, 2) := by decide +kernel
theorem dX12_takenBy_32 : decode cX12_takenBy 32 = .ok (.ireturn, 1) := by decide +kernel
theorem dX12_needOf_0 : decode cX12_needOf 0 = .ok (.iload_n 1, 1) := by decide +kernel
theorem dX12_needOf_1 : decode cX12_needOf 1 = .ok (.istore_n 3, 1) := by decide +kernel
theorem dX12_needOf_2 : decode cX12_needOf 2 = .ok (.iconst 0, 1) := by decide +kernel
theorem dX12_needOf_3 : decode cX12_needOf 3 = .ok (.istore 4, 2) := by decide +kernel
theorem dX12_needOf_5 : decode cX12_needOf 5 = .ok (.iload 4, 2) := by decide +kernel
theorem dX12_needOf_7 : decode cX12_needOf 7 = .ok (.iload_n 2, 1) := by decide +kernel
theorem dX12_needOf_8 : decode cX12_needOf 8 = .ok (.if_icmp .ge 14, 3) := by decide +kernel
theorem dX12_needOf_11 : decode cX12_needOf 11 = .ok (.iload_n 3, 1) := by decide +kernel
theorem dX12_needOf_12 : decode cX12_needOf 12 = .ok (.bipush 11, 2) := by decide +kernel
theorem dX12_needOf_14 : decode cX12_needOf 14 = .ok (.idiv, 1) := by decide +kernel
theorem dX12_needOf_15 : decode cX12_needOf 15 = .ok (.istore_n 3, 1) := by decide +kernel
theorem dX12_needOf_16 : decode cX12_needOf 16 = .ok (.iinc 4 1, 3) := by decide +kernel
theorem dX12_needOf_19 : decode cX12_needOf 19 = .ok (.goto (-14), 3) := by decide +kernel
theorem dX12_needOf_22 : decode cX12_needOf 22 = .ok (.iload_n 3, 1) := by decide +kernel
theorem dX12_needOf_23 : decode cX12_needOf 23 = .ok (.bipush 11, 2) := by decide +kernel
theorem dX12_needOf_25 : decode cX12_needOf 25 = .ok (.irem, 1) := by decide +kernel
theorem dX12_needOf_26 : decode cX12_needOf 26 = .ok (.ireturn, 1) := by decide +kernel
theorem dX12_less_0 : decode cX12_less 0 = .ok (.iload_n 1, 1) := by decide +kernel
theorem dX12_less_1 : decode cX12_less 1 = .ok (.istore_n 3, 1) := by decide +kernel
theorem dX12_less_2 : decode cX12_less 2 = .ok (.iconst 1, 1) := by decide +kernel
theorem dX12_less_3 : decode cX12_less 3 = .ok (.istore 4, 2) := by decide +kernel
theorem dX12_less_5 : decode cX12_less 5 = .ok (.iconst 0, 1) := by decide +kernel
theorem dX12_less_6 : decode cX12_less 6 = .ok (.istore 5, 2) := by decide +kernel
theorem dX12_less_8 : decode cX12_less 8 = .ok (.iload 5, 2) := by decide +kernel
theorem dX12_less_10 : decode cX12_less 10 = .ok (.iconst 4, 1) := by decide +kernel
theorem dX12_less_11 : decode cX12_less 11 = .ok (.if_icmp .ge 41, 3) := by decide +kernel
theorem dX12_less_14 : decode cX12_less 14 = .ok (.iload_n 2, 1) := by decide +kernel
theorem dX12_less_15 : decode cX12_less 15 = .ok (.iload 5, 2) := by decide +kernel
theorem dX12_less_17 : decode cX12_less 17 = .ok (.ishr, 1) := by decide +kernel
theorem dX12_less_18 : decode cX12_less 18 = .ok (.iconst 1, 1) := by decide +kernel
theorem dX12_less_19 : decode cX12_less 19 = .ok (.iand, 1) := by decide +kernel
theorem dX12_less_20 : decode cX12_less 20 = .ok (.iconst 1, 1) := by decide +kernel
theorem dX12_less_21 : decode cX12_less 21 = .ok (.if_icmp .ne 18, 3) := by decide +kernel
theorem dX12_less_24 : decode cX12_less 24 = .ok (.aload_n 0, 1) := by decide +kernel
theorem dX12_less_25 : decode cX12_less 25 = .ok (.iload_n 1, 1) := by decide +kernel
theorem dX12_less_26 : decode cX12_less 26 = .ok (.iload 5, 2) := by decide +kernel
theorem dX12_less_28 : decode cX12_less 28 = .ok (.invokevirtual 383, 3) := by decide +kernel
theorem dX12_less_31 : decode cX12_less 31 = .ok (.ifCond .le 8, 3) := by decide +kernel
theorem dX12_less_34 : decode cX12_less 34 = .ok (.iload_n 3, 1) := by decide +kernel
theorem dX12_less_35 : decode cX12_less 35 = .ok (.iload 4, 2) := by decide +kernel
theorem dX12_less_37 : decode cX12_less 37 = .ok (.isub, 1) := by decide +kernel
theorem dX12_less_38 : decode cX12_less 38 = .ok (.istore_n 3, 1) := by decide +kernel
theorem dX12_less_39 : decode cX12_less 39 = .ok (.iload 4, 2) := by decide +kernel
theorem dX12_less_41 : decode cX12_less 41 = .ok (.bipush 11, 2) := by decide +kernel
theorem dX12_less_43 : decode cX12_less 43 = .ok (.imul, 1) := by decide +kernel
theorem dX12_less_44 : decode cX12_less 44 = .ok (.istore 4, 2) := by decide +kernel
theorem dX12_less_46 : decode cX12_less 46 = .ok (.iinc 5 1, 3) := by decide +kernel
theorem dX12_less_49 : decode cX12_less 49 = .ok (.goto (-41), 3) := by decide +kernel
theorem dX12_less_52 : decode cX12_less 52 = .ok (.iload_n 3, 1) := by decide +kernel
theorem dX12_less_53 : decode cX12_less 53 = .ok (.ireturn, 1) := by decide +kernel
theorem dX12_byWay_0 : decode cX12_byWay 0 = .ok (.aload_n 0, 1) := by decide +kernel
theorem dX12_byWay_1 : decode cX12_byWay 1 = .ok (.iload_n 3, 1) := by decide +kernel
theorem dX12_byWay_2 : decode cX12_byWay 2 = .ok (.invokevirtual 386, 3) := by decide +kernel
theorem dX12_byWay_5 : decode cX12_byWay 5 = .ok (.istore 4, 2) := by decide +kernel
theorem dX12_byWay_7 : decode cX12_byWay 7 = .ok (.aload_n 0, 1) := by decide +kernel
theorem dX12_byWay_8 : decode cX12_byWay 8 = .ok (.getfield 81, 3) := by decide +kernel
theorem dX12_byWay_11 : decode cX12_byWay 11 = .ok (.sipush 14641, 3) := by decide +kernel
theorem dX12_byWay_14 : decode cX12_byWay 14 = .ok (.iload_n 1, 1) := by decide +kernel
theorem dX12_byWay_15 : decode cX12_byWay 15 = .ok (.iconst 1, 1) := by decide +kernel
theorem dX12_byWay_16 : decode cX12_byWay 16 = .ok (.iadd, 1) := by decide +kernel
theorem dX12_byWay_17 : decode cX12_byWay 17 = .ok (.imul, 1) := by decide +kernel
theorem dX12_byWay_18 : decode cX12_byWay 18 = .ok (.aload_n 0, 1) := by decide +kernel
theorem dX12_byWay_19 : decode cX12_byWay 19 = .ok (.iload_n 2, 1) := by decide +kernel
theorem dX12_byWay_20 : decode cX12_byWay 20 = .ok (.iload 4, 2) := by decide +kernel
theorem dX12_byWay_22 : decode cX12_byWay 22 = .ok (.invokevirtual 389, 3) := by decide +kernel
theorem dX12_byWay_25 : decode cX12_byWay 25 = .ok (.iadd, 1) := by decide +kernel
theorem dX12_byWay_26 : decode cX12_byWay 26 = .ok (.iaload, 1) := by decide +kernel
theorem dX12_byWay_27 : decode cX12_byWay 27 = .ok (.istore 5, 2) := by decide +kernel
theorem dX12_byWay_29 : decode cX12_byWay 29 = .ok (.iconst 0, 1) := by decide +kernel
theorem dX12_byWay_30 : decode cX12_byWay 30 = .ok (.istore 6, 2) := by decide +kernel
theorem dX12_byWay_32 : decode cX12_byWay 32 = .ok (.iload 6, 2) := by decide +kernel
theorem dX12_byWay_34 : decode cX12_byWay 34 = .ok (.iconst 4, 1) := by decide +kernel
theorem dX12_byWay_35 : decode cX12_byWay 35 = .ok (.if_icmp .ge 36, 3) := by decide +kernel
theorem dX12_byWay_38 : decode cX12_byWay 38 = .ok (.iload 4, 2) := by decide +kernel
theorem dX12_byWay_40 : decode cX12_byWay 40 = .ok (.iload 6, 2) := by decide +kernel
theorem dX12_byWay_42 : decode cX12_byWay 42 = .ok (.ishr, 1) := by decide +kernel
theorem dX12_byWay_43 : decode cX12_byWay 43 = .ok (.iconst 1, 1) := by decide +kernel
theorem dX12_byWay_44 : decode cX12_byWay 44 = .ok (.iand, 1) := by decide +kernel
theorem dX12_byWay_45 : decode cX12_byWay 45 = .ok (.iconst 1, 1) := by decide +kernel
theorem dX12_byWay_46 : decode cX12_byWay 46 = .ok (.if_icmp .ne 19, 3) := by decide +kernel
theorem dX12_byWay_49 : decode cX12_byWay 49 = .ok (.iload 5, 2) := by decide +kernel
theorem dX12_byWay_51 : decode cX12_byWay 51 = .ok (.aload_n 0, 1) := by decide +kernel
