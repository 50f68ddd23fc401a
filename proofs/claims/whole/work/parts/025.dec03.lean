theorem dX11_canBeSet_85 : decode cX11_canBeSet 85 = .ok (.sipush 999, 3) := by decide +kernel
theorem dX11_canBeSet_88 : decode cX11_canBeSet 88 = .ok (.invokestatic 107, 3) := by decide +kernel
theorem dX11_canBeSet_91 : decode cX11_canBeSet 91 = .ok (.ifCond .eq 7, 3) := by decide +kernel
theorem dX11_canBeSet_94 : decode cX11_canBeSet 94 = .ok (.iconst 1, 1) := by decide +kernel
theorem dX11_canBeSet_95 : decode cX11_canBeSet 95 = .ok (.goto 4, 3) := by decide +kernel
theorem dX11_canBeSet_98 : decode cX11_canBeSet 98 = .ok (.iconst 0, 1) := by decide +kernel
theorem dX11_canBeSet_99 : decode cX11_canBeSet 99 = .ok (.ireturn, 1) := by decide +kernel
theorem dX11_canBeSet_100 : decode cX11_canBeSet 100 = .ok (.aload_n 0, 1) := by decide +kernel
theorem dX11_canBeSet_101 : decode cX11_canBeSet 101 = .ok (.iload_n 2, 1) := by decide +kernel
theorem dX11_canBeSet_102 : decode cX11_canBeSet 102 = .ok (.invokevirtual 141, 3) := by decide +kernel
theorem dX11_canBeSet_105 : decode cX11_canBeSet 105 = .ok (.ifCond .eq 16, 3) := by decide +kernel
theorem dX11_canBeSet_108 : decode cX11_canBeSet 108 = .ok (.iload_n 3, 1) := by decide +kernel
theorem dX11_canBeSet_109 : decode cX11_canBeSet 109 = .ok (.iconst 0, 1) := by decide +kernel
theorem dX11_canBeSet_110 : decode cX11_canBeSet 110 = .ok (.iconst 1, 1) := by decide +kernel
theorem dX11_canBeSet_111 : decode cX11_canBeSet 111 = .ok (.invokestatic 107, 3) := by decide +kernel
theorem dX11_canBeSet_114 : decode cX11_canBeSet 114 = .ok (.ifCond .eq 7, 3) := by decide +kernel
theorem dX11_canBeSet_117 : decode cX11_canBeSet 117 = .ok (.iconst 1, 1) := by decide +kernel
theorem dX11_canBeSet_118 : decode cX11_canBeSet 118 = .ok (.goto 4, 3) := by decide +kernel
theorem dX11_canBeSet_121 : decode cX11_canBeSet 121 = .ok (.iconst 0, 1) := by decide +kernel
theorem dX11_canBeSet_122 : decode cX11_canBeSet 122 = .ok (.ireturn, 1) := by decide +kernel
theorem dX11_canBeSet_123 : decode cX11_canBeSet 123 = .ok (.iconst 0, 1) := by decide +kernel
theorem dX11_canBeSet_124 : decode cX11_canBeSet 124 = .ok (.ireturn, 1) := by decide +kernel
theorem dX11_road_0 : decode cX11_road 0 = .ok (.iload_n 1, 1) := by decide +kernel
theorem dX11_road_1 : decode cX11_road 1 = .ok (.invokestatic 103, 3) := by decide +kernel
theorem dX11_road_4 : decode cX11_road 4 = .ok (.ifCond .eq 25, 3) := by decide +kernel
theorem dX11_road_7 : decode cX11_road 7 = .ok (.iload_n 2, 1) := by decide +kernel
theorem dX11_road_8 : decode cX11_road 8 = .ok (.invokestatic 103, 3) := by decide +kernel
theorem dX11_road_11 : decode cX11_road 11 = .ok (.ifCond .eq 18, 3) := by decide +kernel
theorem dX11_road_14 : decode cX11_road 14 = .ok (.iload_n 1, 1) := by decide +kernel
theorem dX11_road_15 : decode cX11_road 15 = .ok (.iload_n 2, 1) := by decide +kernel
theorem dX11_road_16 : decode cX11_road 16 = .ok (.if_icmp .eq 13, 3) := by decide +kernel
theorem dX11_road_19 : decode cX11_road 19 = .ok (.iload_n 3, 1) := by decide +kernel
theorem dX11_road_20 : decode cX11_road 20 = .ok (.iconst 0, 1) := by decide +kernel
theorem dX11_road_21 : decode cX11_road 21 = .ok (.bipush 99, 2) := by decide +kernel
theorem dX11_road_23 : decode cX11_road 23 = .ok (.invokestatic 107, 3) := by decide +kernel
theorem dX11_road_26 : decode cX11_road 26 = .ok (.ifCond .ne 5, 3) := by decide +kernel
theorem dX11_road_29 : decode cX11_road 29 = .ok (.iconst 0, 1) := by decide +kernel
theorem dX11_road_30 : decode cX11_road 30 = .ok (.ireturn, 1) := by decide +kernel
theorem dX11_road_31 : decode cX11_road 31 = .ok (.aload_n 0, 1) := by decide +kernel
theorem dX11_road_32 : decode cX11_road 32 = .ok (.getfield 19, 3) := by decide +kernel
theorem dX11_road_35 : decode cX11_road 35 = .ok (.getfield 144, 3) := by decide +kernel
theorem dX11_road_38 : decode cX11_road 38 = .ok (.iload_n 1, 1) := by decide +kernel
theorem dX11_road_39 : decode cX11_road 39 = .ok (.bipush 8, 2) := by decide +kernel
theorem dX11_road_41 : decode cX11_road 41 = .ok (.imul, 1) := by decide +kernel
theorem dX11_road_42 : decode cX11_road 42 = .ok (.iload_n 2, 1) := by decide +kernel
theorem dX11_road_43 : decode cX11_road 43 = .ok (.iadd, 1) := by decide +kernel
theorem dX11_road_44 : decode cX11_road 44 = .ok (.iload_n 3, 1) := by decide +kernel
theorem dX11_road_45 : decode cX11_road 45 = .ok (.iastore, 1) := by decide +kernel
theorem dX11_road_46 : decode cX11_road 46 = .ok (.aload_n 0, 1) := by decide +kernel
theorem dX11_road_47 : decode cX11_road 47 = .ok (.getfield 19, 3) := by decide +kernel
theorem dX11_road_50 : decode cX11_road 50 = .ok (.getfield 144, 3) := by decide +kernel
theorem dX11_road_53 : decode cX11_road 53 = .ok (.iload_n 2, 1) := by decide +kernel
theorem dX11_road_54 : decode cX11_road 54 = .ok (.bipush 8, 2) := by decide +kernel
theorem dX11_road_56 : decode cX11_road 56 = .ok (.imul, 1) := by decide +kernel
theorem dX11_road_57 : decode cX11_road 57 = .ok (.iload_n 1, 1) := by decide +kernel
theorem dX11_road_58 : decode cX11_road 58 = .ok (.iadd, 1) := by decide +kernel
theorem dX11_road_59 : decode cX11_road 59 = .ok (.iload_n 3, 1) := by decide +kernel
theorem dX11_road_60 : decode cX11_road 60 = .ok (.iastore, 1) := by decide +kernel
theorem dX11_road_61 : decode cX11_road 61 = .ok (.iconst 1, 1) := by decide +kernel
theorem dX11_road_62 : decode cX11_road 62 = .ok (.ireturn, 1) := by decide +kernel
theorem dX11_feed_0 : decode cX11_feed 0 = .ok (.aload_n 0, 1) := by decide +kernel
theorem dX11_feed_1 : decode cX11_feed 1 = .ok (.getfield 147, 3) := by decide +kernel
theorem dX11_feed_4 : decode cX11_feed 4 = .ok (.bipush 20, 2) := by decide +kernel
theorem dX11_feed_6 : decode cX11_feed 6 = .ok (.iadd, 1) := by decide +kernel
theorem dX11_feed_7 : decode cX11_feed 7 = .ok (.sipush 400, 3) := by decide +kernel
theorem dX11_feed_10 : decode cX11_feed 10 = .ok (.if_icmp .le 5, 3) := by decide +kernel
theorem dX11_feed_13 : decode cX11_feed 13 = .ok (.iconst (-1), 1) := by decide +kernel
theorem dX11_feed_14 : decode cX11_feed 14 = .ok (.ireturn, 1) := by decide +kernel
theorem dX11_feed_15 : decode cX11_feed 15 = .ok (.aload_n 0, 1) := by decide +kernel
theorem dX11_feed_16 : decode cX11_feed 16 = .ok (.iload_n 1, 1) := by decide +kernel
theorem dX11_feed_17 : decode cX11_feed 17 = .ok (.invokevirtual 150, 3) := by decide +kernel
theorem dX11_feed_20 : decode cX11_feed 20 = .ok (.aload_n 0, 1) := by decide +kernel
theorem dX11_feed_21 : decode cX11_feed 21 = .ok (.iload_n 2, 1) := by decide +kernel
theorem dX11_feed_22 : decode cX11_feed 22 = .ok (.invokevirtual 150, 3) := by decide +kernel
theorem dX11_feed_25 : decode cX11_feed 25 = .ok (.aload_n 0, 1) := by decide +kernel
theorem dX11_feed_26 : decode cX11_feed 26 = .ok (.iload_n 3, 1) := by decide +kernel
theorem dX11_feed_27 : decode cX11_feed 27 = .ok (.invokevirtual 150, 3) := by decide +kernel
theorem dX11_feed_30 : decode cX11_feed 30 = .ok (.aload_n 0, 1) := by decide +kernel
theorem dX11_feed_31 : decode cX11_feed 31 = .ok (.iload 4, 2) := by decide +kernel
theorem dX11_feed_33 : decode cX11_feed 33 = .ok (.invokevirtual 150, 3) := by decide +kernel
theorem dX11_feed_36 : decode cX11_feed 36 = .ok (.aload_n 0, 1) := by decide +kernel
theorem dX11_feed_37 : decode cX11_feed 37 = .ok (.iload 5, 2) := by decide +kernel
theorem dX11_feed_39 : decode cX11_feed 39 = .ok (.invokevirtual 150, 3) := by decide +kernel
theorem dX11_feed_42 : decode cX11_feed 42 = .ok (.aload_n 0, 1) := by decide +kernel
theorem dX11_feed_43 : decode cX11_feed 43 = .ok (.getfield 147, 3) := by decide +kernel
theorem dX11_feed_46 : decode cX11_feed 46 = .ok (.ireturn, 1) := by decide +kernel
theorem dX11_feedOne_0 : decode cX11_feedOne 0 = .ok (.bipush 24, 2) := by decide +kernel
theorem dX11_feedOne_2 : decode cX11_feedOne 2 = .ok (.istore_n 2, 1) := by decide +kernel
theorem dX11_feedOne_3 : decode cX11_feedOne 3 = .ok (.iload_n 2, 1) := by decide +kernel
theorem dX11_feedOne_4 : decode cX11_feedOne 4 = .ok (.ifCond .lt 35, 3) := by decide +kernel
theorem dX11_feedOne_7 : decode cX11_feedOne 7 = .ok (.aload_n 0, 1) := by decide +kernel
theorem dX11_feedOne_8 : decode cX11_feedOne 8 = .ok (.getfield 46, 3) := by decide +kernel
theorem dX11_feedOne_11 : decode cX11_feedOne 11 = .ok (.aload_n 0, 1) := by decide +kernel
theorem dX11_feedOne_12 : decode cX11_feedOne 12 = .ok (.getfield 147, 3) := by decide +kernel
theorem dX11_feedOne_15 : decode cX11_feedOne 15 = .ok (.iload_n 1, 1) := by decide +kernel
theorem dX11_feedOne_16 : decode cX11_feedOne 16 = .ok (.iload_n 2, 1) := by decide +kernel
theorem dX11_feedOne_17 : decode cX11_feedOne 17 = .ok (.iushr, 1) := by decide +kernel
theorem dX11_feedOne_18 : decode cX11_feedOne 18 = .ok (.sipush 255, 3) := by decide +kernel
theorem dX11_feedOne_21 : decode cX11_feedOne 21 = .ok (.iand, 1) := by decide +kernel
theorem dX11_feedOne_22 : decode cX11_feedOne 22 = .ok (.iastore, 1) := by decide +kernel
theorem dX11_feedOne_23 : decode cX11_feedOne 23 = .ok (.aload_n 0, 1) := by decide +kernel
theorem dX11_feedOne_24 : decode cX11_feedOne 24 = .ok (.dup, 1) := by decide +kernel
theorem dX11_feedOne_25 : decode cX11_feedOne 25 = .ok (.getfield 147, 3) := by decide +kernel
theorem dX11_feedOne_28 : decode cX11_feedOne 28 = .ok (.iconst 1, 1) := by decide +kernel
theorem dX11_feedOne_29 : decode cX11_feedOne 29 = .ok (.iadd, 1) := by decide +kernel
theorem dX11_feedOne_30 : decode cX11_feedOne 30 = .ok (.putfield 147, 3) := by decide +kernel
theorem dX11_feedOne_33 : decode cX11_feedOne 33 = .ok (.iinc 2 (-8), 3) := by decide +kernel
theorem dX11_feedOne_36 : decode cX11_feedOne 36 = .ok (.goto (-33), 3) := by decide +kernel
theorem dX11_feedOne_39 : decode cX11_feedOne 39 = .ok (.return_, 1) := by decide +kernel
theorem dX11_end_0 : decode cX11_end 0 = .ok (.iload_n 1, 1) := by decide +kernel
theorem dX11_end_1 : decode cX11_end 1 = .ok (.iconst 0, 1) := by decide +kernel
theorem dX11_end_2 : decode cX11_end 2 = .ok (.aload_n 0, 1) := by decide +kernel
theorem dX11_end_3 : decode cX11_end 3 = .ok (.getfield 147, 3) := by decide +kernel
theorem dX11_end_6 : decode cX11_end 6 = .ok (.invokestatic 107, 3) := by decide +kernel
theorem dX11_end_9 : decode cX11_end 9 = .ok (.ifCond .ne 5, 3) := by decide +kernel
theorem dX11_end_12 : decode cX11_end 12 = .ok (.iconst 0, 1) := by decide +kernel
theorem dX11_end_13 : decode cX11_end 13 = .ok (.ireturn, 1) := by decide +kernel
theorem dX11_end_14 : decode cX11_end 14 = .ok (.aload_n 0, 1) := by decide +kernel
theorem dX11_end_15 : decode cX11_end 15 = .ok (.iload_n 1, 1) := by decide +kernel
theorem dX11_end_16 : decode cX11_end 16 = .ok (.putfield 147, 3) := by decide +kernel
theorem dX11_end_19 : decode cX11_end 19 = .ok (.iconst 1, 1) := by decide +kernel
theorem dX11_end_20 : decode cX11_end 20 = .ok (.ireturn, 1) := by decide +kernel
theorem dX11_text_0 : decode cX11_text 0 = .ok (.aload_n 0, 1) := by decide +kernel
theorem dX11_text_1 : decode cX11_text 1 = .ok (.getfield 147, 3) := by decide +kernel
theorem dX11_text_4 : decode cX11_text 4 = .ok (.istore_n 2, 1) := by decide +kernel
theorem dX11_text_5 : decode cX11_text 5 = .ok (.aload_n 0, 1) := by decide +kernel
theorem dX11_text_6 : decode cX11_text 6 = .ok (.iconst 0, 1) := by decide +kernel
theorem dX11_text_7 : decode cX11_text 7 = .ok (.putfield 147, 3) := by decide +kernel
theorem dX11_text_10 : decode cX11_text 10 = .ok (.aload_n 0, 1) := by decide +kernel
theorem dX11_text_11 : decode cX11_text 11 = .ok (.getfield 53, 3) := by decide +kernel
theorem dX11_text_14 : decode cX11_text 14 = .ok (.aload_n 0, 1) := by decide +kernel
theorem dX11_text_15 : decode cX11_text 15 = .ok (.getfield 46, 3) := by decide +kernel
theorem dX11_text_18 : decode cX11_text 18 = .ok (.iload_n 2, 1) := by decide +kernel
theorem dX11_text_19 : decode cX11_text 19 = .ok (.invokevirtual 154, 3) := by decide +kernel
theorem dX11_text_22 : decode cX11_text 22 = .ok (.iload_n 1, 1) := by decide +kernel
theorem dX11_text_23 : decode cX11_text 23 = .ok (.tableswitch 140 0 3 #[29, 62, 95, 114], 29) := by decide +kernel
theorem dX11_text_52 : decode cX11_text 52 = .ok (.aload_n 0, 1) := by decide +kernel
theorem dX11_text_53 : decode cX11_text 53 = .ok (.getfield 53, 3) := by decide +kernel
theorem dX11_text_56 : decode cX11_text 56 = .ok (.iconst 0, 1) := by decide +kernel
theorem dX11_text_57 : decode cX11_text 57 = .ok (.invokevirtual 158, 3) := by decide +kernel
theorem dX11_text_60 : decode cX11_text 60 = .ok (.ifCond .eq 23, 3) := by decide +kernel
theorem dX11_text_63 : decode cX11_text 63 = .ok (.aload_n 0, 1) := by decide +kernel
theorem dX11_text_64 : decode cX11_text 64 = .ok (.getfield 19, 3) := by decide +kernel
theorem dX11_text_67 : decode cX11_text 67 = .ok (.getfield 162, 3) := by decide +kernel
theorem dX11_text_70 : decode cX11_text 70 = .ok (.aload_n 0, 1) := by decide +kernel
theorem dX11_text_71 : decode cX11_text 71 = .ok (.getfield 53, 3) := by decide +kernel
theorem dX11_text_74 : decode cX11_text 74 = .ok (.getfield 165, 3) := by decide +kernel
theorem dX11_text_77 : decode cX11_text 77 = .ok (.invokevirtual 168, 3) := by decide +kernel
theorem dX11_text_80 : decode cX11_text 80 = .ok (.goto 4, 3) := by decide +kernel
theorem dX11_text_83 : decode cX11_text 83 = .ok (.iconst (-1), 1) := by decide +kernel
theorem dX11_text_84 : decode cX11_text 84 = .ok (.ireturn, 1) := by decide +kernel
theorem dX11_text_85 : decode cX11_text 85 = .ok (.aload_n 0, 1) := by decide +kernel
theorem dX11_text_86 : decode cX11_text 86 = .ok (.getfield 53, 3) := by decide +kernel
theorem dX11_text_89 : decode cX11_text 89 = .ok (.iconst 1, 1) := by decide +kernel
theorem dX11_text_90 : decode cX11_text 90 = .ok (.invokevirtual 158, 3) := by decide +kernel
theorem dX11_text_93 : decode cX11_text 93 = .ok (.ifCond .eq 23, 3) := by decide +kernel
theorem dX11_text_96 : decode cX11_text 96 = .ok (.aload_n 0, 1) := by decide +kernel
theorem dX11_text_97 : decode cX11_text 97 = .ok (.getfield 19, 3) := by decide +kernel
theorem dX11_text_100 : decode cX11_text 100 = .ok (.getfield 76, 3) := by decide +kernel
theorem dX11_text_103 : decode cX11_text 103 = .ok (.aload_n 0, 1) := by decide +kernel
theorem dX11_text_104 : decode cX11_text 104 = .ok (.getfield 53, 3) := by decide +kernel
theorem dX11_text_107 : decode cX11_text 107 = .ok (.getfield 165, 3) := by decide +kernel
theorem dX11_text_110 : decode cX11_text 110 = .ok (.invokevirtual 168, 3) := by decide +kernel
theorem dX11_text_113 : decode cX11_text 113 = .ok (.goto 4, 3) := by decide +kernel
theorem dX11_text_116 : decode cX11_text 116 = .ok (.iconst (-1), 1) := by decide +kernel
theorem dX11_text_117 : decode cX11_text 117 = .ok (.ireturn, 1) := by decide +kernel
theorem dX11_text_118 : decode cX11_text 118 = .ok (.aload_n 0, 1) := by decide +kernel
theorem dX11_text_119 : decode cX11_text 119 = .ok (.getfield 53, 3) := by decide +kernel
theorem dX11_text_122 : decode cX11_text 122 = .ok (.invokevirtual 174, 3) := by decide +kernel
theorem dX11_text_125 : decode cX11_text 125 = .ok (.ifCond .eq 10, 3) := by decide +kernel
theorem dX11_text_128 : decode cX11_text 128 = .ok (.aload_n 0, 1) := by decide +kernel
theorem dX11_text_129 : decode cX11_text 129 = .ok (.invokevirtual 178, 3) := by decide +kernel
theorem dX11_text_132 : decode cX11_text 132 = .ok (.goto 4, 3) := by decide +kernel
theorem dX11_text_135 : decode cX11_text 135 = .ok (.iconst (-1), 1) := by decide +kernel
theorem dX11_text_136 : decode cX11_text 136 = .ok (.ireturn, 1) := by decide +kernel
theorem dX11_text_137 : decode cX11_text 137 = .ok (.aload_n 0, 1) := by decide +kernel
theorem dX11_text_138 : decode cX11_text 138 = .ok (.getfield 53, 3) := by decide +kernel
theorem dX11_text_141 : decode cX11_text 141 = .ok (.aload_n 0, 1) := by decide +kernel
theorem dX11_text_142 : decode cX11_text 142 = .ok (.getfield 12, 3) := by decide +kernel
theorem dX11_text_145 : decode cX11_text 145 = .ok (.getfield 111, 3) := by decide +kernel
theorem dX11_text_148 : decode cX11_text 148 = .ok (.invokevirtual 182, 3) := by decide +kernel
theorem dX11_text_151 : decode cX11_text 151 = .ok (.ifCond .eq 10, 3) := by decide +kernel
theorem dX11_text_154 : decode cX11_text 154 = .ok (.aload_n 0, 1) := by decide +kernel
theorem dX11_text_155 : decode cX11_text 155 = .ok (.invokevirtual 185, 3) := by decide +kernel
theorem dX11_text_158 : decode cX11_text 158 = .ok (.goto 4, 3) := by decide +kernel
theorem dX11_text_161 : decode cX11_text 161 = .ok (.iconst (-1), 1) := by decide +kernel
theorem dX11_text_162 : decode cX11_text 162 = .ok (.ireturn, 1) := by decide +kernel
theorem dX11_text_163 : decode cX11_text 163 = .ok (.iconst (-1), 1) := by decide +kernel
theorem dX11_text_164 : decode cX11_text 164 = .ok (.ireturn, 1) := by decide +kernel
theorem dX11_tellRound_0 : decode cX11_tellRound 0 = .ok (.aload_n 0, 1) := by decide +kernel
theorem dX11_tellRound_1 : decode cX11_tellRound 1 = .ok (.getfield 12, 3) := by decide +kernel
theorem dX11_tellRound_4 : decode cX11_tellRound 4 = .ok (.iconst 0, 1) := by decide +kernel
theorem dX11_tellRound_5 : decode cX11_tellRound 5 = .ok (.putfield 188, 3) := by decide +kernel
theorem dX11_tellRound_8 : decode cX11_tellRound 8 = .ok (.aload_n 0, 1) := by decide +kernel
theorem dX11_tellRound_9 : decode cX11_tellRound 9 = .ok (.getfield 12, 3) := by decide +kernel
theorem dX11_tellRound_12 : decode cX11_tellRound 12 = .ok (.iconst 0, 1) := by decide +kernel
theorem dX11_tellRound_13 : decode cX11_tellRound 13 = .ok (.putfield 191, 3) := by decide +kernel
theorem dX11_tellRound_16 : decode cX11_tellRound 16 = .ok (.aload_n 0, 1) := by decide +kernel
theorem dX11_tellRound_17 : decode cX11_tellRound 17 = .ok (.getfield 33, 3) := by decide +kernel
theorem dX11_tellRound_20 : decode cX11_tellRound 20 = .ok (.invokevirtual 100, 3) := by decide +kernel
theorem dX11_tellRound_23 : decode cX11_tellRound 23 = .ok (.aload_n 0, 1) := by decide +kernel
theorem dX11_tellRound_24 : decode cX11_tellRound 24 = .ok (.getfield 19, 3) := by decide +kernel
theorem dX11_tellRound_27 : decode cX11_tellRound 27 = .ok (.getfield 194, 3) := by decide +kernel
theorem dX11_tellRound_30 : decode cX11_tellRound 30 = .ok (.aload_n 0, 1) := by decide +kernel
theorem dX11_tellRound_31 : decode cX11_tellRound 31 = .ok (.getfield 53, 3) := by decide +kernel
theorem dX11_tellRound_34 : decode cX11_tellRound 34 = .ok (.getfield 198, 3) := by decide +kernel
theorem dX11_tellRound_37 : decode cX11_tellRound 37 = .ok (.invokevirtual 199, 3) := by decide +kernel
theorem dX11_tellRound_40 : decode cX11_tellRound 40 = .ok (.ireturn, 1) := by decide +kernel
theorem dX11_tellShifts_0 : decode cX11_tellShifts 0 = .ok (.aload_n 0, 1) := by decide +kernel
theorem dX11_tellShifts_1 : decode cX11_tellShifts 1 = .ok (.getfield 33, 3) := by decide +kernel
theorem dX11_tellShifts_4 : decode cX11_tellShifts 4 = .ok (.invokevirtual 100, 3) := by decide +kernel
theorem dX11_tellShifts_7 : decode cX11_tellShifts 7 = .ok (.aload_n 0, 1) := by decide +kernel
theorem dX11_tellShifts_8 : decode cX11_tellShifts 8 = .ok (.getfield 19, 3) := by decide +kernel
theorem dX11_tellShifts_11 : decode cX11_tellShifts 11 = .ok (.getfield 204, 3) := by decide +kernel
theorem dX11_tellShifts_14 : decode cX11_tellShifts 14 = .ok (.aload_n 0, 1) := by decide +kernel
theorem dX11_tellShifts_15 : decode cX11_tellShifts 15 = .ok (.getfield 53, 3) := by decide +kernel
theorem dX11_tellShifts_18 : decode cX11_tellShifts 18 = .ok (.getfield 208, 3) := by decide +kernel
theorem dX11_tellShifts_21 : decode cX11_tellShifts 21 = .ok (.invokevirtual 209, 3) := by decide +kernel
theorem dX11_tellShifts_24 : decode cX11_tellShifts 24 = .ok (.ireturn, 1) := by decide +kernel
theorem dX11_fault_0 : decode cX11_fault 0 = .ok (.iload_n 1, 1) := by decide +kernel
theorem dX11_fault_1 : decode cX11_fault 1 = .ok (.lookupswitch 43 #[(0, 27), (1, 35)], 27) := by decide +kernel
theorem dX11_fault_28 : decode cX11_fault 28 = .ok (.aload_n 0, 1) := by decide +kernel
theorem dX11_fault_29 : decode cX11_fault 29 = .ok (.getfield 53, 3) := by decide +kernel
theorem dX11_fault_32 : decode cX11_fault 32 = .ok (.getfield 214, 3) := by decide +kernel
theorem dX11_fault_35 : decode cX11_fault 35 = .ok (.ireturn, 1) := by decide +kernel
theorem dX11_fault_36 : decode cX11_fault 36 = .ok (.aload_n 0, 1) := by decide +kernel
theorem dX11_fault_37 : decode cX11_fault 37 = .ok (.getfield 53, 3) := by decide +kernel
theorem dX11_fault_40 : decode cX11_fault 40 = .ok (.getfield 217, 3) := by decide +kernel
theorem dX11_fault_43 : decode cX11_fault 43 = .ok (.ireturn, 1) := by decide +kernel
theorem dX11_fault_44 : decode cX11_fault 44 = .ok (.iconst (-1), 1) := by decide +kernel
theorem dX11_fault_45 : decode cX11_fault 45 = .ok (.ireturn, 1) := by decide +kernel
theorem dX11_hours_0 : decode cX11_hours 0 = .ok (.iload_n 1, 1) := by decide +kernel
theorem dX11_hours_1 : decode cX11_hours 1 = .ok (.iconst 1, 1) := by decide +kernel
theorem dX11_hours_2 : decode cX11_hours 2 = .ok (.bipush 99, 2) := by decide +kernel
theorem dX11_hours_4 : decode cX11_hours 4 = .ok (.invokestatic 107, 3) := by decide +kernel
theorem dX11_hours_7 : decode cX11_hours 7 = .ok (.ifCond .eq 18, 3) := by decide +kernel
theorem dX11_hours_10 : decode cX11_hours 10 = .ok (.aload_n 0, 1) := by decide +kernel
theorem dX11_hours_11 : decode cX11_hours 11 = .ok (.getfield 12, 3) := by decide +kernel
theorem dX11_hours_14 : decode cX11_hours 14 = .ok (.getfield 220, 3) := by decide +kernel
theorem dX11_hours_17 : decode cX11_hours 17 = .ok (.iload_n 1, 1) := by decide +kernel
theorem dX11_hours_18 : decode cX11_hours 18 = .ok (.iadd, 1) := by decide +kernel
theorem dX11_hours_19 : decode cX11_hours 19 = .ok (.sipush 9999, 3) := by decide +kernel
theorem dX11_hours_22 : decode cX11_hours 22 = .ok (.if_icmp .le 5, 3) := by decide +kernel
theorem dX11_hours_25 : decode cX11_hours 25 = .ok (.iconst (-1), 1) := by decide +kernel
theorem dX11_hours_26 : decode cX11_hours 26 = .ok (.ireturn, 1) := by decide +kernel
theorem dX11_hours_27 : decode cX11_hours 27 = .ok (.iconst 0, 1) := by decide +kernel
theorem dX11_hours_28 : decode cX11_hours 28 = .ok (.istore_n 2, 1) := by decide +kernel
theorem dX11_hours_29 : decode cX11_hours 29 = .ok (.iconst 0, 1) := by decide +kernel
theorem dX11_hours_30 : decode cX11_hours 30 = .ok (.istore_n 3, 1) := by decide +kernel
theorem dX11_hours_31 : decode cX11_hours 31 = .ok (.iload_n 3, 1) := by decide +kernel
theorem dX11_hours_32 : decode cX11_hours 32 = .ok (.iload_n 1, 1) := by decide +kernel
theorem dX11_hours_33 : decode cX11_hours 33 = .ok (.if_icmp .ge 35, 3) := by decide +kernel
theorem dX11_hours_36 : decode cX11_hours 36 = .ok (.aload_n 0, 1) := by decide +kernel
theorem dX11_hours_37 : decode cX11_hours 37 = .ok (.getfield 33, 3) := by decide +kernel
theorem dX11_hours_40 : decode cX11_hours 40 = .ok (.aload_n 0, 1) := by decide +kernel
theorem dX11_hours_41 : decode cX11_hours 41 = .ok (.getfield 12, 3) := by decide +kernel
theorem dX11_hours_44 : decode cX11_hours 44 = .ok (.invokevirtual 223, 3) := by decide +kernel
theorem dX11_hours_47 : decode cX11_hours 47 = .ok (.aload_n 0, 1) := by decide +kernel
theorem dX11_hours_48 : decode cX11_hours 48 = .ok (.aload_n 0, 1) := by decide +kernel
theorem dX11_hours_49 : decode cX11_hours 49 = .ok (.getfield 12, 3) := by decide +kernel
theorem dX11_hours_52 : decode cX11_hours 52 = .ok (.iconst 0, 1) := by decide +kernel
theorem dX11_hours_53 : decode cX11_hours 53 = .ok (.invokevirtual 227, 3) := by decide +kernel
theorem dX11_hours_56 : decode cX11_hours 56 = .ok (.ifCond .eq 6, 3) := by decide +kernel
theorem dX11_hours_59 : decode cX11_hours 59 = .ok (.iinc 2 1, 3) := by decide +kernel
theorem dX11_hours_62 : decode cX11_hours 62 = .ok (.iinc 3 1, 3) := by decide +kernel
theorem dX11_hours_65 : decode cX11_hours 65 = .ok (.goto (-34), 3) := by decide +kernel
theorem dX11_hours_68 : decode cX11_hours 68 = .ok (.iload_n 2, 1) := by decide +kernel
theorem dX11_hours_69 : decode cX11_hours 69 = .ok (.ireturn, 1) := by decide +kernel
theorem dX11_move_0 : decode cX11_move 0 = .ok (.aload_n 0, 1) := by decide +kernel
theorem dX11_move_1 : decode cX11_move 1 = .ok (.iload_n 1, 1) := by decide +kernel
theorem dX11_move_2 : decode cX11_move 2 = .ok (.invokevirtual 141, 3) := by decide +kernel
theorem dX11_move_5 : decode cX11_move 5 = .ok (.ifCond .eq 23, 3) := by decide +kernel
theorem dX11_move_8 : decode cX11_move 8 = .ok (.iload_n 2, 1) := by decide +kernel
theorem dX11_move_9 : decode cX11_move 9 = .ok (.invokestatic 103, 3) := by decide +kernel
theorem dX11_move_12 : decode cX11_move 12 = .ok (.ifCond .eq 16, 3) := by decide +kernel
theorem dX11_move_15 : decode cX11_move 15 = .ok (.aload_n 0, 1) := by decide +kernel
theorem dX11_move_16 : decode cX11_move 16 = .ok (.getfield 12, 3) := by decide +kernel
theorem dX11_move_19 : decode cX11_move 19 = .ok (.getfield 114, 3) := by decide +kernel
theorem dX11_move_22 : decode cX11_move 22 = .ok (.iload_n 1, 1) := by decide +kernel
theorem dX11_move_23 : decode cX11_move 23 = .ok (.iaload, 1) := by decide +kernel
theorem dX11_move_24 : decode cX11_move 24 = .ok (.iload_n 2, 1) := by decide +kernel
theorem dX11_move_25 : decode cX11_move 25 = .ok (.if_icmp .ne 5, 3) := by decide +kernel
theorem dX11_move_28 : decode cX11_move 28 = .ok (.iconst 0, 1) := by decide +kernel
theorem dX11_move_29 : decode cX11_move 29 = .ok (.ireturn, 1) := by decide +kernel
theorem dX11_move_30 : decode cX11_move 30 = .ok (.aload_n 0, 1) := by decide +kernel
theorem dX11_move_31 : decode cX11_move 31 = .ok (.getfield 33, 3) := by decide +kernel
theorem dX11_move_34 : decode cX11_move 34 = .ok (.aload_n 0, 1) := by decide +kernel
theorem dX11_move_35 : decode cX11_move 35 = .ok (.getfield 12, 3) := by decide +kernel
theorem dX11_move_38 : decode cX11_move 38 = .ok (.invokevirtual 223, 3) := by decide +kernel
theorem dX11_move_41 : decode cX11_move 41 = .ok (.aload_n 0, 1) := by decide +kernel
theorem dX11_move_42 : decode cX11_move 42 = .ok (.getfield 12, 3) := by decide +kernel
theorem dX11_move_45 : decode cX11_move 45 = .ok (.getfield 114, 3) := by decide +kernel
theorem dX11_move_48 : decode cX11_move 48 = .ok (.iload_n 1, 1) := by decide +kernel
theorem dX11_move_49 : decode cX11_move 49 = .ok (.iload_n 2, 1) := by decide +kernel
theorem dX11_move_50 : decode cX11_move 50 = .ok (.iastore, 1) := by decide +kernel
theorem dX11_move_51 : decode cX11_move 51 = .ok (.iconst 1, 1) := by decide +kernel
theorem dX11_move_52 : decode cX11_move 52 = .ok (.ireturn, 1) := by decide +kernel
theorem dX11_carry_0 : decode cX11_carry 0 = .ok (.iload_n 1, 1) := by decide +kernel
theorem dX11_carry_1 : decode cX11_carry 1 = .ok (.iconst 1, 1) := by decide +kernel
theorem dX11_carry_2 : decode cX11_carry 2 = .ok (.sipush 999, 3) := by decide +kernel
theorem dX11_carry_5 : decode cX11_carry 5 = .ok (.invokestatic 107, 3) := by decide +kernel
theorem dX11_carry_8 : decode cX11_carry 8 = .ok (.ifCond .eq 18, 3) := by decide +kernel
theorem dX11_carry_11 : decode cX11_carry 11 = .ok (.aload_n 0, 1) := by decide +kernel
theorem dX11_carry_12 : decode cX11_carry 12 = .ok (.getfield 12, 3) := by decide +kernel
theorem dX11_carry_15 : decode cX11_carry 15 = .ok (.getfield 132, 3) := by decide +kernel
theorem dX11_carry_18 : decode cX11_carry 18 = .ok (.iload_n 1, 1) := by decide +kernel
theorem dX11_carry_19 : decode cX11_carry 19 = .ok (.iadd, 1) := by decide +kernel
theorem dX11_carry_20 : decode cX11_carry 20 = .ok (.sipush 9999, 3) := by decide +kernel
theorem dX11_carry_23 : decode cX11_carry 23 = .ok (.if_icmp .le 5, 3) := by decide +kernel
theorem dX11_carry_26 : decode cX11_carry 26 = .ok (.iconst (-1), 1) := by decide +kernel
theorem dX11_carry_27 : decode cX11_carry 27 = .ok (.ireturn, 1) := by decide +kernel
theorem dX11_carry_28 : decode cX11_carry 28 = .ok (.aload_n 0, 1) := by decide +kernel
theorem dX11_carry_29 : decode cX11_carry 29 = .ok (.getfield 33, 3) := by decide +kernel
theorem dX11_carry_32 : decode cX11_carry 32 = .ok (.aload_n 0, 1) := by decide +kernel
theorem dX11_carry_33 : decode cX11_carry 33 = .ok (.getfield 12, 3) := by decide +kernel
theorem dX11_carry_36 : decode cX11_carry 36 = .ok (.invokevirtual 223, 3) := by decide +kernel
theorem dX11_carry_39 : decode cX11_carry 39 = .ok (.aload_n 0, 1) := by decide +kernel
theorem dX11_carry_40 : decode cX11_carry 40 = .ok (.getfield 12, 3) := by decide +kernel
theorem dX11_carry_43 : decode cX11_carry 43 = .ok (.dup, 1) := by decide +kernel
theorem dX11_carry_44 : decode cX11_carry 44 = .ok (.getfield 132, 3) := by decide +kernel
theorem dX11_carry_47 : decode cX11_carry 47 = .ok (.iload_n 1, 1) := by decide +kernel
theorem dX11_carry_48 : decode cX11_carry 48 = .ok (.iadd, 1) := by decide +kernel
theorem dX11_carry_49 : decode cX11_carry 49 = .ok (.putfield 132, 3) := by decide +kernel
theorem dX11_carry_52 : decode cX11_carry 52 = .ok (.aload_n 0, 1) := by decide +kernel
theorem dX11_carry_53 : decode cX11_carry 53 = .ok (.getfield 12, 3) := by decide +kernel
theorem dX11_carry_56 : decode cX11_carry 56 = .ok (.getfield 132, 3) := by decide +kernel
theorem dX11_carry_59 : decode cX11_carry 59 = .ok (.ireturn, 1) := by decide +kernel
theorem dX11_undo_0 : decode cX11_undo 0 = .ok (.aload_n 0, 1) := by decide +kernel
theorem dX11_undo_1 : decode cX11_undo 1 = .ok (.getfield 33, 3) := by decide +kernel
theorem dX11_undo_4 : decode cX11_undo 4 = .ok (.aload_n 0, 1) := by decide +kernel
theorem dX11_undo_5 : decode cX11_undo 5 = .ok (.getfield 12, 3) := by decide +kernel
theorem dX11_undo_8 : decode cX11_undo 8 = .ok (.invokevirtual 231, 3) := by decide +kernel
theorem dX11_undo_11 : decode cX11_undo 11 = .ok (.ireturn, 1) := by decide +kernel
theorem dX11_image_0 : decode cX11_image 0 = .ok (.iload_n 1, 1) := by decide +kernel
theorem dX11_image_1 : decode cX11_image 1 = .ok (.ifCond .eq 43, 3) := by decide +kernel
theorem dX11_image_4 : decode cX11_image 4 = .ok (.aload_n 0, 1) := by decide +kernel
theorem dX11_image_5 : decode cX11_image 5 = .ok (.getfield 37, 3) := by decide +kernel
theorem dX11_image_8 : decode cX11_image 8 = .ok (.aload_n 0, 1) := by decide +kernel
theorem dX11_image_9 : decode cX11_image 9 = .ok (.getfield 12, 3) := by decide +kernel
theorem dX11_image_12 : decode cX11_image 12 = .ok (.invokevirtual 235, 3) := by decide +kernel
theorem dX11_image_15 : decode cX11_image 15 = .ok (.aload_n 0, 1) := by decide +kernel
theorem dX11_image_16 : decode cX11_image 16 = .ok (.getfield 40, 3) := by decide +kernel
theorem dX11_image_19 : decode cX11_image 19 = .ok (.aload_n 0, 1) := by decide +kernel
theorem dX11_image_20 : decode cX11_image 20 = .ok (.getfield 19, 3) := by decide +kernel
theorem dX11_image_23 : decode cX11_image 23 = .ok (.invokevirtual 237, 3) := by decide +kernel
theorem dX11_image_26 : decode cX11_image 26 = .ok (.aload_n 0, 1) := by decide +kernel
theorem dX11_image_27 : decode cX11_image 27 = .ok (.getfield 43, 3) := by decide +kernel
theorem dX11_image_30 : decode cX11_image 30 = .ok (.aload_n 0, 1) := by decide +kernel
theorem dX11_image_31 : decode cX11_image 31 = .ok (.getfield 26, 3) := by decide +kernel
theorem dX11_image_34 : decode cX11_image 34 = .ok (.invokevirtual 240, 3) := by decide +kernel
theorem dX11_image_37 : decode cX11_image 37 = .ok (.aload_n 0, 1) := by decide +kernel
theorem dX11_image_38 : decode cX11_image 38 = .ok (.iconst 1, 1) := by decide +kernel
theorem dX11_image_39 : decode cX11_image 39 = .ok (.putfield 243, 3) := by decide +kernel
theorem dX11_image_42 : decode cX11_image 42 = .ok (.iconst 1, 1) := by decide +kernel
theorem dX11_image_43 : decode cX11_image 43 = .ok (.ireturn, 1) := by decide +kernel
theorem dX11_image_44 : decode cX11_image 44 = .ok (.aload_n 0, 1) := by decide +kernel
theorem dX11_image_45 : decode cX11_image 45 = .ok (.getfield 243, 3) := by decide +kernel
theorem dX11_image_48 : decode cX11_image 48 = .ok (.ifCond .ne 5, 3) := by decide +kernel
theorem dX11_image_51 : decode cX11_image 51 = .ok (.iconst 0, 1) := by decide +kernel
theorem dX11_image_52 : decode cX11_image 52 = .ok (.ireturn, 1) := by decide +kernel
theorem dX11_image_53 : decode cX11_image 53 = .ok (.aload_n 0, 1) := by decide +kernel
theorem dX11_image_54 : decode cX11_image 54 = .ok (.getfield 12, 3) := by decide +kernel
theorem dX11_image_57 : decode cX11_image 57 = .ok (.aload_n 0, 1) := by decide +kernel
theorem dX11_image_58 : decode cX11_image 58 = .ok (.getfield 37, 3) := by decide +kernel
theorem dX11_image_61 : decode cX11_image 61 = .ok (.invokevirtual 235, 3) := by decide +kernel
theorem dX11_image_64 : decode cX11_image 64 = .ok (.aload_n 0, 1) := by decide +kernel
theorem dX11_image_65 : decode cX11_image 65 = .ok (.getfield 19, 3) := by decide +kernel
theorem dX11_image_68 : decode cX11_image 68 = .ok (.aload_n 0, 1) := by decide +kernel
theorem dX11_image_69 : decode cX11_image 69 = .ok (.getfield 40, 3) := by decide +kernel
theorem dX11_image_72 : decode cX11_image 72 = .ok (.invokevirtual 237, 3) := by decide +kernel
theorem dX11_image_75 : decode cX11_image 75 = .ok (.aload_n 0, 1) := by decide +kernel
theorem dX11_image_76 : decode cX11_image 76 = .ok (.getfield 26, 3) := by decide +kernel
theorem dX11_image_79 : decode cX11_image 79 = .ok (.aload_n 0, 1) := by decide +kernel
theorem dX11_image_80 : decode cX11_image 80 = .ok (.getfield 43, 3) := by decide +kernel
theorem dX11_image_83 : decode cX11_image 83 = .ok (.invokevirtual 240, 3) := by decide +kernel
theorem dX11_image_86 : decode cX11_image 86 = .ok (.aload_n 0, 1) := by decide +kernel
theorem dX11_image_87 : decode cX11_image 87 = .ok (.getfield 33, 3) := by decide +kernel
theorem dX11_image_90 : decode cX11_image 90 = .ok (.invokevirtual 100, 3) := by decide +kernel
theorem dX11_image_93 : decode cX11_image 93 = .ok (.iconst 1, 1) := by decide +kernel
theorem dX11_image_94 : decode cX11_image 94 = .ok (.ireturn, 1) := by decide +kernel
theorem dX11_passHour_0 : decode cX11_passHour 0 = .ok (.aload_n 0, 1) := by decide +kernel
theorem dX11_passHour_1 : decode cX11_passHour 1 = .ok (.aload_n 1, 1) := by decide +kernel
theorem dX11_passHour_2 : decode cX11_passHour 2 = .ok (.invokevirtual 247, 3) := by decide +kernel
theorem dX11_passHour_5 : decode cX11_passHour 5 = .ok (.istore_n 3, 1) := by decide +kernel
theorem dX11_passHour_6 : decode cX11_passHour 6 = .ok (.iload_n 3, 1) := by decide +kernel
theorem dX11_passHour_7 : decode cX11_passHour 7 = .ok (.invokestatic 251, 3) := by decide +kernel
theorem dX11_passHour_10 : decode cX11_passHour 10 = .ok (.istore 4, 2) := by decide +kernel
theorem dX11_passHour_12 : decode cX11_passHour 12 = .ok (.iload 4, 2) := by decide +kernel
theorem dX11_passHour_14 : decode cX11_passHour 14 = .ok (.aload_n 0, 1) := by decide +kernel
theorem dX11_passHour_15 : decode cX11_passHour 15 = .ok (.getfield 19, 3) := by decide +kernel
theorem dX11_passHour_18 : decode cX11_passHour 18 = .ok (.getfield 129, 3) := by decide +kernel
theorem dX11_passHour_21 : decode cX11_passHour 21 = .ok (.if_icmp .ge 7, 3) := by decide +kernel
theorem dX11_passHour_24 : decode cX11_passHour 24 = .ok (.iconst 1, 1) := by decide +kernel
theorem dX11_passHour_25 : decode cX11_passHour 25 = .ok (.goto 4, 3) := by decide +kernel
theorem dX11_passHour_28 : decode cX11_passHour 28 = .ok (.iconst 0, 1) := by decide +kernel
theorem dX11_passHour_29 : decode cX11_passHour 29 = .ok (.istore 5, 2) := by decide +kernel
theorem dX11_passHour_31 : decode cX11_passHour 31 = .ok (.iload 5, 2) := by decide +kernel
theorem dX11_passHour_33 : decode cX11_passHour 33 = .ok (.ifCond .eq 13, 3) := by decide +kernel
theorem dX11_passHour_36 : decode cX11_passHour 36 = .ok (.aload_n 1, 1) := by decide +kernel
theorem dX11_passHour_37 : decode cX11_passHour 37 = .ok (.dup, 1) := by decide +kernel
theorem dX11_passHour_38 : decode cX11_passHour 38 = .ok (.getfield 257, 3) := by decide +kernel
theorem dX11_passHour_41 : decode cX11_passHour 41 = .ok (.iconst 1, 1) := by decide +kernel
theorem dX11_passHour_42 : decode cX11_passHour 42 = .ok (.iadd, 1) := by decide +kernel
theorem dX11_passHour_43 : decode cX11_passHour 43 = .ok (.putfield 257, 3) := by decide +kernel
theorem dX11_passHour_46 : decode cX11_passHour 46 = .ok (.iload 4, 2) := by decide +kernel
theorem dX11_passHour_48 : decode cX11_passHour 48 = .ok (.ifCond .ne 13, 3) := by decide +kernel
theorem dX11_passHour_51 : decode cX11_passHour 51 = .ok (.aload_n 1, 1) := by decide +kernel
theorem dX11_passHour_52 : decode cX11_passHour 52 = .ok (.dup, 1) := by decide +kernel
theorem dX11_passHour_53 : decode cX11_passHour 53 = .ok (.getfield 260, 3) := by decide +kernel
theorem dX11_passHour_56 : decode cX11_passHour 56 = .ok (.iconst 1, 1) := by decide +kernel
theorem dX11_passHour_57 : decode cX11_passHour 57 = .ok (.iadd, 1) := by decide +kernel
theorem dX11_passHour_58 : decode cX11_passHour 58 = .ok (.putfield 260, 3) := by decide +kernel
theorem dX11_passHour_61 : decode cX11_passHour 61 = .ok (.iload_n 2, 1) := by decide +kernel
theorem dX11_passHour_62 : decode cX11_passHour 62 = .ok (.ifCond .ne 12, 3) := by decide +kernel
theorem dX11_passHour_65 : decode cX11_passHour 65 = .ok (.aload_n 0, 1) := by decide +kernel
theorem dX11_passHour_66 : decode cX11_passHour 66 = .ok (.aload_n 1, 1) := by decide +kernel
theorem dX11_passHour_67 : decode cX11_passHour 67 = .ok (.iload 4, 2) := by decide +kernel
theorem dX11_passHour_69 : decode cX11_passHour 69 = .ok (.iload 5, 2) := by decide +kernel
theorem dX11_passHour_71 : decode cX11_passHour 71 = .ok (.invokevirtual 263, 3) := by decide +kernel
theorem dX11_passHour_74 : decode cX11_passHour 74 = .ok (.aload_n 0, 1) := by decide +kernel
theorem dX11_passHour_75 : decode cX11_passHour 75 = .ok (.aload_n 1, 1) := by decide +kernel
theorem dX11_passHour_76 : decode cX11_passHour 76 = .ok (.iload_n 3, 1) := by decide +kernel
theorem dX11_passHour_77 : decode cX11_passHour 77 = .ok (.invokevirtual 267, 3) := by decide +kernel
theorem dX11_passHour_80 : decode cX11_passHour 80 = .ok (.iload 4, 2) := by decide +kernel
theorem dX11_passHour_82 : decode cX11_passHour 82 = .ok (.ifCond .le 22, 3) := by decide +kernel
theorem dX11_passHour_85 : decode cX11_passHour 85 = .ok (.aload_n 0, 1) := by decide +kernel
theorem dX11_passHour_86 : decode cX11_passHour 86 = .ok (.getfield 19, 3) := by decide +kernel
theorem dX11_passHour_89 : decode cX11_passHour 89 = .ok (.getfield 194, 3) := by decide +kernel
theorem dX11_passHour_92 : decode cX11_passHour 92 = .ok (.getfield 271, 3) := by decide +kernel
theorem dX11_passHour_95 : decode cX11_passHour 95 = .ok (.ifCond .le 9, 3) := by decide +kernel
theorem dX11_passHour_98 : decode cX11_passHour 98 = .ok (.aload_n 0, 1) := by decide +kernel
theorem dX11_passHour_99 : decode cX11_passHour 99 = .ok (.aload_n 1, 1) := by decide +kernel
theorem dX11_passHour_100 : decode cX11_passHour 100 = .ok (.iload_n 2, 1) := by decide +kernel
theorem dX11_passHour_101 : decode cX11_passHour 101 = .ok (.invokevirtual 274, 3) := by decide +kernel
theorem dX11_passHour_104 : decode cX11_passHour 104 = .ok (.aload_n 1, 1) := by decide +kernel
theorem dX11_passHour_105 : decode cX11_passHour 105 = .ok (.dup, 1) := by decide +kernel
theorem dX11_passHour_106 : decode cX11_passHour 106 = .ok (.getfield 220, 3) := by decide +kernel
theorem dX11_passHour_109 : decode cX11_passHour 109 = .ok (.iconst 1, 1) := by decide +kernel
theorem dX11_passHour_110 : decode cX11_passHour 110 = .ok (.iadd, 1) := by decide +kernel
theorem dX11_passHour_111 : decode cX11_passHour 111 = .ok (.putfield 220, 3) := by decide +kernel
theorem dX11_passHour_114 : decode cX11_passHour 114 = .ok (.iload 5, 2) := by decide +kernel
theorem dX11_passHour_116 : decode cX11_passHour 116 = .ok (.ireturn, 1) := by decide +kernel
theorem dX11_bookMany_0 : decode cX11_bookMany 0 = .ok (.iload_n 2, 1) := by decide +kernel
theorem dX11_bookMany_1 : decode cX11_bookMany 1 = .ok (.ifCond .ne 16, 3) := by decide +kernel
theorem dX11_bookMany_4 : decode cX11_bookMany 4 = .ok (.aload_n 0, 1) := by decide +kernel
theorem dX11_bookMany_5 : decode cX11_bookMany 5 = .ok (.getfield 26, 3) := by decide +kernel
theorem dX11_bookMany_8 : decode cX11_bookMany 8 = .ok (.aload_n 1, 1) := by decide +kernel
theorem dX11_bookMany_9 : decode cX11_bookMany 9 = .ok (.iconst 1, 1) := by decide +kernel
theorem dX11_bookMany_10 : decode cX11_bookMany 10 = .ok (.iconst 0, 1) := by decide +kernel
theorem dX11_bookMany_11 : decode cX11_bookMany 11 = .ok (.invokevirtual 278, 3) := by decide +kernel
theorem dX11_bookMany_14 : decode cX11_bookMany 14 = .ok (.goto 17, 3) := by decide +kernel
theorem dX11_bookMany_17 : decode cX11_bookMany 17 = .ok (.iload_n 3, 1) := by decide +kernel
theorem dX11_bookMany_18 : decode cX11_bookMany 18 = .ok (.ifCond .eq 13, 3) := by decide +kernel
theorem dX11_bookMany_21 : decode cX11_bookMany 21 = .ok (.aload_n 0, 1) := by decide +kernel
theorem dX11_bookMany_22 : decode cX11_bookMany 22 = .ok (.getfield 26, 3) := by decide +kernel
theorem dX11_bookMany_25 : decode cX11_bookMany 25 = .ok (.aload_n 1, 1) := by decide +kernel
theorem dX11_bookMany_26 : decode cX11_bookMany 26 = .ok (.iconst 2, 1) := by decide +kernel
theorem dX11_bookMany_27 : decode cX11_bookMany 27 = .ok (.iload_n 2, 1) := by decide +kernel
theorem dX11_bookMany_28 : decode cX11_bookMany 28 = .ok (.invokevirtual 278, 3) := by decide +kernel
theorem dX11_bookMany_31 : decode cX11_bookMany 31 = .ok (.iload_n 3, 1) := by decide +kernel
theorem dX11_bookMany_32 : decode cX11_bookMany 32 = .ok (.ifCond .eq 47, 3) := by decide +kernel
theorem dX11_bookMany_35 : decode cX11_bookMany 35 = .ok (.aload_n 0, 1) := by decide +kernel
theorem dX11_bookMany_36 : decode cX11_bookMany 36 = .ok (.getfield 19, 3) := by decide +kernel
theorem dX11_bookMany_39 : decode cX11_bookMany 39 = .ok (.getfield 138, 3) := by decide +kernel
theorem dX11_bookMany_42 : decode cX11_bookMany 42 = .ok (.ifCond .le 37, 3) := by decide +kernel
theorem dX11_bookMany_45 : decode cX11_bookMany 45 = .ok (.aload_n 1, 1) := by decide +kernel
theorem dX11_bookMany_46 : decode cX11_bookMany 46 = .ok (.invokevirtual 282, 3) := by decide +kernel
theorem dX11_bookMany_49 : decode cX11_bookMany 49 = .ok (.aload_n 0, 1) := by decide +kernel
theorem dX11_bookMany_50 : decode cX11_bookMany 50 = .ok (.getfield 19, 3) := by decide +kernel
theorem dX11_bookMany_53 : decode cX11_bookMany 53 = .ok (.getfield 138, 3) := by decide +kernel
theorem dX11_bookMany_56 : decode cX11_bookMany 56 = .ok (.if_icmp .ge 23, 3) := by decide +kernel
theorem dX11_bookMany_59 : decode cX11_bookMany 59 = .ok (.aload_n 1, 1) := by decide +kernel
theorem dX11_bookMany_60 : decode cX11_bookMany 60 = .ok (.dup, 1) := by decide +kernel
theorem dX11_bookMany_61 : decode cX11_bookMany 61 = .ok (.getfield 285, 3) := by decide +kernel
theorem dX11_bookMany_64 : decode cX11_bookMany 64 = .ok (.iconst 1, 1) := by decide +kernel
theorem dX11_bookMany_65 : decode cX11_bookMany 65 = .ok (.iadd, 1) := by decide +kernel
theorem dX11_bookMany_66 : decode cX11_bookMany 66 = .ok (.putfield 285, 3) := by decide +kernel
theorem dX11_bookMany_69 : decode cX11_bookMany 69 = .ok (.aload_n 0, 1) := by decide +kernel
theorem dX11_bookMany_70 : decode cX11_bookMany 70 = .ok (.getfield 26, 3) := by decide +kernel
theorem dX11_bookMany_73 : decode cX11_bookMany 73 = .ok (.aload_n 1, 1) := by decide +kernel
theorem dX11_bookMany_74 : decode cX11_bookMany 74 = .ok (.iconst 4, 1) := by decide +kernel
theorem dX11_bookMany_75 : decode cX11_bookMany 75 = .ok (.iconst 0, 1) := by decide +kernel
theorem dX11_bookMany_76 : decode cX11_bookMany 76 = .ok (.invokevirtual 278, 3) := by decide +kernel
theorem dX11_bookMany_79 : decode cX11_bookMany 79 = .ok (.return_, 1) := by decide +kernel
theorem dX11_tireAndEat_0 : decode cX11_tireAndEat 0 = .ok (.iconst 0, 1) := by decide +kernel
theorem dX11_tireAndEat_1 : decode cX11_tireAndEat 1 = .ok (.istore_n 3, 1) := by decide +kernel
theorem dX11_tireAndEat_2 : decode cX11_tireAndEat 2 = .ok (.iconst 0, 1) := by decide +kernel
theorem dX11_tireAndEat_3 : decode cX11_tireAndEat 3 = .ok (.istore 4, 2) := by decide +kernel
theorem dX11_tireAndEat_5 : decode cX11_tireAndEat 5 = .ok (.iload 4, 2) := by decide +kernel
theorem dX11_tireAndEat_7 : decode cX11_tireAndEat 7 = .ok (.aload_n 1, 1) := by decide +kernel
theorem dX11_tireAndEat_8 : decode cX11_tireAndEat 8 = .ok (.getfield 111, 3) := by decide +kernel
theorem dX11_tireAndEat_11 : decode cX11_tireAndEat 11 = .ok (.if_icmp .ge 155, 3) := by decide +kernel
theorem dX11_tireAndEat_14 : decode cX11_tireAndEat 14 = .ok (.aload_n 0, 1) := by decide +kernel
theorem dX11_tireAndEat_15 : decode cX11_tireAndEat 15 = .ok (.getfield 60, 3) := by decide +kernel
theorem dX11_tireAndEat_18 : decode cX11_tireAndEat 18 = .ok (.aload_n 1, 1) := by decide +kernel
theorem dX11_tireAndEat_19 : decode cX11_tireAndEat 19 = .ok (.aload_n 0, 1) := by decide +kernel
theorem dX11_tireAndEat_20 : decode cX11_tireAndEat 20 = .ok (.getfield 19, 3) := by decide +kernel
theorem dX11_tireAndEat_23 : decode cX11_tireAndEat 23 = .ok (.getfield 194, 3) := by decide +kernel
theorem dX11_tireAndEat_26 : decode cX11_tireAndEat 26 = .ok (.iload 4, 2) := by decide +kernel
theorem dX11_tireAndEat_28 : decode cX11_tireAndEat 28 = .ok (.invokevirtual 288, 3) := by decide +kernel
theorem dX11_tireAndEat_31 : decode cX11_tireAndEat 31 = .ok (.iload_n 2, 1) := by decide +kernel
theorem dX11_tireAndEat_32 : decode cX11_tireAndEat 32 = .ok (.iload 4, 2) := by decide +kernel
theorem dX11_tireAndEat_34 : decode cX11_tireAndEat 34 = .ok (.ishr, 1) := by decide +kernel
theorem dX11_tireAndEat_35 : decode cX11_tireAndEat 35 = .ok (.iconst 1, 1) := by decide +kernel
theorem dX11_tireAndEat_36 : decode cX11_tireAndEat 36 = .ok (.iand, 1) := by decide +kernel
theorem dX11_tireAndEat_37 : decode cX11_tireAndEat 37 = .ok (.ifCond .eq 81, 3) := by decide +kernel
theorem dX11_tireAndEat_40 : decode cX11_tireAndEat 40 = .ok (.aload_n 0, 1) := by decide +kernel
theorem dX11_tireAndEat_41 : decode cX11_tireAndEat 41 = .ok (.getfield 60, 3) := by decide +kernel
theorem dX11_tireAndEat_44 : decode cX11_tireAndEat 44 = .ok (.aload_n 0, 1) := by decide +kernel
theorem dX11_tireAndEat_45 : decode cX11_tireAndEat 45 = .ok (.getfield 19, 3) := by decide +kernel
theorem dX11_tireAndEat_48 : decode cX11_tireAndEat 48 = .ok (.getfield 76, 3) := by decide +kernel
theorem dX11_tireAndEat_51 : decode cX11_tireAndEat 51 = .ok (.sipush 10011, 3) := by decide +kernel
theorem dX11_tireAndEat_54 : decode cX11_tireAndEat 54 = .ok (.invokevirtual 292, 3) := by decide +kernel
theorem dX11_tireAndEat_57 : decode cX11_tireAndEat 57 = .ok (.istore 5, 2) := by decide +kernel
theorem dX11_tireAndEat_59 : decode cX11_tireAndEat 59 = .ok (.iload_n 3, 1) := by decide +kernel
theorem dX11_tireAndEat_60 : decode cX11_tireAndEat 60 = .ok (.aload_n 0, 1) := by decide +kernel
theorem dX11_tireAndEat_61 : decode cX11_tireAndEat 61 = .ok (.getfield 60, 3) := by decide +kernel
theorem dX11_tireAndEat_64 : decode cX11_tireAndEat 64 = .ok (.aload_n 0, 1) := by decide +kernel
theorem dX11_tireAndEat_65 : decode cX11_tireAndEat 65 = .ok (.getfield 19, 3) := by decide +kernel
theorem dX11_tireAndEat_68 : decode cX11_tireAndEat 68 = .ok (.getfield 76, 3) := by decide +kernel
theorem dX11_tireAndEat_71 : decode cX11_tireAndEat 71 = .ok (.sipush 10013, 3) := by decide +kernel
theorem dX11_tireAndEat_74 : decode cX11_tireAndEat 74 = .ok (.invokevirtual 292, 3) := by decide +kernel
theorem dX11_tireAndEat_77 : decode cX11_tireAndEat 77 = .ok (.iadd, 1) := by decide +kernel
theorem dX11_tireAndEat_78 : decode cX11_tireAndEat 78 = .ok (.istore_n 3, 1) := by decide +kernel
theorem dX11_tireAndEat_79 : decode cX11_tireAndEat 79 = .ok (.aload_n 1, 1) := by decide +kernel
theorem dX11_tireAndEat_80 : decode cX11_tireAndEat 80 = .ok (.getfield 120, 3) := by decide +kernel
theorem dX11_tireAndEat_83 : decode cX11_tireAndEat 83 = .ok (.iload 4, 2) := by decide +kernel
theorem dX11_tireAndEat_85 : decode cX11_tireAndEat 85 = .ok (.aload_n 1, 1) := by decide +kernel
theorem dX11_tireAndEat_86 : decode cX11_tireAndEat 86 = .ok (.getfield 120, 3) := by decide +kernel
theorem dX11_tireAndEat_89 : decode cX11_tireAndEat 89 = .ok (.iload 4, 2) := by decide +kernel
theorem dX11_tireAndEat_91 : decode cX11_tireAndEat 91 = .ok (.iaload, 1) := by decide +kernel
theorem dX11_tireAndEat_92 : decode cX11_tireAndEat 92 = .ok (.iload 5, 2) := by decide +kernel
theorem dX11_tireAndEat_94 : decode cX11_tireAndEat 94 = .ok (.invokestatic 296, 3) := by decide +kernel
theorem dX11_tireAndEat_97 : decode cX11_tireAndEat 97 = .ok (.iastore, 1) := by decide +kernel
theorem dX11_tireAndEat_98 : decode cX11_tireAndEat 98 = .ok (.aload_n 1, 1) := by decide +kernel
theorem dX11_tireAndEat_99 : decode cX11_tireAndEat 99 = .ok (.getfield 123, 3) := by decide +kernel
theorem dX11_tireAndEat_102 : decode cX11_tireAndEat 102 = .ok (.iload 4, 2) := by decide +kernel
theorem dX11_tireAndEat_104 : decode cX11_tireAndEat 104 = .ok (.aload_n 1, 1) := by decide +kernel
theorem dX11_tireAndEat_105 : decode cX11_tireAndEat 105 = .ok (.getfield 123, 3) := by decide +kernel
theorem dX11_tireAndEat_108 : decode cX11_tireAndEat 108 = .ok (.iload 4, 2) := by decide +kernel
theorem dX11_tireAndEat_110 : decode cX11_tireAndEat 110 = .ok (.iaload, 1) := by decide +kernel
theorem dX11_tireAndEat_111 : decode cX11_tireAndEat 111 = .ok (.invokestatic 300, 3) := by decide +kernel
theorem dX11_tireAndEat_114 : decode cX11_tireAndEat 114 = .ok (.iastore, 1) := by decide +kernel
theorem dX11_tireAndEat_115 : decode cX11_tireAndEat 115 = .ok (.goto 45, 3) := by decide +kernel
theorem dX11_tireAndEat_118 : decode cX11_tireAndEat 118 = .ok (.aload_n 1, 1) := by decide +kernel
theorem dX11_tireAndEat_119 : decode cX11_tireAndEat 119 = .ok (.getfield 120, 3) := by decide +kernel
theorem dX11_tireAndEat_122 : decode cX11_tireAndEat 122 = .ok (.iload 4, 2) := by decide +kernel
theorem dX11_tireAndEat_124 : decode cX11_tireAndEat 124 = .ok (.aload_n 1, 1) := by decide +kernel
theorem dX11_tireAndEat_125 : decode cX11_tireAndEat 125 = .ok (.getfield 120, 3) := by decide +kernel
theorem dX11_tireAndEat_128 : decode cX11_tireAndEat 128 = .ok (.iload 4, 2) := by decide +kernel
theorem dX11_tireAndEat_130 : decode cX11_tireAndEat 130 = .ok (.iaload, 1) := by decide +kernel
theorem dX11_tireAndEat_131 : decode cX11_tireAndEat 131 = .ok (.aload_n 0, 1) := by decide +kernel
theorem dX11_tireAndEat_132 : decode cX11_tireAndEat 132 = .ok (.getfield 60, 3) := by decide +kernel
theorem dX11_tireAndEat_135 : decode cX11_tireAndEat 135 = .ok (.aload_n 0, 1) := by decide +kernel
theorem dX11_tireAndEat_136 : decode cX11_tireAndEat 136 = .ok (.getfield 19, 3) := by decide +kernel
theorem dX11_tireAndEat_139 : decode cX11_tireAndEat 139 = .ok (.getfield 76, 3) := by decide +kernel
theorem dX11_tireAndEat_142 : decode cX11_tireAndEat 142 = .ok (.sipush 10012, 3) := by decide +kernel
theorem dX11_tireAndEat_145 : decode cX11_tireAndEat 145 = .ok (.invokevirtual 292, 3) := by decide +kernel
theorem dX11_tireAndEat_148 : decode cX11_tireAndEat 148 = .ok (.invokestatic 303, 3) := by decide +kernel
theorem dX11_tireAndEat_151 : decode cX11_tireAndEat 151 = .ok (.iastore, 1) := by decide +kernel
theorem dX11_tireAndEat_152 : decode cX11_tireAndEat 152 = .ok (.aload_n 1, 1) := by decide +kernel
theorem dX11_tireAndEat_153 : decode cX11_tireAndEat 153 = .ok (.getfield 123, 3) := by decide +kernel
theorem dX11_tireAndEat_156 : decode cX11_tireAndEat 156 = .ok (.iload 4, 2) := by decide +kernel
theorem dX11_tireAndEat_158 : decode cX11_tireAndEat 158 = .ok (.iconst 0, 1) := by decide +kernel
theorem dX11_tireAndEat_159 : decode cX11_tireAndEat 159 = .ok (.iastore, 1) := by decide +kernel
theorem dX11_tireAndEat_160 : decode cX11_tireAndEat 160 = .ok (.iinc 4 1, 3) := by decide +kernel
theorem dX11_tireAndEat_163 : decode cX11_tireAndEat 163 = .ok (.goto (-158), 3) := by decide +kernel
theorem dX11_tireAndEat_166 : decode cX11_tireAndEat 166 = .ok (.aload_n 1, 1) := by decide +kernel
theorem dX11_tireAndEat_167 : decode cX11_tireAndEat 167 = .ok (.iconst 0, 1) := by decide +kernel
theorem dX11_tireAndEat_168 : decode cX11_tireAndEat 168 = .ok (.aload_n 1, 1) := by decide +kernel
theorem dX11_tireAndEat_169 : decode cX11_tireAndEat 169 = .ok (.getfield 132, 3) := by decide +kernel
theorem dX11_tireAndEat_172 : decode cX11_tireAndEat 172 = .ok (.iload_n 3, 1) := by decide +kernel
theorem dX11_tireAndEat_173 : decode cX11_tireAndEat 173 = .ok (.isub, 1) := by decide +kernel
theorem dX11_tireAndEat_174 : decode cX11_tireAndEat 174 = .ok (.invokestatic 306, 3) := by decide +kernel
theorem dX11_tireAndEat_177 : decode cX11_tireAndEat 177 = .ok (.putfield 132, 3) := by decide +kernel
theorem dX11_tireAndEat_180 : decode cX11_tireAndEat 180 = .ok (.return_, 1) := by decide +kernel
theorem dX11_goOn_0 : decode cX11_goOn 0 = .ok (.aload_n 0, 1) := by decide +kernel
theorem dX11_goOn_1 : decode cX11_goOn 1 = .ok (.getfield 19, 3) := by decide +kernel
theorem dX11_goOn_4 : decode cX11_goOn 4 = .ok (.getfield 194, 3) := by decide +kernel
theorem dX11_goOn_7 : decode cX11_goOn 7 = .ok (.astore_n 3, 1) := by decide +kernel
theorem dX11_goOn_8 : decode cX11_goOn 8 = .ok (.iload_n 2, 1) := by decide +kernel
theorem dX11_goOn_9 : decode cX11_goOn 9 = .ok (.ifCond .ne 32, 3) := by decide +kernel
theorem dX11_goOn_12 : decode cX11_goOn 12 = .ok (.aload_n 0, 1) := by decide +kernel
theorem dX11_goOn_13 : decode cX11_goOn 13 = .ok (.getfield 19, 3) := by decide +kernel
theorem dX11_goOn_16 : decode cX11_goOn 16 = .ok (.getfield 135, 3) := by decide +kernel
theorem dX11_goOn_19 : decode cX11_goOn 19 = .ok (.ifCond .le 22, 3) := by decide +kernel
theorem dX11_goOn_22 : decode cX11_goOn 22 = .ok (.aload_n 3, 1) := by decide +kernel
theorem dX11_goOn_23 : decode cX11_goOn 23 = .ok (.aload_n 1, 1) := by decide +kernel
theorem dX11_goOn_24 : decode cX11_goOn 24 = .ok (.getfield 188, 3) := by decide +kernel
theorem dX11_goOn_27 : decode cX11_goOn 27 = .ok (.aload_n 1, 1) := by decide +kernel
theorem dX11_goOn_28 : decode cX11_goOn 28 = .ok (.getfield 191, 3) := by decide +kernel
theorem dX11_goOn_31 : decode cX11_goOn 31 = .ok (.invokevirtual 311, 3) := by decide +kernel
theorem dX11_goOn_34 : decode cX11_goOn 34 = .ok (.ifCond .eq 7, 3) := by decide +kernel
theorem dX11_goOn_37 : decode cX11_goOn 37 = .ok (.iconst 1, 1) := by decide +kernel
theorem dX11_goOn_38 : decode cX11_goOn 38 = .ok (.goto 4, 3) := by decide +kernel
theorem dX11_goOn_41 : decode cX11_goOn 41 = .ok (.iconst 0, 1) := by decide +kernel
theorem dX11_goOn_42 : decode cX11_goOn 42 = .ok (.istore 4, 2) := by decide +kernel
theorem dX11_goOn_44 : decode cX11_goOn 44 = .ok (.iload 4, 2) := by decide +kernel
theorem dX11_goOn_46 : decode cX11_goOn 46 = .ok (.ifCond .eq 28, 3) := by decide +kernel
theorem dX11_goOn_49 : decode cX11_goOn 49 = .ok (.aload_n 1, 1) := by decide +kernel
theorem dX11_goOn_50 : decode cX11_goOn 50 = .ok (.invokevirtual 282, 3) := by decide +kernel
theorem dX11_goOn_53 : decode cX11_goOn 53 = .ok (.aload_n 0, 1) := by decide +kernel
theorem dX11_goOn_54 : decode cX11_goOn 54 = .ok (.getfield 19, 3) := by decide +kernel
theorem dX11_goOn_57 : decode cX11_goOn 57 = .ok (.getfield 135, 3) := by decide +kernel
theorem dX11_goOn_60 : decode cX11_goOn 60 = .ok (.if_icmp .ge 14, 3) := by decide +kernel
theorem dX11_goOn_63 : decode cX11_goOn 63 = .ok (.aload_n 0, 1) := by decide +kernel
theorem dX11_goOn_64 : decode cX11_goOn 64 = .ok (.getfield 26, 3) := by decide +kernel
theorem dX11_goOn_67 : decode cX11_goOn 67 = .ok (.aload_n 1, 1) := by decide +kernel
theorem dX11_goOn_68 : decode cX11_goOn 68 = .ok (.iconst 3, 1) := by decide +kernel
theorem dX11_goOn_69 : decode cX11_goOn 69 = .ok (.iconst 0, 1) := by decide +kernel
theorem dX11_goOn_70 : decode cX11_goOn 70 = .ok (.invokevirtual 278, 3) := by decide +kernel
theorem dX11_goOn_73 : decode cX11_goOn 73 = .ok (.return_, 1) := by decide +kernel
theorem dX11_goOn_74 : decode cX11_goOn 74 = .ok (.aload_n 1, 1) := by decide +kernel
theorem dX11_goOn_75 : decode cX11_goOn 75 = .ok (.dup, 1) := by decide +kernel
theorem dX11_goOn_76 : decode cX11_goOn 76 = .ok (.getfield 191, 3) := by decide +kernel
theorem dX11_goOn_79 : decode cX11_goOn 79 = .ok (.iconst 1, 1) := by decide +kernel
theorem dX11_goOn_80 : decode cX11_goOn 80 = .ok (.iadd, 1) := by decide +kernel
theorem dX11_goOn_81 : decode cX11_goOn 81 = .ok (.putfield 191, 3) := by decide +kernel
theorem dX11_goOn_84 : decode cX11_goOn 84 = .ok (.aload_n 1, 1) := by decide +kernel
theorem dX11_goOn_85 : decode cX11_goOn 85 = .ok (.getfield 191, 3) := by decide +kernel
theorem dX11_goOn_88 : decode cX11_goOn 88 = .ok (.aload_n 3, 1) := by decide +kernel
theorem dX11_goOn_89 : decode cX11_goOn 89 = .ok (.getfield 315, 3) := by decide +kernel
theorem dX11_goOn_92 : decode cX11_goOn 92 = .ok (.aload_n 1, 1) := by decide +kernel
theorem dX11_goOn_93 : decode cX11_goOn 93 = .ok (.getfield 188, 3) := by decide +kernel
theorem dX11_goOn_96 : decode cX11_goOn 96 = .ok (.iaload, 1) := by decide +kernel
theorem dX11_goOn_97 : decode cX11_goOn 97 = .ok (.if_icmp .ge 4, 3) := by decide +kernel
theorem dX11_goOn_100 : decode cX11_goOn 100 = .ok (.return_, 1) := by decide +kernel
theorem dX11_goOn_101 : decode cX11_goOn 101 = .ok (.aload_n 1, 1) := by decide +kernel
theorem dX11_goOn_102 : decode cX11_goOn 102 = .ok (.iconst 0, 1) := by decide +kernel
theorem dX11_goOn_103 : decode cX11_goOn 103 = .ok (.putfield 191, 3) := by decide +kernel
theorem dX11_goOn_106 : decode cX11_goOn 106 = .ok (.aload_n 1, 1) := by decide +kernel
theorem dX11_goOn_107 : decode cX11_goOn 107 = .ok (.dup, 1) := by decide +kernel
theorem dX11_goOn_108 : decode cX11_goOn 108 = .ok (.getfield 188, 3) := by decide +kernel
theorem dX11_goOn_111 : decode cX11_goOn 111 = .ok (.iconst 1, 1) := by decide +kernel
theorem dX11_goOn_112 : decode cX11_goOn 112 = .ok (.iadd, 1) := by decide +kernel
theorem dX11_goOn_113 : decode cX11_goOn 113 = .ok (.putfield 188, 3) := by decide +kernel
theorem dX11_goOn_116 : decode cX11_goOn 116 = .ok (.aload_n 1, 1) := by decide +kernel
theorem dX11_goOn_117 : decode cX11_goOn 117 = .ok (.getfield 188, 3) := by decide +kernel
theorem dX11_goOn_120 : decode cX11_goOn 120 = .ok (.aload_n 3, 1) := by decide +kernel
theorem dX11_goOn_121 : decode cX11_goOn 121 = .ok (.getfield 271, 3) := by decide +kernel
theorem dX11_goOn_124 : decode cX11_goOn 124 = .ok (.if_icmp .lt 18, 3) := by decide +kernel
theorem dX11_goOn_127 : decode cX11_goOn 127 = .ok (.aload_n 1, 1) := by decide +kernel
theorem dX11_goOn_128 : decode cX11_goOn 128 = .ok (.iconst 0, 1) := by decide +kernel
theorem dX11_goOn_129 : decode cX11_goOn 129 = .ok (.putfield 188, 3) := by decide +kernel
theorem dX11_goOn_132 : decode cX11_goOn 132 = .ok (.aload_n 1, 1) := by decide +kernel
theorem dX11_goOn_133 : decode cX11_goOn 133 = .ok (.dup, 1) := by decide +kernel
theorem dX11_goOn_134 : decode cX11_goOn 134 = .ok (.getfield 318, 3) := by decide +kernel
theorem dX11_goOn_137 : decode cX11_goOn 137 = .ok (.iconst 1, 1) := by decide +kernel
theorem dX11_goOn_138 : decode cX11_goOn 138 = .ok (.iadd, 1) := by decide +kernel
theorem dX11_goOn_139 : decode cX11_goOn 139 = .ok (.putfield 318, 3) := by decide +kernel
theorem dX11_goOn_142 : decode cX11_goOn 142 = .ok (.aload_n 1, 1) := by decide +kernel
theorem dX11_goOn_143 : decode cX11_goOn 143 = .ok (.sipush 9999, 3) := by decide +kernel
theorem dX11_goOn_146 : decode cX11_goOn 146 = .ok (.aload_n 1, 1) := by decide +kernel
theorem dX11_goOn_147 : decode cX11_goOn 147 = .ok (.getfield 132, 3) := by decide +kernel
theorem dX11_goOn_150 : decode cX11_goOn 150 = .ok (.aload_n 3, 1) := by decide +kernel
theorem dX11_goOn_151 : decode cX11_goOn 151 = .ok (.getfield 321, 3) := by decide +kernel
theorem dX11_goOn_154 : decode cX11_goOn 154 = .ok (.aload_n 1, 1) := by decide +kernel
theorem dX11_goOn_155 : decode cX11_goOn 155 = .ok (.getfield 188, 3) := by decide +kernel
theorem dX11_goOn_158 : decode cX11_goOn 158 = .ok (.iaload, 1) := by decide +kernel
theorem dX11_goOn_159 : decode cX11_goOn 159 = .ok (.iadd, 1) := by decide +kernel
theorem dX11_goOn_160 : decode cX11_goOn 160 = .ok (.invokestatic 323, 3) := by decide +kernel
theorem dX11_goOn_163 : decode cX11_goOn 163 = .ok (.putfield 132, 3) := by decide +kernel
theorem dX11_goOn_166 : decode cX11_goOn 166 = .ok (.iload_n 2, 1) := by decide +kernel
theorem dX11_goOn_167 : decode cX11_goOn 167 = .ok (.ifCond .ne 16, 3) := by decide +kernel
theorem dX11_goOn_170 : decode cX11_goOn 170 = .ok (.aload_n 0, 1) := by decide +kernel
theorem dX11_goOn_171 : decode cX11_goOn 171 = .ok (.getfield 26, 3) := by decide +kernel
theorem dX11_goOn_174 : decode cX11_goOn 174 = .ok (.aload_n 1, 1) := by decide +kernel
theorem dX11_goOn_175 : decode cX11_goOn 175 = .ok (.iconst 0, 1) := by decide +kernel
theorem dX11_goOn_176 : decode cX11_goOn 176 = .ok (.aload_n 1, 1) := by decide +kernel
theorem dX11_goOn_177 : decode cX11_goOn 177 = .ok (.getfield 188, 3) := by decide +kernel
theorem dX11_goOn_180 : decode cX11_goOn 180 = .ok (.invokevirtual 278, 3) := by decide +kernel
theorem dX11_goOn_183 : decode cX11_goOn 183 = .ok (.return_, 1) := by decide +kernel
theorem dX11_whoGo_0 : decode cX11_whoGo 0 = .ok (.aload_n 1, 1) := by decide +kernel
theorem dX11_whoGo_1 : decode cX11_whoGo 1 = .ok (.getfield 220, 3) := by decide +kernel
theorem dX11_whoGo_4 : decode cX11_whoGo 4 = .ok (.bipush 24, 2) := by decide +kernel
theorem dX11_whoGo_6 : decode cX11_whoGo 6 = .ok (.irem, 1) := by decide +kernel
theorem dX11_whoGo_7 : decode cX11_whoGo 7 = .ok (.istore_n 2, 1) := by decide +kernel
theorem dX11_whoGo_8 : decode cX11_whoGo 8 = .ok (.iconst 0, 1) := by decide +kernel
theorem dX11_whoGo_9 : decode cX11_whoGo 9 = .ok (.istore_n 3, 1) := by decide +kernel
theorem dX11_whoGo_10 : decode cX11_whoGo 10 = .ok (.iconst 0, 1) := by decide +kernel
theorem dX11_whoGo_11 : decode cX11_whoGo 11 = .ok (.istore 4, 2) := by decide +kernel
theorem dX11_whoGo_13 : decode cX11_whoGo 13 = .ok (.iload 4, 2) := by decide +kernel
theorem dX11_whoGo_15 : decode cX11_whoGo 15 = .ok (.aload_n 1, 1) := by decide +kernel
theorem dX11_whoGo_16 : decode cX11_whoGo 16 = .ok (.getfield 111, 3) := by decide +kernel
theorem dX11_whoGo_19 : decode cX11_whoGo 19 = .ok (.if_icmp .ge 72, 3) := by decide +kernel
theorem dX11_whoGo_22 : decode cX11_whoGo 22 = .ok (.aload_n 0, 1) := by decide +kernel
theorem dX11_whoGo_23 : decode cX11_whoGo 23 = .ok (.getfield 19, 3) := by decide +kernel
theorem dX11_whoGo_26 : decode cX11_whoGo 26 = .ok (.getfield 204, 3) := by decide +kernel
theorem dX11_whoGo_29 : decode cX11_whoGo 29 = .ok (.iload 4, 2) := by decide +kernel
theorem dX11_whoGo_31 : decode cX11_whoGo 31 = .ok (.invokevirtual 326, 3) := by decide +kernel
theorem dX11_whoGo_34 : decode cX11_whoGo 34 = .ok (.iload_n 2, 1) := by decide +kernel
theorem dX11_whoGo_35 : decode cX11_whoGo 35 = .ok (.ishr, 1) := by decide +kernel
theorem dX11_whoGo_36 : decode cX11_whoGo 36 = .ok (.iconst 1, 1) := by decide +kernel
theorem dX11_whoGo_37 : decode cX11_whoGo 37 = .ok (.iand, 1) := by decide +kernel
theorem dX11_whoGo_38 : decode cX11_whoGo 38 = .ok (.ifCond .ne 6, 3) := by decide +kernel
theorem dX11_whoGo_41 : decode cX11_whoGo 41 = .ok (.goto 44, 3) := by decide +kernel
theorem dX11_whoGo_44 : decode cX11_whoGo 44 = .ok (.aload_n 0, 1) := by decide +kernel
theorem dX11_whoGo_45 : decode cX11_whoGo 45 = .ok (.getfield 60, 3) := by decide +kernel
theorem dX11_whoGo_48 : decode cX11_whoGo 48 = .ok (.aload_n 1, 1) := by decide +kernel
theorem dX11_whoGo_49 : decode cX11_whoGo 49 = .ok (.aload_n 0, 1) := by decide +kernel
theorem dX11_whoGo_50 : decode cX11_whoGo 50 = .ok (.getfield 19, 3) := by decide +kernel
theorem dX11_whoGo_53 : decode cX11_whoGo 53 = .ok (.getfield 194, 3) := by decide +kernel
theorem dX11_whoGo_56 : decode cX11_whoGo 56 = .ok (.iload 4, 2) := by decide +kernel
theorem dX11_whoGo_58 : decode cX11_whoGo 58 = .ok (.invokevirtual 288, 3) := by decide +kernel
theorem dX11_whoGo_61 : decode cX11_whoGo 61 = .ok (.aload_n 0, 1) := by decide +kernel
theorem dX11_whoGo_62 : decode cX11_whoGo 62 = .ok (.getfield 60, 3) := by decide +kernel
theorem dX11_whoGo_65 : decode cX11_whoGo 65 = .ok (.aload_n 0, 1) := by decide +kernel
theorem dX11_whoGo_66 : decode cX11_whoGo 66 = .ok (.getfield 19, 3) := by decide +kernel
theorem dX11_whoGo_69 : decode cX11_whoGo 69 = .ok (.getfield 162, 3) := by decide +kernel
theorem dX11_whoGo_72 : decode cX11_whoGo 72 = .ok (.invokevirtual 329, 3) := by decide +kernel
theorem dX11_whoGo_75 : decode cX11_whoGo 75 = .ok (.ifCond .eq 10, 3) := by decide +kernel
theorem dX11_whoGo_78 : decode cX11_whoGo 78 = .ok (.iload_n 3, 1) := by decide +kernel
theorem dX11_whoGo_79 : decode cX11_whoGo 79 = .ok (.iconst 1, 1) := by decide +kernel
theorem dX11_whoGo_80 : decode cX11_whoGo 80 = .ok (.iload 4, 2) := by decide +kernel
theorem dX11_whoGo_82 : decode cX11_whoGo 82 = .ok (.ishl, 1) := by decide +kernel
theorem dX11_whoGo_83 : decode cX11_whoGo 83 = .ok (.ior, 1) := by decide +kernel
theorem dX11_whoGo_84 : decode cX11_whoGo 84 = .ok (.istore_n 3, 1) := by decide +kernel
theorem dX11_whoGo_85 : decode cX11_whoGo 85 = .ok (.iinc 4 1, 3) := by decide +kernel
theorem dX11_whoGo_88 : decode cX11_whoGo 88 = .ok (.goto (-75), 3) := by decide +kernel
theorem dX11_whoGo_91 : decode cX11_whoGo 91 = .ok (.iload_n 3, 1) := by decide +kernel
theorem dX11_whoGo_92 : decode cX11_whoGo 92 = .ok (.ireturn, 1) := by decide +kernel
theorem dX11_of_0 : decode cX11_of 0 = .ok (.aload_n 0, 1) := by decide +kernel
theorem dX11_of_1 : decode cX11_of 1 = .ok (.iload_n 1, 1) := by decide +kernel
theorem dX11_of_2 : decode cX11_of 2 = .ok (.invokevirtual 141, 3) := by decide +kernel
theorem dX11_of_5 : decode cX11_of 5 = .ok (.ifCond .ne 6, 3) := by decide +kernel
theorem dX11_of_8 : decode cX11_of 8 = .ok (.bipush (-2), 2) := by decide +kernel
theorem dX11_of_10 : decode cX11_of 10 = .ok (.ireturn, 1) := by decide +kernel
theorem dX11_of_11 : decode cX11_of 11 = .ok (.iload_n 2, 1) := by decide +kernel
theorem dX11_of_12 : decode cX11_of 12 = .ok (.tableswitch 144 0 8 #[52, 62, 72, 82, 92, 105, 114, 123, 132], 52) := by decide +kernel
theorem dX11_of_64 : decode cX11_of 64 = .ok (.aload_n 0, 1) := by decide +kernel
theorem dX11_of_65 : decode cX11_of 65 = .ok (.getfield 12, 3) := by decide +kernel
theorem dX11_of_68 : decode cX11_of 68 = .ok (.getfield 114, 3) := by decide +kernel
theorem dX11_of_71 : decode cX11_of 71 = .ok (.iload_n 1, 1) := by decide +kernel
theorem dX11_of_72 : decode cX11_of 72 = .ok (.iaload, 1) := by decide +kernel
theorem dX11_of_73 : decode cX11_of 73 = .ok (.ireturn, 1) := by decide +kernel
theorem dX11_of_74 : decode cX11_of 74 = .ok (.aload_n 0, 1) := by decide +kernel
theorem dX11_of_75 : decode cX11_of 75 = .ok (.getfield 12, 3) := by decide +kernel
theorem dX11_of_78 : decode cX11_of 78 = .ok (.getfield 117, 3) := by decide +kernel
theorem dX11_of_81 : decode cX11_of 81 = .ok (.iload_n 1, 1) := by decide +kernel
theorem dX11_of_82 : decode cX11_of 82 = .ok (.iaload, 1) := by decide +kernel
theorem dX11_of_83 : decode cX11_of 83 = .ok (.ireturn, 1) := by decide +kernel
theorem dX11_of_84 : decode cX11_of 84 = .ok (.aload_n 0, 1) := by decide +kernel
theorem dX11_of_85 : decode cX11_of 85 = .ok (.getfield 12, 3) := by decide +kernel
theorem dX11_of_88 : decode cX11_of 88 = .ok (.getfield 120, 3) := by decide +kernel
theorem dX11_of_91 : decode cX11_of 91 = .ok (.iload_n 1, 1) := by decide +kernel
theorem dX11_of_92 : decode cX11_of 92 = .ok (.iaload, 1) := by decide +kernel
theorem dX11_of_93 : decode cX11_of 93 = .ok (.ireturn, 1) := by decide +kernel
theorem dX11_of_94 : decode cX11_of 94 = .ok (.aload_n 0, 1) := by decide +kernel
theorem dX11_of_95 : decode cX11_of 95 = .ok (.getfield 12, 3) := by decide +kernel
theorem dX11_of_98 : decode cX11_of 98 = .ok (.getfield 123, 3) := by decide +kernel
theorem dX11_of_101 : decode cX11_of 101 = .ok (.iload_n 1, 1) := by decide +kernel
theorem dX11_of_102 : decode cX11_of 102 = .ok (.iaload, 1) := by decide +kernel
theorem dX11_of_103 : decode cX11_of 103 = .ok (.ireturn, 1) := by decide +kernel
theorem dX11_of_104 : decode cX11_of 104 = .ok (.aload_n 0, 1) := by decide +kernel
theorem dX11_of_105 : decode cX11_of 105 = .ok (.aload_n 0, 1) := by decide +kernel
theorem dX11_of_106 : decode cX11_of 106 = .ok (.getfield 12, 3) := by decide +kernel
theorem dX11_of_109 : decode cX11_of 109 = .ok (.invokevirtual 247, 3) := by decide +kernel
theorem dX11_of_112 : decode cX11_of 112 = .ok (.iload_n 1, 1) := by decide +kernel
theorem dX11_of_113 : decode cX11_of 113 = .ok (.ishr, 1) := by decide +kernel
theorem dX11_of_114 : decode cX11_of 114 = .ok (.iconst 1, 1) := by decide +kernel
theorem dX11_of_115 : decode cX11_of 115 = .ok (.iand, 1) := by decide +kernel
theorem dX11_of_116 : decode cX11_of 116 = .ok (.ireturn, 1) := by decide +kernel
theorem dX11_of_117 : decode cX11_of 117 = .ok (.aload_n 0, 1) := by decide +kernel
theorem dX11_of_118 : decode cX11_of 118 = .ok (.iload_n 1, 1) := by decide +kernel
theorem dX11_of_119 : decode cX11_of 119 = .ok (.sipush 10011, 3) := by decide +kernel
theorem dX11_of_122 : decode cX11_of 122 = .ok (.invokevirtual 333, 3) := by decide +kernel
theorem dX11_of_125 : decode cX11_of 125 = .ok (.ireturn, 1) := by decide +kernel
theorem dX11_of_126 : decode cX11_of 126 = .ok (.aload_n 0, 1) := by decide +kernel
theorem dX11_of_127 : decode cX11_of 127 = .ok (.iload_n 1, 1) := by decide +kernel
theorem dX11_of_128 : decode cX11_of 128 = .ok (.sipush 10012, 3) := by decide +kernel
theorem dX11_of_131 : decode cX11_of 131 = .ok (.invokevirtual 333, 3) := by decide +kernel
theorem dX11_of_134 : decode cX11_of 134 = .ok (.ireturn, 1) := by decide +kernel
theorem dX11_of_135 : decode cX11_of 135 = .ok (.aload_n 0, 1) := by decide +kernel
theorem dX11_of_136 : decode cX11_of 136 = .ok (.iload_n 1, 1) := by decide +kernel
theorem dX11_of_137 : decode cX11_of 137 = .ok (.sipush 10013, 3) := by decide +kernel
theorem dX11_of_140 : decode cX11_of 140 = .ok (.invokevirtual 333, 3) := by decide +kernel
theorem dX11_of_143 : decode cX11_of 143 = .ok (.ireturn, 1) := by decide +kernel
theorem dX11_of_144 : decode cX11_of 144 = .ok (.aload_n 0, 1) := by decide +kernel
theorem dX11_of_145 : decode cX11_of 145 = .ok (.getfield 19, 3) := by decide +kernel
theorem dX11_of_148 : decode cX11_of 148 = .ok (.getfield 204, 3) := by decide +kernel
theorem dX11_of_151 : decode cX11_of 151 = .ok (.iload_n 1, 1) := by decide +kernel
theorem dX11_of_152 : decode cX11_of 152 = .ok (.invokevirtual 326, 3) := by decide +kernel
theorem dX11_of_155 : decode cX11_of 155 = .ok (.ireturn, 1) := by decide +kernel
theorem dX11_of_156 : decode cX11_of 156 = .ok (.bipush (-2), 2) := by decide +kernel
theorem dX11_of_158 : decode cX11_of 158 = .ok (.ireturn, 1) := by decide +kernel
theorem dX11_amountNow_0 : decode cX11_amountNow 0 = .ok (.aload_n 0, 1) := by decide +kernel
theorem dX11_amountNow_1 : decode cX11_amountNow 1 = .ok (.getfield 60, 3) := by decide +kernel
theorem dX11_amountNow_4 : decode cX11_amountNow 4 = .ok (.aload_n 0, 1) := by decide +kernel
theorem dX11_amountNow_5 : decode cX11_amountNow 5 = .ok (.getfield 12, 3) := by decide +kernel
theorem dX11_amountNow_8 : decode cX11_amountNow 8 = .ok (.aload_n 0, 1) := by decide +kernel
theorem dX11_amountNow_9 : decode cX11_amountNow 9 = .ok (.getfield 19, 3) := by decide +kernel
theorem dX11_amountNow_12 : decode cX11_amountNow 12 = .ok (.getfield 194, 3) := by decide +kernel
theorem dX11_amountNow_15 : decode cX11_amountNow 15 = .ok (.iload_n 1, 1) := by decide +kernel
theorem dX11_amountNow_16 : decode cX11_amountNow 16 = .ok (.invokevirtual 288, 3) := by decide +kernel
theorem dX11_amountNow_19 : decode cX11_amountNow 19 = .ok (.aload_n 0, 1) := by decide +kernel
theorem dX11_amountNow_20 : decode cX11_amountNow 20 = .ok (.getfield 60, 3) := by decide +kernel
theorem dX11_amountNow_23 : decode cX11_amountNow 23 = .ok (.aload_n 0, 1) := by decide +kernel
theorem dX11_amountNow_24 : decode cX11_amountNow 24 = .ok (.getfield 19, 3) := by decide +kernel
theorem dX11_amountNow_27 : decode cX11_amountNow 27 = .ok (.getfield 76, 3) := by decide +kernel
theorem dX11_amountNow_30 : decode cX11_amountNow 30 = .ok (.iload_n 2, 1) := by decide +kernel
theorem dX11_amountNow_31 : decode cX11_amountNow 31 = .ok (.invokevirtual 292, 3) := by decide +kernel
theorem dX11_amountNow_34 : decode cX11_amountNow 34 = .ok (.ireturn, 1) := by decide +kernel
theorem dX11_tireAt_0 : decode cX11_tireAt 0 = .ok (.aload_n 0, 1) := by decide +kernel
theorem dX11_tireAt_1 : decode cX11_tireAt 1 = .ok (.getfield 60, 3) := by decide +kernel
theorem dX11_tireAt_4 : decode cX11_tireAt 4 = .ok (.aload_n 0, 1) := by decide +kernel
theorem dX11_tireAt_5 : decode cX11_tireAt 5 = .ok (.getfield 12, 3) := by decide +kernel
theorem dX11_tireAt_8 : decode cX11_tireAt 8 = .ok (.aload_n 0, 1) := by decide +kernel
theorem dX11_tireAt_9 : decode cX11_tireAt 9 = .ok (.getfield 19, 3) := by decide +kernel
theorem dX11_tireAt_12 : decode cX11_tireAt 12 = .ok (.getfield 194, 3) := by decide +kernel
theorem dX11_tireAt_15 : decode cX11_tireAt 15 = .ok (.iload_n 1, 1) := by decide +kernel
theorem dX11_tireAt_16 : decode cX11_tireAt 16 = .ok (.invokevirtual 288, 3) := by decide +kernel
theorem dX11_tireAt_19 : decode cX11_tireAt 19 = .ok (.aload_n 0, 1) := by decide +kernel
theorem dX11_tireAt_20 : decode cX11_tireAt 20 = .ok (.getfield 60, 3) := by decide +kernel
theorem dX11_tireAt_23 : decode cX11_tireAt 23 = .ok (.iload_n 2, 1) := by decide +kernel
theorem dX11_tireAt_24 : decode cX11_tireAt 24 = .ok (.invokevirtual 336, 3) := by decide +kernel
theorem dX11_tireAt_27 : decode cX11_tireAt 27 = .ok (.aload_n 0, 1) := by decide +kernel
theorem dX11_tireAt_28 : decode cX11_tireAt 28 = .ok (.getfield 60, 3) := by decide +kernel
theorem dX11_tireAt_31 : decode cX11_tireAt 31 = .ok (.aload_n 0, 1) := by decide +kernel
theorem dX11_tireAt_32 : decode cX11_tireAt 32 = .ok (.getfield 19, 3) := by decide +kernel
theorem dX11_tireAt_35 : decode cX11_tireAt 35 = .ok (.getfield 76, 3) := by decide +kernel
theorem dX11_tireAt_38 : decode cX11_tireAt 38 = .ok (.sipush 10011, 3) := by decide +kernel
theorem dX11_tireAt_41 : decode cX11_tireAt 41 = .ok (.invokevirtual 292, 3) := by decide +kernel
theorem dX11_tireAt_44 : decode cX11_tireAt 44 = .ok (.ireturn, 1) := by decide +kernel
theorem dX11_stone_0 : decode cX11_stone 0 = .ok (.aload_n 0, 1) := by decide +kernel
theorem dX11_stone_1 : decode cX11_stone 1 = .ok (.getfield 19, 3) := by decide +kernel
theorem dX11_stone_4 : decode cX11_stone 4 = .ok (.getfield 194, 3) := by decide +kernel
theorem dX11_stone_7 : decode cX11_stone 7 = .ok (.astore_n 3, 1) := by decide +kernel
theorem dX11_stone_8 : decode cX11_stone 8 = .ok (.iload_n 1, 1) := by decide +kernel
theorem dX11_stone_9 : decode cX11_stone 9 = .ok (.iconst 0, 1) := by decide +kernel
theorem dX11_stone_10 : decode cX11_stone 10 = .ok (.aload_n 3, 1) := by decide +kernel
theorem dX11_stone_11 : decode cX11_stone 11 = .ok (.getfield 271, 3) := by decide +kernel
theorem dX11_stone_14 : decode cX11_stone 14 = .ok (.iconst 1, 1) := by decide +kernel
theorem dX11_stone_15 : decode cX11_stone 15 = .ok (.isub, 1) := by decide +kernel
theorem dX11_stone_16 : decode cX11_stone 16 = .ok (.invokestatic 107, 3) := by decide +kernel
theorem dX11_stone_19 : decode cX11_stone 19 = .ok (.ifCond .ne 5, 3) := by decide +kernel
theorem dX11_stone_22 : decode cX11_stone 22 = .ok (.iconst (-1), 1) := by decide +kernel
theorem dX11_stone_23 : decode cX11_stone 23 = .ok (.ireturn, 1) := by decide +kernel
theorem dX11_stone_24 : decode cX11_stone 24 = .ok (.iload_n 2, 1) := by decide +kernel
theorem dX11_stone_25 : decode cX11_stone 25 = .ok (.tableswitch 59 0 3 #[31, 38, 45, 52], 31) := by decide +kernel
theorem dX11_stone_56 : decode cX11_stone 56 = .ok (.aload_n 3, 1) := by decide +kernel
theorem dX11_stone_57 : decode cX11_stone 57 = .ok (.getfield 339, 3) := by decide +kernel
theorem dX11_stone_60 : decode cX11_stone 60 = .ok (.iload_n 1, 1) := by decide +kernel
theorem dX11_stone_61 : decode cX11_stone 61 = .ok (.iaload, 1) := by decide +kernel
theorem dX11_stone_62 : decode cX11_stone 62 = .ok (.ireturn, 1) := by decide +kernel
theorem dX11_stone_63 : decode cX11_stone 63 = .ok (.aload_n 3, 1) := by decide +kernel
theorem dX11_stone_64 : decode cX11_stone 64 = .ok (.getfield 315, 3) := by decide +kernel
theorem dX11_stone_67 : decode cX11_stone 67 = .ok (.iload_n 1, 1) := by decide +kernel
theorem dX11_stone_68 : decode cX11_stone 68 = .ok (.iaload, 1) := by decide +kernel
theorem dX11_stone_69 : decode cX11_stone 69 = .ok (.ireturn, 1) := by decide +kernel
theorem dX11_stone_70 : decode cX11_stone 70 = .ok (.aload_n 3, 1) := by decide +kernel
theorem dX11_stone_71 : decode cX11_stone 71 = .ok (.getfield 340, 3) := by decide +kernel
theorem dX11_stone_74 : decode cX11_stone 74 = .ok (.iload_n 1, 1) := by decide +kernel
theorem dX11_stone_75 : decode cX11_stone 75 = .ok (.iaload, 1) := by decide +kernel
theorem dX11_stone_76 : decode cX11_stone 76 = .ok (.ireturn, 1) := by decide +kernel
theorem dX11_stone_77 : decode cX11_stone 77 = .ok (.aload_n 3, 1) := by decide +kernel
theorem dX11_stone_78 : decode cX11_stone 78 = .ok (.getfield 321, 3) := by decide +kernel
theorem dX11_stone_81 : decode cX11_stone 81 = .ok (.iload_n 1, 1) := by decide +kernel
theorem dX11_stone_82 : decode cX11_stone 82 = .ok (.iaload, 1) := by decide +kernel
theorem dX11_stone_83 : decode cX11_stone 83 = .ok (.ireturn, 1) := by decide +kernel
theorem dX11_stone_84 : decode cX11_stone 84 = .ok (.iconst (-1), 1) := by decide +kernel
theorem dX11_stone_85 : decode cX11_stone 85 = .ok (.ireturn, 1) := by decide +kernel
theorem dX11_roadOf_0 : decode cX11_roadOf 0 = .ok (.iload_n 1, 1) := by decide +kernel
theorem dX11_roadOf_1 : decode cX11_roadOf 1 = .ok (.invokestatic 103, 3) := by decide +kernel
theorem dX11_roadOf_4 : decode cX11_roadOf 4 = .ok (.ifCond .eq 10, 3) := by decide +kernel
theorem dX11_roadOf_7 : decode cX11_roadOf 7 = .ok (.iload_n 2, 1) := by decide +kernel
theorem dX11_roadOf_8 : decode cX11_roadOf 8 = .ok (.invokestatic 103, 3) := by decide +kernel
theorem dX11_roadOf_11 : decode cX11_roadOf 11 = .ok (.ifCond .ne 5, 3) := by decide +kernel
theorem dX11_roadOf_14 : decode cX11_roadOf 14 = .ok (.iconst (-1), 1) := by decide +kernel
theorem dX11_roadOf_15 : decode cX11_roadOf 15 = .ok (.ireturn, 1) := by decide +kernel
theorem dX11_roadOf_16 : decode cX11_roadOf 16 = .ok (.aload_n 0, 1) := by decide +kernel
theorem dX11_roadOf_17 : decode cX11_roadOf 17 = .ok (.getfield 19, 3) := by decide +kernel
theorem dX11_roadOf_20 : decode cX11_roadOf 20 = .ok (.getfield 144, 3) := by decide +kernel
theorem dX11_roadOf_23 : decode cX11_roadOf 23 = .ok (.iload_n 1, 1) := by decide +kernel
theorem dX11_roadOf_24 : decode cX11_roadOf 24 = .ok (.bipush 8, 2) := by decide +kernel
theorem dX11_roadOf_26 : decode cX11_roadOf 26 = .ok (.imul, 1) := by decide +kernel
theorem dX11_roadOf_27 : decode cX11_roadOf 27 = .ok (.iload_n 2, 1) := by decide +kernel
theorem dX11_roadOf_28 : decode cX11_roadOf 28 = .ok (.iadd, 1) := by decide +kernel
theorem dX11_roadOf_29 : decode cX11_roadOf 29 = .ok (.iaload, 1) := by decide +kernel
theorem dX11_roadOf_30 : decode cX11_roadOf 30 = .ok (.istore_n 3, 1) := by decide +kernel
theorem dX11_roadOf_31 : decode cX11_roadOf 31 = .ok (.iload_n 3, 1) := by decide +kernel
theorem dX11_roadOf_32 : decode cX11_roadOf 32 = .ok (.ifCond .le 7, 3) := by decide +kernel
theorem dX11_roadOf_35 : decode cX11_roadOf 35 = .ok (.iload_n 3, 1) := by decide +kernel
theorem dX11_roadOf_36 : decode cX11_roadOf 36 = .ok (.goto 4, 3) := by decide +kernel
theorem dX11_roadOf_39 : decode cX11_roadOf 39 = .ok (.iconst (-1), 1) := by decide +kernel
theorem dX11_roadOf_40 : decode cX11_roadOf 40 = .ok (.ireturn, 1) := by decide +kernel
theorem dX11_book_0 : decode cX11_book 0 = .ok (.iload_n 1, 1) := by decide +kernel
theorem dX11_book_1 : decode cX11_book 1 = .ok (.iconst 0, 1) := by decide +kernel
theorem dX11_book_2 : decode cX11_book 2 = .ok (.aload_n 0, 1) := by decide +kernel
theorem dX11_book_3 : decode cX11_book 3 = .ok (.getfield 12, 3) := by decide +kernel
theorem dX11_book_6 : decode cX11_book 6 = .ok (.getfield 343, 3) := by decide +kernel
theorem dX11_book_9 : decode cX11_book 9 = .ok (.iconst 1, 1) := by decide +kernel
theorem dX11_book_10 : decode cX11_book 10 = .ok (.isub, 1) := by decide +kernel
theorem dX11_book_11 : decode cX11_book 11 = .ok (.invokestatic 107, 3) := by decide +kernel
theorem dX11_book_14 : decode cX11_book 14 = .ok (.ifCond .ne 5, 3) := by decide +kernel
theorem dX11_book_17 : decode cX11_book 17 = .ok (.iconst (-1), 1) := by decide +kernel
theorem dX11_book_18 : decode cX11_book 18 = .ok (.ireturn, 1) := by decide +kernel
theorem dX11_book_19 : decode cX11_book 19 = .ok (.iload_n 2, 1) := by decide +kernel
theorem dX11_book_20 : decode cX11_book 20 = .ok (.tableswitch 58 0 2 #[28, 38, 48], 28) := by decide +kernel
theorem dX11_book_48 : decode cX11_book 48 = .ok (.aload_n 0, 1) := by decide +kernel
theorem dX11_book_49 : decode cX11_book 49 = .ok (.getfield 26, 3) := by decide +kernel
theorem dX11_book_52 : decode cX11_book 52 = .ok (.getfield 346, 3) := by decide +kernel
theorem dX11_book_55 : decode cX11_book 55 = .ok (.iload_n 1, 1) := by decide +kernel
theorem dX11_book_56 : decode cX11_book 56 = .ok (.iaload, 1) := by decide +kernel
theorem dX11_book_57 : decode cX11_book 57 = .ok (.ireturn, 1) := by decide +kernel
theorem dX11_book_58 : decode cX11_book 58 = .ok (.aload_n 0, 1) := by decide +kernel
theorem dX11_book_59 : decode cX11_book 59 = .ok (.getfield 26, 3) := by decide +kernel
theorem dX11_book_62 : decode cX11_book 62 = .ok (.getfield 348, 3) := by decide +kernel
theorem dX11_book_65 : decode cX11_book 65 = .ok (.iload_n 1, 1) := by decide +kernel
theorem dX11_book_66 : decode cX11_book 66 = .ok (.iaload, 1) := by decide +kernel
theorem dX11_book_67 : decode cX11_book 67 = .ok (.ireturn, 1) := by decide +kernel
theorem dX11_book_68 : decode cX11_book 68 = .ok (.aload_n 0, 1) := by decide +kernel
theorem dX11_book_69 : decode cX11_book 69 = .ok (.getfield 26, 3) := by decide +kernel
theorem dX11_book_72 : decode cX11_book 72 = .ok (.getfield 351, 3) := by decide +kernel
theorem dX11_book_75 : decode cX11_book 75 = .ok (.iload_n 1, 1) := by decide +kernel
theorem dX11_book_76 : decode cX11_book 76 = .ok (.iaload, 1) := by decide +kernel
theorem dX11_book_77 : decode cX11_book 77 = .ok (.ireturn, 1) := by decide +kernel
theorem dX11_book_78 : decode cX11_book 78 = .ok (.iconst (-1), 1) := by decide +kernel
theorem dX11_book_79 : decode cX11_book 79 = .ok (.ireturn, 1) := by decide +kernel
theorem dX11_look_0 : decode cX11_look 0 = .ok (.iload_n 1, 1) := by decide +kernel
theorem dX11_look_1 : decode cX11_look 1 = .ok (.tableswitch 291 0 22 #[107, 115, 123, 131, 139, 147, 155, 163, 171, 179, 188, 196, 204, 215, 226, 237, 248, 256, 291, 291, 267, 275, 283], 107) := by decide +kernel
theorem dX11_look_108 : decode cX11_look 108 = .ok (.aload_n 0, 1) := by decide +kernel
theorem dX11_look_109 : decode cX11_look 109 = .ok (.getfield 12, 3) := by decide +kernel
theorem dX11_look_112 : decode cX11_look 112 = .ok (.getfield 111, 3) := by decide +kernel
theorem dX11_look_115 : decode cX11_look 115 = .ok (.ireturn, 1) := by decide +kernel
theorem dX11_look_116 : decode cX11_look 116 = .ok (.aload_n 0, 1) := by decide +kernel
theorem dX11_look_117 : decode cX11_look 117 = .ok (.getfield 12, 3) := by decide +kernel
theorem dX11_look_120 : decode cX11_look 120 = .ok (.getfield 220, 3) := by decide +kernel
theorem dX11_look_123 : decode cX11_look 123 = .ok (.ireturn, 1) := by decide +kernel
theorem dX11_look_124 : decode cX11_look 124 = .ok (.aload_n 0, 1) := by decide +kernel
theorem dX11_look_125 : decode cX11_look 125 = .ok (.getfield 12, 3) := by decide +kernel
theorem dX11_look_128 : decode cX11_look 128 = .ok (.getfield 188, 3) := by decide +kernel
theorem dX11_look_131 : decode cX11_look 131 = .ok (.ireturn, 1) := by decide +kernel
theorem dX11_look_132 : decode cX11_look 132 = .ok (.aload_n 0, 1) := by decide +kernel
theorem dX11_look_133 : decode cX11_look 133 = .ok (.getfield 12, 3) := by decide +kernel
theorem dX11_look_136 : decode cX11_look 136 = .ok (.getfield 191, 3) := by decide +kernel
theorem dX11_look_139 : decode cX11_look 139 = .ok (.ireturn, 1) := by decide +kernel
theorem dX11_look_140 : decode cX11_look 140 = .ok (.aload_n 0, 1) := by decide +kernel
theorem dX11_look_141 : decode cX11_look 141 = .ok (.getfield 12, 3) := by decide +kernel
theorem dX11_look_144 : decode cX11_look 144 = .ok (.getfield 257, 3) := by decide +kernel
theorem dX11_look_147 : decode cX11_look 147 = .ok (.ireturn, 1) := by decide +kernel
theorem dX11_look_148 : decode cX11_look 148 = .ok (.aload_n 0, 1) := by decide +kernel
theorem dX11_look_149 : decode cX11_look 149 = .ok (.getfield 12, 3) := by decide +kernel
theorem dX11_look_152 : decode cX11_look 152 = .ok (.getfield 260, 3) := by decide +kernel
theorem dX11_look_155 : decode cX11_look 155 = .ok (.ireturn, 1) := by decide +kernel
theorem dX11_look_156 : decode cX11_look 156 = .ok (.aload_n 0, 1) := by decide +kernel
theorem dX11_look_157 : decode cX11_look 157 = .ok (.getfield 12, 3) := by decide +kernel
theorem dX11_look_160 : decode cX11_look 160 = .ok (.getfield 285, 3) := by decide +kernel
theorem dX11_look_163 : decode cX11_look 163 = .ok (.ireturn, 1) := by decide +kernel
theorem dX11_look_164 : decode cX11_look 164 = .ok (.aload_n 0, 1) := by decide +kernel
theorem dX11_look_165 : decode cX11_look 165 = .ok (.getfield 12, 3) := by decide +kernel
theorem dX11_look_168 : decode cX11_look 168 = .ok (.getfield 318, 3) := by decide +kernel
theorem dX11_look_171 : decode cX11_look 171 = .ok (.ireturn, 1) := by decide +kernel
theorem dX11_look_172 : decode cX11_look 172 = .ok (.aload_n 0, 1) := by decide +kernel
theorem dX11_look_173 : decode cX11_look 173 = .ok (.getfield 12, 3) := by decide +kernel
theorem dX11_look_176 : decode cX11_look 176 = .ok (.getfield 132, 3) := by decide +kernel
theorem dX11_look_179 : decode cX11_look 179 = .ok (.ireturn, 1) := by decide +kernel
theorem dX11_look_180 : decode cX11_look 180 = .ok (.aload_n 0, 1) := by decide +kernel
theorem dX11_look_181 : decode cX11_look 181 = .ok (.aload_n 0, 1) := by decide +kernel
theorem dX11_look_182 : decode cX11_look 182 = .ok (.getfield 12, 3) := by decide +kernel
theorem dX11_look_185 : decode cX11_look 185 = .ok (.invokevirtual 247, 3) := by decide +kernel
theorem dX11_look_188 : decode cX11_look 188 = .ok (.ireturn, 1) := by decide +kernel
theorem dX11_look_189 : decode cX11_look 189 = .ok (.aload_n 0, 1) := by decide +kernel
theorem dX11_look_190 : decode cX11_look 190 = .ok (.getfield 12, 3) := by decide +kernel
theorem dX11_look_193 : decode cX11_look 193 = .ok (.getfield 343, 3) := by decide +kernel
theorem dX11_look_196 : decode cX11_look 196 = .ok (.ireturn, 1) := by decide +kernel
theorem dX11_look_197 : decode cX11_look 197 = .ok (.aload_n 0, 1) := by decide +kernel
theorem dX11_look_198 : decode cX11_look 198 = .ok (.getfield 12, 3) := by decide +kernel
theorem dX11_look_201 : decode cX11_look 201 = .ok (.getfield 96, 3) := by decide +kernel
theorem dX11_look_204 : decode cX11_look 204 = .ok (.ireturn, 1) := by decide +kernel
theorem dX11_look_205 : decode cX11_look 205 = .ok (.aload_n 0, 1) := by decide +kernel
theorem dX11_look_206 : decode cX11_look 206 = .ok (.getfield 19, 3) := by decide +kernel
theorem dX11_look_209 : decode cX11_look 209 = .ok (.getfield 162, 3) := by decide +kernel
theorem dX11_look_212 : decode cX11_look 212 = .ok (.getfield 354, 3) := by decide +kernel
theorem dX11_look_215 : decode cX11_look 215 = .ok (.ireturn, 1) := by decide +kernel
theorem dX11_look_216 : decode cX11_look 216 = .ok (.aload_n 0, 1) := by decide +kernel
theorem dX11_look_217 : decode cX11_look 217 = .ok (.getfield 19, 3) := by decide +kernel
theorem dX11_look_220 : decode cX11_look 220 = .ok (.getfield 76, 3) := by decide +kernel
theorem dX11_look_223 : decode cX11_look 223 = .ok (.getfield 354, 3) := by decide +kernel
theorem dX11_look_226 : decode cX11_look 226 = .ok (.ireturn, 1) := by decide +kernel
theorem dX11_look_227 : decode cX11_look 227 = .ok (.aload_n 0, 1) := by decide +kernel
theorem dX11_look_228 : decode cX11_look 228 = .ok (.getfield 19, 3) := by decide +kernel
theorem dX11_look_231 : decode cX11_look 231 = .ok (.getfield 194, 3) := by decide +kernel
theorem dX11_look_234 : decode cX11_look 234 = .ok (.getfield 271, 3) := by decide +kernel
theorem dX11_look_237 : decode cX11_look 237 = .ok (.ireturn, 1) := by decide +kernel
theorem dX11_look_238 : decode cX11_look 238 = .ok (.aload_n 0, 1) := by decide +kernel
theorem dX11_look_239 : decode cX11_look 239 = .ok (.getfield 19, 3) := by decide +kernel
theorem dX11_look_242 : decode cX11_look 242 = .ok (.getfield 204, 3) := by decide +kernel
theorem dX11_look_245 : decode cX11_look 245 = .ok (.getfield 357, 3) := by decide +kernel
theorem dX11_look_248 : decode cX11_look 248 = .ok (.ireturn, 1) := by decide +kernel
theorem dX11_look_249 : decode cX11_look 249 = .ok (.aload_n 0, 1) := by decide +kernel
theorem dX11_look_250 : decode cX11_look 250 = .ok (.getfield 33, 3) := by decide +kernel
theorem dX11_look_253 : decode cX11_look 253 = .ok (.getfield 358, 3) := by decide +kernel
theorem dX11_look_256 : decode cX11_look 256 = .ok (.ireturn, 1) := by decide +kernel
theorem dX11_look_257 : decode cX11_look 257 = .ok (.aload_n 0, 1) := by decide +kernel
theorem dX11_look_258 : decode cX11_look 258 = .ok (.getfield 19, 3) := by decide +kernel
theorem dX11_look_261 : decode cX11_look 261 = .ok (.getfield 194, 3) := by decide +kernel
theorem dX11_look_264 : decode cX11_look 264 = .ok (.invokevirtual 361, 3) := by decide +kernel
theorem dX11_look_267 : decode cX11_look 267 = .ok (.ireturn, 1) := by decide +kernel
theorem dX11_look_268 : decode cX11_look 268 = .ok (.aload_n 0, 1) := by decide +kernel
theorem dX11_look_269 : decode cX11_look 269 = .ok (.getfield 19, 3) := by decide +kernel
