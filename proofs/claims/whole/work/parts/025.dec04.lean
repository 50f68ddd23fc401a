theorem dX11_look_272 : decode cX11_look 272 = .ok (.getfield 129, 3) := by decide +kernel
theorem dX11_look_275 : decode cX11_look 275 = .ok (.ireturn, 1) := by decide +kernel
theorem dX11_look_276 : decode cX11_look 276 = .ok (.aload_n 0, 1) := by decide +kernel
theorem dX11_look_277 : decode cX11_look 277 = .ok (.getfield 19, 3) := by decide +kernel
theorem dX11_look_280 : decode cX11_look 280 = .ok (.getfield 135, 3) := by decide +kernel
theorem dX11_look_283 : decode cX11_look 283 = .ok (.ireturn, 1) := by decide +kernel
theorem dX11_look_284 : decode cX11_look 284 = .ok (.aload_n 0, 1) := by decide +kernel
theorem dX11_look_285 : decode cX11_look 285 = .ok (.getfield 19, 3) := by decide +kernel
theorem dX11_look_288 : decode cX11_look 288 = .ok (.getfield 138, 3) := by decide +kernel
theorem dX11_look_291 : decode cX11_look 291 = .ok (.ireturn, 1) := by decide +kernel
theorem dX11_look_292 : decode cX11_look 292 = .ok (.iconst (-1), 1) := by decide +kernel
theorem dX11_look_293 : decode cX11_look 293 = .ok (.ireturn, 1) := by decide +kernel
theorem dX11_goes_0 : decode cX11_goes 0 = .ok (.iload_n 1, 1) := by decide +kernel
theorem dX11_goes_1 : decode cX11_goes 1 = .ok (.iconst 1, 1) := by decide +kernel
theorem dX11_goes_2 : decode cX11_goes 2 = .ok (.bipush 99, 2) := by decide +kernel
theorem dX11_goes_4 : decode cX11_goes 4 = .ok (.invokestatic 107, 3) := by decide +kernel
theorem dX11_goes_7 : decode cX11_goes 7 = .ok (.ifCond .ne 5, 3) := by decide +kernel
theorem dX11_goes_10 : decode cX11_goes 10 = .ok (.iconst (-1), 1) := by decide +kernel
theorem dX11_goes_11 : decode cX11_goes 11 = .ok (.ireturn, 1) := by decide +kernel
theorem dX11_goes_12 : decode cX11_goes 12 = .ok (.aload_n 0, 1) := by decide +kernel
theorem dX11_goes_13 : decode cX11_goes 13 = .ok (.getfield 64, 3) := by decide +kernel
theorem dX11_goes_16 : decode cX11_goes 16 = .ok (.aload_n 0, 1) := by decide +kernel
theorem dX11_goes_17 : decode cX11_goes 17 = .ok (.getfield 12, 3) := by decide +kernel
theorem dX11_goes_20 : decode cX11_goes 20 = .ok (.invokevirtual 235, 3) := by decide +kernel
theorem dX11_goes_23 : decode cX11_goes 23 = .ok (.iconst 0, 1) := by decide +kernel
theorem dX11_goes_24 : decode cX11_goes 24 = .ok (.istore_n 3, 1) := by decide +kernel
theorem dX11_goes_25 : decode cX11_goes 25 = .ok (.iconst (-1), 1) := by decide +kernel
theorem dX11_goes_26 : decode cX11_goes 26 = .ok (.istore 4, 2) := by decide +kernel
theorem dX11_goes_28 : decode cX11_goes 28 = .ok (.iconst 0, 1) := by decide +kernel
theorem dX11_goes_29 : decode cX11_goes 29 = .ok (.istore 5, 2) := by decide +kernel
theorem dX11_goes_31 : decode cX11_goes 31 = .ok (.iload 5, 2) := by decide +kernel
theorem dX11_goes_33 : decode cX11_goes 33 = .ok (.iload_n 1, 1) := by decide +kernel
theorem dX11_goes_34 : decode cX11_goes 34 = .ok (.if_icmp .ge 48, 3) := by decide +kernel
theorem dX11_goes_37 : decode cX11_goes 37 = .ok (.aload_n 0, 1) := by decide +kernel
theorem dX11_goes_38 : decode cX11_goes 38 = .ok (.getfield 64, 3) := by decide +kernel
theorem dX11_goes_41 : decode cX11_goes 41 = .ok (.getfield 220, 3) := by decide +kernel
theorem dX11_goes_44 : decode cX11_goes 44 = .ok (.istore 6, 2) := by decide +kernel
theorem dX11_goes_46 : decode cX11_goes 46 = .ok (.aload_n 0, 1) := by decide +kernel
theorem dX11_goes_47 : decode cX11_goes 47 = .ok (.aload_n 0, 1) := by decide +kernel
theorem dX11_goes_48 : decode cX11_goes 48 = .ok (.getfield 64, 3) := by decide +kernel
theorem dX11_goes_51 : decode cX11_goes 51 = .ok (.iconst 1, 1) := by decide +kernel
theorem dX11_goes_52 : decode cX11_goes 52 = .ok (.invokevirtual 227, 3) := by decide +kernel
theorem dX11_goes_55 : decode cX11_goes 55 = .ok (.ifCond .eq 21, 3) := by decide +kernel
theorem dX11_goes_58 : decode cX11_goes 58 = .ok (.iinc 3 1, 3) := by decide +kernel
theorem dX11_goes_61 : decode cX11_goes 61 = .ok (.iload 4, 2) := by decide +kernel
theorem dX11_goes_63 : decode cX11_goes 63 = .ok (.iconst (-1), 1) := by decide +kernel
theorem dX11_goes_64 : decode cX11_goes 64 = .ok (.if_icmp .ne 8, 3) := by decide +kernel
theorem dX11_goes_67 : decode cX11_goes 67 = .ok (.iload 6, 2) := by decide +kernel
theorem dX11_goes_69 : decode cX11_goes 69 = .ok (.goto 5, 3) := by decide +kernel
theorem dX11_goes_72 : decode cX11_goes 72 = .ok (.iload 4, 2) := by decide +kernel
theorem dX11_goes_74 : decode cX11_goes 74 = .ok (.istore 4, 2) := by decide +kernel
theorem dX11_goes_76 : decode cX11_goes 76 = .ok (.iinc 5 1, 3) := by decide +kernel
theorem dX11_goes_79 : decode cX11_goes 79 = .ok (.goto (-48), 3) := by decide +kernel
theorem dX11_goes_82 : decode cX11_goes 82 = .ok (.iload_n 2, 1) := by decide +kernel
theorem dX11_goes_83 : decode cX11_goes 83 = .ok (.tableswitch 62 0 4 #[33, 35, 38, 46, 54], 33) := by decide +kernel
theorem dX11_goes_116 : decode cX11_goes 116 = .ok (.iload_n 3, 1) := by decide +kernel
theorem dX11_goes_117 : decode cX11_goes 117 = .ok (.ireturn, 1) := by decide +kernel
theorem dX11_goes_118 : decode cX11_goes 118 = .ok (.iload 4, 2) := by decide +kernel
theorem dX11_goes_120 : decode cX11_goes 120 = .ok (.ireturn, 1) := by decide +kernel
theorem dX11_goes_121 : decode cX11_goes 121 = .ok (.aload_n 0, 1) := by decide +kernel
theorem dX11_goes_122 : decode cX11_goes 122 = .ok (.getfield 64, 3) := by decide +kernel
theorem dX11_goes_125 : decode cX11_goes 125 = .ok (.getfield 188, 3) := by decide +kernel
theorem dX11_goes_128 : decode cX11_goes 128 = .ok (.ireturn, 1) := by decide +kernel
theorem dX11_goes_129 : decode cX11_goes 129 = .ok (.aload_n 0, 1) := by decide +kernel
theorem dX11_goes_130 : decode cX11_goes 130 = .ok (.getfield 64, 3) := by decide +kernel
theorem dX11_goes_133 : decode cX11_goes 133 = .ok (.getfield 191, 3) := by decide +kernel
theorem dX11_goes_136 : decode cX11_goes 136 = .ok (.ireturn, 1) := by decide +kernel
theorem dX11_goes_137 : decode cX11_goes 137 = .ok (.aload_n 0, 1) := by decide +kernel
theorem dX11_goes_138 : decode cX11_goes 138 = .ok (.getfield 64, 3) := by decide +kernel
theorem dX11_goes_141 : decode cX11_goes 141 = .ok (.invokevirtual 364, 3) := by decide +kernel
theorem dX11_goes_144 : decode cX11_goes 144 = .ok (.ireturn, 1) := by decide +kernel
theorem dX11_goes_145 : decode cX11_goes 145 = .ok (.iconst (-1), 1) := by decide +kernel
theorem dX11_goes_146 : decode cX11_goes 146 = .ok (.ireturn, 1) := by decide +kernel
theorem dX11_cover_0 : decode cX11_cover 0 = .ok (.iload_n 1, 1) := by decide +kernel
theorem dX11_cover_1 : decode cX11_cover 1 = .ok (.iconst 0, 1) := by decide +kernel
theorem dX11_cover_2 : decode cX11_cover 2 = .ok (.iconst 1, 1) := by decide +kernel
theorem dX11_cover_3 : decode cX11_cover 3 = .ok (.invokestatic 107, 3) := by decide +kernel
theorem dX11_cover_6 : decode cX11_cover 6 = .ok (.ifCond .ne 5, 3) := by decide +kernel
theorem dX11_cover_9 : decode cX11_cover 9 = .ok (.iconst (-1), 1) := by decide +kernel
theorem dX11_cover_10 : decode cX11_cover 10 = .ok (.ireturn, 1) := by decide +kernel
theorem dX11_cover_11 : decode cX11_cover 11 = .ok (.aload_n 0, 1) := by decide +kernel
theorem dX11_cover_12 : decode cX11_cover 12 = .ok (.getfield 19, 3) := by decide +kernel
theorem dX11_cover_15 : decode cX11_cover 15 = .ok (.getfield 204, 3) := by decide +kernel
theorem dX11_cover_18 : decode cX11_cover 18 = .ok (.aload_n 0, 1) := by decide +kernel
theorem dX11_cover_19 : decode cX11_cover 19 = .ok (.getfield 19, 3) := by decide +kernel
theorem dX11_cover_22 : decode cX11_cover 22 = .ok (.getfield 129, 3) := by decide +kernel
theorem dX11_cover_25 : decode cX11_cover 25 = .ok (.invokevirtual 367, 3) := by decide +kernel
theorem dX11_cover_28 : decode cX11_cover 28 = .ok (.istore_n 2, 1) := by decide +kernel
theorem dX11_cover_29 : decode cX11_cover 29 = .ok (.iload_n 1, 1) := by decide +kernel
theorem dX11_cover_30 : decode cX11_cover 30 = .ok (.ifCond .ne 15, 3) := by decide +kernel
theorem dX11_cover_33 : decode cX11_cover 33 = .ok (.iload_n 2, 1) := by decide +kernel
theorem dX11_cover_34 : decode cX11_cover 34 = .ok (.iconst (-1), 1) := by decide +kernel
theorem dX11_cover_35 : decode cX11_cover 35 = .ok (.if_icmp .eq 10, 3) := by decide +kernel
theorem dX11_cover_38 : decode cX11_cover 38 = .ok (.iload_n 2, 1) := by decide +kernel
theorem dX11_cover_39 : decode cX11_cover 39 = .ok (.invokestatic 251, 3) := by decide +kernel
theorem dX11_cover_42 : decode cX11_cover 42 = .ok (.goto 4, 3) := by decide +kernel
theorem dX11_cover_45 : decode cX11_cover 45 = .ok (.iload_n 2, 1) := by decide +kernel
theorem dX11_cover_46 : decode cX11_cover 46 = .ok (.ireturn, 1) := by decide +kernel
theorem dX11_watches_0 : decode cX11_watches 0 = .ok (.iload_n 1, 1) := by decide +kernel
theorem dX11_watches_1 : decode cX11_watches 1 = .ok (.bipush 10, 2) := by decide +kernel
theorem dX11_watches_3 : decode cX11_watches 3 = .ok (.isub, 1) := by decide +kernel
theorem dX11_watches_4 : decode cX11_watches 4 = .ok (.istore_n 2, 1) := by decide +kernel
theorem dX11_watches_5 : decode cX11_watches 5 = .ok (.iload_n 1, 1) := by decide +kernel
theorem dX11_watches_6 : decode cX11_watches 6 = .ok (.ifCond .eq 13, 3) := by decide +kernel
theorem dX11_watches_9 : decode cX11_watches 9 = .ok (.aload_n 0, 1) := by decide +kernel
theorem dX11_watches_10 : decode cX11_watches 10 = .ok (.iload_n 2, 1) := by decide +kernel
theorem dX11_watches_11 : decode cX11_watches 11 = .ok (.invokevirtual 141, 3) := by decide +kernel
theorem dX11_watches_14 : decode cX11_watches 14 = .ok (.ifCond .ne 5, 3) := by decide +kernel
theorem dX11_watches_17 : decode cX11_watches 17 = .ok (.iconst (-1), 1) := by decide +kernel
theorem dX11_watches_18 : decode cX11_watches 18 = .ok (.ireturn, 1) := by decide +kernel
theorem dX11_watches_19 : decode cX11_watches 19 = .ok (.aload_n 0, 1) := by decide +kernel
theorem dX11_watches_20 : decode cX11_watches 20 = .ok (.getfield 70, 3) := by decide +kernel
theorem dX11_watches_23 : decode cX11_watches 23 = .ok (.aload_n 0, 1) := by decide +kernel
theorem dX11_watches_24 : decode cX11_watches 24 = .ok (.getfield 12, 3) := by decide +kernel
theorem dX11_watches_27 : decode cX11_watches 27 = .ok (.getfield 111, 3) := by decide +kernel
theorem dX11_watches_30 : decode cX11_watches 30 = .ok (.invokevirtual 370, 3) := by decide +kernel
theorem dX11_watches_33 : decode cX11_watches 33 = .ok (.iconst 0, 1) := by decide +kernel
theorem dX11_watches_34 : decode cX11_watches 34 = .ok (.istore_n 3, 1) := by decide +kernel
theorem dX11_watches_35 : decode cX11_watches 35 = .ok (.iload_n 3, 1) := by decide +kernel
theorem dX11_watches_36 : decode cX11_watches 36 = .ok (.aload_n 0, 1) := by decide +kernel
theorem dX11_watches_37 : decode cX11_watches 37 = .ok (.getfield 12, 3) := by decide +kernel
theorem dX11_watches_40 : decode cX11_watches 40 = .ok (.getfield 111, 3) := by decide +kernel
theorem dX11_watches_43 : decode cX11_watches 43 = .ok (.if_icmp .ge 47, 3) := by decide +kernel
theorem dX11_watches_46 : decode cX11_watches 46 = .ok (.iconst 0, 1) := by decide +kernel
theorem dX11_watches_47 : decode cX11_watches 47 = .ok (.istore 4, 2) := by decide +kernel
theorem dX11_watches_49 : decode cX11_watches 49 = .ok (.iload 4, 2) := by decide +kernel
theorem dX11_watches_51 : decode cX11_watches 51 = .ok (.iconst 4, 1) := by decide +kernel
theorem dX11_watches_52 : decode cX11_watches 52 = .ok (.if_icmp .ge 32, 3) := by decide +kernel
theorem dX11_watches_55 : decode cX11_watches 55 = .ok (.aload_n 0, 1) := by decide +kernel
theorem dX11_watches_56 : decode cX11_watches 56 = .ok (.getfield 70, 3) := by decide +kernel
theorem dX11_watches_59 : decode cX11_watches 59 = .ok (.iload_n 3, 1) := by decide +kernel
theorem dX11_watches_60 : decode cX11_watches 60 = .ok (.iload 4, 2) := by decide +kernel
theorem dX11_watches_62 : decode cX11_watches 62 = .ok (.bipush 6, 2) := by decide +kernel
theorem dX11_watches_64 : decode cX11_watches 64 = .ok (.aload_n 0, 1) := by decide +kernel
theorem dX11_watches_65 : decode cX11_watches 65 = .ok (.iload_n 3, 1) := by decide +kernel
theorem dX11_watches_66 : decode cX11_watches 66 = .ok (.bipush 6, 2) := by decide +kernel
theorem dX11_watches_68 : decode cX11_watches 68 = .ok (.iload 4, 2) := by decide +kernel
theorem dX11_watches_70 : decode cX11_watches 70 = .ok (.imul, 1) := by decide +kernel
theorem dX11_watches_71 : decode cX11_watches 71 = .ok (.invokevirtual 372, 3) := by decide +kernel
theorem dX11_watches_74 : decode cX11_watches 74 = .ok (.imul, 1) := by decide +kernel
theorem dX11_watches_75 : decode cX11_watches 75 = .ok (.invokevirtual 375, 3) := by decide +kernel
theorem dX11_watches_78 : decode cX11_watches 78 = .ok (.iinc 4 1, 3) := by decide +kernel
theorem dX11_watches_81 : decode cX11_watches 81 = .ok (.goto (-32), 3) := by decide +kernel
theorem dX11_watches_84 : decode cX11_watches 84 = .ok (.iinc 3 1, 3) := by decide +kernel
theorem dX11_watches_87 : decode cX11_watches 87 = .ok (.goto (-52), 3) := by decide +kernel
theorem dX11_watches_90 : decode cX11_watches 90 = .ok (.aload_n 0, 1) := by decide +kernel
theorem dX11_watches_91 : decode cX11_watches 91 = .ok (.getfield 70, 3) := by decide +kernel
theorem dX11_watches_94 : decode cX11_watches 94 = .ok (.aload_n 0, 1) := by decide +kernel
theorem dX11_watches_95 : decode cX11_watches 95 = .ok (.getfield 19, 3) := by decide +kernel
theorem dX11_watches_98 : decode cX11_watches 98 = .ok (.getfield 129, 3) := by decide +kernel
theorem dX11_watches_101 : decode cX11_watches 101 = .ok (.invokevirtual 379, 3) := by decide +kernel
theorem dX11_watches_104 : decode cX11_watches 104 = .ok (.ifCond .ne 5, 3) := by decide +kernel
theorem dX11_watches_107 : decode cX11_watches 107 = .ok (.iconst (-1), 1) := by decide +kernel
theorem dX11_watches_108 : decode cX11_watches 108 = .ok (.ireturn, 1) := by decide +kernel
theorem dX11_watches_109 : decode cX11_watches 109 = .ok (.iload_n 1, 1) := by decide +kernel
theorem dX11_watches_110 : decode cX11_watches 110 = .ok (.ifCond .ne 13, 3) := by decide +kernel
theorem dX11_watches_113 : decode cX11_watches 113 = .ok (.aload_n 0, 1) := by decide +kernel
theorem dX11_watches_114 : decode cX11_watches 114 = .ok (.getfield 70, 3) := by decide +kernel
theorem dX11_watches_117 : decode cX11_watches 117 = .ok (.getfield 382, 3) := by decide +kernel
theorem dX11_watches_120 : decode cX11_watches 120 = .ok (.goto 12, 3) := by decide +kernel
theorem dX11_watches_123 : decode cX11_watches 123 = .ok (.aload_n 0, 1) := by decide +kernel
theorem dX11_watches_124 : decode cX11_watches 124 = .ok (.getfield 70, 3) := by decide +kernel
theorem dX11_watches_127 : decode cX11_watches 127 = .ok (.getfield 385, 3) := by decide +kernel
theorem dX11_watches_130 : decode cX11_watches 130 = .ok (.iload_n 2, 1) := by decide +kernel
theorem dX11_watches_131 : decode cX11_watches 131 = .ok (.iaload, 1) := by decide +kernel
theorem dX11_watches_132 : decode cX11_watches 132 = .ok (.ireturn, 1) := by decide +kernel
theorem dX11_tour_0 : decode cX11_tour 0 = .ok (.iload_n 2, 1) := by decide +kernel
theorem dX11_tour_1 : decode cX11_tour 1 = .ok (.bipush 10, 2) := by decide +kernel
theorem dX11_tour_3 : decode cX11_tour 3 = .ok (.isub, 1) := by decide +kernel
theorem dX11_tour_4 : decode cX11_tour 4 = .ok (.istore_n 3, 1) := by decide +kernel
theorem dX11_tour_5 : decode cX11_tour 5 = .ok (.iload_n 1, 1) := by decide +kernel
theorem dX11_tour_6 : decode cX11_tour 6 = .ok (.iconst 2, 1) := by decide +kernel
theorem dX11_tour_7 : decode cX11_tour 7 = .ok (.bipush 8, 2) := by decide +kernel
theorem dX11_tour_9 : decode cX11_tour 9 = .ok (.invokestatic 107, 3) := by decide +kernel
theorem dX11_tour_12 : decode cX11_tour 12 = .ok (.ifCond .eq 18, 3) := by decide +kernel
theorem dX11_tour_15 : decode cX11_tour 15 = .ok (.iload_n 2, 1) := by decide +kernel
theorem dX11_tour_16 : decode cX11_tour 16 = .ok (.ifCond .eq 16, 3) := by decide +kernel
theorem dX11_tour_19 : decode cX11_tour 19 = .ok (.iload_n 3, 1) := by decide +kernel
theorem dX11_tour_20 : decode cX11_tour 20 = .ok (.iconst 0, 1) := by decide +kernel
theorem dX11_tour_21 : decode cX11_tour 21 = .ok (.iload_n 1, 1) := by decide +kernel
theorem dX11_tour_22 : decode cX11_tour 22 = .ok (.iconst 1, 1) := by decide +kernel
theorem dX11_tour_23 : decode cX11_tour 23 = .ok (.isub, 1) := by decide +kernel
theorem dX11_tour_24 : decode cX11_tour 24 = .ok (.invokestatic 107, 3) := by decide +kernel
theorem dX11_tour_27 : decode cX11_tour 27 = .ok (.ifCond .ne 5, 3) := by decide +kernel
theorem dX11_tour_30 : decode cX11_tour 30 = .ok (.iconst (-1), 1) := by decide +kernel
theorem dX11_tour_31 : decode cX11_tour 31 = .ok (.ireturn, 1) := by decide +kernel
theorem dX11_tour_32 : decode cX11_tour 32 = .ok (.iconst 1, 1) := by decide +kernel
theorem dX11_tour_33 : decode cX11_tour 33 = .ok (.iload_n 1, 1) := by decide +kernel
theorem dX11_tour_34 : decode cX11_tour 34 = .ok (.iconst 1, 1) := by decide +kernel
theorem dX11_tour_35 : decode cX11_tour 35 = .ok (.isub, 1) := by decide +kernel
theorem dX11_tour_36 : decode cX11_tour 36 = .ok (.ishl, 1) := by decide +kernel
theorem dX11_tour_37 : decode cX11_tour 37 = .ok (.iconst 1, 1) := by decide +kernel
theorem dX11_tour_38 : decode cX11_tour 38 = .ok (.isub, 1) := by decide +kernel
theorem dX11_tour_39 : decode cX11_tour 39 = .ok (.istore 4, 2) := by decide +kernel
theorem dX11_tour_41 : decode cX11_tour 41 = .ok (.iconst 0, 1) := by decide +kernel
theorem dX11_tour_42 : decode cX11_tour 42 = .ok (.istore 5, 2) := by decide +kernel
theorem dX11_tour_44 : decode cX11_tour 44 = .ok (.iload 5, 2) := by decide +kernel
theorem dX11_tour_46 : decode cX11_tour 46 = .ok (.iload 4, 2) := by decide +kernel
theorem dX11_tour_48 : decode cX11_tour 48 = .ok (.if_icmp .gt 45, 3) := by decide +kernel
theorem dX11_tour_51 : decode cX11_tour 51 = .ok (.iconst 0, 1) := by decide +kernel
theorem dX11_tour_52 : decode cX11_tour 52 = .ok (.istore 6, 2) := by decide +kernel
theorem dX11_tour_54 : decode cX11_tour 54 = .ok (.iload 6, 2) := by decide +kernel
theorem dX11_tour_56 : decode cX11_tour 56 = .ok (.iload_n 1, 1) := by decide +kernel
theorem dX11_tour_57 : decode cX11_tour 57 = .ok (.if_icmp .ge 30, 3) := by decide +kernel
theorem dX11_tour_60 : decode cX11_tour 60 = .ok (.aload_n 0, 1) := by decide +kernel
theorem dX11_tour_61 : decode cX11_tour 61 = .ok (.getfield 87, 3) := by decide +kernel
theorem dX11_tour_64 : decode cX11_tour 64 = .ok (.iload 5, 2) := by decide +kernel
theorem dX11_tour_66 : decode cX11_tour 66 = .ok (.bipush 8, 2) := by decide +kernel
theorem dX11_tour_68 : decode cX11_tour 68 = .ok (.imul, 1) := by decide +kernel
theorem dX11_tour_69 : decode cX11_tour 69 = .ok (.iload 6, 2) := by decide +kernel
theorem dX11_tour_71 : decode cX11_tour 71 = .ok (.iadd, 1) := by decide +kernel
theorem dX11_tour_72 : decode cX11_tour 72 = .ok (.aload_n 0, 1) := by decide +kernel
theorem dX11_tour_73 : decode cX11_tour 73 = .ok (.iload 5, 2) := by decide +kernel
theorem dX11_tour_75 : decode cX11_tour 75 = .ok (.iload 6, 2) := by decide +kernel
theorem dX11_tour_77 : decode cX11_tour 77 = .ok (.invokevirtual 388, 3) := by decide +kernel
theorem dX11_tour_80 : decode cX11_tour 80 = .ok (.iastore, 1) := by decide +kernel
theorem dX11_tour_81 : decode cX11_tour 81 = .ok (.iinc 6 1, 3) := by decide +kernel
theorem dX11_tour_84 : decode cX11_tour 84 = .ok (.goto (-30), 3) := by decide +kernel
theorem dX11_tour_87 : decode cX11_tour 87 = .ok (.iinc 5 1, 3) := by decide +kernel
theorem dX11_tour_90 : decode cX11_tour 90 = .ok (.goto (-46), 3) := by decide +kernel
theorem dX11_tour_93 : decode cX11_tour 93 = .ok (.aload_n 0, 1) := by decide +kernel
theorem dX11_tour_94 : decode cX11_tour 94 = .ok (.getfield 87, 3) := by decide +kernel
theorem dX11_tour_97 : decode cX11_tour 97 = .ok (.iload 4, 2) := by decide +kernel
theorem dX11_tour_99 : decode cX11_tour 99 = .ok (.bipush 8, 2) := by decide +kernel
theorem dX11_tour_101 : decode cX11_tour 101 = .ok (.imul, 1) := by decide +kernel
theorem dX11_tour_102 : decode cX11_tour 102 = .ok (.iaload, 1) := by decide +kernel
theorem dX11_tour_103 : decode cX11_tour 103 = .ok (.istore 5, 2) := by decide +kernel
theorem dX11_tour_105 : decode cX11_tour 105 = .ok (.iload 5, 2) := by decide +kernel
theorem dX11_tour_107 : decode cX11_tour 107 = .ok (.ldc_w 391, 3) := by decide +kernel
theorem dX11_tour_110 : decode cX11_tour 110 = .ok (.if_icmp .lt 5, 3) := by decide +kernel
theorem dX11_tour_113 : decode cX11_tour 113 = .ok (.iconst (-1), 1) := by decide +kernel
theorem dX11_tour_114 : decode cX11_tour 114 = .ok (.ireturn, 1) := by decide +kernel
theorem dX11_tour_115 : decode cX11_tour 115 = .ok (.iload_n 2, 1) := by decide +kernel
theorem dX11_tour_116 : decode cX11_tour 116 = .ok (.ifCond .ne 8, 3) := by decide +kernel
theorem dX11_tour_119 : decode cX11_tour 119 = .ok (.iload 5, 2) := by decide +kernel
theorem dX11_tour_121 : decode cX11_tour 121 = .ok (.goto 10, 3) := by decide +kernel
theorem dX11_tour_124 : decode cX11_tour 124 = .ok (.aload_n 0, 1) := by decide +kernel
theorem dX11_tour_125 : decode cX11_tour 125 = .ok (.iload 4, 2) := by decide +kernel
theorem dX11_tour_127 : decode cX11_tour 127 = .ok (.iload_n 3, 1) := by decide +kernel
theorem dX11_tour_128 : decode cX11_tour 128 = .ok (.invokevirtual 392, 3) := by decide +kernel
theorem dX11_tour_131 : decode cX11_tour 131 = .ok (.ireturn, 1) := by decide +kernel
theorem dX11_leastOnwards_0 : decode cX11_leastOnwards 0 = .ok (.iload_n 1, 1) := by decide +kernel
theorem dX11_leastOnwards_1 : decode cX11_leastOnwards 1 = .ok (.ifCond .ne 10, 3) := by decide +kernel
theorem dX11_leastOnwards_4 : decode cX11_leastOnwards 4 = .ok (.aload_n 0, 1) := by decide +kernel
theorem dX11_leastOnwards_5 : decode cX11_leastOnwards 5 = .ok (.iload_n 2, 1) := by decide +kernel
theorem dX11_leastOnwards_6 : decode cX11_leastOnwards 6 = .ok (.iconst 0, 1) := by decide +kernel
theorem dX11_leastOnwards_7 : decode cX11_leastOnwards 7 = .ok (.invokevirtual 395, 3) := by decide +kernel
theorem dX11_leastOnwards_10 : decode cX11_leastOnwards 10 = .ok (.ireturn, 1) := by decide +kernel
theorem dX11_leastOnwards_11 : decode cX11_leastOnwards 11 = .ok (.ldc_w 391, 3) := by decide +kernel
theorem dX11_leastOnwards_14 : decode cX11_leastOnwards 14 = .ok (.istore_n 3, 1) := by decide +kernel
theorem dX11_leastOnwards_15 : decode cX11_leastOnwards 15 = .ok (.iconst 1, 1) := by decide +kernel
theorem dX11_leastOnwards_16 : decode cX11_leastOnwards 16 = .ok (.istore 4, 2) := by decide +kernel
theorem dX11_leastOnwards_18 : decode cX11_leastOnwards 18 = .ok (.iload 4, 2) := by decide +kernel
theorem dX11_leastOnwards_20 : decode cX11_leastOnwards 20 = .ok (.bipush 8, 2) := by decide +kernel
theorem dX11_leastOnwards_22 : decode cX11_leastOnwards 22 = .ok (.if_icmp .ge 33, 3) := by decide +kernel
theorem dX11_leastOnwards_25 : decode cX11_leastOnwards 25 = .ok (.iload_n 1, 1) := by decide +kernel
theorem dX11_leastOnwards_26 : decode cX11_leastOnwards 26 = .ok (.iload 4, 2) := by decide +kernel
theorem dX11_leastOnwards_28 : decode cX11_leastOnwards 28 = .ok (.iconst 1, 1) := by decide +kernel
theorem dX11_leastOnwards_29 : decode cX11_leastOnwards 29 = .ok (.isub, 1) := by decide +kernel
theorem dX11_leastOnwards_30 : decode cX11_leastOnwards 30 = .ok (.ishr, 1) := by decide +kernel
theorem dX11_leastOnwards_31 : decode cX11_leastOnwards 31 = .ok (.iconst 1, 1) := by decide +kernel
theorem dX11_leastOnwards_32 : decode cX11_leastOnwards 32 = .ok (.iand, 1) := by decide +kernel
theorem dX11_leastOnwards_33 : decode cX11_leastOnwards 33 = .ok (.ifCond .eq 16, 3) := by decide +kernel
theorem dX11_leastOnwards_36 : decode cX11_leastOnwards 36 = .ok (.iload_n 3, 1) := by decide +kernel
theorem dX11_leastOnwards_37 : decode cX11_leastOnwards 37 = .ok (.aload_n 0, 1) := by decide +kernel
theorem dX11_leastOnwards_38 : decode cX11_leastOnwards 38 = .ok (.iload_n 1, 1) := by decide +kernel
theorem dX11_leastOnwards_39 : decode cX11_leastOnwards 39 = .ok (.iload_n 2, 1) := by decide +kernel
theorem dX11_leastOnwards_40 : decode cX11_leastOnwards 40 = .ok (.iload 4, 2) := by decide +kernel
theorem dX11_leastOnwards_42 : decode cX11_leastOnwards 42 = .ok (.invokevirtual 398, 3) := by decide +kernel
theorem dX11_leastOnwards_45 : decode cX11_leastOnwards 45 = .ok (.invokestatic 323, 3) := by decide +kernel
theorem dX11_leastOnwards_48 : decode cX11_leastOnwards 48 = .ok (.istore_n 3, 1) := by decide +kernel
theorem dX11_leastOnwards_49 : decode cX11_leastOnwards 49 = .ok (.iinc 4 1, 3) := by decide +kernel
theorem dX11_leastOnwards_52 : decode cX11_leastOnwards 52 = .ok (.goto (-34), 3) := by decide +kernel
theorem dX11_leastOnwards_55 : decode cX11_leastOnwards 55 = .ok (.iload_n 3, 1) := by decide +kernel
theorem dX11_leastOnwards_56 : decode cX11_leastOnwards 56 = .ok (.ireturn, 1) := by decide +kernel
theorem dX11_hoursOver_0 : decode cX11_hoursOver 0 = .ok (.iload_n 1, 1) := by decide +kernel
theorem dX11_hoursOver_1 : decode cX11_hoursOver 1 = .ok (.iconst 1, 1) := by decide +kernel
theorem dX11_hoursOver_2 : decode cX11_hoursOver 2 = .ok (.iload_n 3, 1) := by decide +kernel
theorem dX11_hoursOver_3 : decode cX11_hoursOver 3 = .ok (.iconst 1, 1) := by decide +kernel
theorem dX11_hoursOver_4 : decode cX11_hoursOver 4 = .ok (.isub, 1) := by decide +kernel
theorem dX11_hoursOver_5 : decode cX11_hoursOver 5 = .ok (.ishl, 1) := by decide +kernel
theorem dX11_hoursOver_6 : decode cX11_hoursOver 6 = .ok (.iconst (-1), 1) := by decide +kernel
theorem dX11_hoursOver_7 : decode cX11_hoursOver 7 = .ok (.ixor, 1) := by decide +kernel
theorem dX11_hoursOver_8 : decode cX11_hoursOver 8 = .ok (.iand, 1) := by decide +kernel
theorem dX11_hoursOver_9 : decode cX11_hoursOver 9 = .ok (.istore 4, 2) := by decide +kernel
theorem dX11_hoursOver_11 : decode cX11_hoursOver 11 = .ok (.aload_n 0, 1) := by decide +kernel
theorem dX11_hoursOver_12 : decode cX11_hoursOver 12 = .ok (.iload_n 2, 1) := by decide +kernel
theorem dX11_hoursOver_13 : decode cX11_hoursOver 13 = .ok (.iload_n 3, 1) := by decide +kernel
theorem dX11_hoursOver_14 : decode cX11_hoursOver 14 = .ok (.invokevirtual 395, 3) := by decide +kernel
theorem dX11_hoursOver_17 : decode cX11_hoursOver 17 = .ok (.aload_n 0, 1) := by decide +kernel
theorem dX11_hoursOver_18 : decode cX11_hoursOver 18 = .ok (.getfield 87, 3) := by decide +kernel
theorem dX11_hoursOver_21 : decode cX11_hoursOver 21 = .ok (.iload 4, 2) := by decide +kernel
theorem dX11_hoursOver_23 : decode cX11_hoursOver 23 = .ok (.bipush 8, 2) := by decide +kernel
theorem dX11_hoursOver_25 : decode cX11_hoursOver 25 = .ok (.imul, 1) := by decide +kernel
theorem dX11_hoursOver_26 : decode cX11_hoursOver 26 = .ok (.iload_n 3, 1) := by decide +kernel
theorem dX11_hoursOver_27 : decode cX11_hoursOver 27 = .ok (.iadd, 1) := by decide +kernel
theorem dX11_hoursOver_28 : decode cX11_hoursOver 28 = .ok (.iaload, 1) := by decide +kernel
theorem dX11_hoursOver_29 : decode cX11_hoursOver 29 = .ok (.iadd, 1) := by decide +kernel
theorem dX11_hoursOver_30 : decode cX11_hoursOver 30 = .ok (.ireturn, 1) := by decide +kernel
theorem dX11_roadHours_0 : decode cX11_roadHours 0 = .ok (.aload_n 0, 1) := by decide +kernel
theorem dX11_roadHours_1 : decode cX11_roadHours 1 = .ok (.getfield 19, 3) := by decide +kernel
theorem dX11_roadHours_4 : decode cX11_roadHours 4 = .ok (.getfield 144, 3) := by decide +kernel
theorem dX11_roadHours_7 : decode cX11_roadHours 7 = .ok (.iload_n 1, 1) := by decide +kernel
theorem dX11_roadHours_8 : decode cX11_roadHours 8 = .ok (.bipush 8, 2) := by decide +kernel
theorem dX11_roadHours_10 : decode cX11_roadHours 10 = .ok (.imul, 1) := by decide +kernel
theorem dX11_roadHours_11 : decode cX11_roadHours 11 = .ok (.iload_n 2, 1) := by decide +kernel
theorem dX11_roadHours_12 : decode cX11_roadHours 12 = .ok (.iadd, 1) := by decide +kernel
theorem dX11_roadHours_13 : decode cX11_roadHours 13 = .ok (.iaload, 1) := by decide +kernel
theorem dX11_roadHours_14 : decode cX11_roadHours 14 = .ok (.istore_n 3, 1) := by decide +kernel
theorem dX11_roadHours_15 : decode cX11_roadHours 15 = .ok (.iload_n 3, 1) := by decide +kernel
theorem dX11_roadHours_16 : decode cX11_roadHours 16 = .ok (.ifCond .le 7, 3) := by decide +kernel
theorem dX11_roadHours_19 : decode cX11_roadHours 19 = .ok (.iload_n 3, 1) := by decide +kernel
theorem dX11_roadHours_20 : decode cX11_roadHours 20 = .ok (.goto 6, 3) := by decide +kernel
theorem dX11_roadHours_23 : decode cX11_roadHours 23 = .ok (.ldc_w 391, 3) := by decide +kernel
theorem dX11_roadHours_26 : decode cX11_roadHours 26 = .ok (.ireturn, 1) := by decide +kernel
theorem dX11_onTour_0 : decode cX11_onTour 0 = .ok (.iload_n 1, 1) := by decide +kernel
theorem dX11_onTour_1 : decode cX11_onTour 1 = .ok (.istore_n 3, 1) := by decide +kernel
theorem dX11_onTour_2 : decode cX11_onTour 2 = .ok (.iconst 0, 1) := by decide +kernel
theorem dX11_onTour_3 : decode cX11_onTour 3 = .ok (.istore 4, 2) := by decide +kernel
theorem dX11_onTour_5 : decode cX11_onTour 5 = .ok (.iconst 0, 1) := by decide +kernel
theorem dX11_onTour_6 : decode cX11_onTour 6 = .ok (.istore 5, 2) := by decide +kernel
theorem dX11_onTour_8 : decode cX11_onTour 8 = .ok (.iload 5, 2) := by decide +kernel
theorem dX11_onTour_10 : decode cX11_onTour 10 = .ok (.iload_n 2, 1) := by decide +kernel
theorem dX11_onTour_11 : decode cX11_onTour 11 = .ok (.if_icmp .ge 52, 3) := by decide +kernel
theorem dX11_onTour_14 : decode cX11_onTour 14 = .ok (.iconst 1, 1) := by decide +kernel
theorem dX11_onTour_15 : decode cX11_onTour 15 = .ok (.istore 6, 2) := by decide +kernel
theorem dX11_onTour_17 : decode cX11_onTour 17 = .ok (.iload 6, 2) := by decide +kernel
theorem dX11_onTour_19 : decode cX11_onTour 19 = .ok (.bipush 7, 2) := by decide +kernel
theorem dX11_onTour_21 : decode cX11_onTour 21 = .ok (.if_icmp .ge 21, 3) := by decide +kernel
theorem dX11_onTour_24 : decode cX11_onTour 24 = .ok (.aload_n 0, 1) := by decide +kernel
theorem dX11_onTour_25 : decode cX11_onTour 25 = .ok (.iload_n 3, 1) := by decide +kernel
theorem dX11_onTour_26 : decode cX11_onTour 26 = .ok (.iload 4, 2) := by decide +kernel
theorem dX11_onTour_28 : decode cX11_onTour 28 = .ok (.iload 6, 2) := by decide +kernel
theorem dX11_onTour_30 : decode cX11_onTour 30 = .ok (.invokevirtual 402, 3) := by decide +kernel
theorem dX11_onTour_33 : decode cX11_onTour 33 = .ok (.ifCond .ne 9, 3) := by decide +kernel
theorem dX11_onTour_36 : decode cX11_onTour 36 = .ok (.iinc 6 1, 3) := by decide +kernel
theorem dX11_onTour_39 : decode cX11_onTour 39 = .ok (.goto (-22), 3) := by decide +kernel
theorem dX11_onTour_42 : decode cX11_onTour 42 = .ok (.iload_n 3, 1) := by decide +kernel
theorem dX11_onTour_43 : decode cX11_onTour 43 = .ok (.iconst 1, 1) := by decide +kernel
theorem dX11_onTour_44 : decode cX11_onTour 44 = .ok (.iload 6, 2) := by decide +kernel
theorem dX11_onTour_46 : decode cX11_onTour 46 = .ok (.iconst 1, 1) := by decide +kernel
theorem dX11_onTour_47 : decode cX11_onTour 47 = .ok (.isub, 1) := by decide +kernel
theorem dX11_onTour_48 : decode cX11_onTour 48 = .ok (.ishl, 1) := by decide +kernel
theorem dX11_onTour_49 : decode cX11_onTour 49 = .ok (.iconst (-1), 1) := by decide +kernel
theorem dX11_onTour_50 : decode cX11_onTour 50 = .ok (.ixor, 1) := by decide +kernel
theorem dX11_onTour_51 : decode cX11_onTour 51 = .ok (.iand, 1) := by decide +kernel
theorem dX11_onTour_52 : decode cX11_onTour 52 = .ok (.istore_n 3, 1) := by decide +kernel
theorem dX11_onTour_53 : decode cX11_onTour 53 = .ok (.iload 6, 2) := by decide +kernel
theorem dX11_onTour_55 : decode cX11_onTour 55 = .ok (.istore 4, 2) := by decide +kernel
theorem dX11_onTour_57 : decode cX11_onTour 57 = .ok (.iinc 5 1, 3) := by decide +kernel
theorem dX11_onTour_60 : decode cX11_onTour 60 = .ok (.goto (-52), 3) := by decide +kernel
theorem dX11_onTour_63 : decode cX11_onTour 63 = .ok (.iload 4, 2) := by decide +kernel
theorem dX11_onTour_65 : decode cX11_onTour 65 = .ok (.ireturn, 1) := by decide +kernel
theorem dX11_isOnTour_0 : decode cX11_isOnTour 0 = .ok (.iload_n 1, 1) := by decide +kernel
theorem dX11_isOnTour_1 : decode cX11_isOnTour 1 = .ok (.iload_n 3, 1) := by decide +kernel
theorem dX11_isOnTour_2 : decode cX11_isOnTour 2 = .ok (.iconst 1, 1) := by decide +kernel
theorem dX11_isOnTour_3 : decode cX11_isOnTour 3 = .ok (.isub, 1) := by decide +kernel
theorem dX11_isOnTour_4 : decode cX11_isOnTour 4 = .ok (.ishr, 1) := by decide +kernel
theorem dX11_isOnTour_5 : decode cX11_isOnTour 5 = .ok (.iconst 1, 1) := by decide +kernel
theorem dX11_isOnTour_6 : decode cX11_isOnTour 6 = .ok (.iand, 1) := by decide +kernel
theorem dX11_isOnTour_7 : decode cX11_isOnTour 7 = .ok (.ifCond .eq 28, 3) := by decide +kernel
theorem dX11_isOnTour_10 : decode cX11_isOnTour 10 = .ok (.aload_n 0, 1) := by decide +kernel
theorem dX11_isOnTour_11 : decode cX11_isOnTour 11 = .ok (.iload_n 1, 1) := by decide +kernel
theorem dX11_isOnTour_12 : decode cX11_isOnTour 12 = .ok (.iload_n 2, 1) := by decide +kernel
theorem dX11_isOnTour_13 : decode cX11_isOnTour 13 = .ok (.iload_n 3, 1) := by decide +kernel
theorem dX11_isOnTour_14 : decode cX11_isOnTour 14 = .ok (.invokevirtual 398, 3) := by decide +kernel
theorem dX11_isOnTour_17 : decode cX11_isOnTour 17 = .ok (.aload_n 0, 1) := by decide +kernel
theorem dX11_isOnTour_18 : decode cX11_isOnTour 18 = .ok (.getfield 87, 3) := by decide +kernel
theorem dX11_isOnTour_21 : decode cX11_isOnTour 21 = .ok (.iload_n 1, 1) := by decide +kernel
theorem dX11_isOnTour_22 : decode cX11_isOnTour 22 = .ok (.bipush 8, 2) := by decide +kernel
theorem dX11_isOnTour_24 : decode cX11_isOnTour 24 = .ok (.imul, 1) := by decide +kernel
theorem dX11_isOnTour_25 : decode cX11_isOnTour 25 = .ok (.iload_n 2, 1) := by decide +kernel
theorem dX11_isOnTour_26 : decode cX11_isOnTour 26 = .ok (.iadd, 1) := by decide +kernel
theorem dX11_isOnTour_27 : decode cX11_isOnTour 27 = .ok (.iaload, 1) := by decide +kernel
theorem dX11_isOnTour_28 : decode cX11_isOnTour 28 = .ok (.if_icmp .ne 7, 3) := by decide +kernel
theorem dX11_isOnTour_31 : decode cX11_isOnTour 31 = .ok (.iconst 1, 1) := by decide +kernel
theorem dX11_isOnTour_32 : decode cX11_isOnTour 32 = .ok (.goto 4, 3) := by decide +kernel
theorem dX11_isOnTour_35 : decode cX11_isOnTour 35 = .ok (.iconst 0, 1) := by decide +kernel
theorem dX11_isOnTour_36 : decode cX11_isOnTour 36 = .ok (.ireturn, 1) := by decide +kernel
theorem dX11_meets_0 : decode cX11_meets 0 = .ok (.aload_n 0, 1) := by decide +kernel
theorem dX11_meets_1 : decode cX11_meets 1 = .ok (.getfield 19, 3) := by decide +kernel
theorem dX11_meets_4 : decode cX11_meets 4 = .ok (.getfield 194, 3) := by decide +kernel
theorem dX11_meets_7 : decode cX11_meets 7 = .ok (.astore 4, 2) := by decide +kernel
theorem dX11_meets_9 : decode cX11_meets 9 = .ok (.aload 4, 2) := by decide +kernel
theorem dX11_meets_11 : decode cX11_meets 11 = .ok (.invokevirtual 361, 3) := by decide +kernel
theorem dX11_meets_14 : decode cX11_meets 14 = .ok (.istore 5, 2) := by decide +kernel
theorem dX11_meets_16 : decode cX11_meets 16 = .ok (.iload_n 1, 1) := by decide +kernel
theorem dX11_meets_17 : decode cX11_meets 17 = .ok (.iconst 0, 1) := by decide +kernel
theorem dX11_meets_18 : decode cX11_meets 18 = .ok (.iload 5, 2) := by decide +kernel
theorem dX11_meets_20 : decode cX11_meets 20 = .ok (.iconst 1, 1) := by decide +kernel
theorem dX11_meets_21 : decode cX11_meets 21 = .ok (.isub, 1) := by decide +kernel
theorem dX11_meets_22 : decode cX11_meets 22 = .ok (.invokestatic 107, 3) := by decide +kernel
theorem dX11_meets_25 : decode cX11_meets 25 = .ok (.ifCond .eq 25, 3) := by decide +kernel
theorem dX11_meets_28 : decode cX11_meets 28 = .ok (.iload_n 2, 1) := by decide +kernel
theorem dX11_meets_29 : decode cX11_meets 29 = .ok (.iconst 1, 1) := by decide +kernel
theorem dX11_meets_30 : decode cX11_meets 30 = .ok (.sipush 999, 3) := by decide +kernel
theorem dX11_meets_33 : decode cX11_meets 33 = .ok (.invokestatic 107, 3) := by decide +kernel
theorem dX11_meets_36 : decode cX11_meets 36 = .ok (.ifCond .eq 14, 3) := by decide +kernel
theorem dX11_meets_39 : decode cX11_meets 39 = .ok (.iload_n 3, 1) := by decide +kernel
theorem dX11_meets_40 : decode cX11_meets 40 = .ok (.iconst 0, 1) := by decide +kernel
theorem dX11_meets_41 : decode cX11_meets 41 = .ok (.iload_n 2, 1) := by decide +kernel
theorem dX11_meets_42 : decode cX11_meets 42 = .ok (.iconst 1, 1) := by decide +kernel
theorem dX11_meets_43 : decode cX11_meets 43 = .ok (.isub, 1) := by decide +kernel
theorem dX11_meets_44 : decode cX11_meets 44 = .ok (.invokestatic 107, 3) := by decide +kernel
theorem dX11_meets_47 : decode cX11_meets 47 = .ok (.ifCond .ne 5, 3) := by decide +kernel
theorem dX11_meets_50 : decode cX11_meets 50 = .ok (.iconst (-1), 1) := by decide +kernel
theorem dX11_meets_51 : decode cX11_meets 51 = .ok (.ireturn, 1) := by decide +kernel
theorem dX11_meets_52 : decode cX11_meets 52 = .ok (.iload_n 1, 1) := by decide +kernel
theorem dX11_meets_53 : decode cX11_meets 53 = .ok (.aload 4, 2) := by decide +kernel
theorem dX11_meets_55 : decode cX11_meets 55 = .ok (.aload_n 0, 1) := by decide +kernel
theorem dX11_meets_56 : decode cX11_meets 56 = .ok (.getfield 12, 3) := by decide +kernel
theorem dX11_meets_59 : decode cX11_meets 59 = .ok (.getfield 188, 3) := by decide +kernel
theorem dX11_meets_62 : decode cX11_meets 62 = .ok (.invokevirtual 405, 3) := by decide +kernel
theorem dX11_meets_65 : decode cX11_meets 65 = .ok (.isub, 1) := by decide +kernel
theorem dX11_meets_66 : decode cX11_meets 66 = .ok (.aload_n 0, 1) := by decide +kernel
theorem dX11_meets_67 : decode cX11_meets 67 = .ok (.getfield 12, 3) := by decide +kernel
theorem dX11_meets_70 : decode cX11_meets 70 = .ok (.getfield 191, 3) := by decide +kernel
theorem dX11_meets_73 : decode cX11_meets 73 = .ok (.isub, 1) := by decide +kernel
theorem dX11_meets_74 : decode cX11_meets 74 = .ok (.iload 5, 2) := by decide +kernel
theorem dX11_meets_76 : decode cX11_meets 76 = .ok (.invokestatic 408, 3) := by decide +kernel
theorem dX11_meets_79 : decode cX11_meets 79 = .ok (.istore 6, 2) := by decide +kernel
theorem dX11_meets_81 : decode cX11_meets 81 = .ok (.iconst 0, 1) := by decide +kernel
theorem dX11_meets_82 : decode cX11_meets 82 = .ok (.istore 7, 2) := by decide +kernel
theorem dX11_meets_84 : decode cX11_meets 84 = .ok (.iload 7, 2) := by decide +kernel
theorem dX11_meets_86 : decode cX11_meets 86 = .ok (.iload_n 2, 1) := by decide +kernel
theorem dX11_meets_87 : decode cX11_meets 87 = .ok (.if_icmp .ge 30, 3) := by decide +kernel
theorem dX11_meets_90 : decode cX11_meets 90 = .ok (.iload 6, 2) := by decide +kernel
theorem dX11_meets_92 : decode cX11_meets 92 = .ok (.iload 7, 2) := by decide +kernel
theorem dX11_meets_94 : decode cX11_meets 94 = .ok (.iload 5, 2) := by decide +kernel
theorem dX11_meets_96 : decode cX11_meets 96 = .ok (.imul, 1) := by decide +kernel
theorem dX11_meets_97 : decode cX11_meets 97 = .ok (.iadd, 1) := by decide +kernel
theorem dX11_meets_98 : decode cX11_meets 98 = .ok (.istore 8, 2) := by decide +kernel
theorem dX11_meets_100 : decode cX11_meets 100 = .ok (.iload 8, 2) := by decide +kernel
theorem dX11_meets_102 : decode cX11_meets 102 = .ok (.iload_n 2, 1) := by decide +kernel
theorem dX11_meets_103 : decode cX11_meets 103 = .ok (.irem, 1) := by decide +kernel
theorem dX11_meets_104 : decode cX11_meets 104 = .ok (.iload_n 3, 1) := by decide +kernel
theorem dX11_meets_105 : decode cX11_meets 105 = .ok (.if_icmp .ne 6, 3) := by decide +kernel
theorem dX11_meets_108 : decode cX11_meets 108 = .ok (.iload 8, 2) := by decide +kernel
theorem dX11_meets_110 : decode cX11_meets 110 = .ok (.ireturn, 1) := by decide +kernel
theorem dX11_meets_111 : decode cX11_meets 111 = .ok (.iinc 7 1, 3) := by decide +kernel
theorem dX11_meets_114 : decode cX11_meets 114 = .ok (.goto (-30), 3) := by decide +kernel
theorem dX11_meets_117 : decode cX11_meets 117 = .ok (.iconst (-1), 1) := by decide +kernel
theorem dX11_meets_118 : decode cX11_meets 118 = .ok (.ireturn, 1) := by decide +kernel
theorem dX11_sees_0 : decode cX11_sees 0 = .ok (.aload_n 0, 1) := by decide +kernel
theorem dX11_sees_1 : decode cX11_sees 1 = .ok (.getfield 19, 3) := by decide +kernel
theorem dX11_sees_4 : decode cX11_sees 4 = .ok (.getfield 194, 3) := by decide +kernel
theorem dX11_sees_7 : decode cX11_sees 7 = .ok (.astore 4, 2) := by decide +kernel
theorem dX11_sees_9 : decode cX11_sees 9 = .ok (.iload_n 1, 1) := by decide +kernel
theorem dX11_sees_10 : decode cX11_sees 10 = .ok (.iconst 0, 1) := by decide +kernel
theorem dX11_sees_11 : decode cX11_sees 11 = .ok (.aload 4, 2) := by decide +kernel
theorem dX11_sees_13 : decode cX11_sees 13 = .ok (.getfield 271, 3) := by decide +kernel
theorem dX11_sees_16 : decode cX11_sees 16 = .ok (.iconst 1, 1) := by decide +kernel
theorem dX11_sees_17 : decode cX11_sees 17 = .ok (.isub, 1) := by decide +kernel
theorem dX11_sees_18 : decode cX11_sees 18 = .ok (.invokestatic 107, 3) := by decide +kernel
theorem dX11_sees_21 : decode cX11_sees 21 = .ok (.ifCond .eq 22, 3) := by decide +kernel
theorem dX11_sees_24 : decode cX11_sees 24 = .ok (.iload_n 2, 1) := by decide +kernel
theorem dX11_sees_25 : decode cX11_sees 25 = .ok (.iconst 1, 1) := by decide +kernel
theorem dX11_sees_26 : decode cX11_sees 26 = .ok (.bipush 9, 2) := by decide +kernel
theorem dX11_sees_28 : decode cX11_sees 28 = .ok (.invokestatic 107, 3) := by decide +kernel
theorem dX11_sees_31 : decode cX11_sees 31 = .ok (.ifCond .eq 12, 3) := by decide +kernel
theorem dX11_sees_34 : decode cX11_sees 34 = .ok (.iload_n 3, 1) := by decide +kernel
theorem dX11_sees_35 : decode cX11_sees 35 = .ok (.iconst 0, 1) := by decide +kernel
theorem dX11_sees_36 : decode cX11_sees 36 = .ok (.iconst 1, 1) := by decide +kernel
theorem dX11_sees_37 : decode cX11_sees 37 = .ok (.invokestatic 107, 3) := by decide +kernel
theorem dX11_sees_40 : decode cX11_sees 40 = .ok (.ifCond .ne 5, 3) := by decide +kernel
theorem dX11_sees_43 : decode cX11_sees 43 = .ok (.iconst (-1), 1) := by decide +kernel
theorem dX11_sees_44 : decode cX11_sees 44 = .ok (.ireturn, 1) := by decide +kernel
theorem dX11_sees_45 : decode cX11_sees 45 = .ok (.aload 4, 2) := by decide +kernel
theorem dX11_sees_47 : decode cX11_sees 47 = .ok (.invokevirtual 361, 3) := by decide +kernel
theorem dX11_sees_50 : decode cX11_sees 50 = .ok (.istore 5, 2) := by decide +kernel
theorem dX11_sees_52 : decode cX11_sees 52 = .ok (.aload 4, 2) := by decide +kernel
theorem dX11_sees_54 : decode cX11_sees 54 = .ok (.aload_n 0, 1) := by decide +kernel
theorem dX11_sees_55 : decode cX11_sees 55 = .ok (.getfield 12, 3) := by decide +kernel
theorem dX11_sees_58 : decode cX11_sees 58 = .ok (.getfield 188, 3) := by decide +kernel
theorem dX11_sees_61 : decode cX11_sees 61 = .ok (.invokevirtual 405, 3) := by decide +kernel
theorem dX11_sees_64 : decode cX11_sees 64 = .ok (.aload_n 0, 1) := by decide +kernel
theorem dX11_sees_65 : decode cX11_sees 65 = .ok (.getfield 12, 3) := by decide +kernel
theorem dX11_sees_68 : decode cX11_sees 68 = .ok (.getfield 191, 3) := by decide +kernel
theorem dX11_sees_71 : decode cX11_sees 71 = .ok (.iadd, 1) := by decide +kernel
theorem dX11_sees_72 : decode cX11_sees 72 = .ok (.istore 6, 2) := by decide +kernel
theorem dX11_sees_74 : decode cX11_sees 74 = .ok (.iconst (-1), 1) := by decide +kernel
theorem dX11_sees_75 : decode cX11_sees 75 = .ok (.istore 7, 2) := by decide +kernel
theorem dX11_sees_77 : decode cX11_sees 77 = .ok (.ldc_w 391, 3) := by decide +kernel
theorem dX11_sees_80 : decode cX11_sees 80 = .ok (.istore 8, 2) := by decide +kernel
theorem dX11_sees_82 : decode cX11_sees 82 = .ok (.iconst 0, 1) := by decide +kernel
theorem dX11_sees_83 : decode cX11_sees 83 = .ok (.istore 9, 2) := by decide +kernel
theorem dX11_sees_85 : decode cX11_sees 85 = .ok (.iload 9, 2) := by decide +kernel
theorem dX11_sees_87 : decode cX11_sees 87 = .ok (.aload 4, 2) := by decide +kernel
theorem dX11_sees_89 : decode cX11_sees 89 = .ok (.getfield 271, 3) := by decide +kernel
theorem dX11_sees_92 : decode cX11_sees 92 = .ok (.if_icmp .ge 89, 3) := by decide +kernel
theorem dX11_sees_95 : decode cX11_sees 95 = .ok (.aload 4, 2) := by decide +kernel
theorem dX11_sees_97 : decode cX11_sees 97 = .ok (.iload 9, 2) := by decide +kernel
theorem dX11_sees_99 : decode cX11_sees 99 = .ok (.invokevirtual 405, 3) := by decide +kernel
theorem dX11_sees_102 : decode cX11_sees 102 = .ok (.iload 6, 2) := by decide +kernel
theorem dX11_sees_104 : decode cX11_sees 104 = .ok (.isub, 1) := by decide +kernel
theorem dX11_sees_105 : decode cX11_sees 105 = .ok (.iload 5, 2) := by decide +kernel
theorem dX11_sees_107 : decode cX11_sees 107 = .ok (.invokestatic 408, 3) := by decide +kernel
theorem dX11_sees_110 : decode cX11_sees 110 = .ok (.istore 10, 2) := by decide +kernel
theorem dX11_sees_112 : decode cX11_sees 112 = .ok (.aload 4, 2) := by decide +kernel
theorem dX11_sees_114 : decode cX11_sees 114 = .ok (.iload 9, 2) := by decide +kernel
theorem dX11_sees_116 : decode cX11_sees 116 = .ok (.invokevirtual 405, 3) := by decide +kernel
theorem dX11_sees_119 : decode cX11_sees 119 = .ok (.aload 4, 2) := by decide +kernel
theorem dX11_sees_121 : decode cX11_sees 121 = .ok (.iload_n 1, 1) := by decide +kernel
theorem dX11_sees_122 : decode cX11_sees 122 = .ok (.invokevirtual 405, 3) := by decide +kernel
theorem dX11_sees_125 : decode cX11_sees 125 = .ok (.isub, 1) := by decide +kernel
theorem dX11_sees_126 : decode cX11_sees 126 = .ok (.invokestatic 411, 3) := by decide +kernel
theorem dX11_sees_129 : decode cX11_sees 129 = .ok (.istore 11, 2) := by decide +kernel
theorem dX11_sees_131 : decode cX11_sees 131 = .ok (.iload_n 2, 1) := by decide +kernel
theorem dX11_sees_132 : decode cX11_sees 132 = .ok (.iload 11, 2) := by decide +kernel
theorem dX11_sees_134 : decode cX11_sees 134 = .ok (.iload 5, 2) := by decide +kernel
theorem dX11_sees_136 : decode cX11_sees 136 = .ok (.iload 11, 2) := by decide +kernel
theorem dX11_sees_138 : decode cX11_sees 138 = .ok (.isub, 1) := by decide +kernel
theorem dX11_sees_139 : decode cX11_sees 139 = .ok (.invokestatic 323, 3) := by decide +kernel
theorem dX11_sees_142 : decode cX11_sees 142 = .ok (.imul, 1) := by decide +kernel
theorem dX11_sees_143 : decode cX11_sees 143 = .ok (.iload 10, 2) := by decide +kernel
theorem dX11_sees_145 : decode cX11_sees 145 = .ok (.if_icmp .gt 7, 3) := by decide +kernel
theorem dX11_sees_148 : decode cX11_sees 148 = .ok (.iconst 1, 1) := by decide +kernel
theorem dX11_sees_149 : decode cX11_sees 149 = .ok (.goto 4, 3) := by decide +kernel
theorem dX11_sees_152 : decode cX11_sees 152 = .ok (.iconst 0, 1) := by decide +kernel
theorem dX11_sees_153 : decode cX11_sees 153 = .ok (.istore 12, 2) := by decide +kernel
theorem dX11_sees_155 : decode cX11_sees 155 = .ok (.iload 12, 2) := by decide +kernel
theorem dX11_sees_157 : decode cX11_sees 157 = .ok (.ifCond .eq 18, 3) := by decide +kernel
theorem dX11_sees_160 : decode cX11_sees 160 = .ok (.iload 10, 2) := by decide +kernel
theorem dX11_sees_162 : decode cX11_sees 162 = .ok (.iload 8, 2) := by decide +kernel
theorem dX11_sees_164 : decode cX11_sees 164 = .ok (.if_icmp .ge 11, 3) := by decide +kernel
theorem dX11_sees_167 : decode cX11_sees 167 = .ok (.iload 9, 2) := by decide +kernel
theorem dX11_sees_169 : decode cX11_sees 169 = .ok (.istore 7, 2) := by decide +kernel
theorem dX11_sees_171 : decode cX11_sees 171 = .ok (.iload 10, 2) := by decide +kernel
theorem dX11_sees_173 : decode cX11_sees 173 = .ok (.istore 8, 2) := by decide +kernel
theorem dX11_sees_175 : decode cX11_sees 175 = .ok (.iinc 9 1, 3) := by decide +kernel
theorem dX11_sees_178 : decode cX11_sees 178 = .ok (.goto (-93), 3) := by decide +kernel
theorem dX11_sees_181 : decode cX11_sees 181 = .ok (.iload_n 3, 1) := by decide +kernel
theorem dX11_sees_182 : decode cX11_sees 182 = .ok (.ifCond .ne 8, 3) := by decide +kernel
theorem dX11_sees_185 : decode cX11_sees 185 = .ok (.iload 7, 2) := by decide +kernel
theorem dX11_sees_187 : decode cX11_sees 187 = .ok (.goto 5, 3) := by decide +kernel
theorem dX11_sees_190 : decode cX11_sees 190 = .ok (.iload 8, 2) := by decide +kernel
theorem dX11_sees_192 : decode cX11_sees 192 = .ok (.ireturn, 1) := by decide +kernel
theorem dX11_fits_0 : decode cX11_fits 0 = .ok (.aload_n 0, 1) := by decide +kernel
theorem dX11_fits_1 : decode cX11_fits 1 = .ok (.iload_n 1, 1) := by decide +kernel
theorem dX11_fits_2 : decode cX11_fits 2 = .ok (.invokevirtual 141, 3) := by decide +kernel
theorem dX11_fits_5 : decode cX11_fits 5 = .ok (.ifCond .eq 34, 3) := by decide +kernel
theorem dX11_fits_8 : decode cX11_fits 8 = .ok (.iload_n 2, 1) := by decide +kernel
theorem dX11_fits_9 : decode cX11_fits 9 = .ok (.iconst 1, 1) := by decide +kernel
theorem dX11_fits_10 : decode cX11_fits 10 = .ok (.bipush 10, 2) := by decide +kernel
theorem dX11_fits_12 : decode cX11_fits 12 = .ok (.invokestatic 107, 3) := by decide +kernel
theorem dX11_fits_15 : decode cX11_fits 15 = .ok (.ifCond .eq 24, 3) := by decide +kernel
theorem dX11_fits_18 : decode cX11_fits 18 = .ok (.iload_n 3, 1) := by decide +kernel
theorem dX11_fits_19 : decode cX11_fits 19 = .ok (.iconst 0, 1) := by decide +kernel
theorem dX11_fits_20 : decode cX11_fits 20 = .ok (.sipush 999, 3) := by decide +kernel
theorem dX11_fits_23 : decode cX11_fits 23 = .ok (.invokestatic 107, 3) := by decide +kernel
theorem dX11_fits_26 : decode cX11_fits 26 = .ok (.ifCond .eq 13, 3) := by decide +kernel
theorem dX11_fits_29 : decode cX11_fits 29 = .ok (.iload 4, 2) := by decide +kernel
theorem dX11_fits_31 : decode cX11_fits 31 = .ok (.iconst 0, 1) := by decide +kernel
theorem dX11_fits_32 : decode cX11_fits 32 = .ok (.iconst 1, 1) := by decide +kernel
theorem dX11_fits_33 : decode cX11_fits 33 = .ok (.invokestatic 107, 3) := by decide +kernel
theorem dX11_fits_36 : decode cX11_fits 36 = .ok (.ifCond .ne 5, 3) := by decide +kernel
theorem dX11_fits_39 : decode cX11_fits 39 = .ok (.iconst (-1), 1) := by decide +kernel
theorem dX11_fits_40 : decode cX11_fits 40 = .ok (.ireturn, 1) := by decide +kernel
theorem dX11_fits_41 : decode cX11_fits 41 = .ok (.aload_n 0, 1) := by decide +kernel
theorem dX11_fits_42 : decode cX11_fits 42 = .ok (.getfield 60, 3) := by decide +kernel
theorem dX11_fits_45 : decode cX11_fits 45 = .ok (.aload_n 0, 1) := by decide +kernel
theorem dX11_fits_46 : decode cX11_fits 46 = .ok (.getfield 12, 3) := by decide +kernel
theorem dX11_fits_49 : decode cX11_fits 49 = .ok (.aload_n 0, 1) := by decide +kernel
theorem dX11_fits_50 : decode cX11_fits 50 = .ok (.getfield 19, 3) := by decide +kernel
theorem dX11_fits_53 : decode cX11_fits 53 = .ok (.getfield 194, 3) := by decide +kernel
theorem dX11_fits_56 : decode cX11_fits 56 = .ok (.iload_n 1, 1) := by decide +kernel
theorem dX11_fits_57 : decode cX11_fits 57 = .ok (.invokevirtual 288, 3) := by decide +kernel
theorem dX11_fits_60 : decode cX11_fits 60 = .ok (.aload_n 0, 1) := by decide +kernel
theorem dX11_fits_61 : decode cX11_fits 61 = .ok (.getfield 83, 3) := by decide +kernel
theorem dX11_fits_64 : decode cX11_fits 64 = .ok (.aload_n 0, 1) := by decide +kernel
theorem dX11_fits_65 : decode cX11_fits 65 = .ok (.getfield 12, 3) := by decide +kernel
theorem dX11_fits_68 : decode cX11_fits 68 = .ok (.getfield 220, 3) := by decide +kernel
theorem dX11_fits_71 : decode cX11_fits 71 = .ok (.iload_n 2, 1) := by decide +kernel
theorem dX11_fits_72 : decode cX11_fits 72 = .ok (.iload_n 3, 1) := by decide +kernel
theorem dX11_fits_73 : decode cX11_fits 73 = .ok (.aload_n 0, 1) := by decide +kernel
theorem dX11_fits_74 : decode cX11_fits 74 = .ok (.getfield 12, 3) := by decide +kernel
theorem dX11_fits_77 : decode cX11_fits 77 = .ok (.getfield 120, 3) := by decide +kernel
theorem dX11_fits_80 : decode cX11_fits 80 = .ok (.iload_n 1, 1) := by decide +kernel
theorem dX11_fits_81 : decode cX11_fits 81 = .ok (.iaload, 1) := by decide +kernel
theorem dX11_fits_82 : decode cX11_fits 82 = .ok (.aload_n 0, 1) := by decide +kernel
theorem dX11_fits_83 : decode cX11_fits 83 = .ok (.getfield 12, 3) := by decide +kernel
theorem dX11_fits_86 : decode cX11_fits 86 = .ok (.getfield 123, 3) := by decide +kernel
theorem dX11_fits_89 : decode cX11_fits 89 = .ok (.iload_n 1, 1) := by decide +kernel
theorem dX11_fits_90 : decode cX11_fits 90 = .ok (.iaload, 1) := by decide +kernel
theorem dX11_fits_91 : decode cX11_fits 91 = .ok (.invokevirtual 414, 3) := by decide +kernel
theorem dX11_fits_94 : decode cX11_fits 94 = .ok (.iload 4, 2) := by decide +kernel
theorem dX11_fits_96 : decode cX11_fits 96 = .ok (.ifCond .ne 13, 3) := by decide +kernel
theorem dX11_fits_99 : decode cX11_fits 99 = .ok (.aload_n 0, 1) := by decide +kernel
theorem dX11_fits_100 : decode cX11_fits 100 = .ok (.getfield 83, 3) := by decide +kernel
theorem dX11_fits_103 : decode cX11_fits 103 = .ok (.getfield 418, 3) := by decide +kernel
theorem dX11_fits_106 : decode cX11_fits 106 = .ok (.goto 10, 3) := by decide +kernel
theorem dX11_fits_109 : decode cX11_fits 109 = .ok (.aload_n 0, 1) := by decide +kernel
theorem dX11_fits_110 : decode cX11_fits 110 = .ok (.getfield 83, 3) := by decide +kernel
theorem dX11_fits_113 : decode cX11_fits 113 = .ok (.getfield 421, 3) := by decide +kernel
theorem dX11_fits_116 : decode cX11_fits 116 = .ok (.ireturn, 1) := by decide +kernel
theorem dX11_crossed_0 : decode cX11_crossed 0 = .ok (.iload_n 1, 1) := by decide +kernel
theorem dX11_crossed_1 : decode cX11_crossed 1 = .ok (.iconst 1, 1) := by decide +kernel
theorem dX11_crossed_2 : decode cX11_crossed 2 = .ok (.bipush 12, 2) := by decide +kernel
theorem dX11_crossed_4 : decode cX11_crossed 4 = .ok (.invokestatic 107, 3) := by decide +kernel
theorem dX11_crossed_7 : decode cX11_crossed 7 = .ok (.ifCond .eq 13, 3) := by decide +kernel
theorem dX11_crossed_10 : decode cX11_crossed 10 = .ok (.iload_n 2, 1) := by decide +kernel
theorem dX11_crossed_11 : decode cX11_crossed 11 = .ok (.iconst 0, 1) := by decide +kernel
theorem dX11_crossed_12 : decode cX11_crossed 12 = .ok (.bipush 30, 2) := by decide +kernel
theorem dX11_crossed_14 : decode cX11_crossed 14 = .ok (.invokestatic 107, 3) := by decide +kernel
theorem dX11_crossed_17 : decode cX11_crossed 17 = .ok (.ifCond .ne 5, 3) := by decide +kernel
theorem dX11_crossed_20 : decode cX11_crossed 20 = .ok (.iconst (-1), 1) := by decide +kernel
theorem dX11_crossed_21 : decode cX11_crossed 21 = .ok (.ireturn, 1) := by decide +kernel
theorem dX11_crossed_22 : decode cX11_crossed 22 = .ok (.aload_n 0, 1) := by decide +kernel
theorem dX11_crossed_23 : decode cX11_crossed 23 = .ok (.getfield 90, 3) := by decide +kernel
theorem dX11_crossed_26 : decode cX11_crossed 26 = .ok (.iconst 0, 1) := by decide +kernel
theorem dX11_crossed_27 : decode cX11_crossed 27 = .ok (.invokestatic 424, 3) := by decide +kernel
theorem dX11_crossed_30 : decode cX11_crossed 30 = .ok (.aload_n 0, 1) := by decide +kernel
theorem dX11_crossed_31 : decode cX11_crossed 31 = .ok (.getfield 90, 3) := by decide +kernel
theorem dX11_crossed_34 : decode cX11_crossed 34 = .ok (.iconst 0, 1) := by decide +kernel
theorem dX11_crossed_35 : decode cX11_crossed 35 = .ok (.ldc_w 391, 3) := by decide +kernel
theorem dX11_crossed_38 : decode cX11_crossed 38 = .ok (.iastore, 1) := by decide +kernel
theorem dX11_crossed_39 : decode cX11_crossed 39 = .ok (.iconst 0, 1) := by decide +kernel
theorem dX11_crossed_40 : decode cX11_crossed 40 = .ok (.istore_n 3, 1) := by decide +kernel
theorem dX11_crossed_41 : decode cX11_crossed 41 = .ok (.iload_n 3, 1) := by decide +kernel
theorem dX11_crossed_42 : decode cX11_crossed 42 = .ok (.iload_n 2, 1) := by decide +kernel
theorem dX11_crossed_43 : decode cX11_crossed 43 = .ok (.if_icmp .ge 76, 3) := by decide +kernel
theorem dX11_crossed_46 : decode cX11_crossed 46 = .ok (.iload_n 1, 1) := by decide +kernel
theorem dX11_crossed_47 : decode cX11_crossed 47 = .ok (.iconst 1, 1) := by decide +kernel
theorem dX11_crossed_48 : decode cX11_crossed 48 = .ok (.isub, 1) := by decide +kernel
theorem dX11_crossed_49 : decode cX11_crossed 49 = .ok (.istore 4, 2) := by decide +kernel
theorem dX11_crossed_51 : decode cX11_crossed 51 = .ok (.iload 4, 2) := by decide +kernel
theorem dX11_crossed_53 : decode cX11_crossed 53 = .ok (.ifCond .lt 60, 3) := by decide +kernel
theorem dX11_crossed_56 : decode cX11_crossed 56 = .ok (.aload_n 0, 1) := by decide +kernel
theorem dX11_crossed_57 : decode cX11_crossed 57 = .ok (.getfield 90, 3) := by decide +kernel
theorem dX11_crossed_60 : decode cX11_crossed 60 = .ok (.iload 4, 2) := by decide +kernel
theorem dX11_crossed_62 : decode cX11_crossed 62 = .ok (.iaload, 1) := by decide +kernel
theorem dX11_crossed_63 : decode cX11_crossed 63 = .ok (.sipush 1000, 3) := by decide +kernel
theorem dX11_crossed_66 : decode cX11_crossed 66 = .ok (.aload_n 0, 1) := by decide +kernel
theorem dX11_crossed_67 : decode cX11_crossed 67 = .ok (.getfield 19, 3) := by decide +kernel
theorem dX11_crossed_70 : decode cX11_crossed 70 = .ok (.getfield 135, 3) := by decide +kernel
theorem dX11_crossed_73 : decode cX11_crossed 73 = .ok (.isub, 1) := by decide +kernel
theorem dX11_crossed_74 : decode cX11_crossed 74 = .ok (.imul, 1) := by decide +kernel
theorem dX11_crossed_75 : decode cX11_crossed 75 = .ok (.sipush 1000, 3) := by decide +kernel
theorem dX11_crossed_78 : decode cX11_crossed 78 = .ok (.idiv, 1) := by decide +kernel
theorem dX11_crossed_79 : decode cX11_crossed 79 = .ok (.istore 5, 2) := by decide +kernel
theorem dX11_crossed_81 : decode cX11_crossed 81 = .ok (.aload_n 0, 1) := by decide +kernel
theorem dX11_crossed_82 : decode cX11_crossed 82 = .ok (.getfield 90, 3) := by decide +kernel
theorem dX11_crossed_85 : decode cX11_crossed 85 = .ok (.iload 4, 2) := by decide +kernel
theorem dX11_crossed_87 : decode cX11_crossed 87 = .ok (.dup2, 1) := by decide +kernel
theorem dX11_crossed_88 : decode cX11_crossed 88 = .ok (.iaload, 1) := by decide +kernel
theorem dX11_crossed_89 : decode cX11_crossed 89 = .ok (.iload 5, 2) := by decide +kernel
theorem dX11_crossed_91 : decode cX11_crossed 91 = .ok (.isub, 1) := by decide +kernel
theorem dX11_crossed_92 : decode cX11_crossed 92 = .ok (.iastore, 1) := by decide +kernel
theorem dX11_crossed_93 : decode cX11_crossed 93 = .ok (.aload_n 0, 1) := by decide +kernel
theorem dX11_crossed_94 : decode cX11_crossed 94 = .ok (.getfield 90, 3) := by decide +kernel
theorem dX11_crossed_97 : decode cX11_crossed 97 = .ok (.iload 4, 2) := by decide +kernel
theorem dX11_crossed_99 : decode cX11_crossed 99 = .ok (.iconst 1, 1) := by decide +kernel
theorem dX11_crossed_100 : decode cX11_crossed 100 = .ok (.iadd, 1) := by decide +kernel
theorem dX11_crossed_101 : decode cX11_crossed 101 = .ok (.dup2, 1) := by decide +kernel
theorem dX11_crossed_102 : decode cX11_crossed 102 = .ok (.iaload, 1) := by decide +kernel
theorem dX11_crossed_103 : decode cX11_crossed 103 = .ok (.iload 5, 2) := by decide +kernel
theorem dX11_crossed_105 : decode cX11_crossed 105 = .ok (.iadd, 1) := by decide +kernel
theorem dX11_crossed_106 : decode cX11_crossed 106 = .ok (.iastore, 1) := by decide +kernel
theorem dX11_crossed_107 : decode cX11_crossed 107 = .ok (.iinc 4 (-1), 3) := by decide +kernel
theorem dX11_crossed_110 : decode cX11_crossed 110 = .ok (.goto (-59), 3) := by decide +kernel
theorem dX11_crossed_113 : decode cX11_crossed 113 = .ok (.iinc 3 1, 3) := by decide +kernel
theorem dX11_crossed_116 : decode cX11_crossed 116 = .ok (.goto (-75), 3) := by decide +kernel
theorem dX11_crossed_119 : decode cX11_crossed 119 = .ok (.aload_n 0, 1) := by decide +kernel
theorem dX11_crossed_120 : decode cX11_crossed 120 = .ok (.getfield 90, 3) := by decide +kernel
theorem dX11_crossed_123 : decode cX11_crossed 123 = .ok (.iload_n 1, 1) := by decide +kernel
theorem dX11_crossed_124 : decode cX11_crossed 124 = .ok (.iaload, 1) := by decide +kernel
theorem dX11_crossed_125 : decode cX11_crossed 125 = .ok (.ireturn, 1) := by decide +kernel
theorem dX11_line_0 : decode cX11_line 0 = .ok (.aload_n 0, 1) := by decide +kernel
theorem dX11_line_1 : decode cX11_line 1 = .ok (.aload_n 0, 1) := by decide +kernel
theorem dX11_line_2 : decode cX11_line 2 = .ok (.aload_n 0, 1) := by decide +kernel
theorem dX11_line_3 : decode cX11_line 3 = .ok (.getfield 12, 3) := by decide +kernel
theorem dX11_line_6 : decode cX11_line 6 = .ok (.invokevirtual 247, 3) := by decide +kernel
theorem dX11_line_9 : decode cX11_line 9 = .ok (.invokevirtual 429, 3) := by decide +kernel
theorem dX11_line_12 : decode cX11_line 12 = .ok (.istore_n 2, 1) := by decide +kernel
theorem dX11_line_13 : decode cX11_line 13 = .ok (.iload_n 1, 1) := by decide +kernel
theorem dX11_line_14 : decode cX11_line 14 = .ok (.iconst 0, 1) := by decide +kernel
theorem dX11_line_15 : decode cX11_line 15 = .ok (.iload_n 2, 1) := by decide +kernel
theorem dX11_line_16 : decode cX11_line 16 = .ok (.iconst 1, 1) := by decide +kernel
theorem dX11_line_17 : decode cX11_line 17 = .ok (.isub, 1) := by decide +kernel
theorem dX11_line_18 : decode cX11_line 18 = .ok (.invokestatic 107, 3) := by decide +kernel
theorem dX11_line_21 : decode cX11_line 21 = .ok (.ifCond .eq 12, 3) := by decide +kernel
theorem dX11_line_24 : decode cX11_line 24 = .ok (.aload_n 0, 1) := by decide +kernel
theorem dX11_line_25 : decode cX11_line 25 = .ok (.getfield 93, 3) := by decide +kernel
theorem dX11_line_28 : decode cX11_line 28 = .ok (.iload_n 1, 1) := by decide +kernel
theorem dX11_line_29 : decode cX11_line 29 = .ok (.iaload, 1) := by decide +kernel
theorem dX11_line_30 : decode cX11_line 30 = .ok (.goto 4, 3) := by decide +kernel
theorem dX11_line_33 : decode cX11_line 33 = .ok (.iconst (-1), 1) := by decide +kernel
theorem dX11_line_34 : decode cX11_line 34 = .ok (.ireturn, 1) := by decide +kernel
theorem dX11_lineUp_0 : decode cX11_lineUp 0 = .ok (.iconst 0, 1) := by decide +kernel
theorem dX11_lineUp_1 : decode cX11_lineUp 1 = .ok (.istore_n 2, 1) := by decide +kernel
theorem dX11_lineUp_2 : decode cX11_lineUp 2 = .ok (.iconst 0, 1) := by decide +kernel
theorem dX11_lineUp_3 : decode cX11_lineUp 3 = .ok (.istore_n 3, 1) := by decide +kernel
theorem dX11_lineUp_4 : decode cX11_lineUp 4 = .ok (.iconst 0, 1) := by decide +kernel
theorem dX11_lineUp_5 : decode cX11_lineUp 5 = .ok (.istore 4, 2) := by decide +kernel
theorem dX11_lineUp_7 : decode cX11_lineUp 7 = .ok (.iload 4, 2) := by decide +kernel
theorem dX11_lineUp_9 : decode cX11_lineUp 9 = .ok (.aload_n 0, 1) := by decide +kernel
theorem dX11_lineUp_10 : decode cX11_lineUp 10 = .ok (.getfield 12, 3) := by decide +kernel
theorem dX11_lineUp_13 : decode cX11_lineUp 13 = .ok (.getfield 111, 3) := by decide +kernel
theorem dX11_lineUp_16 : decode cX11_lineUp 16 = .ok (.if_icmp .ge 51, 3) := by decide +kernel
theorem dX11_lineUp_19 : decode cX11_lineUp 19 = .ok (.iload_n 1, 1) := by decide +kernel
theorem dX11_lineUp_20 : decode cX11_lineUp 20 = .ok (.iload 4, 2) := by decide +kernel
theorem dX11_lineUp_22 : decode cX11_lineUp 22 = .ok (.ishr, 1) := by decide +kernel
theorem dX11_lineUp_23 : decode cX11_lineUp 23 = .ok (.iconst 1, 1) := by decide +kernel
theorem dX11_lineUp_24 : decode cX11_lineUp 24 = .ok (.iand, 1) := by decide +kernel
theorem dX11_lineUp_25 : decode cX11_lineUp 25 = .ok (.ifCond .ne 6, 3) := by decide +kernel
theorem dX11_lineUp_28 : decode cX11_lineUp 28 = .ok (.goto 33, 3) := by decide +kernel
theorem dX11_lineUp_31 : decode cX11_lineUp 31 = .ok (.aload_n 0, 1) := by decide +kernel
theorem dX11_lineUp_32 : decode cX11_lineUp 32 = .ok (.getfield 12, 3) := by decide +kernel
theorem dX11_lineUp_35 : decode cX11_lineUp 35 = .ok (.getfield 117, 3) := by decide +kernel
theorem dX11_lineUp_38 : decode cX11_lineUp 38 = .ok (.iload 4, 2) := by decide +kernel
theorem dX11_lineUp_40 : decode cX11_lineUp 40 = .ok (.iaload, 1) := by decide +kernel
theorem dX11_lineUp_41 : decode cX11_lineUp 41 = .ok (.iconst 1, 1) := by decide +kernel
theorem dX11_lineUp_42 : decode cX11_lineUp 42 = .ok (.if_icmp .ne 9, 3) := by decide +kernel
theorem dX11_lineUp_45 : decode cX11_lineUp 45 = .ok (.iinc 2 1, 3) := by decide +kernel
theorem dX11_lineUp_48 : decode cX11_lineUp 48 = .ok (.goto 13, 3) := by decide +kernel
theorem dX11_lineUp_51 : decode cX11_lineUp 51 = .ok (.aload_n 0, 1) := by decide +kernel
theorem dX11_lineUp_52 : decode cX11_lineUp 52 = .ok (.iload 4, 2) := by decide +kernel
theorem dX11_lineUp_54 : decode cX11_lineUp 54 = .ok (.iload_n 3, 1) := by decide +kernel
theorem dX11_lineUp_55 : decode cX11_lineUp 55 = .ok (.invokevirtual 432, 3) := by decide +kernel
theorem dX11_lineUp_58 : decode cX11_lineUp 58 = .ok (.iinc 3 1, 3) := by decide +kernel
theorem dX11_lineUp_61 : decode cX11_lineUp 61 = .ok (.iinc 4 1, 3) := by decide +kernel
theorem dX11_lineUp_64 : decode cX11_lineUp 64 = .ok (.goto (-57), 3) := by decide +kernel
theorem dX11_lineUp_67 : decode cX11_lineUp 67 = .ok (.iload_n 3, 1) := by decide +kernel
theorem dX11_lineUp_68 : decode cX11_lineUp 68 = .ok (.iconst 1, 1) := by decide +kernel
theorem dX11_lineUp_69 : decode cX11_lineUp 69 = .ok (.iadd, 1) := by decide +kernel
theorem dX11_lineUp_70 : decode cX11_lineUp 70 = .ok (.iconst 2, 1) := by decide +kernel
theorem dX11_lineUp_71 : decode cX11_lineUp 71 = .ok (.idiv, 1) := by decide +kernel
theorem dX11_lineUp_72 : decode cX11_lineUp 72 = .ok (.istore 4, 2) := by decide +kernel
theorem dX11_lineUp_74 : decode cX11_lineUp 74 = .ok (.iload_n 3, 1) := by decide +kernel
theorem dX11_lineUp_75 : decode cX11_lineUp 75 = .ok (.iconst 1, 1) := by decide +kernel
theorem dX11_lineUp_76 : decode cX11_lineUp 76 = .ok (.isub, 1) := by decide +kernel
theorem dX11_lineUp_77 : decode cX11_lineUp 77 = .ok (.istore 5, 2) := by decide +kernel
theorem dX11_lineUp_79 : decode cX11_lineUp 79 = .ok (.iload 5, 2) := by decide +kernel
theorem dX11_lineUp_81 : decode cX11_lineUp 81 = .ok (.iload 4, 2) := by decide +kernel
theorem dX11_lineUp_83 : decode cX11_lineUp 83 = .ok (.if_icmp .lt 25, 3) := by decide +kernel
theorem dX11_lineUp_86 : decode cX11_lineUp 86 = .ok (.aload_n 0, 1) := by decide +kernel
theorem dX11_lineUp_87 : decode cX11_lineUp 87 = .ok (.getfield 93, 3) := by decide +kernel
theorem dX11_lineUp_90 : decode cX11_lineUp 90 = .ok (.iload 5, 2) := by decide +kernel
theorem dX11_lineUp_92 : decode cX11_lineUp 92 = .ok (.iload_n 2, 1) := by decide +kernel
theorem dX11_lineUp_93 : decode cX11_lineUp 93 = .ok (.iadd, 1) := by decide +kernel
theorem dX11_lineUp_94 : decode cX11_lineUp 94 = .ok (.aload_n 0, 1) := by decide +kernel
theorem dX11_lineUp_95 : decode cX11_lineUp 95 = .ok (.getfield 93, 3) := by decide +kernel
theorem dX11_lineUp_98 : decode cX11_lineUp 98 = .ok (.iload 5, 2) := by decide +kernel
theorem dX11_lineUp_100 : decode cX11_lineUp 100 = .ok (.iaload, 1) := by decide +kernel
theorem dX11_lineUp_101 : decode cX11_lineUp 101 = .ok (.iastore, 1) := by decide +kernel
theorem dX11_lineUp_102 : decode cX11_lineUp 102 = .ok (.iinc 5 (-1), 3) := by decide +kernel
theorem dX11_lineUp_105 : decode cX11_lineUp 105 = .ok (.goto (-26), 3) := by decide +kernel
theorem dX11_lineUp_108 : decode cX11_lineUp 108 = .ok (.iload 4, 2) := by decide +kernel
theorem dX11_lineUp_110 : decode cX11_lineUp 110 = .ok (.istore 5, 2) := by decide +kernel
theorem dX11_lineUp_112 : decode cX11_lineUp 112 = .ok (.iconst 0, 1) := by decide +kernel
theorem dX11_lineUp_113 : decode cX11_lineUp 113 = .ok (.istore 6, 2) := by decide +kernel
theorem dX11_lineUp_115 : decode cX11_lineUp 115 = .ok (.iload 6, 2) := by decide +kernel
theorem dX11_lineUp_117 : decode cX11_lineUp 117 = .ok (.aload_n 0, 1) := by decide +kernel
theorem dX11_lineUp_118 : decode cX11_lineUp 118 = .ok (.getfield 12, 3) := by decide +kernel
theorem dX11_lineUp_121 : decode cX11_lineUp 121 = .ok (.getfield 111, 3) := by decide +kernel
theorem dX11_lineUp_124 : decode cX11_lineUp 124 = .ok (.if_icmp .ge 44, 3) := by decide +kernel
theorem dX11_lineUp_127 : decode cX11_lineUp 127 = .ok (.iload_n 1, 1) := by decide +kernel
theorem dX11_lineUp_128 : decode cX11_lineUp 128 = .ok (.iload 6, 2) := by decide +kernel
theorem dX11_lineUp_130 : decode cX11_lineUp 130 = .ok (.ishr, 1) := by decide +kernel
theorem dX11_lineUp_131 : decode cX11_lineUp 131 = .ok (.iconst 1, 1) := by decide +kernel
theorem dX11_lineUp_132 : decode cX11_lineUp 132 = .ok (.iand, 1) := by decide +kernel
theorem dX11_lineUp_133 : decode cX11_lineUp 133 = .ok (.ifCond .eq 29, 3) := by decide +kernel
theorem dX11_lineUp_136 : decode cX11_lineUp 136 = .ok (.aload_n 0, 1) := by decide +kernel
theorem dX11_lineUp_137 : decode cX11_lineUp 137 = .ok (.getfield 12, 3) := by decide +kernel
theorem dX11_lineUp_140 : decode cX11_lineUp 140 = .ok (.getfield 117, 3) := by decide +kernel
theorem dX11_lineUp_143 : decode cX11_lineUp 143 = .ok (.iload 6, 2) := by decide +kernel
theorem dX11_lineUp_145 : decode cX11_lineUp 145 = .ok (.iaload, 1) := by decide +kernel
theorem dX11_lineUp_146 : decode cX11_lineUp 146 = .ok (.iconst 1, 1) := by decide +kernel
theorem dX11_lineUp_147 : decode cX11_lineUp 147 = .ok (.if_icmp .ne 15, 3) := by decide +kernel
theorem dX11_lineUp_150 : decode cX11_lineUp 150 = .ok (.aload_n 0, 1) := by decide +kernel
theorem dX11_lineUp_151 : decode cX11_lineUp 151 = .ok (.getfield 93, 3) := by decide +kernel
theorem dX11_lineUp_154 : decode cX11_lineUp 154 = .ok (.iload 5, 2) := by decide +kernel
theorem dX11_lineUp_156 : decode cX11_lineUp 156 = .ok (.iload 6, 2) := by decide +kernel
theorem dX11_lineUp_158 : decode cX11_lineUp 158 = .ok (.iastore, 1) := by decide +kernel
theorem dX11_lineUp_159 : decode cX11_lineUp 159 = .ok (.iinc 5 1, 3) := by decide +kernel
theorem dX11_lineUp_162 : decode cX11_lineUp 162 = .ok (.iinc 6 1, 3) := by decide +kernel
theorem dX11_lineUp_165 : decode cX11_lineUp 165 = .ok (.goto (-50), 3) := by decide +kernel
theorem dX11_lineUp_168 : decode cX11_lineUp 168 = .ok (.iload_n 3, 1) := by decide +kernel
theorem dX11_lineUp_169 : decode cX11_lineUp 169 = .ok (.iload_n 2, 1) := by decide +kernel
theorem dX11_lineUp_170 : decode cX11_lineUp 170 = .ok (.iadd, 1) := by decide +kernel
theorem dX11_lineUp_171 : decode cX11_lineUp 171 = .ok (.ireturn, 1) := by decide +kernel
theorem dX11_putByFeet_0 : decode cX11_putByFeet 0 = .ok (.iload_n 2, 1) := by decide +kernel
theorem dX11_putByFeet_1 : decode cX11_putByFeet 1 = .ok (.istore_n 3, 1) := by decide +kernel
theorem dX11_putByFeet_2 : decode cX11_putByFeet 2 = .ok (.iload_n 3, 1) := by decide +kernel
theorem dX11_putByFeet_3 : decode cX11_putByFeet 3 = .ok (.ifCond .le 51, 3) := by decide +kernel
theorem dX11_putByFeet_6 : decode cX11_putByFeet 6 = .ok (.aload_n 0, 1) := by decide +kernel
theorem dX11_putByFeet_7 : decode cX11_putByFeet 7 = .ok (.getfield 12, 3) := by decide +kernel
theorem dX11_putByFeet_10 : decode cX11_putByFeet 10 = .ok (.getfield 120, 3) := by decide +kernel
theorem dX11_putByFeet_13 : decode cX11_putByFeet 13 = .ok (.aload_n 0, 1) := by decide +kernel
theorem dX11_putByFeet_14 : decode cX11_putByFeet 14 = .ok (.getfield 93, 3) := by decide +kernel
theorem dX11_putByFeet_17 : decode cX11_putByFeet 17 = .ok (.iload_n 3, 1) := by decide +kernel
theorem dX11_putByFeet_18 : decode cX11_putByFeet 18 = .ok (.iconst 1, 1) := by decide +kernel
theorem dX11_putByFeet_19 : decode cX11_putByFeet 19 = .ok (.isub, 1) := by decide +kernel
theorem dX11_putByFeet_20 : decode cX11_putByFeet 20 = .ok (.iaload, 1) := by decide +kernel
theorem dX11_putByFeet_21 : decode cX11_putByFeet 21 = .ok (.iaload, 1) := by decide +kernel
theorem dX11_putByFeet_22 : decode cX11_putByFeet 22 = .ok (.aload_n 0, 1) := by decide +kernel
theorem dX11_putByFeet_23 : decode cX11_putByFeet 23 = .ok (.getfield 12, 3) := by decide +kernel
theorem dX11_putByFeet_26 : decode cX11_putByFeet 26 = .ok (.getfield 120, 3) := by decide +kernel
theorem dX11_putByFeet_29 : decode cX11_putByFeet 29 = .ok (.iload_n 1, 1) := by decide +kernel
theorem dX11_putByFeet_30 : decode cX11_putByFeet 30 = .ok (.iaload, 1) := by decide +kernel
theorem dX11_putByFeet_31 : decode cX11_putByFeet 31 = .ok (.if_icmp .le 23, 3) := by decide +kernel
theorem dX11_putByFeet_34 : decode cX11_putByFeet 34 = .ok (.aload_n 0, 1) := by decide +kernel
theorem dX11_putByFeet_35 : decode cX11_putByFeet 35 = .ok (.getfield 93, 3) := by decide +kernel
theorem dX11_putByFeet_38 : decode cX11_putByFeet 38 = .ok (.iload_n 3, 1) := by decide +kernel
theorem dX11_putByFeet_39 : decode cX11_putByFeet 39 = .ok (.aload_n 0, 1) := by decide +kernel
theorem dX11_putByFeet_40 : decode cX11_putByFeet 40 = .ok (.getfield 93, 3) := by decide +kernel
theorem dX11_putByFeet_43 : decode cX11_putByFeet 43 = .ok (.iload_n 3, 1) := by decide +kernel
theorem dX11_putByFeet_44 : decode cX11_putByFeet 44 = .ok (.iconst 1, 1) := by decide +kernel
theorem dX11_putByFeet_45 : decode cX11_putByFeet 45 = .ok (.isub, 1) := by decide +kernel
theorem dX11_putByFeet_46 : decode cX11_putByFeet 46 = .ok (.iaload, 1) := by decide +kernel
theorem dX11_putByFeet_47 : decode cX11_putByFeet 47 = .ok (.iastore, 1) := by decide +kernel
theorem dX11_putByFeet_48 : decode cX11_putByFeet 48 = .ok (.iinc 3 (-1), 3) := by decide +kernel
theorem dX11_putByFeet_51 : decode cX11_putByFeet 51 = .ok (.goto (-49), 3) := by decide +kernel
theorem dX11_putByFeet_54 : decode cX11_putByFeet 54 = .ok (.aload_n 0, 1) := by decide +kernel
theorem dX11_putByFeet_55 : decode cX11_putByFeet 55 = .ok (.getfield 93, 3) := by decide +kernel
theorem dX11_putByFeet_58 : decode cX11_putByFeet 58 = .ok (.iload_n 3, 1) := by decide +kernel
theorem dX11_putByFeet_59 : decode cX11_putByFeet 59 = .ok (.iload_n 1, 1) := by decide +kernel
theorem dX11_putByFeet_60 : decode cX11_putByFeet 60 = .ok (.iastore, 1) := by decide +kernel
theorem dX11_putByFeet_61 : decode cX11_putByFeet 61 = .ok (.return_, 1) := by decide +kernel
theorem dX11_owes_0 : decode cX11_owes 0 = .ok (.iload_n 1, 1) := by decide +kernel
theorem dX11_owes_1 : decode cX11_owes 1 = .ok (.invokestatic 103, 3) := by decide +kernel
theorem dX11_owes_4 : decode cX11_owes 4 = .ok (.ifCond .eq 14, 3) := by decide +kernel
theorem dX11_owes_7 : decode cX11_owes 7 = .ok (.iload_n 2, 1) := by decide +kernel
theorem dX11_owes_8 : decode cX11_owes 8 = .ok (.iconst 0, 1) := by decide +kernel
theorem dX11_owes_9 : decode cX11_owes 9 = .ok (.ldc_w 436, 3) := by decide +kernel
theorem dX11_owes_12 : decode cX11_owes 12 = .ok (.invokestatic 107, 3) := by decide +kernel
theorem dX11_owes_15 : decode cX11_owes 15 = .ok (.ifCond .ne 5, 3) := by decide +kernel
theorem dX11_owes_18 : decode cX11_owes 18 = .ok (.iconst (-1), 1) := by decide +kernel
theorem dX11_owes_19 : decode cX11_owes 19 = .ok (.ireturn, 1) := by decide +kernel
theorem dX11_owes_20 : decode cX11_owes 20 = .ok (.aload_n 0, 1) := by decide +kernel
theorem dX11_owes_21 : decode cX11_owes 21 = .ok (.getfield 12, 3) := by decide +kernel
theorem dX11_owes_24 : decode cX11_owes 24 = .ok (.getfield 111, 3) := by decide +kernel
theorem dX11_owes_27 : decode cX11_owes 27 = .ok (.istore_n 3, 1) := by decide +kernel
theorem dX11_owes_28 : decode cX11_owes 28 = .ok (.iload_n 3, 1) := by decide +kernel
theorem dX11_owes_29 : decode cX11_owes 29 = .ok (.ifCond .gt 5, 3) := by decide +kernel
theorem dX11_owes_32 : decode cX11_owes 32 = .ok (.iconst 0, 1) := by decide +kernel
theorem dX11_owes_33 : decode cX11_owes 33 = .ok (.ireturn, 1) := by decide +kernel
theorem dX11_owes_34 : decode cX11_owes 34 = .ok (.iload_n 2, 1) := by decide +kernel
theorem dX11_owes_35 : decode cX11_owes 35 = .ok (.aload_n 0, 1) := by decide +kernel
theorem dX11_owes_36 : decode cX11_owes 36 = .ok (.getfield 12, 3) := by decide +kernel
theorem dX11_owes_39 : decode cX11_owes 39 = .ok (.iload_n 1, 1) := by decide +kernel
theorem dX11_owes_40 : decode cX11_owes 40 = .ok (.invokevirtual 437, 3) := by decide +kernel
theorem dX11_owes_43 : decode cX11_owes 43 = .ok (.imul, 1) := by decide +kernel
theorem dX11_owes_44 : decode cX11_owes 44 = .ok (.istore 4, 2) := by decide +kernel
theorem dX11_owes_46 : decode cX11_owes 46 = .ok (.iload_n 2, 1) := by decide +kernel
theorem dX11_owes_47 : decode cX11_owes 47 = .ok (.istore 5, 2) := by decide +kernel
theorem dX11_owes_49 : decode cX11_owes 49 = .ok (.iconst 0, 1) := by decide +kernel
theorem dX11_owes_50 : decode cX11_owes 50 = .ok (.istore 6, 2) := by decide +kernel
theorem dX11_owes_52 : decode cX11_owes 52 = .ok (.iconst 0, 1) := by decide +kernel
theorem dX11_owes_53 : decode cX11_owes 53 = .ok (.istore 7, 2) := by decide +kernel
theorem dX11_owes_55 : decode cX11_owes 55 = .ok (.iload 7, 2) := by decide +kernel
theorem dX11_owes_57 : decode cX11_owes 57 = .ok (.bipush 8, 2) := by decide +kernel
theorem dX11_owes_59 : decode cX11_owes 59 = .ok (.if_icmp .ge 62, 3) := by decide +kernel
theorem dX11_owes_62 : decode cX11_owes 62 = .ok (.iload_n 2, 1) := by decide +kernel
theorem dX11_owes_63 : decode cX11_owes 63 = .ok (.aload_n 0, 1) := by decide +kernel
theorem dX11_owes_64 : decode cX11_owes 64 = .ok (.getfield 12, 3) := by decide +kernel
theorem dX11_owes_67 : decode cX11_owes 67 = .ok (.iload 7, 2) := by decide +kernel
theorem dX11_owes_69 : decode cX11_owes 69 = .ok (.invokevirtual 437, 3) := by decide +kernel
theorem dX11_owes_72 : decode cX11_owes 72 = .ok (.imul, 1) := by decide +kernel
theorem dX11_owes_73 : decode cX11_owes 73 = .ok (.istore 8, 2) := by decide +kernel
theorem dX11_owes_75 : decode cX11_owes 75 = .ok (.iload 5, 2) := by decide +kernel
theorem dX11_owes_77 : decode cX11_owes 77 = .ok (.iload 8, 2) := by decide +kernel
theorem dX11_owes_79 : decode cX11_owes 79 = .ok (.iload_n 3, 1) := by decide +kernel
theorem dX11_owes_80 : decode cX11_owes 80 = .ok (.idiv, 1) := by decide +kernel
theorem dX11_owes_81 : decode cX11_owes 81 = .ok (.isub, 1) := by decide +kernel
theorem dX11_owes_82 : decode cX11_owes 82 = .ok (.istore 5, 2) := by decide +kernel
theorem dX11_owes_84 : decode cX11_owes 84 = .ok (.iload 8, 2) := by decide +kernel
theorem dX11_owes_86 : decode cX11_owes 86 = .ok (.iload_n 3, 1) := by decide +kernel
theorem dX11_owes_87 : decode cX11_owes 87 = .ok (.irem, 1) := by decide +kernel
theorem dX11_owes_88 : decode cX11_owes 88 = .ok (.iload 4, 2) := by decide +kernel
theorem dX11_owes_90 : decode cX11_owes 90 = .ok (.iload_n 3, 1) := by decide +kernel
theorem dX11_owes_91 : decode cX11_owes 91 = .ok (.irem, 1) := by decide +kernel
theorem dX11_owes_92 : decode cX11_owes 92 = .ok (.if_icmp .gt 20, 3) := by decide +kernel
theorem dX11_owes_95 : decode cX11_owes 95 = .ok (.iload 8, 2) := by decide +kernel
theorem dX11_owes_97 : decode cX11_owes 97 = .ok (.iload_n 3, 1) := by decide +kernel
theorem dX11_owes_98 : decode cX11_owes 98 = .ok (.irem, 1) := by decide +kernel
theorem dX11_owes_99 : decode cX11_owes 99 = .ok (.iload 4, 2) := by decide +kernel
theorem dX11_owes_101 : decode cX11_owes 101 = .ok (.iload_n 3, 1) := by decide +kernel
theorem dX11_owes_102 : decode cX11_owes 102 = .ok (.irem, 1) := by decide +kernel
theorem dX11_owes_103 : decode cX11_owes 103 = .ok (.if_icmp .ne 12, 3) := by decide +kernel
theorem dX11_owes_106 : decode cX11_owes 106 = .ok (.iload 7, 2) := by decide +kernel
theorem dX11_owes_108 : decode cX11_owes 108 = .ok (.iload_n 1, 1) := by decide +kernel
theorem dX11_owes_109 : decode cX11_owes 109 = .ok (.if_icmp .ge 6, 3) := by decide +kernel
theorem dX11_owes_112 : decode cX11_owes 112 = .ok (.iinc 6 1, 3) := by decide +kernel
theorem dX11_owes_115 : decode cX11_owes 115 = .ok (.iinc 7 1, 3) := by decide +kernel
theorem dX11_owes_118 : decode cX11_owes 118 = .ok (.goto (-63), 3) := by decide +kernel
theorem dX11_owes_121 : decode cX11_owes 121 = .ok (.iload 4, 2) := by decide +kernel
theorem dX11_owes_123 : decode cX11_owes 123 = .ok (.iload_n 3, 1) := by decide +kernel
theorem dX11_owes_124 : decode cX11_owes 124 = .ok (.idiv, 1) := by decide +kernel
theorem dX11_owes_125 : decode cX11_owes 125 = .ok (.iload 6, 2) := by decide +kernel
theorem dX11_owes_127 : decode cX11_owes 127 = .ok (.iload 5, 2) := by decide +kernel
theorem dX11_owes_129 : decode cX11_owes 129 = .ok (.if_icmp .ge 7, 3) := by decide +kernel
theorem dX11_owes_132 : decode cX11_owes 132 = .ok (.iconst 1, 1) := by decide +kernel
theorem dX11_owes_133 : decode cX11_owes 133 = .ok (.goto 4, 3) := by decide +kernel
theorem dX11_owes_136 : decode cX11_owes 136 = .ok (.iconst 0, 1) := by decide +kernel
theorem dX11_owes_137 : decode cX11_owes 137 = .ok (.iadd, 1) := by decide +kernel
theorem dX11_owes_138 : decode cX11_owes 138 = .ok (.ireturn, 1) := by decide +kernel
theorem dX11_asks_0 : decode cX11_asks 0 = .ok (.iload_n 1, 1) := by decide +kernel
theorem dX11_asks_1 : decode cX11_asks 1 = .ok (.iconst 0, 1) := by decide +kernel
theorem dX11_asks_2 : decode cX11_asks 2 = .ok (.bipush 23, 2) := by decide +kernel
theorem dX11_asks_4 : decode cX11_asks 4 = .ok (.invokestatic 107, 3) := by decide +kernel
theorem dX11_asks_7 : decode cX11_asks 7 = .ok (.ifCond .ne 5, 3) := by decide +kernel
theorem dX11_asks_10 : decode cX11_asks 10 = .ok (.iconst (-1), 1) := by decide +kernel
theorem dX11_asks_11 : decode cX11_asks 11 = .ok (.ireturn, 1) := by decide +kernel
theorem dX11_asks_12 : decode cX11_asks 12 = .ok (.iconst (-1), 1) := by decide +kernel
theorem dX11_asks_13 : decode cX11_asks 13 = .ok (.istore_n 2, 1) := by decide +kernel
theorem dX11_asks_14 : decode cX11_asks 14 = .ok (.ldc_w 391, 3) := by decide +kernel
theorem dX11_asks_17 : decode cX11_asks 17 = .ok (.istore_n 3, 1) := by decide +kernel
theorem dX11_asks_18 : decode cX11_asks 18 = .ok (.iconst 0, 1) := by decide +kernel
theorem dX11_asks_19 : decode cX11_asks 19 = .ok (.istore 4, 2) := by decide +kernel
theorem dX11_asks_21 : decode cX11_asks 21 = .ok (.iload 4, 2) := by decide +kernel
theorem dX11_asks_23 : decode cX11_asks 23 = .ok (.aload_n 0, 1) := by decide +kernel
theorem dX11_asks_24 : decode cX11_asks 24 = .ok (.getfield 12, 3) := by decide +kernel
theorem dX11_asks_27 : decode cX11_asks 27 = .ok (.getfield 111, 3) := by decide +kernel
theorem dX11_asks_30 : decode cX11_asks 30 = .ok (.if_icmp .ge 52, 3) := by decide +kernel
theorem dX11_asks_33 : decode cX11_asks 33 = .ok (.aload_n 0, 1) := by decide +kernel
theorem dX11_asks_34 : decode cX11_asks 34 = .ok (.getfield 19, 3) := by decide +kernel
theorem dX11_asks_37 : decode cX11_asks 37 = .ok (.getfield 204, 3) := by decide +kernel
theorem dX11_asks_40 : decode cX11_asks 40 = .ok (.iload 4, 2) := by decide +kernel
theorem dX11_asks_42 : decode cX11_asks 42 = .ok (.invokevirtual 326, 3) := by decide +kernel
theorem dX11_asks_45 : decode cX11_asks 45 = .ok (.iload_n 1, 1) := by decide +kernel
theorem dX11_asks_46 : decode cX11_asks 46 = .ok (.ishr, 1) := by decide +kernel
theorem dX11_asks_47 : decode cX11_asks 47 = .ok (.iconst 1, 1) := by decide +kernel
theorem dX11_asks_48 : decode cX11_asks 48 = .ok (.iand, 1) := by decide +kernel
theorem dX11_asks_49 : decode cX11_asks 49 = .ok (.ifCond .eq 6, 3) := by decide +kernel
theorem dX11_asks_52 : decode cX11_asks 52 = .ok (.goto 24, 3) := by decide +kernel
theorem dX11_asks_55 : decode cX11_asks 55 = .ok (.aload_n 0, 1) := by decide +kernel
theorem dX11_asks_56 : decode cX11_asks 56 = .ok (.iload 4, 2) := by decide +kernel
theorem dX11_asks_58 : decode cX11_asks 58 = .ok (.iload_n 1, 1) := by decide +kernel
theorem dX11_asks_59 : decode cX11_asks 59 = .ok (.invokevirtual 372, 3) := by decide +kernel
theorem dX11_asks_62 : decode cX11_asks 62 = .ok (.istore 5, 2) := by decide +kernel
theorem dX11_asks_64 : decode cX11_asks 64 = .ok (.iload 5, 2) := by decide +kernel
theorem dX11_asks_66 : decode cX11_asks 66 = .ok (.iload_n 3, 1) := by decide +kernel
theorem dX11_asks_67 : decode cX11_asks 67 = .ok (.if_icmp .ge 9, 3) := by decide +kernel
theorem dX11_asks_70 : decode cX11_asks 70 = .ok (.iload 4, 2) := by decide +kernel
theorem dX11_asks_72 : decode cX11_asks 72 = .ok (.istore_n 2, 1) := by decide +kernel
theorem dX11_asks_73 : decode cX11_asks 73 = .ok (.iload 5, 2) := by decide +kernel
theorem dX11_asks_75 : decode cX11_asks 75 = .ok (.istore_n 3, 1) := by decide +kernel
theorem dX11_asks_76 : decode cX11_asks 76 = .ok (.iinc 4 1, 3) := by decide +kernel
theorem dX11_asks_79 : decode cX11_asks 79 = .ok (.goto (-58), 3) := by decide +kernel
theorem dX11_asks_82 : decode cX11_asks 82 = .ok (.iload_n 2, 1) := by decide +kernel
theorem dX11_asks_83 : decode cX11_asks 83 = .ok (.ireturn, 1) := by decide +kernel
theorem dX11_isWalker_0 : decode cX11_isWalker 0 = .ok (.iload_n 1, 1) := by decide +kernel
theorem dX11_isWalker_1 : decode cX11_isWalker 1 = .ok (.ifCond .lt 18, 3) := by decide +kernel
theorem dX11_isWalker_4 : decode cX11_isWalker 4 = .ok (.iload_n 1, 1) := by decide +kernel
theorem dX11_isWalker_5 : decode cX11_isWalker 5 = .ok (.aload_n 0, 1) := by decide +kernel
theorem dX11_isWalker_6 : decode cX11_isWalker 6 = .ok (.getfield 12, 3) := by decide +kernel
theorem dX11_isWalker_9 : decode cX11_isWalker 9 = .ok (.getfield 111, 3) := by decide +kernel
theorem dX11_isWalker_12 : decode cX11_isWalker 12 = .ok (.if_icmp .ge 7, 3) := by decide +kernel
theorem dX11_isWalker_15 : decode cX11_isWalker 15 = .ok (.iconst 1, 1) := by decide +kernel
theorem dX11_isWalker_16 : decode cX11_isWalker 16 = .ok (.goto 4, 3) := by decide +kernel
theorem dX11_isWalker_19 : decode cX11_isWalker 19 = .ok (.iconst 0, 1) := by decide +kernel
theorem dX11_isWalker_20 : decode cX11_isWalker 20 = .ok (.ireturn, 1) := by decide +kernel
theorem dX11_isParish_0 : decode cX11_isParish 0 = .ok (.iload_n 0, 1) := by decide +kernel
theorem dX11_isParish_1 : decode cX11_isParish 1 = .ok (.ifCond .lt 13, 3) := by decide +kernel
theorem dX11_isParish_4 : decode cX11_isParish 4 = .ok (.iload_n 0, 1) := by decide +kernel
theorem dX11_isParish_5 : decode cX11_isParish 5 = .ok (.bipush 8, 2) := by decide +kernel
theorem dX11_isParish_7 : decode cX11_isParish 7 = .ok (.if_icmp .ge 7, 3) := by decide +kernel
theorem dX11_isParish_10 : decode cX11_isParish 10 = .ok (.iconst 1, 1) := by decide +kernel
theorem dX11_isParish_11 : decode cX11_isParish 11 = .ok (.goto 4, 3) := by decide +kernel
theorem dX11_isParish_14 : decode cX11_isParish 14 = .ok (.iconst 0, 1) := by decide +kernel
theorem dX11_isParish_15 : decode cX11_isParish 15 = .ok (.ireturn, 1) := by decide +kernel
theorem dX11_within_0 : decode cX11_within 0 = .ok (.iload_n 0, 1) := by decide +kernel
theorem dX11_within_1 : decode cX11_within 1 = .ok (.iload_n 1, 1) := by decide +kernel
theorem dX11_within_2 : decode cX11_within 2 = .ok (.if_icmp .lt 12, 3) := by decide +kernel
theorem dX11_within_5 : decode cX11_within 5 = .ok (.iload_n 0, 1) := by decide +kernel
theorem dX11_within_6 : decode cX11_within 6 = .ok (.iload_n 2, 1) := by decide +kernel
theorem dX11_within_7 : decode cX11_within 7 = .ok (.if_icmp .gt 7, 3) := by decide +kernel
theorem dX11_within_10 : decode cX11_within 10 = .ok (.iconst 1, 1) := by decide +kernel
theorem dX11_within_11 : decode cX11_within 11 = .ok (.goto 4, 3) := by decide +kernel
theorem dX11_within_14 : decode cX11_within 14 = .ok (.iconst 0, 1) := by decide +kernel
theorem dX11_within_15 : decode cX11_within 15 = .ok (.ireturn, 1) := by decide +kernel
theorem dX11_tired_0 : decode cX11_tired 0 = .ok (.sipush 999, 3) := by decide +kernel
theorem dX11_tired_3 : decode cX11_tired 3 = .ok (.iload_n 0, 1) := by decide +kernel
theorem dX11_tired_4 : decode cX11_tired 4 = .ok (.iload_n 1, 1) := by decide +kernel
theorem dX11_tired_5 : decode cX11_tired 5 = .ok (.iadd, 1) := by decide +kernel
theorem dX11_tired_6 : decode cX11_tired 6 = .ok (.invokestatic 323, 3) := by decide +kernel
theorem dX11_tired_9 : decode cX11_tired 9 = .ok (.ireturn, 1) := by decide +kernel
theorem dX11_eased_0 : decode cX11_eased 0 = .ok (.iconst 0, 1) := by decide +kernel
theorem dX11_eased_1 : decode cX11_eased 1 = .ok (.iload_n 0, 1) := by decide +kernel
theorem dX11_eased_2 : decode cX11_eased 2 = .ok (.iload_n 1, 1) := by decide +kernel
theorem dX11_eased_3 : decode cX11_eased 3 = .ok (.isub, 1) := by decide +kernel
theorem dX11_eased_4 : decode cX11_eased 4 = .ok (.invokestatic 306, 3) := by decide +kernel
theorem dX11_eased_7 : decode cX11_eased 7 = .ok (.ireturn, 1) := by decide +kernel
theorem dX11_oneMoreInRow_0 : decode cX11_oneMoreInRow 0 = .ok (.sipush 999, 3) := by decide +kernel
theorem dX11_oneMoreInRow_3 : decode cX11_oneMoreInRow 3 = .ok (.iload_n 0, 1) := by decide +kernel
theorem dX11_oneMoreInRow_4 : decode cX11_oneMoreInRow 4 = .ok (.iconst 1, 1) := by decide +kernel
theorem dX11_oneMoreInRow_5 : decode cX11_oneMoreInRow 5 = .ok (.iadd, 1) := by decide +kernel
theorem dX11_oneMoreInRow_6 : decode cX11_oneMoreInRow 6 = .ok (.invokestatic 323, 3) := by decide +kernel
theorem dX11_oneMoreInRow_9 : decode cX11_oneMoreInRow 9 = .ok (.ireturn, 1) := by decide +kernel
theorem dX12_init_0 : decode cX12_init 0 = .ok (.aload_n 0, 1) := by decide +kernel
theorem dX12_init_1 : decode cX12_init 1 = .ok (.invokespecial 1, 3) := by decide +kernel
theorem dX12_init_4 : decode cX12_init 4 = .ok (.aload_n 0, 1) := by decide +kernel
theorem dX12_init_5 : decode cX12_init 5 = .ok (.bipush 40, 2) := by decide +kernel
theorem dX12_init_7 : decode cX12_init 7 = .ok (.newarray .int, 2) := by decide +kernel
theorem dX12_init_9 : decode cX12_init 9 = .ok (.putfield 7, 3) := by decide +kernel
theorem dX12_init_12 : decode cX12_init 12 = .ok (.aload_n 0, 1) := by decide +kernel
theorem dX12_init_13 : decode cX12_init 13 = .ok (.sipush 240, 3) := by decide +kernel
theorem dX12_init_16 : decode cX12_init 16 = .ok (.newarray .int, 2) := by decide +kernel
theorem dX12_init_18 : decode cX12_init 18 = .ok (.putfield 13, 3) := by decide +kernel
