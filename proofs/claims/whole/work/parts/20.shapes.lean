/-! the shapes of all objects, as the constructors make them -/
def S0_0 : List IK := [(13, 18, [some (some 1), some (some 6), some (some 30), some (some 34), some (some 66), some (some 71), some (some 95), none, some (some 99), none, some (some 100), some (some 119), some (some 122), some (some 127), some (some 132), some (some 133), some (some 134), some (some 135)]), (6, 15, [none, none, none, none, none, none, none, none, none, none, none, some (some 2), some (some 3), some (some 4), some (some 5)]), (0, 10, []), (0, 10, []), (0, 10, []), (0, 10, []), (11, 8, [none, none, none, some (some 7), some (some 8), some (some 14), some (some 20), some (some 25)]), (0, 64, []), (5, 7, [none, some (some 9), some (some 10), some (some 11), some (some 12), none, some (some 13)]), (0, 16, []), (0, 16, []), (0, 16, []), (0, 16, []), (0, 400, []), (5, 7, [none, some (some 15), some (some 16), some (some 17), some (some 18), none, some (some 19)]), (0, 16, []), (0, 16, []), (0, 16, []), (0, 16, []), (0, 400, []), (9, 5, [none, some (some 21), some (some 22), some (some 23), some (some 24)]), (0, 8, []), (0, 8, []), (0, 8, []), (0, 8, []), (10, 5, [none, some (some 26), some (some 27), some (some 28), some (some 29)]), (0, 16, []), (0, 16, []), (0, 10, []), (0, 10, []), (3, 3, [some (some 31), some (some 32), some (some 33)]), (0, 150, []), (0, 150, []), (0, 150, []), (7, 2, [none, some (some 35)]), (1, 6, []), (6, 15, [none, none, none, none, none, none, none, none, none, none, none, some (some 37), some (some 38), some (some 39), some (some 40)]), (0, 10, []), (0, 10, []), (0, 10, [])]
def S0_1 : List IK := [(0, 10, []), (6, 15, [none, none, none, none, none, none, none, none, none, none, none, some (some 42), some (some 43), some (some 44), some (some 45)]), (0, 10, []), (0, 10, []), (0, 10, []), (0, 10, []), (6, 15, [none, none, none, none, none, none, none, none, none, none, none, some (some 47), some (some 48), some (some 49), some (some 50)]), (0, 10, []), (0, 10, []), (0, 10, []), (0, 10, []), (6, 15, [none, none, none, none, none, none, none, none, none, none, none, some (some 52), some (some 53), some (some 54), some (some 55)]), (0, 10, []), (0, 10, []), (0, 10, []), (0, 10, []), (6, 15, [none, none, none, none, none, none, none, none, none, none, none, some (some 57), some (some 58), some (some 59), some (some 60)]), (0, 10, []), (0, 10, []), (0, 10, []), (0, 10, []), (6, 15, [none, none, none, none, none, none, none, none, none, none, none, some (some 62), some (some 63), some (some 64), some (some 65)]), (0, 10, []), (0, 10, []), (0, 10, []), (0, 10, []), (6, 15, [none, none, none, none, none, none, none, none, none, none, none, some (some 67), some (some 68), some (some 69), some (some 70)]), (0, 10, []), (0, 10, []), (0, 10, []), (0, 10, []), (11, 8, [none, none, none, some (some 72), some (some 73), some (some 79), some (some 85), some (some 90)]), (0, 64, []), (5, 7, [none, some (some 74), some (some 75), some (some 76), some (some 77), none, some (some 78)]), (0, 16, []), (0, 16, []), (0, 16, []), (0, 16, []), (0, 400, []), (5, 7, [none, some (some 80), some (some 81), some (some 82), some (some 83), none, some (some 84)])]
def S0_2 : List IK := [(0, 16, []), (0, 16, []), (0, 16, []), (0, 16, []), (0, 400, []), (9, 5, [none, some (some 86), some (some 87), some (some 88), some (some 89)]), (0, 8, []), (0, 8, []), (0, 8, []), (0, 8, []), (10, 5, [none, some (some 91), some (some 92), some (some 93), some (some 94)]), (0, 16, []), (0, 16, []), (0, 10, []), (0, 10, []), (3, 3, [some (some 96), some (some 97), some (some 98)]), (0, 150, []), (0, 150, []), (0, 150, []), (0, 400, []), (8, 8, [none, none, some (some 101), some (some 107), some (some 112), some (some 117), some (some 118), none]), (5, 7, [none, some (some 102), some (some 103), some (some 104), some (some 105), none, some (some 106)]), (0, 16, []), (0, 16, []), (0, 16, []), (0, 16, []), (0, 400, []), (9, 5, [none, some (some 108), some (some 109), some (some 110), some (some 111)]), (0, 8, []), (0, 8, []), (0, 8, []), (0, 8, []), (10, 5, [none, some (some 113), some (some 114), some (some 115), some (some 116)]), (0, 16, []), (0, 16, []), (0, 10, []), (0, 10, []), (0, 401, []), (0, 401, []), (2, 2, [some (some 120), some (some 121)])]
def S0_3 : List IK := [(0, 9, []), (0, 32, []), (6, 15, [none, none, none, none, none, none, none, none, none, none, none, some (some 123), some (some 124), some (some 125), some (some 126)]), (0, 10, []), (0, 10, []), (0, 10, []), (0, 10, []), (12, 6, [none, some (some 128), none, some (some 129), some (some 130), some (some 131)]), (0, 10, []), (0, 40, []), (0, 40, []), (0, 4, []), (4, 7, [none, none, some (some 119), some (some 14), none, none, none]), (0, 1024, []), (0, 13, []), (0, 10, []), (14, 53, [none, some (some 137), some (some 138), none, some (some 139), none, none, some (some 140), none, none, none, some (some 141), some (some 142), some (some 143), none, none, none, none, none, some (some 144), some (some 145), some (some 146), some (some 147), some (some 148), some (some 149), some (some 150), some (some 151), none, none, none, some (some 152), none, none, none, none, none, none, some (some 153), none, some (some 154), some (some 155), some (some 156), some (some 157), some (some 158), some (some 159), some (some 160), some (some 161), some (some 162), some (some 163), none, none, none, some (some 164)]), (0, 40, []), (0, 240, []), (0, 40, []), (0, 10, []), (0, 64, []), (0, 450, []), (0, 400, []), (0, 104, []), (0, 2, []), (0, 48, []), (0, 48, []), (0, 48, []), (0, 48, []), (0, 1200, []), (0, 1200, []), (0, 40, []), (0, 64, []), (0, 96, []), (0, 9, []), (0, 420, []), (0, 10, []), (0, 16, []), (0, 161051, [])]
def S0_4 : List IK := [(0, 40, []), (0, 2048, []), (0, 13, []), (0, 10, []), (0, 2500, [])]
def S0 : List IK := S0_0 ++ S0_1 ++ S0_2 ++ S0_3 ++ S0_4
theorem s0_0 : S0[0]? = some (13, 18, [some (some 1), some (some 6), some (some 30), some (some 34), some (some 66), some (some 71), some (some 95), none, some (some 99), none, some (some 100), some (some 119), some (some 122), some (some 127), some (some 132), some (some 133), some (some 134), some (some 135)]) := by decide +kernel
theorem s0_1 : S0[1]? = some (6, 15, [none, none, none, none, none, none, none, none, none, none, none, some (some 2), some (some 3), some (some 4), some (some 5)]) := by decide +kernel
theorem s0_2 : S0[2]? = some (0, 10, []) := by decide +kernel
theorem s0_3 : S0[3]? = some (0, 10, []) := by decide +kernel
theorem s0_4 : S0[4]? = some (0, 10, []) := by decide +kernel
theorem s0_5 : S0[5]? = some (0, 10, []) := by decide +kernel
theorem s0_6 : S0[6]? = some (11, 8, [none, none, none, some (some 7), some (some 8), some (some 14), some (some 20), some (some 25)]) := by decide +kernel
theorem s0_7 : S0[7]? = some (0, 64, []) := by decide +kernel
theorem s0_8 : S0[8]? = some (5, 7, [none, some (some 9), some (some 10), some (some 11), some (some 12), none, some (some 13)]) := by decide +kernel
theorem s0_9 : S0[9]? = some (0, 16, []) := by decide +kernel
theorem s0_10 : S0[10]? = some (0, 16, []) := by decide +kernel
theorem s0_11 : S0[11]? = some (0, 16, []) := by decide +kernel
theorem s0_12 : S0[12]? = some (0, 16, []) := by decide +kernel
theorem s0_13 : S0[13]? = some (0, 400, []) := by decide +kernel
theorem s0_14 : S0[14]? = some (5, 7, [none, some (some 15), some (some 16), some (some 17), some (some 18), none, some (some 19)]) := by decide +kernel
theorem s0_15 : S0[15]? = some (0, 16, []) := by decide +kernel
theorem s0_16 : S0[16]? = some (0, 16, []) := by decide +kernel
theorem s0_17 : S0[17]? = some (0, 16, []) := by decide +kernel
theorem s0_18 : S0[18]? = some (0, 16, []) := by decide +kernel
theorem s0_19 : S0[19]? = some (0, 400, []) := by decide +kernel
theorem s0_20 : S0[20]? = some (9, 5, [none, some (some 21), some (some 22), some (some 23), some (some 24)]) := by decide +kernel
theorem s0_21 : S0[21]? = some (0, 8, []) := by decide +kernel
theorem s0_22 : S0[22]? = some (0, 8, []) := by decide +kernel
theorem s0_23 : S0[23]? = some (0, 8, []) := by decide +kernel
theorem s0_24 : S0[24]? = some (0, 8, []) := by decide +kernel
theorem s0_25 : S0[25]? = some (10, 5, [none, some (some 26), some (some 27), some (some 28), some (some 29)]) := by decide +kernel
theorem s0_26 : S0[26]? = some (0, 16, []) := by decide +kernel
theorem s0_27 : S0[27]? = some (0, 16, []) := by decide +kernel
theorem s0_28 : S0[28]? = some (0, 10, []) := by decide +kernel
theorem s0_29 : S0[29]? = some (0, 10, []) := by decide +kernel
theorem s0_30 : S0[30]? = some (3, 3, [some (some 31), some (some 32), some (some 33)]) := by decide +kernel
theorem s0_31 : S0[31]? = some (0, 150, []) := by decide +kernel
theorem s0_32 : S0[32]? = some (0, 150, []) := by decide +kernel
theorem s0_33 : S0[33]? = some (0, 150, []) := by decide +kernel
theorem s0_34 : S0[34]? = some (7, 2, [none, some (some 35)]) := by decide +kernel
theorem s0_35 : S0[35]? = some (1, 6, []) := by decide +kernel
theorem s0_36 : S0[36]? = some (6, 15, [none, none, none, none, none, none, none, none, none, none, none, some (some 37), some (some 38), some (some 39), some (some 40)]) := by decide +kernel
theorem s0_37 : S0[37]? = some (0, 10, []) := by decide +kernel
theorem s0_38 : S0[38]? = some (0, 10, []) := by decide +kernel
theorem s0_39 : S0[39]? = some (0, 10, []) := by decide +kernel
theorem s0_40 : S0[40]? = some (0, 10, []) := by decide +kernel
theorem s0_41 : S0[41]? = some (6, 15, [none, none, none, none, none, none, none, none, none, none, none, some (some 42), some (some 43), some (some 44), some (some 45)]) := by decide +kernel
theorem s0_42 : S0[42]? = some (0, 10, []) := by decide +kernel
theorem s0_43 : S0[43]? = some (0, 10, []) := by decide +kernel
theorem s0_44 : S0[44]? = some (0, 10, []) := by decide +kernel
theorem s0_45 : S0[45]? = some (0, 10, []) := by decide +kernel
theorem s0_46 : S0[46]? = some (6, 15, [none, none, none, none, none, none, none, none, none, none, none, some (some 47), some (some 48), some (some 49), some (some 50)]) := by decide +kernel
theorem s0_47 : S0[47]? = some (0, 10, []) := by decide +kernel
theorem s0_48 : S0[48]? = some (0, 10, []) := by decide +kernel
theorem s0_49 : S0[49]? = some (0, 10, []) := by decide +kernel
theorem s0_50 : S0[50]? = some (0, 10, []) := by decide +kernel
theorem s0_51 : S0[51]? = some (6, 15, [none, none, none, none, none, none, none, none, none, none, none, some (some 52), some (some 53), some (some 54), some (some 55)]) := by decide +kernel
theorem s0_52 : S0[52]? = some (0, 10, []) := by decide +kernel
theorem s0_53 : S0[53]? = some (0, 10, []) := by decide +kernel
theorem s0_54 : S0[54]? = some (0, 10, []) := by decide +kernel
theorem s0_55 : S0[55]? = some (0, 10, []) := by decide +kernel
theorem s0_56 : S0[56]? = some (6, 15, [none, none, none, none, none, none, none, none, none, none, none, some (some 57), some (some 58), some (some 59), some (some 60)]) := by decide +kernel
theorem s0_57 : S0[57]? = some (0, 10, []) := by decide +kernel
theorem s0_58 : S0[58]? = some (0, 10, []) := by decide +kernel
theorem s0_59 : S0[59]? = some (0, 10, []) := by decide +kernel
theorem s0_60 : S0[60]? = some (0, 10, []) := by decide +kernel
theorem s0_61 : S0[61]? = some (6, 15, [none, none, none, none, none, none, none, none, none, none, none, some (some 62), some (some 63), some (some 64), some (some 65)]) := by decide +kernel
theorem s0_62 : S0[62]? = some (0, 10, []) := by decide +kernel
theorem s0_63 : S0[63]? = some (0, 10, []) := by decide +kernel
theorem s0_64 : S0[64]? = some (0, 10, []) := by decide +kernel
theorem s0_65 : S0[65]? = some (0, 10, []) := by decide +kernel
theorem s0_66 : S0[66]? = some (6, 15, [none, none, none, none, none, none, none, none, none, none, none, some (some 67), some (some 68), some (some 69), some (some 70)]) := by decide +kernel
theorem s0_67 : S0[67]? = some (0, 10, []) := by decide +kernel
theorem s0_68 : S0[68]? = some (0, 10, []) := by decide +kernel
theorem s0_69 : S0[69]? = some (0, 10, []) := by decide +kernel
theorem s0_70 : S0[70]? = some (0, 10, []) := by decide +kernel
theorem s0_71 : S0[71]? = some (11, 8, [none, none, none, some (some 72), some (some 73), some (some 79), some (some 85), some (some 90)]) := by decide +kernel
theorem s0_72 : S0[72]? = some (0, 64, []) := by decide +kernel
theorem s0_73 : S0[73]? = some (5, 7, [none, some (some 74), some (some 75), some (some 76), some (some 77), none, some (some 78)]) := by decide +kernel
theorem s0_74 : S0[74]? = some (0, 16, []) := by decide +kernel
theorem s0_75 : S0[75]? = some (0, 16, []) := by decide +kernel
theorem s0_76 : S0[76]? = some (0, 16, []) := by decide +kernel
theorem s0_77 : S0[77]? = some (0, 16, []) := by decide +kernel
theorem s0_78 : S0[78]? = some (0, 400, []) := by decide +kernel
theorem s0_79 : S0[79]? = some (5, 7, [none, some (some 80), some (some 81), some (some 82), some (some 83), none, some (some 84)]) := by decide +kernel
theorem s0_80 : S0[80]? = some (0, 16, []) := by decide +kernel
theorem s0_81 : S0[81]? = some (0, 16, []) := by decide +kernel
theorem s0_82 : S0[82]? = some (0, 16, []) := by decide +kernel
theorem s0_83 : S0[83]? = some (0, 16, []) := by decide +kernel
theorem s0_84 : S0[84]? = some (0, 400, []) := by decide +kernel
theorem s0_85 : S0[85]? = some (9, 5, [none, some (some 86), some (some 87), some (some 88), some (some 89)]) := by decide +kernel
theorem s0_86 : S0[86]? = some (0, 8, []) := by decide +kernel
theorem s0_87 : S0[87]? = some (0, 8, []) := by decide +kernel
theorem s0_88 : S0[88]? = some (0, 8, []) := by decide +kernel
theorem s0_89 : S0[89]? = some (0, 8, []) := by decide +kernel
theorem s0_90 : S0[90]? = some (10, 5, [none, some (some 91), some (some 92), some (some 93), some (some 94)]) := by decide +kernel
theorem s0_91 : S0[91]? = some (0, 16, []) := by decide +kernel
theorem s0_92 : S0[92]? = some (0, 16, []) := by decide +kernel
theorem s0_93 : S0[93]? = some (0, 10, []) := by decide +kernel
theorem s0_94 : S0[94]? = some (0, 10, []) := by decide +kernel
theorem s0_95 : S0[95]? = some (3, 3, [some (some 96), some (some 97), some (some 98)]) := by decide +kernel
theorem s0_96 : S0[96]? = some (0, 150, []) := by decide +kernel
theorem s0_97 : S0[97]? = some (0, 150, []) := by decide +kernel
theorem s0_98 : S0[98]? = some (0, 150, []) := by decide +kernel
theorem s0_99 : S0[99]? = some (0, 400, []) := by decide +kernel
theorem s0_100 : S0[100]? = some (8, 8, [none, none, some (some 101), some (some 107), some (some 112), some (some 117), some (some 118), none]) := by decide +kernel
theorem s0_101 : S0[101]? = some (5, 7, [none, some (some 102), some (some 103), some (some 104), some (some 105), none, some (some 106)]) := by decide +kernel
theorem s0_102 : S0[102]? = some (0, 16, []) := by decide +kernel
theorem s0_103 : S0[103]? = some (0, 16, []) := by decide +kernel
theorem s0_104 : S0[104]? = some (0, 16, []) := by decide +kernel
theorem s0_105 : S0[105]? = some (0, 16, []) := by decide +kernel
theorem s0_106 : S0[106]? = some (0, 400, []) := by decide +kernel
theorem s0_107 : S0[107]? = some (9, 5, [none, some (some 108), some (some 109), some (some 110), some (some 111)]) := by decide +kernel
theorem s0_108 : S0[108]? = some (0, 8, []) := by decide +kernel
theorem s0_109 : S0[109]? = some (0, 8, []) := by decide +kernel
theorem s0_110 : S0[110]? = some (0, 8, []) := by decide +kernel
theorem s0_111 : S0[111]? = some (0, 8, []) := by decide +kernel
theorem s0_112 : S0[112]? = some (10, 5, [none, some (some 113), some (some 114), some (some 115), some (some 116)]) := by decide +kernel
theorem s0_113 : S0[113]? = some (0, 16, []) := by decide +kernel
theorem s0_114 : S0[114]? = some (0, 16, []) := by decide +kernel
theorem s0_115 : S0[115]? = some (0, 10, []) := by decide +kernel
theorem s0_116 : S0[116]? = some (0, 10, []) := by decide +kernel
theorem s0_117 : S0[117]? = some (0, 401, []) := by decide +kernel
theorem s0_118 : S0[118]? = some (0, 401, []) := by decide +kernel
theorem s0_119 : S0[119]? = some (2, 2, [some (some 120), some (some 121)]) := by decide +kernel
theorem s0_120 : S0[120]? = some (0, 9, []) := by decide +kernel
theorem s0_121 : S0[121]? = some (0, 32, []) := by decide +kernel
theorem s0_122 : S0[122]? = some (6, 15, [none, none, none, none, none, none, none, none, none, none, none, some (some 123), some (some 124), some (some 125), some (some 126)]) := by decide +kernel
theorem s0_123 : S0[123]? = some (0, 10, []) := by decide +kernel
theorem s0_124 : S0[124]? = some (0, 10, []) := by decide +kernel
theorem s0_125 : S0[125]? = some (0, 10, []) := by decide +kernel
theorem s0_126 : S0[126]? = some (0, 10, []) := by decide +kernel
theorem s0_127 : S0[127]? = some (12, 6, [none, some (some 128), none, some (some 129), some (some 130), some (some 131)]) := by decide +kernel
theorem s0_128 : S0[128]? = some (0, 10, []) := by decide +kernel
theorem s0_129 : S0[129]? = some (0, 40, []) := by decide +kernel
theorem s0_130 : S0[130]? = some (0, 40, []) := by decide +kernel
theorem s0_131 : S0[131]? = some (0, 4, []) := by decide +kernel
theorem s0_132 : S0[132]? = some (4, 7, [none, none, some (some 119), some (some 14), none, none, none]) := by decide +kernel
theorem s0_133 : S0[133]? = some (0, 1024, []) := by decide +kernel
theorem s0_134 : S0[134]? = some (0, 13, []) := by decide +kernel
theorem s0_135 : S0[135]? = some (0, 10, []) := by decide +kernel
theorem s0_136 : S0[136]? = some (14, 53, [none, some (some 137), some (some 138), none, some (some 139), none, none, some (some 140), none, none, none, some (some 141), some (some 142), some (some 143), none, none, none, none, none, some (some 144), some (some 145), some (some 146), some (some 147), some (some 148), some (some 149), some (some 150), some (some 151), none, none, none, some (some 152), none, none, none, none, none, none, some (some 153), none, some (some 154), some (some 155), some (some 156), some (some 157), some (some 158), some (some 159), some (some 160), some (some 161), some (some 162), some (some 163), none, none, none, some (some 164)]) := by decide +kernel
theorem s0_137 : S0[137]? = some (0, 40, []) := by decide +kernel
theorem s0_138 : S0[138]? = some (0, 240, []) := by decide +kernel
theorem s0_139 : S0[139]? = some (0, 40, []) := by decide +kernel
theorem s0_140 : S0[140]? = some (0, 10, []) := by decide +kernel
theorem s0_141 : S0[141]? = some (0, 64, []) := by decide +kernel
theorem s0_142 : S0[142]? = some (0, 450, []) := by decide +kernel
theorem s0_143 : S0[143]? = some (0, 400, []) := by decide +kernel
theorem s0_144 : S0[144]? = some (0, 104, []) := by decide +kernel
theorem s0_145 : S0[145]? = some (0, 2, []) := by decide +kernel
theorem s0_146 : S0[146]? = some (0, 48, []) := by decide +kernel
theorem s0_147 : S0[147]? = some (0, 48, []) := by decide +kernel
theorem s0_148 : S0[148]? = some (0, 48, []) := by decide +kernel
theorem s0_149 : S0[149]? = some (0, 48, []) := by decide +kernel
theorem s0_150 : S0[150]? = some (0, 1200, []) := by decide +kernel
theorem s0_151 : S0[151]? = some (0, 1200, []) := by decide +kernel
theorem s0_152 : S0[152]? = some (0, 40, []) := by decide +kernel
theorem s0_153 : S0[153]? = some (0, 64, []) := by decide +kernel
theorem s0_154 : S0[154]? = some (0, 96, []) := by decide +kernel
theorem s0_155 : S0[155]? = some (0, 9, []) := by decide +kernel
theorem s0_156 : S0[156]? = some (0, 420, []) := by decide +kernel
theorem s0_157 : S0[157]? = some (0, 10, []) := by decide +kernel
theorem s0_158 : S0[158]? = some (0, 16, []) := by decide +kernel
theorem s0_159 : S0[159]? = some (0, 161051, []) := by decide +kernel
theorem s0_160 : S0[160]? = some (0, 40, []) := by decide +kernel
theorem s0_161 : S0[161]? = some (0, 2048, []) := by decide +kernel
theorem s0_162 : S0[162]? = some (0, 13, []) := by decide +kernel
theorem s0_163 : S0[163]? = some (0, 10, []) := by decide +kernel
theorem s0_164 : S0[164]? = some (0, 2500, []) := by decide +kernel
def nwL : List Nat := [1, 36, 41, 46, 51, 56, 61, 66, 122]
def isNow (o : Nat) : Prop := S0[o]? = some (6, 15, [none, none, none, none, none, none, none, none, none, none, none, some (some (o + 1)), some (some (o + 2)), some (some (o + 3)), some (some (o + 4))]) ∧ S0[(o + 1)]? = some (0, 10, []) ∧ S0[(o + 2)]? = some (0, 10, []) ∧ S0[(o + 3)]? = some (0, 10, []) ∧ S0[(o + 4)]? = some (0, 10, [])
theorem isNow_0 {o : Nat} (h : isNow o) : S0[o]? = some (6, 15, [none, none, none, none, none, none, none, none, none, none, none, some (some (o + 1)), some (some (o + 2)), some (some (o + 3)), some (some (o + 4))]) := h.1
theorem isNow_1 {o : Nat} (h : isNow o) : S0[(o + 1)]? = some (0, 10, []) := h.2.1
theorem isNow_2 {o : Nat} (h : isNow o) : S0[(o + 2)]? = some (0, 10, []) := h.2.2.1
theorem isNow_3 {o : Nat} (h : isNow o) : S0[(o + 3)]? = some (0, 10, []) := h.2.2.2.1
theorem isNow_4 {o : Nat} (h : isNow o) : S0[(o + 4)]? = some (0, 10, []) := h.2.2.2.2
theorem isNow_at1 : isNow 1 := ⟨s0_1, s0_2, s0_3, s0_4, s0_5⟩
theorem isNow_at36 : isNow 36 := ⟨s0_36, s0_37, s0_38, s0_39, s0_40⟩
theorem isNow_at41 : isNow 41 := ⟨s0_41, s0_42, s0_43, s0_44, s0_45⟩
theorem isNow_at46 : isNow 46 := ⟨s0_46, s0_47, s0_48, s0_49, s0_50⟩
theorem isNow_at51 : isNow 51 := ⟨s0_51, s0_52, s0_53, s0_54, s0_55⟩
theorem isNow_at56 : isNow 56 := ⟨s0_56, s0_57, s0_58, s0_59, s0_60⟩
theorem isNow_at61 : isNow 61 := ⟨s0_61, s0_62, s0_63, s0_64, s0_65⟩
theorem isNow_at66 : isNow 66 := ⟨s0_66, s0_67, s0_68, s0_69, s0_70⟩
theorem isNow_at122 : isNow 122 := ⟨s0_122, s0_123, s0_124, s0_125, s0_126⟩
def isLaw (o : Nat) : Prop := S0[o]? = some (5, 7, [none, some (some (o + 1)), some (some (o + 2)), some (some (o + 3)), some (some (o + 4)), none, some (some (o + 5))]) ∧ S0[(o + 1)]? = some (0, 16, []) ∧ S0[(o + 2)]? = some (0, 16, []) ∧ S0[(o + 3)]? = some (0, 16, []) ∧ S0[(o + 4)]? = some (0, 16, []) ∧ S0[(o + 5)]? = some (0, 400, [])
theorem isLaw_0 {o : Nat} (h : isLaw o) : S0[o]? = some (5, 7, [none, some (some (o + 1)), some (some (o + 2)), some (some (o + 3)), some (some (o + 4)), none, some (some (o + 5))]) := h.1
theorem isLaw_1 {o : Nat} (h : isLaw o) : S0[(o + 1)]? = some (0, 16, []) := h.2.1
theorem isLaw_2 {o : Nat} (h : isLaw o) : S0[(o + 2)]? = some (0, 16, []) := h.2.2.1
theorem isLaw_3 {o : Nat} (h : isLaw o) : S0[(o + 3)]? = some (0, 16, []) := h.2.2.2.1
theorem isLaw_4 {o : Nat} (h : isLaw o) : S0[(o + 4)]? = some (0, 16, []) := h.2.2.2.2.1
theorem isLaw_5 {o : Nat} (h : isLaw o) : S0[(o + 5)]? = some (0, 400, []) := h.2.2.2.2.2
theorem isLaw_at8 : isLaw 8 := ⟨s0_8, s0_9, s0_10, s0_11, s0_12, s0_13⟩
theorem isLaw_at14 : isLaw 14 := ⟨s0_14, s0_15, s0_16, s0_17, s0_18, s0_19⟩
theorem isLaw_at73 : isLaw 73 := ⟨s0_73, s0_74, s0_75, s0_76, s0_77, s0_78⟩
theorem isLaw_at79 : isLaw 79 := ⟨s0_79, s0_80, s0_81, s0_82, s0_83, s0_84⟩
theorem isLaw_at101 : isLaw 101 := ⟨s0_101, s0_102, s0_103, s0_104, s0_105, s0_106⟩
def isRound (o : Nat) : Prop := S0[o]? = some (9, 5, [none, some (some (o + 1)), some (some (o + 2)), some (some (o + 3)), some (some (o + 4))]) ∧ S0[(o + 1)]? = some (0, 8, []) ∧ S0[(o + 2)]? = some (0, 8, []) ∧ S0[(o + 3)]? = some (0, 8, []) ∧ S0[(o + 4)]? = some (0, 8, [])
theorem isRound_0 {o : Nat} (h : isRound o) : S0[o]? = some (9, 5, [none, some (some (o + 1)), some (some (o + 2)), some (some (o + 3)), some (some (o + 4))]) := h.1
theorem isRound_1 {o : Nat} (h : isRound o) : S0[(o + 1)]? = some (0, 8, []) := h.2.1
theorem isRound_2 {o : Nat} (h : isRound o) : S0[(o + 2)]? = some (0, 8, []) := h.2.2.1
theorem isRound_3 {o : Nat} (h : isRound o) : S0[(o + 3)]? = some (0, 8, []) := h.2.2.2.1
theorem isRound_4 {o : Nat} (h : isRound o) : S0[(o + 4)]? = some (0, 8, []) := h.2.2.2.2
theorem isRound_at20 : isRound 20 := ⟨s0_20, s0_21, s0_22, s0_23, s0_24⟩
theorem isRound_at85 : isRound 85 := ⟨s0_85, s0_86, s0_87, s0_88, s0_89⟩
theorem isRound_at107 : isRound 107 := ⟨s0_107, s0_108, s0_109, s0_110, s0_111⟩
def isShifts (o : Nat) : Prop := S0[o]? = some (10, 5, [none, some (some (o + 1)), some (some (o + 2)), some (some (o + 3)), some (some (o + 4))]) ∧ S0[(o + 1)]? = some (0, 16, []) ∧ S0[(o + 2)]? = some (0, 16, []) ∧ S0[(o + 3)]? = some (0, 10, []) ∧ S0[(o + 4)]? = some (0, 10, [])
theorem isShifts_0 {o : Nat} (h : isShifts o) : S0[o]? = some (10, 5, [none, some (some (o + 1)), some (some (o + 2)), some (some (o + 3)), some (some (o + 4))]) := h.1
theorem isShifts_1 {o : Nat} (h : isShifts o) : S0[(o + 1)]? = some (0, 16, []) := h.2.1
theorem isShifts_2 {o : Nat} (h : isShifts o) : S0[(o + 2)]? = some (0, 16, []) := h.2.2.1
theorem isShifts_3 {o : Nat} (h : isShifts o) : S0[(o + 3)]? = some (0, 10, []) := h.2.2.2.1
theorem isShifts_4 {o : Nat} (h : isShifts o) : S0[(o + 4)]? = some (0, 10, []) := h.2.2.2.2
theorem isShifts_at25 : isShifts 25 := ⟨s0_25, s0_26, s0_27, s0_28, s0_29⟩
theorem isShifts_at90 : isShifts 90 := ⟨s0_90, s0_91, s0_92, s0_93, s0_94⟩
theorem isShifts_at112 : isShifts 112 := ⟨s0_112, s0_113, s0_114, s0_115, s0_116⟩
def isBook (o : Nat) : Prop := S0[o]? = some (3, 3, [some (some (o + 1)), some (some (o + 2)), some (some (o + 3))]) ∧ S0[(o + 1)]? = some (0, 150, []) ∧ S0[(o + 2)]? = some (0, 150, []) ∧ S0[(o + 3)]? = some (0, 150, [])
theorem isBook_0 {o : Nat} (h : isBook o) : S0[o]? = some (3, 3, [some (some (o + 1)), some (some (o + 2)), some (some (o + 3))]) := h.1
theorem isBook_1 {o : Nat} (h : isBook o) : S0[(o + 1)]? = some (0, 150, []) := h.2.1
theorem isBook_2 {o : Nat} (h : isBook o) : S0[(o + 2)]? = some (0, 150, []) := h.2.2.1
theorem isBook_3 {o : Nat} (h : isBook o) : S0[(o + 3)]? = some (0, 150, []) := h.2.2.2
theorem isBook_at30 : isBook 30 := ⟨s0_30, s0_31, s0_32, s0_33⟩
theorem isBook_at95 : isBook 95 := ⟨s0_95, s0_96, s0_97, s0_98⟩
def isTold (o : Nat) : Prop := S0[o]? = some (11, 8, [none, none, none, some (some (o + 1)), some (some (o + 2)), some (some (o + 8)), some (some (o + 14)), some (some (o + 19))]) ∧ S0[(o + 1)]? = some (0, 64, []) ∧ S0[(o + 2)]? = some (5, 7, [none, some (some (o + 3)), some (some (o + 4)), some (some (o + 5)), some (some (o + 6)), none, some (some (o + 7))]) ∧ S0[(o + 3)]? = some (0, 16, []) ∧ S0[(o + 4)]? = some (0, 16, []) ∧ S0[(o + 5)]? = some (0, 16, []) ∧ S0[(o + 6)]? = some (0, 16, []) ∧ S0[(o + 7)]? = some (0, 400, []) ∧ S0[(o + 8)]? = some (5, 7, [none, some (some (o + 9)), some (some (o + 10)), some (some (o + 11)), some (some (o + 12)), none, some (some (o + 13))]) ∧ S0[(o + 9)]? = some (0, 16, []) ∧ S0[(o + 10)]? = some (0, 16, []) ∧ S0[(o + 11)]? = some (0, 16, []) ∧ S0[(o + 12)]? = some (0, 16, []) ∧ S0[(o + 13)]? = some (0, 400, []) ∧ S0[(o + 14)]? = some (9, 5, [none, some (some (o + 15)), some (some (o + 16)), some (some (o + 17)), some (some (o + 18))]) ∧ S0[(o + 15)]? = some (0, 8, []) ∧ S0[(o + 16)]? = some (0, 8, []) ∧ S0[(o + 17)]? = some (0, 8, []) ∧ S0[(o + 18)]? = some (0, 8, []) ∧ S0[(o + 19)]? = some (10, 5, [none, some (some (o + 20)), some (some (o + 21)), some (some (o + 22)), some (some (o + 23))]) ∧ S0[(o + 20)]? = some (0, 16, []) ∧ S0[(o + 21)]? = some (0, 16, []) ∧ S0[(o + 22)]? = some (0, 10, []) ∧ S0[(o + 23)]? = some (0, 10, [])
theorem isTold_0 {o : Nat} (h : isTold o) : S0[o]? = some (11, 8, [none, none, none, some (some (o + 1)), some (some (o + 2)), some (some (o + 8)), some (some (o + 14)), some (some (o + 19))]) := h.1
theorem isTold_1 {o : Nat} (h : isTold o) : S0[(o + 1)]? = some (0, 64, []) := h.2.1
theorem isTold_2 {o : Nat} (h : isTold o) : S0[(o + 2)]? = some (5, 7, [none, some (some (o + 3)), some (some (o + 4)), some (some (o + 5)), some (some (o + 6)), none, some (some (o + 7))]) := h.2.2.1
theorem isTold_3 {o : Nat} (h : isTold o) : S0[(o + 3)]? = some (0, 16, []) := h.2.2.2.1
theorem isTold_4 {o : Nat} (h : isTold o) : S0[(o + 4)]? = some (0, 16, []) := h.2.2.2.2.1
theorem isTold_5 {o : Nat} (h : isTold o) : S0[(o + 5)]? = some (0, 16, []) := h.2.2.2.2.2.1
theorem isTold_6 {o : Nat} (h : isTold o) : S0[(o + 6)]? = some (0, 16, []) := h.2.2.2.2.2.2.1
theorem isTold_7 {o : Nat} (h : isTold o) : S0[(o + 7)]? = some (0, 400, []) := h.2.2.2.2.2.2.2.1
theorem isTold_8 {o : Nat} (h : isTold o) : S0[(o + 8)]? = some (5, 7, [none, some (some (o + 9)), some (some (o + 10)), some (some (o + 11)), some (some (o + 12)), none, some (some (o + 13))]) := h.2.2.2.2.2.2.2.2.1
theorem isTold_9 {o : Nat} (h : isTold o) : S0[(o + 9)]? = some (0, 16, []) := h.2.2.2.2.2.2.2.2.2.1
theorem isTold_10 {o : Nat} (h : isTold o) : S0[(o + 10)]? = some (0, 16, []) := h.2.2.2.2.2.2.2.2.2.2.1
theorem isTold_11 {o : Nat} (h : isTold o) : S0[(o + 11)]? = some (0, 16, []) := h.2.2.2.2.2.2.2.2.2.2.2.1
theorem isTold_12 {o : Nat} (h : isTold o) : S0[(o + 12)]? = some (0, 16, []) := h.2.2.2.2.2.2.2.2.2.2.2.2.1
theorem isTold_13 {o : Nat} (h : isTold o) : S0[(o + 13)]? = some (0, 400, []) := h.2.2.2.2.2.2.2.2.2.2.2.2.2.1
theorem isTold_14 {o : Nat} (h : isTold o) : S0[(o + 14)]? = some (9, 5, [none, some (some (o + 15)), some (some (o + 16)), some (some (o + 17)), some (some (o + 18))]) := h.2.2.2.2.2.2.2.2.2.2.2.2.2.2.1
theorem isTold_15 {o : Nat} (h : isTold o) : S0[(o + 15)]? = some (0, 8, []) := h.2.2.2.2.2.2.2.2.2.2.2.2.2.2.2.1
theorem isTold_16 {o : Nat} (h : isTold o) : S0[(o + 16)]? = some (0, 8, []) := h.2.2.2.2.2.2.2.2.2.2.2.2.2.2.2.2.1
theorem isTold_17 {o : Nat} (h : isTold o) : S0[(o + 17)]? = some (0, 8, []) := h.2.2.2.2.2.2.2.2.2.2.2.2.2.2.2.2.2.1
theorem isTold_18 {o : Nat} (h : isTold o) : S0[(o + 18)]? = some (0, 8, []) := h.2.2.2.2.2.2.2.2.2.2.2.2.2.2.2.2.2.2.1
theorem isTold_19 {o : Nat} (h : isTold o) : S0[(o + 19)]? = some (10, 5, [none, some (some (o + 20)), some (some (o + 21)), some (some (o + 22)), some (some (o + 23))]) := h.2.2.2.2.2.2.2.2.2.2.2.2.2.2.2.2.2.2.2.1
theorem isTold_20 {o : Nat} (h : isTold o) : S0[(o + 20)]? = some (0, 16, []) := h.2.2.2.2.2.2.2.2.2.2.2.2.2.2.2.2.2.2.2.2.1
theorem isTold_21 {o : Nat} (h : isTold o) : S0[(o + 21)]? = some (0, 16, []) := h.2.2.2.2.2.2.2.2.2.2.2.2.2.2.2.2.2.2.2.2.2.1
theorem isTold_22 {o : Nat} (h : isTold o) : S0[(o + 22)]? = some (0, 10, []) := h.2.2.2.2.2.2.2.2.2.2.2.2.2.2.2.2.2.2.2.2.2.2.1
theorem isTold_23 {o : Nat} (h : isTold o) : S0[(o + 23)]? = some (0, 10, []) := h.2.2.2.2.2.2.2.2.2.2.2.2.2.2.2.2.2.2.2.2.2.2.2
theorem isTold_at6 : isTold 6 := ⟨s0_6, s0_7, s0_8, s0_9, s0_10, s0_11, s0_12, s0_13, s0_14, s0_15, s0_16, s0_17, s0_18, s0_19, s0_20, s0_21, s0_22, s0_23, s0_24, s0_25, s0_26, s0_27, s0_28, s0_29⟩
theorem isTold_at71 : isTold 71 := ⟨s0_71, s0_72, s0_73, s0_74, s0_75, s0_76, s0_77, s0_78, s0_79, s0_80, s0_81, s0_82, s0_83, s0_84, s0_85, s0_86, s0_87, s0_88, s0_89, s0_90, s0_91, s0_92, s0_93, s0_94⟩
theorem isTold_Law_2 {o : Nat} (h : isTold o) : isLaw (o + 2) := ⟨isTold_2 h, isTold_3 h, isTold_4 h, isTold_5 h, isTold_6 h, isTold_7 h⟩
theorem isTold_Law_8 {o : Nat} (h : isTold o) : isLaw (o + 8) := ⟨isTold_8 h, isTold_9 h, isTold_10 h, isTold_11 h, isTold_12 h, isTold_13 h⟩
theorem isTold_Round_14 {o : Nat} (h : isTold o) : isRound (o + 14) := ⟨isTold_14 h, isTold_15 h, isTold_16 h, isTold_17 h, isTold_18 h⟩
theorem isTold_Shifts_19 {o : Nat} (h : isTold o) : isShifts (o + 19) := ⟨isTold_19 h, isTold_20 h, isTold_21 h, isTold_22 h, isTold_23 h⟩
theorem nwL_is {j : Nat} (h : j ∈ nwL) : isNow j := by
  unfold nwL at h
  simp only [List.mem_cons, List.not_mem_nil, or_false] at h
  rcases h with rfl | rfl | rfl | rfl | rfl | rfl | rfl | rfl | rfl
  · exact isNow_at1
  · exact isNow_at36
  · exact isNow_at41
  · exact isNow_at46
  · exact isNow_at51
  · exact isNow_at56
  · exact isNow_at61
  · exact isNow_at66
  · exact isNow_at122
theorem nwL_lt {j : Nat} (h : j ∈ nwL) : j < 100000 := by
  unfold nwL at h
  simp only [List.mem_cons, List.not_mem_nil, or_false] at h
  omega
