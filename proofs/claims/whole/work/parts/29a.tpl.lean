/-! the heap behind the two constructors: its shape, and its numbers; printed by wip/whole/tpl.py out of a run of the machine in Python (a guess that later parts prove) -/
def tpl : List hp_T := [.inl (0, [some 1, none, none, none, some 2, some 14, some 22, some 44, some 48, some 51, some 55, some 71, some 90, some 108]), .inr (0, 4000), .inl (1, [some 3, some 6, some 1, some 9, some 10, some 11, some 12, some 13, none, none, none, none, none, none, none]), .inl (2, [some 4, some 5, none]), .inr (1, 21), .inr (1, 21), .inl (2, [some 7, some 8, none]), .inr (1, 6), .inr (1, 6), .inr (0, 2001), .inr (0, 2001), .inr (0, 2001), .inr (1, 2001), .inr (1, 2001), .inl (3, [some 15, some 16, some 17, some 18, some 19, some 20, some 21, none, none, none, none, none, none]), .inr (0, 3000), .inr (0, 3000), .inr (0, 3000), .inr (0, 3000), .inr (0, 3000), .inr (0, 100), .inr (0, 1000), .inl (4, [some 2, some 14, some 23, some 41, none, none, none, none]), .inl (5, [some 24, some 27, some 30, some 31, some 32, some 33, some 36, some 37, some 38, some 39, some 40, none, none, none, none, none]), .inl (2, [some 25, some 26, none]), .inr (1, 20), .inr (1, 20), .inl (2, [some 28, some 29, none]), .inr (1, 100), .inr (1, 100), .inr (0, 21), .inr (0, 100), .inr (0, 100), .inl (2, [some 34, some 35, none]), .inr (1, 48), .inr (1, 48), .inr (0, 48), .inr (0, 48), .inr (0, 48), .inr (0, 48), .inr (0, 8), .inl (2, [some 42, some 43, none]), .inr (1, 2), .inr (1, 2), .inl (6, [some 45, some 46, some 47, none, none, none, none]), .inr (0, 12416), .inr (0, 100), .inr (0, 100), .inl (7, [some 44, some 49, some 50, none, none, none, none, none, none, none]), .inr (0, 3000), .inr (0, 200), .inl (8, [some 14, some 44, some 48, some 52, some 53, some 54, none, none, none, none, none, none, none, none, none, none, none, none, none]), .inr (0, 16384), .inr (0, 200), .inr (0, 12), .inl (9, [some 1, some 56, some 59, some 62, some 65, some 68, some 69, some 70, none, none, none, none, none, none, none, none]), .inl (2, [some 57, some 58, none]), .inr (1, 28), .inr (1, 28), .inl (2, [some 60, some 61, none]), .inr (1, 7), .inr (1, 7), .inl (2, [some 63, some 64, none]), .inr (1, 7), .inr (1, 7), .inl (2, [some 66, some 67, none]), .inr (1, 123), .inr (1, 123), .inr (0, 123), .inr (0, 1500), .inr (0, 32768), .inl (10, [some 2, some 72, some 75, some 76, some 77, some 78, some 79, some 82, some 83, some 84, some 85, some 86, some 87, none, none]), .inl (2, [some 73, some 74, none]), .inr (1, 18), .inr (1, 18), .inr (0, 18), .inr (0, 19), .inr (0, 18), .inr (0, 19), .inl (2, [some 80, some 81, none]), .inr (1, 197), .inr (1, 197), .inr (0, 197), .inr (0, 384), .inr (0, 385), .inr (0, 500), .inr (0, 500), .inl (2, [some 88, some 89, none]), .inr (1, 100), .inr (1, 100), .inl (11, [some 2, some 71, some 91, some 92, some 93, some 94, some 95, some 96, some 97, some 98, some 99, some 102, some 103, some 104, some 105, some 106, some 107]), .inr (0, 197), .inr (0, 197), .inr (0, 18), .inr (0, 384), .inr (0, 500), .inr (0, 500), .inr (0, 500), .inr (0, 500), .inl (2, [some 100, some 101, none]), .inr (1, 100), .inr (1, 100), .inr (0, 100), .inr (0, 100), .inr (0, 100), .inr (0, 12), .inr (0, 12), .inr (0, 18), .inl (12, [some 71, some 90, some 109, some 110, some 111, some 112, some 113, some 114, some 115, some 116, some 117, some 118, some 119, some 120, none, none, none, none, none]), .inr (0, 18), .inr (0, 18), .inr (0, 40000), .inr (0, 1694), .inr (0, 1500), .inr (0, 1500), .inr (0, 192), .inr (0, 1500), .inr (0, 1500), .inr (0, 1500), .inr (0, 1500), .inr (0, 3000), .inl (13, [some 122, none, some 123, none, none, some 124, some 125, some 126, some 127, none, none, none, none, some 128, none, some 129, none, none, some 130, some 131, some 132, some 133, some 134, some 135, some 136, none, some 137, some 138, some 139, some 140, some 141, some 142, some 143, none, some 144, some 145, some 146, some 147, some 148, none, some 149, some 150, some 151, some 152, some 153, some 154, some 155, some 156, none, none, none, none, some 157, some 158, some 159, none, some 160, some 161, some 162, some 163, none, none, none, some 164, some 165, some 166, some 167, some 168, some 169, none, none, none, none, some 170, none, some 171, none, some 172, some 173, some 174, some 175, none, some 176, some 177, some 178, some 179, some 180, none, none, none, some 181, some 182, some 183, some 184, some 185, none, none, none, none, none, none, some 186, none, none, none, some 187, none, none, none, some 188, none, some 189, none, some 190, some 191, some 192, some 193, some 194, none, none, none, none, none, some 195, some 196, none, some 197, some 198, some 199, some 200, some 201, none, some 202, some 203, none, some 204, some 205, some 206, some 207, some 208, some 209, some 210, some 211, some 212, none, some 213, some 214, some 215, none, none, none, some 216, none, some 217, some 218, some 219, some 220, some 221, none, some 222, some 223, none, some 224, some 225, some 226, some 227, none, some 228, some 229, some 230, none, some 231, some 232, none, none, some 233]), .inr (0, 4000), .inr (0, 4000), .inr (0, 2002), .inr (0, 2002), .inr (0, 2002), .inr (0, 2002), .inr (0, 13), .inr (0, 13), .inr (0, 61), .inr (0, 61), .inr (0, 61), .inr (0, 61), .inr (0, 61), .inr (0, 61), .inr (0, 61), .inr (0, 1100), .inr (0, 1100), .inr (0, 1100), .inr (0, 1100), .inr (0, 1100), .inr (0, 1100), .inr (0, 1100), .inr (0, 5000), .inr (0, 5000), .inr (0, 5000), .inr (0, 5000), .inr (0, 5000), .inr (0, 1000), .inr (0, 1000), .inr (0, 1000), .inr (0, 1000), .inr (0, 1000), .inr (0, 1000), .inr (0, 1000), .inr (0, 1000), .inr (0, 64), .inr (0, 64), .inr (0, 64), .inr (0, 64), .inr (0, 64), .inr (0, 64), .inr (0, 64), .inr (0, 9), .inr (0, 8), .inr (0, 60), .inr (4, 60), .inr (0, 60), .inr (0, 61), .inr (0, 5000), .inr (0, 4000), .inr (0, 12000), .inr (0, 12000), .inr (0, 12000), .inr (0, 16512), .inr (0, 100), .inr (0, 100), .inr (0, 12), .inr (0, 1000), .inr (0, 20000), .inr (0, 41), .inr (0, 41), .inr (0, 41), .inr (0, 41), .inr (0, 1200), .inr (0, 200), .inr (0, 3000), .inr (0, 8), .inr (0, 2000), .inr (0, 100), .inr (0, 100), .inr (0, 100), .inr (0, 2000), .inr (0, 32768), .inr (0, 17), .inr (0, 18), .inr (4, 200), .inr (0, 200), .inr (0, 200), .inr (0, 200), .inr (0, 18), .inr (0, 400), .inr (0, 401), .inr (0, 700), .inr (0, 700), .inr (0, 700), .inr (0, 700), .inr (0, 700), .inr (0, 700), .inr (0, 700), .inr (0, 700), .inr (0, 18), .inr (0, 700), .inr (0, 700), .inr (4, 700), .inr (0, 400), .inr (0, 200), .inr (0, 200), .inr (4, 256), .inr (1, 16), .inr (1, 16), .inr (0, 40000), .inr (0, 40000), .inr (4, 1500), .inr (0, 1500), .inr (0, 1500), .inr (0, 1500), .inr (0, 1500), .inr (0, 1500), .inr (0, 40000), .inr (0, 20000), .inr (0, 20000), .inr (0, 1500)]
theorem tp_0 : tpl[0]? = some (.inl (0, [some 1, none, none, none, some 2, some 14, some 22, some 44, some 48, some 51, some 55, some 71, some 90, some 108])) := rfl
theorem tp_1 : tpl[1]? = some (.inr (0, 4000)) := rfl
theorem tp_2 : tpl[2]? = some (.inl (1, [some 3, some 6, some 1, some 9, some 10, some 11, some 12, some 13, none, none, none, none, none, none, none])) := rfl
theorem tp_3 : tpl[3]? = some (.inl (2, [some 4, some 5, none])) := rfl
theorem tp_4 : tpl[4]? = some (.inr (1, 21)) := rfl
theorem tp_5 : tpl[5]? = some (.inr (1, 21)) := rfl
theorem tp_6 : tpl[6]? = some (.inl (2, [some 7, some 8, none])) := rfl
theorem tp_7 : tpl[7]? = some (.inr (1, 6)) := rfl
theorem tp_8 : tpl[8]? = some (.inr (1, 6)) := rfl
theorem tp_9 : tpl[9]? = some (.inr (0, 2001)) := rfl
theorem tp_10 : tpl[10]? = some (.inr (0, 2001)) := rfl
theorem tp_11 : tpl[11]? = some (.inr (0, 2001)) := rfl
theorem tp_12 : tpl[12]? = some (.inr (1, 2001)) := rfl
theorem tp_13 : tpl[13]? = some (.inr (1, 2001)) := rfl
theorem tp_14 : tpl[14]? = some (.inl (3, [some 15, some 16, some 17, some 18, some 19, some 20, some 21, none, none, none, none, none, none])) := rfl
theorem tp_15 : tpl[15]? = some (.inr (0, 3000)) := rfl
theorem tp_16 : tpl[16]? = some (.inr (0, 3000)) := rfl
theorem tp_17 : tpl[17]? = some (.inr (0, 3000)) := rfl
theorem tp_18 : tpl[18]? = some (.inr (0, 3000)) := rfl
theorem tp_19 : tpl[19]? = some (.inr (0, 3000)) := rfl
theorem tp_20 : tpl[20]? = some (.inr (0, 100)) := rfl
theorem tp_21 : tpl[21]? = some (.inr (0, 1000)) := rfl
theorem tp_22 : tpl[22]? = some (.inl (4, [some 2, some 14, some 23, some 41, none, none, none, none])) := rfl
theorem tp_23 : tpl[23]? = some (.inl (5, [some 24, some 27, some 30, some 31, some 32, some 33, some 36, some 37, some 38, some 39, some 40, none, none, none, none, none])) := rfl
theorem tp_24 : tpl[24]? = some (.inl (2, [some 25, some 26, none])) := rfl
theorem tp_25 : tpl[25]? = some (.inr (1, 20)) := rfl
theorem tp_26 : tpl[26]? = some (.inr (1, 20)) := rfl
theorem tp_27 : tpl[27]? = some (.inl (2, [some 28, some 29, none])) := rfl
theorem tp_28 : tpl[28]? = some (.inr (1, 100)) := rfl
theorem tp_29 : tpl[29]? = some (.inr (1, 100)) := rfl
theorem tp_30 : tpl[30]? = some (.inr (0, 21)) := rfl
theorem tp_31 : tpl[31]? = some (.inr (0, 100)) := rfl
theorem tp_32 : tpl[32]? = some (.inr (0, 100)) := rfl
theorem tp_33 : tpl[33]? = some (.inl (2, [some 34, some 35, none])) := rfl
theorem tp_34 : tpl[34]? = some (.inr (1, 48)) := rfl
theorem tp_35 : tpl[35]? = some (.inr (1, 48)) := rfl
theorem tp_36 : tpl[36]? = some (.inr (0, 48)) := rfl
theorem tp_37 : tpl[37]? = some (.inr (0, 48)) := rfl
theorem tp_38 : tpl[38]? = some (.inr (0, 48)) := rfl
theorem tp_39 : tpl[39]? = some (.inr (0, 48)) := rfl
theorem tp_40 : tpl[40]? = some (.inr (0, 8)) := rfl
theorem tp_41 : tpl[41]? = some (.inl (2, [some 42, some 43, none])) := rfl
theorem tp_42 : tpl[42]? = some (.inr (1, 2)) := rfl
theorem tp_43 : tpl[43]? = some (.inr (1, 2)) := rfl
theorem tp_44 : tpl[44]? = some (.inl (6, [some 45, some 46, some 47, none, none, none, none])) := rfl
theorem tp_45 : tpl[45]? = some (.inr (0, 12416)) := rfl
theorem tp_46 : tpl[46]? = some (.inr (0, 100)) := rfl
theorem tp_47 : tpl[47]? = some (.inr (0, 100)) := rfl
theorem tp_48 : tpl[48]? = some (.inl (7, [some 44, some 49, some 50, none, none, none, none, none, none, none])) := rfl
theorem tp_49 : tpl[49]? = some (.inr (0, 3000)) := rfl
theorem tp_50 : tpl[50]? = some (.inr (0, 200)) := rfl
theorem tp_51 : tpl[51]? = some (.inl (8, [some 14, some 44, some 48, some 52, some 53, some 54, none, none, none, none, none, none, none, none, none, none, none, none, none])) := rfl
theorem tp_52 : tpl[52]? = some (.inr (0, 16384)) := rfl
theorem tp_53 : tpl[53]? = some (.inr (0, 200)) := rfl
theorem tp_54 : tpl[54]? = some (.inr (0, 12)) := rfl
theorem tp_55 : tpl[55]? = some (.inl (9, [some 1, some 56, some 59, some 62, some 65, some 68, some 69, some 70, none, none, none, none, none, none, none, none])) := rfl
theorem tp_56 : tpl[56]? = some (.inl (2, [some 57, some 58, none])) := rfl
theorem tp_57 : tpl[57]? = some (.inr (1, 28)) := rfl
theorem tp_58 : tpl[58]? = some (.inr (1, 28)) := rfl
theorem tp_59 : tpl[59]? = some (.inl (2, [some 60, some 61, none])) := rfl
theorem tp_60 : tpl[60]? = some (.inr (1, 7)) := rfl
theorem tp_61 : tpl[61]? = some (.inr (1, 7)) := rfl
theorem tp_62 : tpl[62]? = some (.inl (2, [some 63, some 64, none])) := rfl
theorem tp_63 : tpl[63]? = some (.inr (1, 7)) := rfl
theorem tp_64 : tpl[64]? = some (.inr (1, 7)) := rfl
theorem tp_65 : tpl[65]? = some (.inl (2, [some 66, some 67, none])) := rfl
theorem tp_66 : tpl[66]? = some (.inr (1, 123)) := rfl
theorem tp_67 : tpl[67]? = some (.inr (1, 123)) := rfl
theorem tp_68 : tpl[68]? = some (.inr (0, 123)) := rfl
theorem tp_69 : tpl[69]? = some (.inr (0, 1500)) := rfl
theorem tp_70 : tpl[70]? = some (.inr (0, 32768)) := rfl
theorem tp_71 : tpl[71]? = some (.inl (10, [some 2, some 72, some 75, some 76, some 77, some 78, some 79, some 82, some 83, some 84, some 85, some 86, some 87, none, none])) := rfl
theorem tp_72 : tpl[72]? = some (.inl (2, [some 73, some 74, none])) := rfl
theorem tp_73 : tpl[73]? = some (.inr (1, 18)) := rfl
theorem tp_74 : tpl[74]? = some (.inr (1, 18)) := rfl
theorem tp_75 : tpl[75]? = some (.inr (0, 18)) := rfl
theorem tp_76 : tpl[76]? = some (.inr (0, 19)) := rfl
theorem tp_77 : tpl[77]? = some (.inr (0, 18)) := rfl
theorem tp_78 : tpl[78]? = some (.inr (0, 19)) := rfl
theorem tp_79 : tpl[79]? = some (.inl (2, [some 80, some 81, none])) := rfl
theorem tp_80 : tpl[80]? = some (.inr (1, 197)) := rfl
theorem tp_81 : tpl[81]? = some (.inr (1, 197)) := rfl
theorem tp_82 : tpl[82]? = some (.inr (0, 197)) := rfl
theorem tp_83 : tpl[83]? = some (.inr (0, 384)) := rfl
theorem tp_84 : tpl[84]? = some (.inr (0, 385)) := rfl
theorem tp_85 : tpl[85]? = some (.inr (0, 500)) := rfl
theorem tp_86 : tpl[86]? = some (.inr (0, 500)) := rfl
theorem tp_87 : tpl[87]? = some (.inl (2, [some 88, some 89, none])) := rfl
theorem tp_88 : tpl[88]? = some (.inr (1, 100)) := rfl
theorem tp_89 : tpl[89]? = some (.inr (1, 100)) := rfl
theorem tp_90 : tpl[90]? = some (.inl (11, [some 2, some 71, some 91, some 92, some 93, some 94, some 95, some 96, some 97, some 98, some 99, some 102, some 103, some 104, some 105, some 106, some 107])) := rfl
theorem tp_91 : tpl[91]? = some (.inr (0, 197)) := rfl
theorem tp_92 : tpl[92]? = some (.inr (0, 197)) := rfl
theorem tp_93 : tpl[93]? = some (.inr (0, 18)) := rfl
theorem tp_94 : tpl[94]? = some (.inr (0, 384)) := rfl
theorem tp_95 : tpl[95]? = some (.inr (0, 500)) := rfl
theorem tp_96 : tpl[96]? = some (.inr (0, 500)) := rfl
theorem tp_97 : tpl[97]? = some (.inr (0, 500)) := rfl
theorem tp_98 : tpl[98]? = some (.inr (0, 500)) := rfl
theorem tp_99 : tpl[99]? = some (.inl (2, [some 100, some 101, none])) := rfl
theorem tp_100 : tpl[100]? = some (.inr (1, 100)) := rfl
theorem tp_101 : tpl[101]? = some (.inr (1, 100)) := rfl
theorem tp_102 : tpl[102]? = some (.inr (0, 100)) := rfl
theorem tp_103 : tpl[103]? = some (.inr (0, 100)) := rfl
theorem tp_104 : tpl[104]? = some (.inr (0, 100)) := rfl
theorem tp_105 : tpl[105]? = some (.inr (0, 12)) := rfl
theorem tp_106 : tpl[106]? = some (.inr (0, 12)) := rfl
theorem tp_107 : tpl[107]? = some (.inr (0, 18)) := rfl
theorem tp_108 : tpl[108]? = some (.inl (12, [some 71, some 90, some 109, some 110, some 111, some 112, some 113, some 114, some 115, some 116, some 117, some 118, some 119, some 120, none, none, none, none, none])) := rfl
theorem tp_109 : tpl[109]? = some (.inr (0, 18)) := rfl
theorem tp_110 : tpl[110]? = some (.inr (0, 18)) := rfl
theorem tp_111 : tpl[111]? = some (.inr (0, 40000)) := rfl
theorem tp_112 : tpl[112]? = some (.inr (0, 1694)) := rfl
theorem tp_113 : tpl[113]? = some (.inr (0, 1500)) := rfl
theorem tp_114 : tpl[114]? = some (.inr (0, 1500)) := rfl
theorem tp_115 : tpl[115]? = some (.inr (0, 192)) := rfl
theorem tp_116 : tpl[116]? = some (.inr (0, 1500)) := rfl
theorem tp_117 : tpl[117]? = some (.inr (0, 1500)) := rfl
theorem tp_118 : tpl[118]? = some (.inr (0, 1500)) := rfl
theorem tp_119 : tpl[119]? = some (.inr (0, 1500)) := rfl
theorem tp_120 : tpl[120]? = some (.inr (0, 3000)) := rfl
theorem tp_121 : tpl[121]? = some (.inl (13, [some 122, none, some 123, none, none, some 124, some 125, some 126, some 127, none, none, none, none, some 128, none, some 129, none, none, some 130, some 131, some 132, some 133, some 134, some 135, some 136, none, some 137, some 138, some 139, some 140, some 141, some 142, some 143, none, some 144, some 145, some 146, some 147, some 148, none, some 149, some 150, some 151, some 152, some 153, some 154, some 155, some 156, none, none, none, none, some 157, some 158, some 159, none, some 160, some 161, some 162, some 163, none, none, none, some 164, some 165, some 166, some 167, some 168, some 169, none, none, none, none, some 170, none, some 171, none, some 172, some 173, some 174, some 175, none, some 176, some 177, some 178, some 179, some 180, none, none, none, some 181, some 182, some 183, some 184, some 185, none, none, none, none, none, none, some 186, none, none, none, some 187, none, none, none, some 188, none, some 189, none, some 190, some 191, some 192, some 193, some 194, none, none, none, none, none, some 195, some 196, none, some 197, some 198, some 199, some 200, some 201, none, some 202, some 203, none, some 204, some 205, some 206, some 207, some 208, some 209, some 210, some 211, some 212, none, some 213, some 214, some 215, none, none, none, some 216, none, some 217, some 218, some 219, some 220, some 221, none, some 222, some 223, none, some 224, some 225, some 226, some 227, none, some 228, some 229, some 230, none, some 231, some 232, none, none, some 233])) := rfl
theorem tp_122 : tpl[122]? = some (.inr (0, 4000)) := rfl
theorem tp_123 : tpl[123]? = some (.inr (0, 4000)) := rfl
theorem tp_124 : tpl[124]? = some (.inr (0, 2002)) := rfl
theorem tp_125 : tpl[125]? = some (.inr (0, 2002)) := rfl
theorem tp_126 : tpl[126]? = some (.inr (0, 2002)) := rfl
theorem tp_127 : tpl[127]? = some (.inr (0, 2002)) := rfl
theorem tp_128 : tpl[128]? = some (.inr (0, 13)) := rfl
theorem tp_129 : tpl[129]? = some (.inr (0, 13)) := rfl
theorem tp_130 : tpl[130]? = some (.inr (0, 61)) := rfl
theorem tp_131 : tpl[131]? = some (.inr (0, 61)) := rfl
theorem tp_132 : tpl[132]? = some (.inr (0, 61)) := rfl
theorem tp_133 : tpl[133]? = some (.inr (0, 61)) := rfl
theorem tp_134 : tpl[134]? = some (.inr (0, 61)) := rfl
theorem tp_135 : tpl[135]? = some (.inr (0, 61)) := rfl
theorem tp_136 : tpl[136]? = some (.inr (0, 61)) := rfl
theorem tp_137 : tpl[137]? = some (.inr (0, 1100)) := rfl
theorem tp_138 : tpl[138]? = some (.inr (0, 1100)) := rfl
theorem tp_139 : tpl[139]? = some (.inr (0, 1100)) := rfl
theorem tp_140 : tpl[140]? = some (.inr (0, 1100)) := rfl
theorem tp_141 : tpl[141]? = some (.inr (0, 1100)) := rfl
theorem tp_142 : tpl[142]? = some (.inr (0, 1100)) := rfl
theorem tp_143 : tpl[143]? = some (.inr (0, 1100)) := rfl
theorem tp_144 : tpl[144]? = some (.inr (0, 5000)) := rfl
theorem tp_145 : tpl[145]? = some (.inr (0, 5000)) := rfl
theorem tp_146 : tpl[146]? = some (.inr (0, 5000)) := rfl
theorem tp_147 : tpl[147]? = some (.inr (0, 5000)) := rfl
theorem tp_148 : tpl[148]? = some (.inr (0, 5000)) := rfl
theorem tp_149 : tpl[149]? = some (.inr (0, 1000)) := rfl
theorem tp_150 : tpl[150]? = some (.inr (0, 1000)) := rfl
theorem tp_151 : tpl[151]? = some (.inr (0, 1000)) := rfl
theorem tp_152 : tpl[152]? = some (.inr (0, 1000)) := rfl
theorem tp_153 : tpl[153]? = some (.inr (0, 1000)) := rfl
theorem tp_154 : tpl[154]? = some (.inr (0, 1000)) := rfl
theorem tp_155 : tpl[155]? = some (.inr (0, 1000)) := rfl
theorem tp_156 : tpl[156]? = some (.inr (0, 1000)) := rfl
theorem tp_157 : tpl[157]? = some (.inr (0, 64)) := rfl
theorem tp_158 : tpl[158]? = some (.inr (0, 64)) := rfl
theorem tp_159 : tpl[159]? = some (.inr (0, 64)) := rfl
theorem tp_160 : tpl[160]? = some (.inr (0, 64)) := rfl
theorem tp_161 : tpl[161]? = some (.inr (0, 64)) := rfl
theorem tp_162 : tpl[162]? = some (.inr (0, 64)) := rfl
theorem tp_163 : tpl[163]? = some (.inr (0, 64)) := rfl
theorem tp_164 : tpl[164]? = some (.inr (0, 9)) := rfl
theorem tp_165 : tpl[165]? = some (.inr (0, 8)) := rfl
theorem tp_166 : tpl[166]? = some (.inr (0, 60)) := rfl
theorem tp_167 : tpl[167]? = some (.inr (4, 60)) := rfl
theorem tp_168 : tpl[168]? = some (.inr (0, 60)) := rfl
theorem tp_169 : tpl[169]? = some (.inr (0, 61)) := rfl
theorem tp_170 : tpl[170]? = some (.inr (0, 5000)) := rfl
theorem tp_171 : tpl[171]? = some (.inr (0, 4000)) := rfl
theorem tp_172 : tpl[172]? = some (.inr (0, 12000)) := rfl
theorem tp_173 : tpl[173]? = some (.inr (0, 12000)) := rfl
theorem tp_174 : tpl[174]? = some (.inr (0, 12000)) := rfl
theorem tp_175 : tpl[175]? = some (.inr (0, 16512)) := rfl
theorem tp_176 : tpl[176]? = some (.inr (0, 100)) := rfl
theorem tp_177 : tpl[177]? = some (.inr (0, 100)) := rfl
theorem tp_178 : tpl[178]? = some (.inr (0, 12)) := rfl
theorem tp_179 : tpl[179]? = some (.inr (0, 1000)) := rfl
theorem tp_180 : tpl[180]? = some (.inr (0, 20000)) := rfl
theorem tp_181 : tpl[181]? = some (.inr (0, 41)) := rfl
theorem tp_182 : tpl[182]? = some (.inr (0, 41)) := rfl
theorem tp_183 : tpl[183]? = some (.inr (0, 41)) := rfl
theorem tp_184 : tpl[184]? = some (.inr (0, 41)) := rfl
theorem tp_185 : tpl[185]? = some (.inr (0, 1200)) := rfl
theorem tp_186 : tpl[186]? = some (.inr (0, 200)) := rfl
theorem tp_187 : tpl[187]? = some (.inr (0, 3000)) := rfl
theorem tp_188 : tpl[188]? = some (.inr (0, 8)) := rfl
theorem tp_189 : tpl[189]? = some (.inr (0, 2000)) := rfl
theorem tp_190 : tpl[190]? = some (.inr (0, 100)) := rfl
theorem tp_191 : tpl[191]? = some (.inr (0, 100)) := rfl
theorem tp_192 : tpl[192]? = some (.inr (0, 100)) := rfl
theorem tp_193 : tpl[193]? = some (.inr (0, 2000)) := rfl
theorem tp_194 : tpl[194]? = some (.inr (0, 32768)) := rfl
theorem tp_195 : tpl[195]? = some (.inr (0, 17)) := rfl
theorem tp_196 : tpl[196]? = some (.inr (0, 18)) := rfl
theorem tp_197 : tpl[197]? = some (.inr (4, 200)) := rfl
theorem tp_198 : tpl[198]? = some (.inr (0, 200)) := rfl
theorem tp_199 : tpl[199]? = some (.inr (0, 200)) := rfl
theorem tp_200 : tpl[200]? = some (.inr (0, 200)) := rfl
theorem tp_201 : tpl[201]? = some (.inr (0, 18)) := rfl
theorem tp_202 : tpl[202]? = some (.inr (0, 400)) := rfl
theorem tp_203 : tpl[203]? = some (.inr (0, 401)) := rfl
theorem tp_204 : tpl[204]? = some (.inr (0, 700)) := rfl
theorem tp_205 : tpl[205]? = some (.inr (0, 700)) := rfl
theorem tp_206 : tpl[206]? = some (.inr (0, 700)) := rfl
theorem tp_207 : tpl[207]? = some (.inr (0, 700)) := rfl
theorem tp_208 : tpl[208]? = some (.inr (0, 700)) := rfl
theorem tp_209 : tpl[209]? = some (.inr (0, 700)) := rfl
theorem tp_210 : tpl[210]? = some (.inr (0, 700)) := rfl
theorem tp_211 : tpl[211]? = some (.inr (0, 700)) := rfl
theorem tp_212 : tpl[212]? = some (.inr (0, 18)) := rfl
theorem tp_213 : tpl[213]? = some (.inr (0, 700)) := rfl
theorem tp_214 : tpl[214]? = some (.inr (0, 700)) := rfl
theorem tp_215 : tpl[215]? = some (.inr (4, 700)) := rfl
theorem tp_216 : tpl[216]? = some (.inr (0, 400)) := rfl
theorem tp_217 : tpl[217]? = some (.inr (0, 200)) := rfl
theorem tp_218 : tpl[218]? = some (.inr (0, 200)) := rfl
theorem tp_219 : tpl[219]? = some (.inr (4, 256)) := rfl
theorem tp_220 : tpl[220]? = some (.inr (1, 16)) := rfl
theorem tp_221 : tpl[221]? = some (.inr (1, 16)) := rfl
theorem tp_222 : tpl[222]? = some (.inr (0, 40000)) := rfl
theorem tp_223 : tpl[223]? = some (.inr (0, 40000)) := rfl
theorem tp_224 : tpl[224]? = some (.inr (4, 1500)) := rfl
theorem tp_225 : tpl[225]? = some (.inr (0, 1500)) := rfl
theorem tp_226 : tpl[226]? = some (.inr (0, 1500)) := rfl
theorem tp_227 : tpl[227]? = some (.inr (0, 1500)) := rfl
theorem tp_228 : tpl[228]? = some (.inr (0, 1500)) := rfl
theorem tp_229 : tpl[229]? = some (.inr (0, 1500)) := rfl
theorem tp_230 : tpl[230]? = some (.inr (0, 40000)) := rfl
theorem tp_231 : tpl[231]? = some (.inr (0, 20000)) := rfl
theorem tp_232 : tpl[232]? = some (.inr (0, 20000)) := rfl
theorem tp_233 : tpl[233]? = some (.inr (0, 1500)) := rfl
