/-! ===== the cells behind the constructors; words of the tables by their places ===== -/
def SH : List Sh := [
  .inl (10, [2, 4, 11, 17, 139, 192, 198, 201, 204, 206, 214, 215, 216, 217, 218, 0, 0, 0]),
  .inl (9, [3, 0]),
  .inr (0, 800, []),
  .inl (5, [5, 0, 0, 0, 0, 0, 0, 0]),
  .inl (0, [0, 0, 6, 7, 8, 9, 10]),
  .inr (0, 24, []),
  .inr (0, 60, []),
  .inr (0, 60, []),
  .inr (0, 60, []),
  .inr (0, 24, []),
  .inl (0, [0, 0, 12, 13, 14, 15, 16]),
  .inr (0, 24, []),
  .inr (0, 60, []),
  .inr (0, 60, []),
  .inr (0, 60, []),
  .inr (0, 24, []),
  .inl (3, [0, 0, 18]),
  .inr (4, 20, [19, 25, 31, 37, 43, 49, 55, 61, 67, 73, 79, 85, 91, 97, 103, 109, 115, 121, 127, 133]),
  .inl (0, [0, 0, 20, 21, 22, 23, 24]),
  .inr (0, 24, []),
  .inr (0, 60, []),
  .inr (0, 60, []),
  .inr (0, 60, []),
  .inr (0, 24, []),
  .inl (0, [0, 0, 26, 27, 28, 29, 30]),
  .inr (0, 24, []),
  .inr (0, 60, []),
  .inr (0, 60, []),
  .inr (0, 60, []),
  .inr (0, 24, []),
  .inl (0, [0, 0, 32, 33, 34, 35, 36]),
  .inr (0, 24, []),
  .inr (0, 60, []),
  .inr (0, 60, []),
  .inr (0, 60, []),
  .inr (0, 24, []),
  .inl (0, [0, 0, 38, 39, 40, 41, 42]),
  .inr (0, 24, []),
  .inr (0, 60, []),
  .inr (0, 60, []),
  .inr (0, 60, []),
  .inr (0, 24, []),
  .inl (0, [0, 0, 44, 45, 46, 47, 48]),
  .inr (0, 24, []),
  .inr (0, 60, []),
  .inr (0, 60, []),
  .inr (0, 60, []),
  .inr (0, 24, []),
  .inl (0, [0, 0, 50, 51, 52, 53, 54]),
  .inr (0, 24, []),
  .inr (0, 60, []),
  .inr (0, 60, []),
  .inr (0, 60, []),
  .inr (0, 24, []),
  .inl (0, [0, 0, 56, 57, 58, 59, 60]),
  .inr (0, 24, []),
  .inr (0, 60, []),
  .inr (0, 60, []),
  .inr (0, 60, []),
  .inr (0, 24, []),
  .inl (0, [0, 0, 62, 63, 64, 65, 66]),
  .inr (0, 24, []),
  .inr (0, 60, []),
  .inr (0, 60, []),
  .inr (0, 60, []),
  .inr (0, 24, []),
  .inl (0, [0, 0, 68, 69, 70, 71, 72]),
  .inr (0, 24, []),
  .inr (0, 60, []),
  .inr (0, 60, []),
  .inr (0, 60, []),
  .inr (0, 24, []),
  .inl (0, [0, 0, 74, 75, 76, 77, 78]),
  .inr (0, 24, []),
  .inr (0, 60, []),
  .inr (0, 60, []),
  .inr (0, 60, []),
  .inr (0, 24, []),
  .inl (0, [0, 0, 80, 81, 82, 83, 84]),
  .inr (0, 24, []),
  .inr (0, 60, []),
  .inr (0, 60, []),
  .inr (0, 60, []),
  .inr (0, 24, []),
  .inl (0, [0, 0, 86, 87, 88, 89, 90]),
  .inr (0, 24, []),
  .inr (0, 60, []),
  .inr (0, 60, []),
  .inr (0, 60, []),
  .inr (0, 24, []),
  .inl (0, [0, 0, 92, 93, 94, 95, 96]),
  .inr (0, 24, []),
  .inr (0, 60, []),
  .inr (0, 60, []),
  .inr (0, 60, []),
  .inr (0, 24, []),
  .inl (0, [0, 0, 98, 99, 100, 101, 102]),
  .inr (0, 24, []),
  .inr (0, 60, []),
  .inr (0, 60, []),
  .inr (0, 60, []),
  .inr (0, 24, []),
  .inl (0, [0, 0, 104, 105, 106, 107, 108]),
  .inr (0, 24, []),
  .inr (0, 60, []),
  .inr (0, 60, []),
  .inr (0, 60, []),
  .inr (0, 24, []),
  .inl (0, [0, 0, 110, 111, 112, 113, 114]),
  .inr (0, 24, []),
  .inr (0, 60, []),
  .inr (0, 60, []),
  .inr (0, 60, []),
  .inr (0, 24, []),
  .inl (0, [0, 0, 116, 117, 118, 119, 120]),
  .inr (0, 24, []),
  .inr (0, 60, []),
  .inr (0, 60, []),
  .inr (0, 60, []),
  .inr (0, 24, []),
  .inl (0, [0, 0, 122, 123, 124, 125, 126]),
  .inr (0, 24, []),
  .inr (0, 60, []),
  .inr (0, 60, []),
  .inr (0, 60, []),
  .inr (0, 24, []),
  .inl (0, [0, 0, 128, 129, 130, 131, 132]),
  .inr (0, 24, []),
  .inr (0, 60, []),
  .inr (0, 60, []),
  .inr (0, 60, []),
  .inr (0, 24, []),
  .inl (0, [0, 0, 134, 135, 136, 137, 138]),
  .inr (0, 24, []),
  .inr (0, 60, []),
  .inr (0, 60, []),
  .inr (0, 60, []),
  .inr (0, 24, []),
  .inl (2, [0, 0, 0, 140, 141, 166, 0, 191]),
  .inr (0, 24, []),
  .inr (3, 24, [142, 143, 144, 145, 146, 147, 148, 149, 150, 151, 152, 153, 154, 155, 156, 157, 158, 159, 160, 161, 162, 163, 164, 165]),
  .inr (0, 24, []),
  .inr (0, 24, []),
  .inr (0, 24, []),
  .inr (0, 24, []),
  .inr (0, 24, []),
  .inr (0, 24, []),
  .inr (0, 24, []),
  .inr (0, 24, []),
  .inr (0, 24, []),
  .inr (0, 24, []),
  .inr (0, 24, []),
  .inr (0, 24, []),
  .inr (0, 24, []),
  .inr (0, 24, []),
  .inr (0, 24, []),
  .inr (0, 24, []),
  .inr (0, 24, []),
  .inr (0, 24, []),
  .inr (0, 24, []),
  .inr (0, 24, []),
  .inr (0, 24, []),
  .inr (0, 24, []),
  .inr (0, 24, []),
  .inr (0, 24, []),
  .inr (3, 24, [167, 168, 169, 170, 171, 172, 173, 174, 175, 176, 177, 178, 179, 180, 181, 182, 183, 184, 185, 186, 187, 188, 189, 190]),
  .inr (0, 24, []),
  .inr (0, 24, []),
  .inr (0, 24, []),
  .inr (0, 24, []),
  .inr (0, 24, []),
  .inr (0, 24, []),
  .inr (0, 24, []),
  .inr (0, 24, []),
  .inr (0, 24, []),
  .inr (0, 24, []),
  .inr (0, 24, []),
  .inr (0, 24, []),
  .inr (0, 24, []),
  .inr (0, 24, []),
  .inr (0, 24, []),
  .inr (0, 24, []),
  .inr (0, 24, []),
  .inr (0, 24, []),
  .inr (0, 24, []),
  .inr (0, 24, []),
  .inr (0, 24, []),
  .inr (0, 24, []),
  .inr (0, 24, []),
  .inr (0, 24, []),
  .inr (1, 24, []),
  .inl (1, [0, 0, 193, 194, 195, 196, 197]),
  .inr (0, 60, []),
  .inr (0, 60, []),
  .inr (0, 60, []),
  .inr (0, 24, []),
  .inr (0, 60, []),
  .inl (8, [0, 0, 0, 0, 0, 0, 0, 199, 200]),
  .inr (0, 24, []),
  .inr (0, 60, []),
  .inl (6, [202, 203, 0]),
  .inr (0, 24, []),
  .inr (0, 24, []),
  .inl (7, [0, 0, 205]),
  .inr (0, 60, []),
  .inl (4, [207, 0, 208]),
  .inr (0, 123, []),
  .inl (0, [0, 0, 209, 210, 211, 212, 213]),
  .inr (0, 24, []),
  .inr (0, 60, []),
  .inr (0, 60, []),
  .inr (0, 60, []),
  .inr (0, 24, []),
  .inr (0, 15, []),
  .inr (0, 12, []),
  .inr (0, 12, []),
  .inr (0, 25, []),
  .inr (0, 6, []),
  .inl (11, [220, 0, 0, 0, 0, 0, 0, 0, 0, 221, 0, 222, 223, 224, 0, 0, 225, 226, 0, 0, 227, 228, 229, 230, 231, 232, 233, 234, 235, 236, 0, 237, 238, 0, 239, 240, 0, 0, 241, 242, 243, 0, 244, 0]),
  .inr (0, 800, []),
  .inr (0, 6, []),
  .inr (0, 206, []),
  .inr (0, 206, []),
  .inr (0, 206, []),
  .inr (0, 576, []),
  .inr (0, 60, []),
  .inr (0, 2, []),
  .inr (0, 60, []),
  .inr (0, 24, []),
  .inr (0, 60, []),
  .inr (1, 24, []),
  .inr (0, 24, []),
  .inr (0, 25, []),
  .inr (0, 25, []),
  .inr (2, 65536, []),
  .inr (0, 16, []),
  .inr (0, 15, []),
  .inr (0, 576, []),
  .inr (0, 24, []),
  .inr (0, 4120, []),
  .inr (0, 24, []),
  .inr (0, 24, []),
  .inr (0, 24, []),
  .inr (0, 123, [])]
theorem SH_0 : SH[0]? = some (.inl (10, [2, 4, 11, 17, 139, 192, 198, 201, 204, 206, 214, 215, 216, 217, 218, 0, 0, 0])) := by decide +kernel
theorem SH_1 : SH[1]? = some (.inl (9, [3, 0])) := by decide +kernel
theorem SH_2 : SH[2]? = some (.inr (0, 800, [])) := by decide +kernel
theorem SH_3 : SH[3]? = some (.inl (5, [5, 0, 0, 0, 0, 0, 0, 0])) := by decide +kernel
theorem SH_4 : SH[4]? = some (.inl (0, [0, 0, 6, 7, 8, 9, 10])) := by decide +kernel
theorem SH_5 : SH[5]? = some (.inr (0, 24, [])) := by decide +kernel
theorem SH_6 : SH[6]? = some (.inr (0, 60, [])) := by decide +kernel
theorem SH_7 : SH[7]? = some (.inr (0, 60, [])) := by decide +kernel
theorem SH_8 : SH[8]? = some (.inr (0, 60, [])) := by decide +kernel
theorem SH_9 : SH[9]? = some (.inr (0, 24, [])) := by decide +kernel
theorem SH_10 : SH[10]? = some (.inl (0, [0, 0, 12, 13, 14, 15, 16])) := by decide +kernel
theorem SH_11 : SH[11]? = some (.inr (0, 24, [])) := by decide +kernel
theorem SH_12 : SH[12]? = some (.inr (0, 60, [])) := by decide +kernel
theorem SH_13 : SH[13]? = some (.inr (0, 60, [])) := by decide +kernel
theorem SH_14 : SH[14]? = some (.inr (0, 60, [])) := by decide +kernel
theorem SH_15 : SH[15]? = some (.inr (0, 24, [])) := by decide +kernel
theorem SH_16 : SH[16]? = some (.inl (3, [0, 0, 18])) := by decide +kernel
theorem SH_17 : SH[17]? = some (.inr (4, 20, [19, 25, 31, 37, 43, 49, 55, 61, 67, 73, 79, 85, 91, 97, 103, 109, 115, 121, 127, 133])) := by decide +kernel
theorem SH_18 : SH[18]? = some (.inl (0, [0, 0, 20, 21, 22, 23, 24])) := by decide +kernel
theorem SH_19 : SH[19]? = some (.inr (0, 24, [])) := by decide +kernel
theorem SH_20 : SH[20]? = some (.inr (0, 60, [])) := by decide +kernel
theorem SH_21 : SH[21]? = some (.inr (0, 60, [])) := by decide +kernel
theorem SH_22 : SH[22]? = some (.inr (0, 60, [])) := by decide +kernel
theorem SH_23 : SH[23]? = some (.inr (0, 24, [])) := by decide +kernel
theorem SH_24 : SH[24]? = some (.inl (0, [0, 0, 26, 27, 28, 29, 30])) := by decide +kernel
theorem SH_25 : SH[25]? = some (.inr (0, 24, [])) := by decide +kernel
theorem SH_26 : SH[26]? = some (.inr (0, 60, [])) := by decide +kernel
theorem SH_27 : SH[27]? = some (.inr (0, 60, [])) := by decide +kernel
theorem SH_28 : SH[28]? = some (.inr (0, 60, [])) := by decide +kernel
theorem SH_29 : SH[29]? = some (.inr (0, 24, [])) := by decide +kernel
theorem SH_30 : SH[30]? = some (.inl (0, [0, 0, 32, 33, 34, 35, 36])) := by decide +kernel
theorem SH_31 : SH[31]? = some (.inr (0, 24, [])) := by decide +kernel
theorem SH_32 : SH[32]? = some (.inr (0, 60, [])) := by decide +kernel
theorem SH_33 : SH[33]? = some (.inr (0, 60, [])) := by decide +kernel
theorem SH_34 : SH[34]? = some (.inr (0, 60, [])) := by decide +kernel
theorem SH_35 : SH[35]? = some (.inr (0, 24, [])) := by decide +kernel
theorem SH_36 : SH[36]? = some (.inl (0, [0, 0, 38, 39, 40, 41, 42])) := by decide +kernel
theorem SH_37 : SH[37]? = some (.inr (0, 24, [])) := by decide +kernel
theorem SH_38 : SH[38]? = some (.inr (0, 60, [])) := by decide +kernel
theorem SH_39 : SH[39]? = some (.inr (0, 60, [])) := by decide +kernel
theorem SH_40 : SH[40]? = some (.inr (0, 60, [])) := by decide +kernel
theorem SH_41 : SH[41]? = some (.inr (0, 24, [])) := by decide +kernel
theorem SH_42 : SH[42]? = some (.inl (0, [0, 0, 44, 45, 46, 47, 48])) := by decide +kernel
theorem SH_43 : SH[43]? = some (.inr (0, 24, [])) := by decide +kernel
theorem SH_44 : SH[44]? = some (.inr (0, 60, [])) := by decide +kernel
theorem SH_45 : SH[45]? = some (.inr (0, 60, [])) := by decide +kernel
theorem SH_46 : SH[46]? = some (.inr (0, 60, [])) := by decide +kernel
theorem SH_47 : SH[47]? = some (.inr (0, 24, [])) := by decide +kernel
theorem SH_48 : SH[48]? = some (.inl (0, [0, 0, 50, 51, 52, 53, 54])) := by decide +kernel
theorem SH_49 : SH[49]? = some (.inr (0, 24, [])) := by decide +kernel
theorem SH_50 : SH[50]? = some (.inr (0, 60, [])) := by decide +kernel
theorem SH_51 : SH[51]? = some (.inr (0, 60, [])) := by decide +kernel
theorem SH_52 : SH[52]? = some (.inr (0, 60, [])) := by decide +kernel
theorem SH_53 : SH[53]? = some (.inr (0, 24, [])) := by decide +kernel
theorem SH_54 : SH[54]? = some (.inl (0, [0, 0, 56, 57, 58, 59, 60])) := by decide +kernel
theorem SH_55 : SH[55]? = some (.inr (0, 24, [])) := by decide +kernel
theorem SH_56 : SH[56]? = some (.inr (0, 60, [])) := by decide +kernel
theorem SH_57 : SH[57]? = some (.inr (0, 60, [])) := by decide +kernel
theorem SH_58 : SH[58]? = some (.inr (0, 60, [])) := by decide +kernel
theorem SH_59 : SH[59]? = some (.inr (0, 24, [])) := by decide +kernel
theorem SH_60 : SH[60]? = some (.inl (0, [0, 0, 62, 63, 64, 65, 66])) := by decide +kernel
theorem SH_61 : SH[61]? = some (.inr (0, 24, [])) := by decide +kernel
theorem SH_62 : SH[62]? = some (.inr (0, 60, [])) := by decide +kernel
theorem SH_63 : SH[63]? = some (.inr (0, 60, [])) := by decide +kernel
theorem SH_64 : SH[64]? = some (.inr (0, 60, [])) := by decide +kernel
theorem SH_65 : SH[65]? = some (.inr (0, 24, [])) := by decide +kernel
theorem SH_66 : SH[66]? = some (.inl (0, [0, 0, 68, 69, 70, 71, 72])) := by decide +kernel
theorem SH_67 : SH[67]? = some (.inr (0, 24, [])) := by decide +kernel
theorem SH_68 : SH[68]? = some (.inr (0, 60, [])) := by decide +kernel
theorem SH_69 : SH[69]? = some (.inr (0, 60, [])) := by decide +kernel
theorem SH_70 : SH[70]? = some (.inr (0, 60, [])) := by decide +kernel
theorem SH_71 : SH[71]? = some (.inr (0, 24, [])) := by decide +kernel
theorem SH_72 : SH[72]? = some (.inl (0, [0, 0, 74, 75, 76, 77, 78])) := by decide +kernel
theorem SH_73 : SH[73]? = some (.inr (0, 24, [])) := by decide +kernel
theorem SH_74 : SH[74]? = some (.inr (0, 60, [])) := by decide +kernel
theorem SH_75 : SH[75]? = some (.inr (0, 60, [])) := by decide +kernel
theorem SH_76 : SH[76]? = some (.inr (0, 60, [])) := by decide +kernel
theorem SH_77 : SH[77]? = some (.inr (0, 24, [])) := by decide +kernel
theorem SH_78 : SH[78]? = some (.inl (0, [0, 0, 80, 81, 82, 83, 84])) := by decide +kernel
theorem SH_79 : SH[79]? = some (.inr (0, 24, [])) := by decide +kernel
theorem SH_80 : SH[80]? = some (.inr (0, 60, [])) := by decide +kernel
theorem SH_81 : SH[81]? = some (.inr (0, 60, [])) := by decide +kernel
theorem SH_82 : SH[82]? = some (.inr (0, 60, [])) := by decide +kernel
theorem SH_83 : SH[83]? = some (.inr (0, 24, [])) := by decide +kernel
theorem SH_84 : SH[84]? = some (.inl (0, [0, 0, 86, 87, 88, 89, 90])) := by decide +kernel
theorem SH_85 : SH[85]? = some (.inr (0, 24, [])) := by decide +kernel
theorem SH_86 : SH[86]? = some (.inr (0, 60, [])) := by decide +kernel
theorem SH_87 : SH[87]? = some (.inr (0, 60, [])) := by decide +kernel
theorem SH_88 : SH[88]? = some (.inr (0, 60, [])) := by decide +kernel
theorem SH_89 : SH[89]? = some (.inr (0, 24, [])) := by decide +kernel
theorem SH_90 : SH[90]? = some (.inl (0, [0, 0, 92, 93, 94, 95, 96])) := by decide +kernel
theorem SH_91 : SH[91]? = some (.inr (0, 24, [])) := by decide +kernel
theorem SH_92 : SH[92]? = some (.inr (0, 60, [])) := by decide +kernel
theorem SH_93 : SH[93]? = some (.inr (0, 60, [])) := by decide +kernel
theorem SH_94 : SH[94]? = some (.inr (0, 60, [])) := by decide +kernel
theorem SH_95 : SH[95]? = some (.inr (0, 24, [])) := by decide +kernel
theorem SH_96 : SH[96]? = some (.inl (0, [0, 0, 98, 99, 100, 101, 102])) := by decide +kernel
theorem SH_97 : SH[97]? = some (.inr (0, 24, [])) := by decide +kernel
theorem SH_98 : SH[98]? = some (.inr (0, 60, [])) := by decide +kernel
theorem SH_99 : SH[99]? = some (.inr (0, 60, [])) := by decide +kernel
theorem SH_100 : SH[100]? = some (.inr (0, 60, [])) := by decide +kernel
theorem SH_101 : SH[101]? = some (.inr (0, 24, [])) := by decide +kernel
theorem SH_102 : SH[102]? = some (.inl (0, [0, 0, 104, 105, 106, 107, 108])) := by decide +kernel
theorem SH_103 : SH[103]? = some (.inr (0, 24, [])) := by decide +kernel
theorem SH_104 : SH[104]? = some (.inr (0, 60, [])) := by decide +kernel
theorem SH_105 : SH[105]? = some (.inr (0, 60, [])) := by decide +kernel
theorem SH_106 : SH[106]? = some (.inr (0, 60, [])) := by decide +kernel
theorem SH_107 : SH[107]? = some (.inr (0, 24, [])) := by decide +kernel
theorem SH_108 : SH[108]? = some (.inl (0, [0, 0, 110, 111, 112, 113, 114])) := by decide +kernel
theorem SH_109 : SH[109]? = some (.inr (0, 24, [])) := by decide +kernel
theorem SH_110 : SH[110]? = some (.inr (0, 60, [])) := by decide +kernel
theorem SH_111 : SH[111]? = some (.inr (0, 60, [])) := by decide +kernel
theorem SH_112 : SH[112]? = some (.inr (0, 60, [])) := by decide +kernel
theorem SH_113 : SH[113]? = some (.inr (0, 24, [])) := by decide +kernel
theorem SH_114 : SH[114]? = some (.inl (0, [0, 0, 116, 117, 118, 119, 120])) := by decide +kernel
theorem SH_115 : SH[115]? = some (.inr (0, 24, [])) := by decide +kernel
theorem SH_116 : SH[116]? = some (.inr (0, 60, [])) := by decide +kernel
theorem SH_117 : SH[117]? = some (.inr (0, 60, [])) := by decide +kernel
theorem SH_118 : SH[118]? = some (.inr (0, 60, [])) := by decide +kernel
theorem SH_119 : SH[119]? = some (.inr (0, 24, [])) := by decide +kernel
theorem SH_120 : SH[120]? = some (.inl (0, [0, 0, 122, 123, 124, 125, 126])) := by decide +kernel
theorem SH_121 : SH[121]? = some (.inr (0, 24, [])) := by decide +kernel
theorem SH_122 : SH[122]? = some (.inr (0, 60, [])) := by decide +kernel
theorem SH_123 : SH[123]? = some (.inr (0, 60, [])) := by decide +kernel
theorem SH_124 : SH[124]? = some (.inr (0, 60, [])) := by decide +kernel
theorem SH_125 : SH[125]? = some (.inr (0, 24, [])) := by decide +kernel
theorem SH_126 : SH[126]? = some (.inl (0, [0, 0, 128, 129, 130, 131, 132])) := by decide +kernel
theorem SH_127 : SH[127]? = some (.inr (0, 24, [])) := by decide +kernel
theorem SH_128 : SH[128]? = some (.inr (0, 60, [])) := by decide +kernel
theorem SH_129 : SH[129]? = some (.inr (0, 60, [])) := by decide +kernel
theorem SH_130 : SH[130]? = some (.inr (0, 60, [])) := by decide +kernel
theorem SH_131 : SH[131]? = some (.inr (0, 24, [])) := by decide +kernel
theorem SH_132 : SH[132]? = some (.inl (0, [0, 0, 134, 135, 136, 137, 138])) := by decide +kernel
theorem SH_133 : SH[133]? = some (.inr (0, 24, [])) := by decide +kernel
theorem SH_134 : SH[134]? = some (.inr (0, 60, [])) := by decide +kernel
theorem SH_135 : SH[135]? = some (.inr (0, 60, [])) := by decide +kernel
theorem SH_136 : SH[136]? = some (.inr (0, 60, [])) := by decide +kernel
theorem SH_137 : SH[137]? = some (.inr (0, 24, [])) := by decide +kernel
theorem SH_138 : SH[138]? = some (.inl (2, [0, 0, 0, 140, 141, 166, 0, 191])) := by decide +kernel
theorem SH_139 : SH[139]? = some (.inr (0, 24, [])) := by decide +kernel
theorem SH_140 : SH[140]? = some (.inr (3, 24, [142, 143, 144, 145, 146, 147, 148, 149, 150, 151, 152, 153, 154, 155, 156, 157, 158, 159, 160, 161, 162, 163, 164, 165])) := by decide +kernel
theorem SH_141 : SH[141]? = some (.inr (0, 24, [])) := by decide +kernel
theorem SH_142 : SH[142]? = some (.inr (0, 24, [])) := by decide +kernel
theorem SH_143 : SH[143]? = some (.inr (0, 24, [])) := by decide +kernel
theorem SH_144 : SH[144]? = some (.inr (0, 24, [])) := by decide +kernel
theorem SH_145 : SH[145]? = some (.inr (0, 24, [])) := by decide +kernel
theorem SH_146 : SH[146]? = some (.inr (0, 24, [])) := by decide +kernel
theorem SH_147 : SH[147]? = some (.inr (0, 24, [])) := by decide +kernel
theorem SH_148 : SH[148]? = some (.inr (0, 24, [])) := by decide +kernel
theorem SH_149 : SH[149]? = some (.inr (0, 24, [])) := by decide +kernel
theorem SH_150 : SH[150]? = some (.inr (0, 24, [])) := by decide +kernel
theorem SH_151 : SH[151]? = some (.inr (0, 24, [])) := by decide +kernel
theorem SH_152 : SH[152]? = some (.inr (0, 24, [])) := by decide +kernel
theorem SH_153 : SH[153]? = some (.inr (0, 24, [])) := by decide +kernel
theorem SH_154 : SH[154]? = some (.inr (0, 24, [])) := by decide +kernel
theorem SH_155 : SH[155]? = some (.inr (0, 24, [])) := by decide +kernel
theorem SH_156 : SH[156]? = some (.inr (0, 24, [])) := by decide +kernel
theorem SH_157 : SH[157]? = some (.inr (0, 24, [])) := by decide +kernel
theorem SH_158 : SH[158]? = some (.inr (0, 24, [])) := by decide +kernel
theorem SH_159 : SH[159]? = some (.inr (0, 24, [])) := by decide +kernel
theorem SH_160 : SH[160]? = some (.inr (0, 24, [])) := by decide +kernel
theorem SH_161 : SH[161]? = some (.inr (0, 24, [])) := by decide +kernel
theorem SH_162 : SH[162]? = some (.inr (0, 24, [])) := by decide +kernel
theorem SH_163 : SH[163]? = some (.inr (0, 24, [])) := by decide +kernel
theorem SH_164 : SH[164]? = some (.inr (0, 24, [])) := by decide +kernel
theorem SH_165 : SH[165]? = some (.inr (3, 24, [167, 168, 169, 170, 171, 172, 173, 174, 175, 176, 177, 178, 179, 180, 181, 182, 183, 184, 185, 186, 187, 188, 189, 190])) := by decide +kernel
theorem SH_166 : SH[166]? = some (.inr (0, 24, [])) := by decide +kernel
theorem SH_167 : SH[167]? = some (.inr (0, 24, [])) := by decide +kernel
theorem SH_168 : SH[168]? = some (.inr (0, 24, [])) := by decide +kernel
theorem SH_169 : SH[169]? = some (.inr (0, 24, [])) := by decide +kernel
theorem SH_170 : SH[170]? = some (.inr (0, 24, [])) := by decide +kernel
theorem SH_171 : SH[171]? = some (.inr (0, 24, [])) := by decide +kernel
theorem SH_172 : SH[172]? = some (.inr (0, 24, [])) := by decide +kernel
theorem SH_173 : SH[173]? = some (.inr (0, 24, [])) := by decide +kernel
theorem SH_174 : SH[174]? = some (.inr (0, 24, [])) := by decide +kernel
theorem SH_175 : SH[175]? = some (.inr (0, 24, [])) := by decide +kernel
theorem SH_176 : SH[176]? = some (.inr (0, 24, [])) := by decide +kernel
theorem SH_177 : SH[177]? = some (.inr (0, 24, [])) := by decide +kernel
theorem SH_178 : SH[178]? = some (.inr (0, 24, [])) := by decide +kernel
theorem SH_179 : SH[179]? = some (.inr (0, 24, [])) := by decide +kernel
theorem SH_180 : SH[180]? = some (.inr (0, 24, [])) := by decide +kernel
theorem SH_181 : SH[181]? = some (.inr (0, 24, [])) := by decide +kernel
theorem SH_182 : SH[182]? = some (.inr (0, 24, [])) := by decide +kernel
theorem SH_183 : SH[183]? = some (.inr (0, 24, [])) := by decide +kernel
theorem SH_184 : SH[184]? = some (.inr (0, 24, [])) := by decide +kernel
theorem SH_185 : SH[185]? = some (.inr (0, 24, [])) := by decide +kernel
theorem SH_186 : SH[186]? = some (.inr (0, 24, [])) := by decide +kernel
theorem SH_187 : SH[187]? = some (.inr (0, 24, [])) := by decide +kernel
theorem SH_188 : SH[188]? = some (.inr (0, 24, [])) := by decide +kernel
theorem SH_189 : SH[189]? = some (.inr (0, 24, [])) := by decide +kernel
theorem SH_190 : SH[190]? = some (.inr (1, 24, [])) := by decide +kernel
theorem SH_191 : SH[191]? = some (.inl (1, [0, 0, 193, 194, 195, 196, 197])) := by decide +kernel
theorem SH_192 : SH[192]? = some (.inr (0, 60, [])) := by decide +kernel
theorem SH_193 : SH[193]? = some (.inr (0, 60, [])) := by decide +kernel
theorem SH_194 : SH[194]? = some (.inr (0, 60, [])) := by decide +kernel
theorem SH_195 : SH[195]? = some (.inr (0, 24, [])) := by decide +kernel
theorem SH_196 : SH[196]? = some (.inr (0, 60, [])) := by decide +kernel
theorem SH_197 : SH[197]? = some (.inl (8, [0, 0, 0, 0, 0, 0, 0, 199, 200])) := by decide +kernel
theorem SH_198 : SH[198]? = some (.inr (0, 24, [])) := by decide +kernel
theorem SH_199 : SH[199]? = some (.inr (0, 60, [])) := by decide +kernel
theorem SH_200 : SH[200]? = some (.inl (6, [202, 203, 0])) := by decide +kernel
theorem SH_201 : SH[201]? = some (.inr (0, 24, [])) := by decide +kernel
theorem SH_202 : SH[202]? = some (.inr (0, 24, [])) := by decide +kernel
theorem SH_203 : SH[203]? = some (.inl (7, [0, 0, 205])) := by decide +kernel
theorem SH_204 : SH[204]? = some (.inr (0, 60, [])) := by decide +kernel
theorem SH_205 : SH[205]? = some (.inl (4, [207, 0, 208])) := by decide +kernel
theorem SH_206 : SH[206]? = some (.inr (0, 123, [])) := by decide +kernel
theorem SH_207 : SH[207]? = some (.inl (0, [0, 0, 209, 210, 211, 212, 213])) := by decide +kernel
theorem SH_208 : SH[208]? = some (.inr (0, 24, [])) := by decide +kernel
theorem SH_209 : SH[209]? = some (.inr (0, 60, [])) := by decide +kernel
theorem SH_210 : SH[210]? = some (.inr (0, 60, [])) := by decide +kernel
theorem SH_211 : SH[211]? = some (.inr (0, 60, [])) := by decide +kernel
theorem SH_212 : SH[212]? = some (.inr (0, 24, [])) := by decide +kernel
theorem SH_213 : SH[213]? = some (.inr (0, 15, [])) := by decide +kernel
theorem SH_214 : SH[214]? = some (.inr (0, 12, [])) := by decide +kernel
theorem SH_215 : SH[215]? = some (.inr (0, 12, [])) := by decide +kernel
theorem SH_216 : SH[216]? = some (.inr (0, 25, [])) := by decide +kernel
theorem SH_217 : SH[217]? = some (.inr (0, 6, [])) := by decide +kernel
theorem SH_218 : SH[218]? = some (.inl (11, [220, 0, 0, 0, 0, 0, 0, 0, 0, 221, 0, 222, 223, 224, 0, 0, 225, 226, 0, 0, 227, 228, 229, 230, 231, 232, 233, 234, 235, 236, 0, 237, 238, 0, 239, 240, 0, 0, 241, 242, 243, 0, 244, 0])) := by decide +kernel
theorem SH_219 : SH[219]? = some (.inr (0, 800, [])) := by decide +kernel
theorem SH_220 : SH[220]? = some (.inr (0, 6, [])) := by decide +kernel
theorem SH_221 : SH[221]? = some (.inr (0, 206, [])) := by decide +kernel
theorem SH_222 : SH[222]? = some (.inr (0, 206, [])) := by decide +kernel
theorem SH_223 : SH[223]? = some (.inr (0, 206, [])) := by decide +kernel
theorem SH_224 : SH[224]? = some (.inr (0, 576, [])) := by decide +kernel
theorem SH_225 : SH[225]? = some (.inr (0, 60, [])) := by decide +kernel
theorem SH_226 : SH[226]? = some (.inr (0, 2, [])) := by decide +kernel
theorem SH_227 : SH[227]? = some (.inr (0, 60, [])) := by decide +kernel
theorem SH_228 : SH[228]? = some (.inr (0, 24, [])) := by decide +kernel
theorem SH_229 : SH[229]? = some (.inr (0, 60, [])) := by decide +kernel
theorem SH_230 : SH[230]? = some (.inr (1, 24, [])) := by decide +kernel
theorem SH_231 : SH[231]? = some (.inr (0, 24, [])) := by decide +kernel
theorem SH_232 : SH[232]? = some (.inr (0, 25, [])) := by decide +kernel
theorem SH_233 : SH[233]? = some (.inr (0, 25, [])) := by decide +kernel
theorem SH_234 : SH[234]? = some (.inr (2, 65536, [])) := by decide +kernel
theorem SH_235 : SH[235]? = some (.inr (0, 16, [])) := by decide +kernel
theorem SH_236 : SH[236]? = some (.inr (0, 15, [])) := by decide +kernel
theorem SH_237 : SH[237]? = some (.inr (0, 576, [])) := by decide +kernel
theorem SH_238 : SH[238]? = some (.inr (0, 24, [])) := by decide +kernel
theorem SH_239 : SH[239]? = some (.inr (0, 4120, [])) := by decide +kernel
theorem SH_240 : SH[240]? = some (.inr (0, 24, [])) := by decide +kernel
theorem SH_241 : SH[241]? = some (.inr (0, 24, [])) := by decide +kernel
theorem SH_242 : SH[242]? = some (.inr (0, 24, [])) := by decide +kernel
theorem SH_243 : SH[243]? = some (.inr (0, 123, [])) := by decide +kernel
def isG (g : Nat) : Prop := g ∈ [4, 10, 18, 24, 30, 36, 42, 48, 54, 60, 66, 72, 78, 84, 90, 96, 102, 108, 114, 120, 126, 132, 207]
theorem isG_all {p : Nat → Prop} (h : ∀ g ∈ [4, 10, 18, 24, 30, 36, 42, 48, 54, 60, 66, 72, 78, 84, 90, 96, 102, 108, 114, 120, 126, 132, 207], p g) {g : Nat} (hg : isG g) : p g := h g hg
theorem isG_o {g : Nat} (hg : isG g) : SH[g]? = some (.inl (0, [0, 0, g + 2, g + 3, g + 4, g + 5, g + 6])) := isG_all (p := fun g => SH[g]? = some (.inl (0, [0, 0, g + 2, g + 3, g + 4, g + 5, g + 6]))) (by decide +kernel) hg
theorem isG_1 {g : Nat} (hg : isG g) : SH[g + 1]? = some (.inr (0, 24, [])) := isG_all (p := fun g => SH[g + 1]? = some (.inr (0, 24, []))) (by decide +kernel) hg
theorem isG_2 {g : Nat} (hg : isG g) : SH[g + 2]? = some (.inr (0, 60, [])) := isG_all (p := fun g => SH[g + 2]? = some (.inr (0, 60, []))) (by decide +kernel) hg
theorem isG_3 {g : Nat} (hg : isG g) : SH[g + 3]? = some (.inr (0, 60, [])) := isG_all (p := fun g => SH[g + 3]? = some (.inr (0, 60, []))) (by decide +kernel) hg
theorem isG_4 {g : Nat} (hg : isG g) : SH[g + 4]? = some (.inr (0, 60, [])) := isG_all (p := fun g => SH[g + 4]? = some (.inr (0, 60, []))) (by decide +kernel) hg
theorem isG_5 {g : Nat} (hg : isG g) : SH[g + 5]? = some (.inr (0, 24, [])) := isG_all (p := fun g => SH[g + 5]? = some (.inr (0, 24, []))) (by decide +kernel) hg
theorem isG_at4 : isG 4 := by unfold isG; decide
theorem isG_at10 : isG 10 := by unfold isG; decide
theorem isG_at18 : isG 18 := by unfold isG; decide
theorem isG_at24 : isG 24 := by unfold isG; decide
theorem isG_at30 : isG 30 := by unfold isG; decide
theorem isG_at36 : isG 36 := by unfold isG; decide
theorem isG_at42 : isG 42 := by unfold isG; decide
theorem isG_at48 : isG 48 := by unfold isG; decide
theorem isG_at54 : isG 54 := by unfold isG; decide
theorem isG_at60 : isG 60 := by unfold isG; decide
theorem isG_at66 : isG 66 := by unfold isG; decide
theorem isG_at72 : isG 72 := by unfold isG; decide
theorem isG_at78 : isG 78 := by unfold isG; decide
theorem isG_at84 : isG 84 := by unfold isG; decide
theorem isG_at90 : isG 90 := by unfold isG; decide
theorem isG_at96 : isG 96 := by unfold isG; decide
theorem isG_at102 : isG 102 := by unfold isG; decide
theorem isG_at108 : isG 108 := by unfold isG; decide
theorem isG_at114 : isG 114 := by unfold isG; decide
theorem isG_at120 : isG 120 := by unfold isG; decide
theorem isG_at126 : isG 126 := by unfold isG; decide
theorem isG_at132 : isG 132 := by unfold isG; decide
theorem isG_at207 : isG 207 := by unfold isG; decide
theorem row_141 {i : Int} (h : 0 ≤ i ∧ i < 24) : SH[141 + i.toNat]? = some (.inr (0, 24, [])) := (by decide +kernel : ∀ k ∈ List.range 24, SH[141 + k]? = some (.inr (0, 24, []) : Sh)) i.toNat (List.mem_range.mpr (by omega))
theorem rowq_141 {i : Int} (h : 0 ≤ i ∧ i < 24) : ([142, 143, 144, 145, 146, 147, 148, 149, 150, 151, 152, 153, 154, 155, 156, 157, 158, 159, 160, 161, 162, 163, 164, 165] : List Nat).getD i.toNat 0 = (141 + i.toNat) + 1 := (by decide +kernel : ∀ k, k < 24 → ([142, 143, 144, 145, 146, 147, 148, 149, 150, 151, 152, 153, 154, 155, 156, 157, 158, 159, 160, 161, 162, 163, 164, 165] : List Nat).getD k 0 = (141 + k) + 1) i.toNat (by omega)
theorem row_166 {i : Int} (h : 0 ≤ i ∧ i < 24) : SH[166 + i.toNat]? = some (.inr (0, 24, [])) := (by decide +kernel : ∀ k ∈ List.range 24, SH[166 + k]? = some (.inr (0, 24, []) : Sh)) i.toNat (List.mem_range.mpr (by omega))
theorem rowq_166 {i : Int} (h : 0 ≤ i ∧ i < 24) : ([167, 168, 169, 170, 171, 172, 173, 174, 175, 176, 177, 178, 179, 180, 181, 182, 183, 184, 185, 186, 187, 188, 189, 190] : List Nat).getD i.toNat 0 = (166 + i.toNat) + 1 := (by decide +kernel : ∀ k, k < 24 → ([167, 168, 169, 170, 171, 172, 173, 174, 175, 176, 177, 178, 179, 180, 181, 182, 183, 184, 185, 186, 187, 188, 189, 190] : List Nat).getD k 0 = (166 + k) + 1) i.toNat (by omega)
theorem ring_g {i : Int} (h : 0 ≤ i ∧ i < 20) : isG (18 + 6 * i.toNat) := (by unfold isG; decide +kernel : ∀ k, k < 20 → isG (18 + 6 * k)) i.toNat (by omega)
theorem ring_q {i : Int} (h : 0 ≤ i ∧ i < 20) : ([19, 25, 31, 37, 43, 49, 55, 61, 67, 73, 79, 85, 91, 97, 103, 109, 115, 121, 127, 133] : List Nat).getD i.toNat 0 = (18 + 6 * i.toNat) + 1 := (by decide +kernel : ∀ k, k < 20 → ([19, 25, 31, 37, 43, 49, 55, 61, 67, 73, 79, 85, 91, 97, 103, 109, 115, 121, 127, 133] : List Nat).getD k 0 = (18 + 6 * k) + 1) i.toNat (by omega)
theorem cok0 : n_clsOk 0 := ⟨rfl, rfl, wsAll_sub (ws := u_ws RX0 TX0 7) [222, 224, 226, 228, 230, 232, 234] (by decide +kernel) (by decide +kernel), tyX0_ok, nmX0⟩
theorem cok1 : n_clsOk 1 := ⟨rfl, rfl, wsAll_sub (ws := u_ws RX1 TX1 7) [349, 351, 353, 355, 357, 359, 361] (by decide +kernel) (by decide +kernel), tyX1_ok, nmX1⟩
theorem cok2 : n_clsOk 2 := ⟨rfl, rfl, wsAll_sub (ws := u_ws RX2 TX2 8) [309, 311, 313, 315, 317, 319, 321, 323] (by decide +kernel) (by decide +kernel), tyX2_ok, nmX2⟩
theorem cok3 : n_clsOk 3 := ⟨rfl, rfl, wsAll_sub (ws := u_ws RX3 TX3 3) [281, 283, 285] (by decide +kernel) (by decide +kernel), tyX3_ok, nmX3⟩
theorem cok4 : n_clsOk 4 := ⟨rfl, rfl, wsAll_sub (ws := u_ws RX4 TX4 3) [458, 460, 462] (by decide +kernel) (by decide +kernel), tyX4_ok, nmX4⟩
theorem cok5 : n_clsOk 5 := ⟨rfl, rfl, wsAll_sub (ws := u_ws RX5 TX5 8) [249, 251, 253, 255, 257, 259, 261, 263] (by decide +kernel) (by decide +kernel), tyX5_ok, nmX5⟩
theorem cok6 : n_clsOk 6 := ⟨rfl, rfl, wsAll_sub (ws := u_ws RX6 TX6 3) [419, 421, 423] (by decide +kernel) (by decide +kernel), tyX6_ok, nmX6⟩
theorem cok7 : n_clsOk 7 := ⟨rfl, rfl, wsAll_sub (ws := u_ws RX7 TX7 3) [437, 439, 441] (by decide +kernel) (by decide +kernel), tyX7_ok, nmX7⟩
theorem cok8 : n_clsOk 8 := ⟨rfl, rfl, wsAll_sub (ws := u_ws RX8 TX8 9) [388, 390, 392, 394, 396, 398, 400, 402, 404] (by decide +kernel) (by decide +kernel), tyX8_ok, nmX8⟩
theorem cok9 : n_clsOk 9 := ⟨rfl, rfl, wsAll_sub (ws := u_ws RX9 TX9 2) [168, 170] (by decide +kernel) (by decide +kernel), tyX9_ok, nmX9⟩
theorem cok10 : n_clsOk 10 := ⟨rfl, rfl, wsAll_sub (ws := u_ws RX10 TX10 18) [483, 485, 487, 489, 491, 493, 495, 497, 499, 501, 503, 505, 507, 509, 511, 513, 515, 517] (by decide +kernel) (by decide +kernel), tyX10_ok, nmX10⟩
theorem cok11 : n_clsOk 11 := ⟨rfl, rfl, wsAll_sub (ws := u_ws RX11 TX11 44) [1307, 1309, 1311, 1313, 1315, 1317, 1319, 1321, 1323, 1325, 1327, 1329, 1331, 1333, 1335, 1337, 1339, 1341, 1343, 1345, 1347, 1349, 1351, 1353, 1355, 1357, 1359, 1361, 1363, 1365, 1367, 1369, 1371, 1373, 1375, 1377, 1379, 1381, 1383, 1385, 1387, 1389, 1391, 1393] (by decide +kernel) (by decide +kernel), tyX11_ok, nmX11⟩
theorem fX10_10 : n_F RX10 10 10 0 := ⟨cok10, by decide, wsAll_place 465 (by decide +kernel) (by decide +kernel), rfl⟩
theorem fX10_19 : n_F RX10 19 10 1 := ⟨cok10, by decide, wsAll_place 466 (by decide +kernel) (by decide +kernel), rfl⟩
theorem fX10_26 : n_F RX10 26 10 2 := ⟨cok10, by decide, wsAll_place 467 (by decide +kernel) (by decide +kernel), rfl⟩
theorem fX10_33 : n_F RX10 33 10 3 := ⟨cok10, by decide, wsAll_place 468 (by decide +kernel) (by decide +kernel), rfl⟩
theorem fX10_40 : n_F RX10 40 10 4 := ⟨cok10, by decide, wsAll_place 469 (by decide +kernel) (by decide +kernel), rfl⟩
theorem fX10_47 : n_F RX10 47 10 5 := ⟨cok10, by decide, wsAll_place 470 (by decide +kernel) (by decide +kernel), rfl⟩
theorem fX10_54 : n_F RX10 54 10 6 := ⟨cok10, by decide, wsAll_place 471 (by decide +kernel) (by decide +kernel), rfl⟩
theorem fX10_61 : n_F RX10 61 10 7 := ⟨cok10, by decide, wsAll_place 472 (by decide +kernel) (by decide +kernel), rfl⟩
theorem fX10_68 : n_F RX10 68 10 8 := ⟨cok10, by decide, wsAll_place 473 (by decide +kernel) (by decide +kernel), rfl⟩
theorem fX10_75 : n_F RX10 75 10 9 := ⟨cok10, by decide, wsAll_place 474 (by decide +kernel) (by decide +kernel), rfl⟩
theorem fX10_79 : n_F RX10 79 10 10 := ⟨cok10, by decide, wsAll_place 475 (by decide +kernel) (by decide +kernel), rfl⟩
theorem fX10_83 : n_F RX10 83 10 11 := ⟨cok10, by decide, wsAll_place 476 (by decide +kernel) (by decide +kernel), rfl⟩
theorem fX10_86 : n_F RX10 86 10 12 := ⟨cok10, by decide, wsAll_place 477 (by decide +kernel) (by decide +kernel), rfl⟩
theorem fX10_89 : n_F RX10 89 10 13 := ⟨cok10, by decide, wsAll_place 478 (by decide +kernel) (by decide +kernel), rfl⟩
theorem fX10_92 : n_F RX10 92 10 14 := ⟨cok10, by decide, wsAll_place 479 (by decide +kernel) (by decide +kernel), rfl⟩
theorem fX10_95 : n_F RX10 95 10 15 := ⟨cok10, by decide, wsAll_place 480 (by decide +kernel) (by decide +kernel), rfl⟩
theorem fX10_99 : n_F RX10 99 10 16 := ⟨cok10, by decide, wsAll_place 481 (by decide +kernel) (by decide +kernel), rfl⟩
theorem fX10_102 : n_F RX10 102 10 17 := ⟨cok10, by decide, wsAll_place 482 (by decide +kernel) (by decide +kernel), rfl⟩
theorem fX10_105 : n_F RX10 105 9 1 := ⟨cok9, by decide, wsAll_place 165 (by decide +kernel) (by decide +kernel), rfl⟩
theorem fX10_124 : n_F RX10 124 5 1 := ⟨cok5, by decide, wsAll_place 240 (by decide +kernel) (by decide +kernel), rfl⟩
theorem fX10_127 : n_F RX10 127 5 0 := ⟨cok5, by decide, wsAll_place 238 (by decide +kernel) (by decide +kernel), rfl⟩
theorem fX10_140 : n_F RX10 140 5 3 := ⟨cok5, by decide, wsAll_place 244 (by decide +kernel) (by decide +kernel), rfl⟩
theorem fX10_143 : n_F RX10 143 5 2 := ⟨cok5, by decide, wsAll_place 242 (by decide +kernel) (by decide +kernel), rfl⟩
theorem fX10_146 : n_F RX10 146 0 0 := ⟨cok0, by decide, wsAll_place 192 (by decide +kernel) (by decide +kernel), rfl⟩
theorem fX10_149 : n_F RX10 149 0 1 := ⟨cok0, by decide, wsAll_place 198 (by decide +kernel) (by decide +kernel), rfl⟩
theorem fX10_156 : n_F RX10 156 1 1 := ⟨cok1, by decide, wsAll_place 337 (by decide +kernel) (by decide +kernel), rfl⟩
theorem fX10_159 : n_F RX10 159 3 0 := ⟨cok3, by decide, wsAll_place 278 (by decide +kernel) (by decide +kernel), rfl⟩
theorem fX10_164 : n_F RX10 164 8 2 := ⟨cok8, by decide, wsAll_place 375 (by decide +kernel) (by decide +kernel), rfl⟩
theorem fX10_174 : n_F RX10 174 0 2 := ⟨cok0, by decide, wsAll_place 202 (by decide +kernel) (by decide +kernel), rfl⟩
theorem fX10_191 : n_F RX10 191 0 3 := ⟨cok0, by decide, wsAll_place 209 (by decide +kernel) (by decide +kernel), rfl⟩
theorem fX10_194 : n_F RX10 194 0 4 := ⟨cok0, by decide, wsAll_place 216 (by decide +kernel) (by decide +kernel), rfl⟩
theorem fX10_197 : n_F RX10 197 1 2 := ⟨cok1, by decide, wsAll_place 340 (by decide +kernel) (by decide +kernel), rfl⟩
theorem fX10_200 : n_F RX10 200 0 5 := ⟨cok0, by decide, wsAll_place 220 (by decide +kernel) (by decide +kernel), rfl⟩
theorem fX10_207 : n_F RX10 207 2 3 := ⟨cok2, by decide, wsAll_place 302 (by decide +kernel) (by decide +kernel), rfl⟩
theorem fX10_219 : n_F RX10 219 2 4 := ⟨cok2, by decide, wsAll_place 305 (by decide +kernel) (by decide +kernel), rfl⟩
theorem fX10_236 : n_F RX10 236 6 0 := ⟨cok6, by decide, wsAll_place 414 (by decide +kernel) (by decide +kernel), rfl⟩
theorem fX10_243 : n_F RX10 243 6 2 := ⟨cok6, by decide, wsAll_place 418 (by decide +kernel) (by decide +kernel), rfl⟩
theorem fX10_244 : n_F RX10 244 6 1 := ⟨cok6, by decide, wsAll_place 416 (by decide +kernel) (by decide +kernel), rfl⟩
theorem fX10_258 : n_F RX10 258 1 3 := ⟨cok1, by decide, wsAll_place 342 (by decide +kernel) (by decide +kernel), rfl⟩
theorem fX10_261 : n_F RX10 261 1 4 := ⟨cok1, by decide, wsAll_place 345 (by decide +kernel) (by decide +kernel), rfl⟩
theorem fX10_270 : n_F RX10 270 8 8 := ⟨cok8, by decide, wsAll_place 387 (by decide +kernel) (by decide +kernel), rfl⟩
theorem fX10_273 : n_F RX10 273 8 3 := ⟨cok8, by decide, wsAll_place 377 (by decide +kernel) (by decide +kernel), rfl⟩
theorem fX10_276 : n_F RX10 276 8 4 := ⟨cok8, by decide, wsAll_place 379 (by decide +kernel) (by decide +kernel), rfl⟩
theorem fX10_279 : n_F RX10 279 8 1 := ⟨cok8, by decide, wsAll_place 373 (by decide +kernel) (by decide +kernel), rfl⟩
theorem fX10_283 : n_F RX10 283 8 7 := ⟨cok8, by decide, wsAll_place 385 (by decide +kernel) (by decide +kernel), rfl⟩
theorem fX10_305 : n_F RX10 305 7 0 := ⟨cok7, by decide, wsAll_place 433 (by decide +kernel) (by decide +kernel), rfl⟩
theorem fX10_308 : n_F RX10 308 7 1 := ⟨cok7, by decide, wsAll_place 435 (by decide +kernel) (by decide +kernel), rfl⟩
theorem fX10_311 : n_F RX10 311 8 6 := ⟨cok8, by decide, wsAll_place 383 (by decide +kernel) (by decide +kernel), rfl⟩
theorem fX10_323 : n_F RX10 323 9 0 := ⟨cok9, by decide, wsAll_place 163 (by decide +kernel) (by decide +kernel), rfl⟩
theorem fX10_326 : n_F RX10 326 2 1 := ⟨cok2, by decide, wsAll_place 299 (by decide +kernel) (by decide +kernel), rfl⟩
theorem fX10_404 : n_F RX10 404 4 1 := ⟨cok4, by decide, wsAll_place 455 (by decide +kernel) (by decide +kernel), rfl⟩
theorem fX10_405 : n_F RX10 405 4 0 := ⟨cok4, by decide, wsAll_place 453 (by decide +kernel) (by decide +kernel), rfl⟩
theorem fX10_410 : n_F RX10 410 4 2 := ⟨cok4, by decide, wsAll_place 457 (by decide +kernel) (by decide +kernel), rfl⟩
theorem fX10_411 : n_F RX10 411 2 0 := ⟨cok2, by decide, wsAll_place 297 (by decide +kernel) (by decide +kernel), rfl⟩
theorem fX10_414 : n_F RX10 414 1 0 := ⟨cok1, by decide, wsAll_place 334 (by decide +kernel) (by decide +kernel), rfl⟩
theorem fX10_415 : n_F RX10 415 8 0 := ⟨cok8, by decide, wsAll_place 371 (by decide +kernel) (by decide +kernel), rfl⟩
theorem fX10_439 : n_F RX10 439 1 5 := ⟨cok1, by decide, wsAll_place 347 (by decide +kernel) (by decide +kernel), rfl⟩
theorem fX0_9 : n_F RX0 9 0 0 := ⟨cok0, by decide, wsAll_place 186 (by decide +kernel) (by decide +kernel), rfl⟩
theorem fX0_15 : n_F RX0 15 0 1 := ⟨cok0, by decide, wsAll_place 193 (by decide +kernel) (by decide +kernel), rfl⟩
theorem fX0_18 : n_F RX0 18 0 2 := ⟨cok0, by decide, wsAll_place 201 (by decide +kernel) (by decide +kernel), rfl⟩
theorem fX0_22 : n_F RX0 22 0 3 := ⟨cok0, by decide, wsAll_place 203 (by decide +kernel) (by decide +kernel), rfl⟩
theorem fX0_25 : n_F RX0 25 0 4 := ⟨cok0, by decide, wsAll_place 210 (by decide +kernel) (by decide +kernel), rfl⟩
theorem fX0_28 : n_F RX0 28 0 5 := ⟨cok0, by decide, wsAll_place 217 (by decide +kernel) (by decide +kernel), rfl⟩
theorem fX0_31 : n_F RX0 31 0 6 := ⟨cok0, by decide, wsAll_place 221 (by decide +kernel) (by decide +kernel), rfl⟩
theorem fX1_9 : n_F RX1 9 1 0 := ⟨cok1, by decide, wsAll_place 333 (by decide +kernel) (by decide +kernel), rfl⟩
theorem fX1_15 : n_F RX1 15 1 1 := ⟨cok1, by decide, wsAll_place 335 (by decide +kernel) (by decide +kernel), rfl⟩
theorem fX1_19 : n_F RX1 19 1 2 := ⟨cok1, by decide, wsAll_place 338 (by decide +kernel) (by decide +kernel), rfl⟩
theorem fX1_23 : n_F RX1 23 1 3 := ⟨cok1, by decide, wsAll_place 341 (by decide +kernel) (by decide +kernel), rfl⟩
theorem fX1_26 : n_F RX1 26 1 4 := ⟨cok1, by decide, wsAll_place 343 (by decide +kernel) (by decide +kernel), rfl⟩
theorem fX1_29 : n_F RX1 29 1 5 := ⟨cok1, by decide, wsAll_place 346 (by decide +kernel) (by decide +kernel), rfl⟩
theorem fX1_32 : n_F RX1 32 1 6 := ⟨cok1, by decide, wsAll_place 348 (by decide +kernel) (by decide +kernel), rfl⟩
theorem fX1_35 : n_F RX1 35 0 1 := ⟨cok0, by decide, wsAll_place 194 (by decide +kernel) (by decide +kernel), rfl⟩
theorem fX1_50 : n_F RX1 50 0 5 := ⟨cok0, by decide, wsAll_place 219 (by decide +kernel) (by decide +kernel), rfl⟩
theorem fX1_53 : n_F RX1 53 0 0 := ⟨cok0, by decide, wsAll_place 191 (by decide +kernel) (by decide +kernel), rfl⟩
theorem fX1_56 : n_F RX1 56 0 3 := ⟨cok0, by decide, wsAll_place 208 (by decide +kernel) (by decide +kernel), rfl⟩
theorem fX1_59 : n_F RX1 59 0 4 := ⟨cok0, by decide, wsAll_place 215 (by decide +kernel) (by decide +kernel), rfl⟩
theorem fX2_9 : n_F RX2 9 2 0 := ⟨cok2, by decide, wsAll_place 296 (by decide +kernel) (by decide +kernel), rfl⟩
theorem fX2_15 : n_F RX2 15 2 1 := ⟨cok2, by decide, wsAll_place 298 (by decide +kernel) (by decide +kernel), rfl⟩
theorem fX2_18 : n_F RX2 18 2 2 := ⟨cok2, by decide, wsAll_place 300 (by decide +kernel) (by decide +kernel), rfl⟩
theorem fX2_22 : n_F RX2 22 2 3 := ⟨cok2, by decide, wsAll_place 301 (by decide +kernel) (by decide +kernel), rfl⟩
theorem fX2_28 : n_F RX2 28 2 4 := ⟨cok2, by decide, wsAll_place 303 (by decide +kernel) (by decide +kernel), rfl⟩
theorem fX2_31 : n_F RX2 31 2 5 := ⟨cok2, by decide, wsAll_place 306 (by decide +kernel) (by decide +kernel), rfl⟩
theorem fX2_34 : n_F RX2 34 2 6 := ⟨cok2, by decide, wsAll_place 307 (by decide +kernel) (by decide +kernel), rfl⟩
theorem fX2_37 : n_F RX2 37 2 7 := ⟨cok2, by decide, wsAll_place 308 (by decide +kernel) (by decide +kernel), rfl⟩
theorem fX2_41 : n_F RX2 41 0 0 := ⟨cok0, by decide, wsAll_place 187 (by decide +kernel) (by decide +kernel), rfl⟩
theorem fX2_44 : n_F RX2 44 0 1 := ⟨cok0, by decide, wsAll_place 196 (by decide +kernel) (by decide +kernel), rfl⟩
theorem fX2_47 : n_F RX2 47 0 3 := ⟨cok0, by decide, wsAll_place 205 (by decide +kernel) (by decide +kernel), rfl⟩
theorem fX2_50 : n_F RX2 50 0 4 := ⟨cok0, by decide, wsAll_place 212 (by decide +kernel) (by decide +kernel), rfl⟩
theorem fX3_9 : n_F RX3 9 3 0 := ⟨cok3, by decide, wsAll_place 277 (by decide +kernel) (by decide +kernel), rfl⟩
theorem fX3_15 : n_F RX3 15 3 1 := ⟨cok3, by decide, wsAll_place 279 (by decide +kernel) (by decide +kernel), rfl⟩
theorem fX3_20 : n_F RX3 20 3 2 := ⟨cok3, by decide, wsAll_place 280 (by decide +kernel) (by decide +kernel), rfl⟩
theorem fX4_9 : n_F RX4 9 4 0 := ⟨cok4, by decide, wsAll_place 452 (by decide +kernel) (by decide +kernel), rfl⟩
theorem fX4_15 : n_F RX4 15 4 1 := ⟨cok4, by decide, wsAll_place 454 (by decide +kernel) (by decide +kernel), rfl⟩
theorem fX4_22 : n_F RX4 22 4 2 := ⟨cok4, by decide, wsAll_place 456 (by decide +kernel) (by decide +kernel), rfl⟩
theorem fX4_26 : n_F RX4 26 0 0 := ⟨cok0, by decide, wsAll_place 190 (by decide +kernel) (by decide +kernel), rfl⟩
theorem fX4_33 : n_F RX4 33 0 1 := ⟨cok0, by decide, wsAll_place 195 (by decide +kernel) (by decide +kernel), rfl⟩
theorem fX4_36 : n_F RX4 36 0 3 := ⟨cok0, by decide, wsAll_place 204 (by decide +kernel) (by decide +kernel), rfl⟩
theorem fX4_39 : n_F RX4 39 0 4 := ⟨cok0, by decide, wsAll_place 211 (by decide +kernel) (by decide +kernel), rfl⟩
theorem fX4_52 : n_F RX4 52 9 1 := ⟨cok9, by decide, wsAll_place 167 (by decide +kernel) (by decide +kernel), rfl⟩
theorem fX4_53 : n_F RX4 53 9 0 := ⟨cok9, by decide, wsAll_place 162 (by decide +kernel) (by decide +kernel), rfl⟩
theorem fX5_12 : n_F RX5 12 5 0 := ⟨cok5, by decide, wsAll_place 237 (by decide +kernel) (by decide +kernel), rfl⟩
theorem fX5_18 : n_F RX5 18 5 1 := ⟨cok5, by decide, wsAll_place 239 (by decide +kernel) (by decide +kernel), rfl⟩
theorem fX5_22 : n_F RX5 22 5 2 := ⟨cok5, by decide, wsAll_place 241 (by decide +kernel) (by decide +kernel), rfl⟩
theorem fX5_25 : n_F RX5 25 5 3 := ⟨cok5, by decide, wsAll_place 243 (by decide +kernel) (by decide +kernel), rfl⟩
theorem fX5_28 : n_F RX5 28 5 4 := ⟨cok5, by decide, wsAll_place 245 (by decide +kernel) (by decide +kernel), rfl⟩
theorem fX5_31 : n_F RX5 31 5 5 := ⟨cok5, by decide, wsAll_place 246 (by decide +kernel) (by decide +kernel), rfl⟩
theorem fX5_34 : n_F RX5 34 5 6 := ⟨cok5, by decide, wsAll_place 247 (by decide +kernel) (by decide +kernel), rfl⟩
theorem fX5_37 : n_F RX5 37 5 7 := ⟨cok5, by decide, wsAll_place 248 (by decide +kernel) (by decide +kernel), rfl⟩
theorem fX5_51 : n_F RX5 51 9 1 := ⟨cok9, by decide, wsAll_place 166 (by decide +kernel) (by decide +kernel), rfl⟩
theorem fX5_110 : n_F RX5 110 0 1 := ⟨cok0, by decide, wsAll_place 200 (by decide +kernel) (by decide +kernel), rfl⟩
theorem fX6_9 : n_F RX6 9 6 0 := ⟨cok6, by decide, wsAll_place 413 (by decide +kernel) (by decide +kernel), rfl⟩
theorem fX6_15 : n_F RX6 15 6 1 := ⟨cok6, by decide, wsAll_place 415 (by decide +kernel) (by decide +kernel), rfl⟩
theorem fX6_18 : n_F RX6 18 6 2 := ⟨cok6, by decide, wsAll_place 417 (by decide +kernel) (by decide +kernel), rfl⟩
theorem fX6_22 : n_F RX6 22 0 0 := ⟨cok0, by decide, wsAll_place 189 (by decide +kernel) (by decide +kernel), rfl⟩
theorem fX6_28 : n_F RX6 28 0 1 := ⟨cok0, by decide, wsAll_place 197 (by decide +kernel) (by decide +kernel), rfl⟩
theorem fX6_31 : n_F RX6 31 0 3 := ⟨cok0, by decide, wsAll_place 206 (by decide +kernel) (by decide +kernel), rfl⟩
theorem fX6_34 : n_F RX6 34 0 4 := ⟨cok0, by decide, wsAll_place 213 (by decide +kernel) (by decide +kernel), rfl⟩
theorem fX6_37 : n_F RX6 37 0 5 := ⟨cok0, by decide, wsAll_place 218 (by decide +kernel) (by decide +kernel), rfl⟩
theorem fX7_9 : n_F RX7 9 7 0 := ⟨cok7, by decide, wsAll_place 432 (by decide +kernel) (by decide +kernel), rfl⟩
theorem fX7_15 : n_F RX7 15 7 1 := ⟨cok7, by decide, wsAll_place 434 (by decide +kernel) (by decide +kernel), rfl⟩
theorem fX7_18 : n_F RX7 18 7 2 := ⟨cok7, by decide, wsAll_place 436 (by decide +kernel) (by decide +kernel), rfl⟩
theorem fX7_22 : n_F RX7 22 8 6 := ⟨cok8, by decide, wsAll_place 382 (by decide +kernel) (by decide +kernel), rfl⟩
theorem fX8_9 : n_F RX8 9 8 0 := ⟨cok8, by decide, wsAll_place 370 (by decide +kernel) (by decide +kernel), rfl⟩
theorem fX8_15 : n_F RX8 15 8 1 := ⟨cok8, by decide, wsAll_place 372 (by decide +kernel) (by decide +kernel), rfl⟩
theorem fX8_18 : n_F RX8 18 8 2 := ⟨cok8, by decide, wsAll_place 374 (by decide +kernel) (by decide +kernel), rfl⟩
theorem fX8_22 : n_F RX8 22 8 3 := ⟨cok8, by decide, wsAll_place 376 (by decide +kernel) (by decide +kernel), rfl⟩
theorem fX8_25 : n_F RX8 25 8 4 := ⟨cok8, by decide, wsAll_place 378 (by decide +kernel) (by decide +kernel), rfl⟩
theorem fX8_28 : n_F RX8 28 8 5 := ⟨cok8, by decide, wsAll_place 380 (by decide +kernel) (by decide +kernel), rfl⟩
theorem fX8_31 : n_F RX8 31 8 6 := ⟨cok8, by decide, wsAll_place 381 (by decide +kernel) (by decide +kernel), rfl⟩
theorem fX8_34 : n_F RX8 34 8 7 := ⟨cok8, by decide, wsAll_place 384 (by decide +kernel) (by decide +kernel), rfl⟩
theorem fX8_38 : n_F RX8 38 8 8 := ⟨cok8, by decide, wsAll_place 386 (by decide +kernel) (by decide +kernel), rfl⟩
theorem fX8_41 : n_F RX8 41 0 0 := ⟨cok0, by decide, wsAll_place 188 (by decide +kernel) (by decide +kernel), rfl⟩
theorem fX8_48 : n_F RX8 48 1 1 := ⟨cok1, by decide, wsAll_place 336 (by decide +kernel) (by decide +kernel), rfl⟩
theorem fX8_53 : n_F RX8 53 2 4 := ⟨cok2, by decide, wsAll_place 304 (by decide +kernel) (by decide +kernel), rfl⟩
theorem fX8_59 : n_F RX8 59 0 3 := ⟨cok0, by decide, wsAll_place 207 (by decide +kernel) (by decide +kernel), rfl⟩
theorem fX8_62 : n_F RX8 62 1 4 := ⟨cok1, by decide, wsAll_place 344 (by decide +kernel) (by decide +kernel), rfl⟩
theorem fX8_65 : n_F RX8 65 0 4 := ⟨cok0, by decide, wsAll_place 214 (by decide +kernel) (by decide +kernel), rfl⟩
theorem fX8_87 : n_F RX8 87 0 1 := ⟨cok0, by decide, wsAll_place 199 (by decide +kernel) (by decide +kernel), rfl⟩
theorem fX8_90 : n_F RX8 90 1 2 := ⟨cok1, by decide, wsAll_place 339 (by decide +kernel) (by decide +kernel), rfl⟩
theorem fX9_9 : n_F RX9 9 9 0 := ⟨cok9, by decide, wsAll_place 161 (by decide +kernel) (by decide +kernel), rfl⟩
theorem fX9_15 : n_F RX9 15 9 1 := ⟨cok9, by decide, wsAll_place 164 (by decide +kernel) (by decide +kernel), rfl⟩
theorem fX11_7 : n_F RX11 7 11 0 := ⟨cok11, by decide, wsAll_place 1263 (by decide +kernel) (by decide +kernel), rfl⟩
theorem fX11_13 : n_F RX11 13 11 8 := ⟨cok11, by decide, wsAll_place 1271 (by decide +kernel) (by decide +kernel), rfl⟩
theorem fX11_17 : n_F RX11 17 11 9 := ⟨cok11, by decide, wsAll_place 1272 (by decide +kernel) (by decide +kernel), rfl⟩
theorem fX11_20 : n_F RX11 20 11 11 := ⟨cok11, by decide, wsAll_place 1274 (by decide +kernel) (by decide +kernel), rfl⟩
theorem fX11_23 : n_F RX11 23 11 12 := ⟨cok11, by decide, wsAll_place 1275 (by decide +kernel) (by decide +kernel), rfl⟩
theorem fX11_26 : n_F RX11 26 11 13 := ⟨cok11, by decide, wsAll_place 1276 (by decide +kernel) (by decide +kernel), rfl⟩
theorem fX11_29 : n_F RX11 29 11 16 := ⟨cok11, by decide, wsAll_place 1279 (by decide +kernel) (by decide +kernel), rfl⟩
theorem fX11_32 : n_F RX11 32 11 17 := ⟨cok11, by decide, wsAll_place 1280 (by decide +kernel) (by decide +kernel), rfl⟩
theorem fX11_35 : n_F RX11 35 11 20 := ⟨cok11, by decide, wsAll_place 1283 (by decide +kernel) (by decide +kernel), rfl⟩
theorem fX11_38 : n_F RX11 38 11 21 := ⟨cok11, by decide, wsAll_place 1284 (by decide +kernel) (by decide +kernel), rfl⟩
theorem fX11_41 : n_F RX11 41 11 22 := ⟨cok11, by decide, wsAll_place 1285 (by decide +kernel) (by decide +kernel), rfl⟩
theorem fX11_44 : n_F RX11 44 11 23 := ⟨cok11, by decide, wsAll_place 1286 (by decide +kernel) (by decide +kernel), rfl⟩
theorem fX11_47 : n_F RX11 47 11 24 := ⟨cok11, by decide, wsAll_place 1287 (by decide +kernel) (by decide +kernel), rfl⟩
theorem fX11_51 : n_F RX11 51 11 25 := ⟨cok11, by decide, wsAll_place 1288 (by decide +kernel) (by decide +kernel), rfl⟩
theorem fX11_54 : n_F RX11 54 11 26 := ⟨cok11, by decide, wsAll_place 1289 (by decide +kernel) (by decide +kernel), rfl⟩
theorem fX11_57 : n_F RX11 57 11 27 := ⟨cok11, by decide, wsAll_place 1290 (by decide +kernel) (by decide +kernel), rfl⟩
theorem fX11_61 : n_F RX11 61 11 28 := ⟨cok11, by decide, wsAll_place 1291 (by decide +kernel) (by decide +kernel), rfl⟩
theorem fX11_65 : n_F RX11 65 11 29 := ⟨cok11, by decide, wsAll_place 1292 (by decide +kernel) (by decide +kernel), rfl⟩
theorem fX11_68 : n_F RX11 68 11 31 := ⟨cok11, by decide, wsAll_place 1294 (by decide +kernel) (by decide +kernel), rfl⟩
theorem fX11_71 : n_F RX11 71 11 32 := ⟨cok11, by decide, wsAll_place 1295 (by decide +kernel) (by decide +kernel), rfl⟩
theorem fX11_74 : n_F RX11 74 11 34 := ⟨cok11, by decide, wsAll_place 1297 (by decide +kernel) (by decide +kernel), rfl⟩
theorem fX11_77 : n_F RX11 77 11 35 := ⟨cok11, by decide, wsAll_place 1298 (by decide +kernel) (by decide +kernel), rfl⟩
theorem fX11_80 : n_F RX11 80 11 38 := ⟨cok11, by decide, wsAll_place 1301 (by decide +kernel) (by decide +kernel), rfl⟩
theorem fX11_83 : n_F RX11 83 11 39 := ⟨cok11, by decide, wsAll_place 1302 (by decide +kernel) (by decide +kernel), rfl⟩
theorem fX11_86 : n_F RX11 86 11 40 := ⟨cok11, by decide, wsAll_place 1303 (by decide +kernel) (by decide +kernel), rfl⟩
theorem fX11_89 : n_F RX11 89 11 41 := ⟨cok11, by decide, wsAll_place 1304 (by decide +kernel) (by decide +kernel), rfl⟩
theorem fX11_93 : n_F RX11 93 11 42 := ⟨cok11, by decide, wsAll_place 1305 (by decide +kernel) (by decide +kernel), rfl⟩
theorem fX11_96 : n_F RX11 96 11 1 := ⟨cok11, by decide, wsAll_place 1264 (by decide +kernel) (by decide +kernel), rfl⟩
theorem fX11_113 : n_F RX11 113 11 7 := ⟨cok11, by decide, wsAll_place 1270 (by decide +kernel) (by decide +kernel), rfl⟩
theorem fX11_116 : n_F RX11 116 11 5 := ⟨cok11, by decide, wsAll_place 1268 (by decide +kernel) (by decide +kernel), rfl⟩
theorem fX11_119 : n_F RX11 119 11 6 := ⟨cok11, by decide, wsAll_place 1269 (by decide +kernel) (by decide +kernel), rfl⟩
theorem fX11_122 : n_F RX11 122 11 2 := ⟨cok11, by decide, wsAll_place 1265 (by decide +kernel) (by decide +kernel), rfl⟩
theorem fX11_125 : n_F RX11 125 11 3 := ⟨cok11, by decide, wsAll_place 1266 (by decide +kernel) (by decide +kernel), rfl⟩
theorem fX11_142 : n_F RX11 142 11 4 := ⟨cok11, by decide, wsAll_place 1267 (by decide +kernel) (by decide +kernel), rfl⟩
theorem fX11_155 : n_F RX11 155 11 10 := ⟨cok11, by decide, wsAll_place 1273 (by decide +kernel) (by decide +kernel), rfl⟩
theorem fX11_180 : n_F RX11 180 11 14 := ⟨cok11, by decide, wsAll_place 1277 (by decide +kernel) (by decide +kernel), rfl⟩
theorem fX11_195 : n_F RX11 195 11 15 := ⟨cok11, by decide, wsAll_place 1278 (by decide +kernel) (by decide +kernel), rfl⟩
theorem fX11_199 : n_F RX11 199 11 36 := ⟨cok11, by decide, wsAll_place 1299 (by decide +kernel) (by decide +kernel), rfl⟩
theorem fX11_202 : n_F RX11 202 11 30 := ⟨cok11, by decide, wsAll_place 1293 (by decide +kernel) (by decide +kernel), rfl⟩
theorem fX11_205 : n_F RX11 205 11 33 := ⟨cok11, by decide, wsAll_place 1296 (by decide +kernel) (by decide +kernel), rfl⟩
theorem fX11_222 : n_F RX11 222 11 18 := ⟨cok11, by decide, wsAll_place 1281 (by decide +kernel) (by decide +kernel), rfl⟩
theorem fX11_225 : n_F RX11 225 11 19 := ⟨cok11, by decide, wsAll_place 1282 (by decide +kernel) (by decide +kernel), rfl⟩
theorem fX11_373 : n_F RX11 373 11 37 := ⟨cok11, by decide, wsAll_place 1300 (by decide +kernel) (by decide +kernel), rfl⟩
theorem fX11_437 : n_F RX11 437 11 43 := ⟨cok11, by decide, wsAll_place 1306 (by decide +kernel) (by decide +kernel), rfl⟩
