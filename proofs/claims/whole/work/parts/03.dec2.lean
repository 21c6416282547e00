theorem dX11_init_0 : decode cX11_init 0 = .ok (.aload_n 0, 1) := by decide +kernel
theorem dX11_init_1 : decode cX11_init 1 = .ok (.invokespecial 1, 3) := by decide +kernel
theorem dX11_init_4 : decode cX11_init 4 = .ok (.aload_n 0, 1) := by decide +kernel
theorem dX11_init_5 : decode cX11_init 5 = .ok (.sipush 800, 3) := by decide +kernel
theorem dX11_init_8 : decode cX11_init 8 = .ok (.newarray .int, 2) := by decide +kernel
theorem dX11_init_10 : decode cX11_init 10 = .ok (.putfield 7, 3) := by decide +kernel
theorem dX11_init_13 : decode cX11_init 13 = .ok (.aload_n 0, 1) := by decide +kernel
theorem dX11_init_14 : decode cX11_init 14 = .ok (.iconst (-1), 1) := by decide +kernel
theorem dX11_init_15 : decode cX11_init 15 = .ok (.putfield 13, 3) := by decide +kernel
theorem dX11_init_18 : decode cX11_init 18 = .ok (.aload_n 0, 1) := by decide +kernel
theorem dX11_init_19 : decode cX11_init 19 = .ok (.bipush 6, 2) := by decide +kernel
theorem dX11_init_21 : decode cX11_init 21 = .ok (.newarray .int, 2) := by decide +kernel
theorem dX11_init_23 : decode cX11_init 23 = .ok (.putfield 17, 3) := by decide +kernel
theorem dX11_init_26 : decode cX11_init 26 = .ok (.aload_n 0, 1) := by decide +kernel
theorem dX11_init_27 : decode cX11_init 27 = .ok (.sipush 206, 3) := by decide +kernel
theorem dX11_init_30 : decode cX11_init 30 = .ok (.newarray .int, 2) := by decide +kernel
theorem dX11_init_32 : decode cX11_init 32 = .ok (.putfield 20, 3) := by decide +kernel
theorem dX11_init_35 : decode cX11_init 35 = .ok (.aload_n 0, 1) := by decide +kernel
theorem dX11_init_36 : decode cX11_init 36 = .ok (.sipush 206, 3) := by decide +kernel
theorem dX11_init_39 : decode cX11_init 39 = .ok (.newarray .int, 2) := by decide +kernel
theorem dX11_init_41 : decode cX11_init 41 = .ok (.putfield 23, 3) := by decide +kernel
theorem dX11_init_44 : decode cX11_init 44 = .ok (.aload_n 0, 1) := by decide +kernel
theorem dX11_init_45 : decode cX11_init 45 = .ok (.sipush 206, 3) := by decide +kernel
theorem dX11_init_48 : decode cX11_init 48 = .ok (.newarray .int, 2) := by decide +kernel
theorem dX11_init_50 : decode cX11_init 50 = .ok (.putfield 26, 3) := by decide +kernel
theorem dX11_init_53 : decode cX11_init 53 = .ok (.aload_n 0, 1) := by decide +kernel
theorem dX11_init_54 : decode cX11_init 54 = .ok (.sipush 576, 3) := by decide +kernel
theorem dX11_init_57 : decode cX11_init 57 = .ok (.newarray .int, 2) := by decide +kernel
theorem dX11_init_59 : decode cX11_init 59 = .ok (.putfield 29, 3) := by decide +kernel
theorem dX11_init_62 : decode cX11_init 62 = .ok (.aload_n 0, 1) := by decide +kernel
theorem dX11_init_63 : decode cX11_init 63 = .ok (.bipush 60, 2) := by decide +kernel
theorem dX11_init_65 : decode cX11_init 65 = .ok (.newarray .int, 2) := by decide +kernel
theorem dX11_init_67 : decode cX11_init 67 = .ok (.putfield 32, 3) := by decide +kernel
theorem dX11_init_70 : decode cX11_init 70 = .ok (.aload_n 0, 1) := by decide +kernel
theorem dX11_init_71 : decode cX11_init 71 = .ok (.iconst 2, 1) := by decide +kernel
theorem dX11_init_72 : decode cX11_init 72 = .ok (.newarray .int, 2) := by decide +kernel
theorem dX11_init_74 : decode cX11_init 74 = .ok (.putfield 35, 3) := by decide +kernel
theorem dX11_init_77 : decode cX11_init 77 = .ok (.aload_n 0, 1) := by decide +kernel
theorem dX11_init_78 : decode cX11_init 78 = .ok (.bipush 60, 2) := by decide +kernel
theorem dX11_init_80 : decode cX11_init 80 = .ok (.newarray .int, 2) := by decide +kernel
theorem dX11_init_82 : decode cX11_init 82 = .ok (.putfield 38, 3) := by decide +kernel
theorem dX11_init_85 : decode cX11_init 85 = .ok (.aload_n 0, 1) := by decide +kernel
theorem dX11_init_86 : decode cX11_init 86 = .ok (.bipush 24, 2) := by decide +kernel
theorem dX11_init_88 : decode cX11_init 88 = .ok (.newarray .int, 2) := by decide +kernel
theorem dX11_init_90 : decode cX11_init 90 = .ok (.putfield 41, 3) := by decide +kernel
theorem dX11_init_93 : decode cX11_init 93 = .ok (.aload_n 0, 1) := by decide +kernel
theorem dX11_init_94 : decode cX11_init 94 = .ok (.bipush 60, 2) := by decide +kernel
theorem dX11_init_96 : decode cX11_init 96 = .ok (.newarray .int, 2) := by decide +kernel
theorem dX11_init_98 : decode cX11_init 98 = .ok (.putfield 44, 3) := by decide +kernel
theorem dX11_init_101 : decode cX11_init 101 = .ok (.aload_n 0, 1) := by decide +kernel
theorem dX11_init_102 : decode cX11_init 102 = .ok (.bipush 24, 2) := by decide +kernel
theorem dX11_init_104 : decode cX11_init 104 = .ok (.newarray .long, 2) := by decide +kernel
theorem dX11_init_106 : decode cX11_init 106 = .ok (.putfield 47, 3) := by decide +kernel
theorem dX11_init_109 : decode cX11_init 109 = .ok (.aload_n 0, 1) := by decide +kernel
theorem dX11_init_110 : decode cX11_init 110 = .ok (.bipush 24, 2) := by decide +kernel
theorem dX11_init_112 : decode cX11_init 112 = .ok (.newarray .int, 2) := by decide +kernel
theorem dX11_init_114 : decode cX11_init 114 = .ok (.putfield 51, 3) := by decide +kernel
theorem dX11_init_117 : decode cX11_init 117 = .ok (.aload_n 0, 1) := by decide +kernel
theorem dX11_init_118 : decode cX11_init 118 = .ok (.bipush 25, 2) := by decide +kernel
theorem dX11_init_120 : decode cX11_init 120 = .ok (.newarray .int, 2) := by decide +kernel
theorem dX11_init_122 : decode cX11_init 122 = .ok (.putfield 54, 3) := by decide +kernel
theorem dX11_init_125 : decode cX11_init 125 = .ok (.aload_n 0, 1) := by decide +kernel
theorem dX11_init_126 : decode cX11_init 126 = .ok (.bipush 25, 2) := by decide +kernel
theorem dX11_init_128 : decode cX11_init 128 = .ok (.newarray .int, 2) := by decide +kernel
theorem dX11_init_130 : decode cX11_init 130 = .ok (.putfield 57, 3) := by decide +kernel
theorem dX11_init_133 : decode cX11_init 133 = .ok (.aload_n 0, 1) := by decide +kernel
theorem dX11_init_134 : decode cX11_init 134 = .ok (.ldc 60, 2) := by decide +kernel
theorem dX11_init_136 : decode cX11_init 136 = .ok (.newarray .byte, 2) := by decide +kernel
theorem dX11_init_138 : decode cX11_init 138 = .ok (.putfield 61, 3) := by decide +kernel
theorem dX11_init_141 : decode cX11_init 141 = .ok (.aload_n 0, 1) := by decide +kernel
theorem dX11_init_142 : decode cX11_init 142 = .ok (.bipush 16, 2) := by decide +kernel
theorem dX11_init_144 : decode cX11_init 144 = .ok (.newarray .int, 2) := by decide +kernel
theorem dX11_init_146 : decode cX11_init 146 = .ok (.putfield 65, 3) := by decide +kernel
theorem dX11_init_149 : decode cX11_init 149 = .ok (.aload_n 0, 1) := by decide +kernel
theorem dX11_init_150 : decode cX11_init 150 = .ok (.bipush 15, 2) := by decide +kernel
theorem dX11_init_152 : decode cX11_init 152 = .ok (.newarray .int, 2) := by decide +kernel
theorem dX11_init_154 : decode cX11_init 154 = .ok (.putfield 68, 3) := by decide +kernel
theorem dX11_init_157 : decode cX11_init 157 = .ok (.aload_n 0, 1) := by decide +kernel
theorem dX11_init_158 : decode cX11_init 158 = .ok (.sipush 576, 3) := by decide +kernel
theorem dX11_init_161 : decode cX11_init 161 = .ok (.newarray .int, 2) := by decide +kernel
theorem dX11_init_163 : decode cX11_init 163 = .ok (.putfield 71, 3) := by decide +kernel
theorem dX11_init_166 : decode cX11_init 166 = .ok (.aload_n 0, 1) := by decide +kernel
theorem dX11_init_167 : decode cX11_init 167 = .ok (.bipush 24, 2) := by decide +kernel
theorem dX11_init_169 : decode cX11_init 169 = .ok (.newarray .int, 2) := by decide +kernel
theorem dX11_init_171 : decode cX11_init 171 = .ok (.putfield 74, 3) := by decide +kernel
theorem dX11_init_174 : decode cX11_init 174 = .ok (.aload_n 0, 1) := by decide +kernel
theorem dX11_init_175 : decode cX11_init 175 = .ok (.sipush 4120, 3) := by decide +kernel
theorem dX11_init_178 : decode cX11_init 178 = .ok (.newarray .int, 2) := by decide +kernel
theorem dX11_init_180 : decode cX11_init 180 = .ok (.putfield 77, 3) := by decide +kernel
theorem dX11_init_183 : decode cX11_init 183 = .ok (.aload_n 0, 1) := by decide +kernel
theorem dX11_init_184 : decode cX11_init 184 = .ok (.bipush 24, 2) := by decide +kernel
theorem dX11_init_186 : decode cX11_init 186 = .ok (.newarray .int, 2) := by decide +kernel
theorem dX11_init_188 : decode cX11_init 188 = .ok (.putfield 80, 3) := by decide +kernel
theorem dX11_init_191 : decode cX11_init 191 = .ok (.aload_n 0, 1) := by decide +kernel
theorem dX11_init_192 : decode cX11_init 192 = .ok (.bipush 24, 2) := by decide +kernel
theorem dX11_init_194 : decode cX11_init 194 = .ok (.newarray .int, 2) := by decide +kernel
theorem dX11_init_196 : decode cX11_init 196 = .ok (.putfield 83, 3) := by decide +kernel
theorem dX11_init_199 : decode cX11_init 199 = .ok (.aload_n 0, 1) := by decide +kernel
theorem dX11_init_200 : decode cX11_init 200 = .ok (.bipush 24, 2) := by decide +kernel
theorem dX11_init_202 : decode cX11_init 202 = .ok (.newarray .int, 2) := by decide +kernel
theorem dX11_init_204 : decode cX11_init 204 = .ok (.putfield 86, 3) := by decide +kernel
theorem dX11_init_207 : decode cX11_init 207 = .ok (.aload_n 0, 1) := by decide +kernel
theorem dX11_init_208 : decode cX11_init 208 = .ok (.lconst 1, 1) := by decide +kernel
theorem dX11_init_209 : decode cX11_init 209 = .ok (.putfield 89, 3) := by decide +kernel
theorem dX11_init_212 : decode cX11_init 212 = .ok (.aload_n 0, 1) := by decide +kernel
theorem dX11_init_213 : decode cX11_init 213 = .ok (.bipush 123, 2) := by decide +kernel
theorem dX11_init_215 : decode cX11_init 215 = .ok (.newarray .int, 2) := by decide +kernel
theorem dX11_init_217 : decode cX11_init 217 = .ok (.putfield 93, 3) := by decide +kernel
theorem dX11_init_220 : decode cX11_init 220 = .ok (.return_, 1) := by decide +kernel
theorem dX11_isIn_0 : decode cX11_isIn 0 = .ok (.lload_n 0, 1) := by decide +kernel
theorem dX11_isIn_1 : decode cX11_isIn 1 = .ok (.lload_n 2, 1) := by decide +kernel
theorem dX11_isIn_2 : decode cX11_isIn 2 = .ok (.lcmp, 1) := by decide +kernel
theorem dX11_isIn_3 : decode cX11_isIn 3 = .ok (.ifCond .lt 14, 3) := by decide +kernel
theorem dX11_isIn_6 : decode cX11_isIn 6 = .ok (.lload_n 0, 1) := by decide +kernel
theorem dX11_isIn_7 : decode cX11_isIn 7 = .ok (.lload 4, 2) := by decide +kernel
theorem dX11_isIn_9 : decode cX11_isIn 9 = .ok (.lcmp, 1) := by decide +kernel
theorem dX11_isIn_10 : decode cX11_isIn 10 = .ok (.ifCond .gt 7, 3) := by decide +kernel
theorem dX11_isIn_13 : decode cX11_isIn 13 = .ok (.iconst 1, 1) := by decide +kernel
theorem dX11_isIn_14 : decode cX11_isIn 14 = .ok (.goto 4, 3) := by decide +kernel
theorem dX11_isIn_17 : decode cX11_isIn 17 = .ok (.iconst 0, 1) := by decide +kernel
theorem dX11_isIn_18 : decode cX11_isIn 18 = .ok (.ireturn, 1) := by decide +kernel
theorem dX11_flag_0 : decode cX11_flag 0 = .ok (.iload_n 0, 1) := by decide +kernel
theorem dX11_flag_1 : decode cX11_flag 1 = .ok (.ifCond .eq 7, 3) := by decide +kernel
theorem dX11_flag_4 : decode cX11_flag 4 = .ok (.iconst 1, 1) := by decide +kernel
theorem dX11_flag_5 : decode cX11_flag 5 = .ok (.goto 4, 3) := by decide +kernel
theorem dX11_flag_8 : decode cX11_flag 8 = .ok (.iconst 0, 1) := by decide +kernel
theorem dX11_flag_9 : decode cX11_flag 9 = .ok (.ireturn, 1) := by decide +kernel
theorem dX11_isOf_0 : decode cX11_isOf 0 = .ok (.iload_n 0, 1) := by decide +kernel
theorem dX11_isOf_1 : decode cX11_isOf 1 = .ok (.iload_n 1, 1) := by decide +kernel
theorem dX11_isOf_2 : decode cX11_isOf 2 = .ok (.ishr, 1) := by decide +kernel
theorem dX11_isOf_3 : decode cX11_isOf 3 = .ok (.iconst 1, 1) := by decide +kernel
theorem dX11_isOf_4 : decode cX11_isOf 4 = .ok (.iand, 1) := by decide +kernel
theorem dX11_isOf_5 : decode cX11_isOf 5 = .ok (.iconst 1, 1) := by decide +kernel
theorem dX11_isOf_6 : decode cX11_isOf 6 = .ok (.if_icmp .ne 7, 3) := by decide +kernel
theorem dX11_isOf_9 : decode cX11_isOf 9 = .ok (.iconst 1, 1) := by decide +kernel
theorem dX11_isOf_10 : decode cX11_isOf 10 = .ok (.goto 4, 3) := by decide +kernel
theorem dX11_isOf_13 : decode cX11_isOf 13 = .ok (.iconst 0, 1) := by decide +kernel
theorem dX11_isOf_14 : decode cX11_isOf 14 = .ok (.ireturn, 1) := by decide +kernel
theorem dX11_count_0 : decode cX11_count 0 = .ok (.iconst 0, 1) := by decide +kernel
theorem dX11_count_1 : decode cX11_count 1 = .ok (.istore_n 1, 1) := by decide +kernel
theorem dX11_count_2 : decode cX11_count 2 = .ok (.iconst 0, 1) := by decide +kernel
theorem dX11_count_3 : decode cX11_count 3 = .ok (.istore_n 2, 1) := by decide +kernel
theorem dX11_count_4 : decode cX11_count 4 = .ok (.iload_n 2, 1) := by decide +kernel
theorem dX11_count_5 : decode cX11_count 5 = .ok (.bipush 24, 2) := by decide +kernel
theorem dX11_count_7 : decode cX11_count 7 = .ok (.if_icmp .ge 17, 3) := by decide +kernel
theorem dX11_count_10 : decode cX11_count 10 = .ok (.iload_n 1, 1) := by decide +kernel
theorem dX11_count_11 : decode cX11_count 11 = .ok (.iload_n 0, 1) := by decide +kernel
theorem dX11_count_12 : decode cX11_count 12 = .ok (.iload_n 2, 1) := by decide +kernel
theorem dX11_count_13 : decode cX11_count 13 = .ok (.ishr, 1) := by decide +kernel
theorem dX11_count_14 : decode cX11_count 14 = .ok (.iconst 1, 1) := by decide +kernel
theorem dX11_count_15 : decode cX11_count 15 = .ok (.iand, 1) := by decide +kernel
theorem dX11_count_16 : decode cX11_count 16 = .ok (.iadd, 1) := by decide +kernel
theorem dX11_count_17 : decode cX11_count 17 = .ok (.istore_n 1, 1) := by decide +kernel
theorem dX11_count_18 : decode cX11_count 18 = .ok (.iinc 2 1, 3) := by decide +kernel
theorem dX11_count_21 : decode cX11_count 21 = .ok (.goto (-17), 3) := by decide +kernel
theorem dX11_count_24 : decode cX11_count 24 = .ok (.iload_n 1, 1) := by decide +kernel
theorem dX11_count_25 : decode cX11_count 25 = .ok (.ireturn, 1) := by decide +kernel
theorem dX11_refuses_0 : decode cX11_refuses 0 = .ok (.aload_n 0, 1) := by decide +kernel
theorem dX11_refuses_1 : decode cX11_refuses 1 = .ok (.getfield 17, 3) := by decide +kernel
theorem dX11_refuses_4 : decode cX11_refuses 4 = .ok (.iload_n 1, 1) := by decide +kernel
theorem dX11_refuses_5 : decode cX11_refuses 5 = .ok (.dup2, 1) := by decide +kernel
theorem dX11_refuses_6 : decode cX11_refuses 6 = .ok (.iaload, 1) := by decide +kernel
theorem dX11_refuses_7 : decode cX11_refuses 7 = .ok (.iconst 1, 1) := by decide +kernel
theorem dX11_refuses_8 : decode cX11_refuses 8 = .ok (.iadd, 1) := by decide +kernel
theorem dX11_refuses_9 : decode cX11_refuses 9 = .ok (.iastore, 1) := by decide +kernel
theorem dX11_refuses_10 : decode cX11_refuses 10 = .ok (.iconst (-1), 1) := by decide +kernel
theorem dX11_refuses_11 : decode cX11_refuses 11 = .ok (.ireturn, 1) := by decide +kernel
theorem dX11_isRefused_0 : decode cX11_isRefused 0 = .ok (.aload_n 0, 1) := by decide +kernel
theorem dX11_isRefused_1 : decode cX11_isRefused 1 = .ok (.getfield 17, 3) := by decide +kernel
theorem dX11_isRefused_4 : decode cX11_isRefused 4 = .ok (.iload_n 1, 1) := by decide +kernel
theorem dX11_isRefused_5 : decode cX11_isRefused 5 = .ok (.dup2, 1) := by decide +kernel
theorem dX11_isRefused_6 : decode cX11_isRefused 6 = .ok (.iaload, 1) := by decide +kernel
theorem dX11_isRefused_7 : decode cX11_isRefused 7 = .ok (.iconst 1, 1) := by decide +kernel
theorem dX11_isRefused_8 : decode cX11_isRefused 8 = .ok (.iadd, 1) := by decide +kernel
theorem dX11_isRefused_9 : decode cX11_isRefused 9 = .ok (.iastore, 1) := by decide +kernel
theorem dX11_isRefused_10 : decode cX11_isRefused 10 = .ok (.iconst 0, 1) := by decide +kernel
theorem dX11_isRefused_11 : decode cX11_isRefused 11 = .ok (.ireturn, 1) := by decide +kernel
theorem dX11_feed_0 : decode cX11_feed 0 = .ok (.aload_n 0, 1) := by decide +kernel
theorem dX11_feed_1 : decode cX11_feed 1 = .ok (.getfield 96, 3) := by decide +kernel
theorem dX11_feed_4 : decode cX11_feed 4 = .ok (.bipush 20, 2) := by decide +kernel
theorem dX11_feed_6 : decode cX11_feed 6 = .ok (.iadd, 1) := by decide +kernel
theorem dX11_feed_7 : decode cX11_feed 7 = .ok (.sipush 800, 3) := by decide +kernel
theorem dX11_feed_10 : decode cX11_feed 10 = .ok (.if_icmp .le 9, 3) := by decide +kernel
theorem dX11_feed_13 : decode cX11_feed 13 = .ok (.aload_n 0, 1) := by decide +kernel
theorem dX11_feed_14 : decode cX11_feed 14 = .ok (.iconst 0, 1) := by decide +kernel
theorem dX11_feed_15 : decode cX11_feed 15 = .ok (.invokevirtual 99, 3) := by decide +kernel
theorem dX11_feed_18 : decode cX11_feed 18 = .ok (.ireturn, 1) := by decide +kernel
theorem dX11_feed_19 : decode cX11_feed 19 = .ok (.iconst 0, 1) := by decide +kernel
theorem dX11_feed_20 : decode cX11_feed 20 = .ok (.istore 6, 2) := by decide +kernel
theorem dX11_feed_22 : decode cX11_feed 22 = .ok (.iload 6, 2) := by decide +kernel
theorem dX11_feed_24 : decode cX11_feed 24 = .ok (.bipush 20, 2) := by decide +kernel
theorem dX11_feed_26 : decode cX11_feed 26 = .ok (.if_icmp .ge 92, 3) := by decide +kernel
theorem dX11_feed_29 : decode cX11_feed 29 = .ok (.iload 6, 2) := by decide +kernel
theorem dX11_feed_31 : decode cX11_feed 31 = .ok (.iconst 4, 1) := by decide +kernel
theorem dX11_feed_32 : decode cX11_feed 32 = .ok (.if_icmp .ge 7, 3) := by decide +kernel
theorem dX11_feed_35 : decode cX11_feed 35 = .ok (.iload_n 1, 1) := by decide +kernel
theorem dX11_feed_36 : decode cX11_feed 36 = .ok (.goto 39, 3) := by decide +kernel
theorem dX11_feed_39 : decode cX11_feed 39 = .ok (.iload 6, 2) := by decide +kernel
theorem dX11_feed_41 : decode cX11_feed 41 = .ok (.bipush 8, 2) := by decide +kernel
theorem dX11_feed_43 : decode cX11_feed 43 = .ok (.if_icmp .ge 7, 3) := by decide +kernel
theorem dX11_feed_46 : decode cX11_feed 46 = .ok (.iload_n 2, 1) := by decide +kernel
theorem dX11_feed_47 : decode cX11_feed 47 = .ok (.goto 28, 3) := by decide +kernel
theorem dX11_feed_50 : decode cX11_feed 50 = .ok (.iload 6, 2) := by decide +kernel
theorem dX11_feed_52 : decode cX11_feed 52 = .ok (.bipush 12, 2) := by decide +kernel
theorem dX11_feed_54 : decode cX11_feed 54 = .ok (.if_icmp .ge 7, 3) := by decide +kernel
theorem dX11_feed_57 : decode cX11_feed 57 = .ok (.iload_n 3, 1) := by decide +kernel
theorem dX11_feed_58 : decode cX11_feed 58 = .ok (.goto 17, 3) := by decide +kernel
theorem dX11_feed_61 : decode cX11_feed 61 = .ok (.iload 6, 2) := by decide +kernel
theorem dX11_feed_63 : decode cX11_feed 63 = .ok (.bipush 16, 2) := by decide +kernel
theorem dX11_feed_65 : decode cX11_feed 65 = .ok (.if_icmp .ge 8, 3) := by decide +kernel
theorem dX11_feed_68 : decode cX11_feed 68 = .ok (.iload 4, 2) := by decide +kernel
theorem dX11_feed_70 : decode cX11_feed 70 = .ok (.goto 5, 3) := by decide +kernel
theorem dX11_feed_73 : decode cX11_feed 73 = .ok (.iload 5, 2) := by decide +kernel
theorem dX11_feed_75 : decode cX11_feed 75 = .ok (.istore 7, 2) := by decide +kernel
theorem dX11_feed_77 : decode cX11_feed 77 = .ok (.aload_n 0, 1) := by decide +kernel
theorem dX11_feed_78 : decode cX11_feed 78 = .ok (.getfield 7, 3) := by decide +kernel
theorem dX11_feed_81 : decode cX11_feed 81 = .ok (.aload_n 0, 1) := by decide +kernel
theorem dX11_feed_82 : decode cX11_feed 82 = .ok (.getfield 96, 3) := by decide +kernel
theorem dX11_feed_85 : decode cX11_feed 85 = .ok (.iload 7, 2) := by decide +kernel
theorem dX11_feed_87 : decode cX11_feed 87 = .ok (.bipush 8, 2) := by decide +kernel
theorem dX11_feed_89 : decode cX11_feed 89 = .ok (.iconst 3, 1) := by decide +kernel
theorem dX11_feed_90 : decode cX11_feed 90 = .ok (.iload 6, 2) := by decide +kernel
theorem dX11_feed_92 : decode cX11_feed 92 = .ok (.iconst 4, 1) := by decide +kernel
theorem dX11_feed_93 : decode cX11_feed 93 = .ok (.irem, 1) := by decide +kernel
theorem dX11_feed_94 : decode cX11_feed 94 = .ok (.isub, 1) := by decide +kernel
theorem dX11_feed_95 : decode cX11_feed 95 = .ok (.imul, 1) := by decide +kernel
theorem dX11_feed_96 : decode cX11_feed 96 = .ok (.ishr, 1) := by decide +kernel
theorem dX11_feed_97 : decode cX11_feed 97 = .ok (.sipush 255, 3) := by decide +kernel
theorem dX11_feed_100 : decode cX11_feed 100 = .ok (.iand, 1) := by decide +kernel
theorem dX11_feed_101 : decode cX11_feed 101 = .ok (.iastore, 1) := by decide +kernel
theorem dX11_feed_102 : decode cX11_feed 102 = .ok (.aload_n 0, 1) := by decide +kernel
theorem dX11_feed_103 : decode cX11_feed 103 = .ok (.dup, 1) := by decide +kernel
theorem dX11_feed_104 : decode cX11_feed 104 = .ok (.getfield 96, 3) := by decide +kernel
theorem dX11_feed_107 : decode cX11_feed 107 = .ok (.iconst 1, 1) := by decide +kernel
theorem dX11_feed_108 : decode cX11_feed 108 = .ok (.iadd, 1) := by decide +kernel
theorem dX11_feed_109 : decode cX11_feed 109 = .ok (.putfield 96, 3) := by decide +kernel
theorem dX11_feed_112 : decode cX11_feed 112 = .ok (.iinc 6 1, 3) := by decide +kernel
theorem dX11_feed_115 : decode cX11_feed 115 = .ok (.goto (-93), 3) := by decide +kernel
theorem dX11_feed_118 : decode cX11_feed 118 = .ok (.aload_n 0, 1) := by decide +kernel
theorem dX11_feed_119 : decode cX11_feed 119 = .ok (.getfield 96, 3) := by decide +kernel
theorem dX11_feed_122 : decode cX11_feed 122 = .ok (.ireturn, 1) := by decide +kernel
theorem dX11_end_0 : decode cX11_end 0 = .ok (.iload_n 1, 1) := by decide +kernel
theorem dX11_end_1 : decode cX11_end 1 = .ok (.ifCond .lt 11, 3) := by decide +kernel
theorem dX11_end_4 : decode cX11_end 4 = .ok (.iload_n 1, 1) := by decide +kernel
theorem dX11_end_5 : decode cX11_end 5 = .ok (.aload_n 0, 1) := by decide +kernel
theorem dX11_end_6 : decode cX11_end 6 = .ok (.getfield 96, 3) := by decide +kernel
theorem dX11_end_9 : decode cX11_end 9 = .ok (.if_icmp .le 9, 3) := by decide +kernel
theorem dX11_end_12 : decode cX11_end 12 = .ok (.aload_n 0, 1) := by decide +kernel
theorem dX11_end_13 : decode cX11_end 13 = .ok (.iconst 0, 1) := by decide +kernel
theorem dX11_end_14 : decode cX11_end 14 = .ok (.invokevirtual 103, 3) := by decide +kernel
theorem dX11_end_17 : decode cX11_end 17 = .ok (.ireturn, 1) := by decide +kernel
theorem dX11_end_18 : decode cX11_end 18 = .ok (.aload_n 0, 1) := by decide +kernel
theorem dX11_end_19 : decode cX11_end 19 = .ok (.iload_n 1, 1) := by decide +kernel
theorem dX11_end_20 : decode cX11_end 20 = .ok (.putfield 96, 3) := by decide +kernel
theorem dX11_end_23 : decode cX11_end 23 = .ok (.iconst 1, 1) := by decide +kernel
theorem dX11_end_24 : decode cX11_end 24 = .ok (.ireturn, 1) := by decide +kernel
theorem dX11_status_0 : decode cX11_status 0 = .ok (.iload_n 1, 1) := by decide +kernel
theorem dX11_status_1 : decode cX11_status 1 = .ok (.i2l, 1) := by decide +kernel
theorem dX11_status_2 : decode cX11_status 2 = .ok (.lconst 0, 1) := by decide +kernel
theorem dX11_status_3 : decode cX11_status 3 = .ok (.ldc2_w 107, 3) := by decide +kernel
theorem dX11_status_6 : decode cX11_status 6 = .ok (.invokestatic 109, 3) := by decide +kernel
theorem dX11_status_9 : decode cX11_status 9 = .ok (.ifCond .eq 12, 3) := by decide +kernel
theorem dX11_status_12 : decode cX11_status 12 = .ok (.aload_n 0, 1) := by decide +kernel
theorem dX11_status_13 : decode cX11_status 13 = .ok (.getfield 17, 3) := by decide +kernel
theorem dX11_status_16 : decode cX11_status 16 = .ok (.iload_n 1, 1) := by decide +kernel
theorem dX11_status_17 : decode cX11_status 17 = .ok (.iaload, 1) := by decide +kernel
theorem dX11_status_18 : decode cX11_status 18 = .ok (.goto 4, 3) := by decide +kernel
theorem dX11_status_21 : decode cX11_status 21 = .ok (.iconst (-1), 1) := by decide +kernel
theorem dX11_status_22 : decode cX11_status 22 = .ok (.ireturn, 1) := by decide +kernel
theorem dX11_fault_0 : decode cX11_fault 0 = .ok (.iload_n 1, 1) := by decide +kernel
theorem dX11_fault_1 : decode cX11_fault 1 = .ok (.ifCond .ne 10, 3) := by decide +kernel
theorem dX11_fault_4 : decode cX11_fault 4 = .ok (.aload_n 0, 1) := by decide +kernel
theorem dX11_fault_5 : decode cX11_fault 5 = .ok (.getfield 113, 3) := by decide +kernel
theorem dX11_fault_8 : decode cX11_fault 8 = .ok (.goto 16, 3) := by decide +kernel
theorem dX11_fault_11 : decode cX11_fault 11 = .ok (.iload_n 1, 1) := by decide +kernel
theorem dX11_fault_12 : decode cX11_fault 12 = .ok (.iconst 1, 1) := by decide +kernel
theorem dX11_fault_13 : decode cX11_fault 13 = .ok (.if_icmp .ne 10, 3) := by decide +kernel
theorem dX11_fault_16 : decode cX11_fault 16 = .ok (.aload_n 0, 1) := by decide +kernel
theorem dX11_fault_17 : decode cX11_fault 17 = .ok (.getfield 13, 3) := by decide +kernel
theorem dX11_fault_20 : decode cX11_fault 20 = .ok (.goto 4, 3) := by decide +kernel
theorem dX11_fault_23 : decode cX11_fault 23 = .ok (.iconst (-1), 1) := by decide +kernel
theorem dX11_fault_24 : decode cX11_fault 24 = .ok (.ireturn, 1) := by decide +kernel
theorem dX11_fail_0 : decode cX11_fail 0 = .ok (.aload_n 0, 1) := by decide +kernel
theorem dX11_fail_1 : decode cX11_fail 1 = .ok (.getfield 116, 3) := by decide +kernel
theorem dX11_fail_4 : decode cX11_fail 4 = .ok (.ifCond .eq 4, 3) := by decide +kernel
theorem dX11_fail_7 : decode cX11_fail 7 = .ok (.return_, 1) := by decide +kernel
theorem dX11_fail_8 : decode cX11_fail 8 = .ok (.aload_n 0, 1) := by decide +kernel
theorem dX11_fail_9 : decode cX11_fail 9 = .ok (.iload_n 1, 1) := by decide +kernel
theorem dX11_fail_10 : decode cX11_fail 10 = .ok (.putfield 116, 3) := by decide +kernel
theorem dX11_fail_13 : decode cX11_fail 13 = .ok (.aload_n 0, 1) := by decide +kernel
theorem dX11_fail_14 : decode cX11_fail 14 = .ok (.iload_n 2, 1) := by decide +kernel
theorem dX11_fail_15 : decode cX11_fail 15 = .ok (.putfield 119, 3) := by decide +kernel
theorem dX11_fail_18 : decode cX11_fail 18 = .ok (.return_, 1) := by decide +kernel
theorem dX11_isLetter_0 : decode cX11_isLetter 0 = .ok (.iload_n 0, 1) := by decide +kernel
theorem dX11_isLetter_1 : decode cX11_isLetter 1 = .ok (.bipush 97, 2) := by decide +kernel
theorem dX11_isLetter_3 : decode cX11_isLetter 3 = .ok (.if_icmp .lt 13, 3) := by decide +kernel
theorem dX11_isLetter_6 : decode cX11_isLetter 6 = .ok (.iload_n 0, 1) := by decide +kernel
theorem dX11_isLetter_7 : decode cX11_isLetter 7 = .ok (.bipush 122, 2) := by decide +kernel
theorem dX11_isLetter_9 : decode cX11_isLetter 9 = .ok (.if_icmp .gt 7, 3) := by decide +kernel
theorem dX11_isLetter_12 : decode cX11_isLetter 12 = .ok (.iconst 1, 1) := by decide +kernel
theorem dX11_isLetter_13 : decode cX11_isLetter 13 = .ok (.goto 4, 3) := by decide +kernel
theorem dX11_isLetter_16 : decode cX11_isLetter 16 = .ok (.iconst 0, 1) := by decide +kernel
theorem dX11_isLetter_17 : decode cX11_isLetter 17 = .ok (.ireturn, 1) := by decide +kernel
theorem dX11_look_0 : decode cX11_look 0 = .ok (.aload_n 0, 1) := by decide +kernel
theorem dX11_look_1 : decode cX11_look 1 = .ok (.getfield 122, 3) := by decide +kernel
theorem dX11_look_4 : decode cX11_look 4 = .ok (.aload_n 0, 1) := by decide +kernel
theorem dX11_look_5 : decode cX11_look 5 = .ok (.getfield 125, 3) := by decide +kernel
theorem dX11_look_8 : decode cX11_look 8 = .ok (.if_icmp .ge 44, 3) := by decide +kernel
theorem dX11_look_11 : decode cX11_look 11 = .ok (.aload_n 0, 1) := by decide +kernel
theorem dX11_look_12 : decode cX11_look 12 = .ok (.getfield 7, 3) := by decide +kernel
theorem dX11_look_15 : decode cX11_look 15 = .ok (.aload_n 0, 1) := by decide +kernel
theorem dX11_look_16 : decode cX11_look 16 = .ok (.getfield 122, 3) := by decide +kernel
theorem dX11_look_19 : decode cX11_look 19 = .ok (.iaload, 1) := by decide +kernel
theorem dX11_look_20 : decode cX11_look 20 = .ok (.bipush 10, 2) := by decide +kernel
theorem dX11_look_22 : decode cX11_look 22 = .ok (.if_icmp .eq 17, 3) := by decide +kernel
theorem dX11_look_25 : decode cX11_look 25 = .ok (.aload_n 0, 1) := by decide +kernel
theorem dX11_look_26 : decode cX11_look 26 = .ok (.getfield 7, 3) := by decide +kernel
theorem dX11_look_29 : decode cX11_look 29 = .ok (.aload_n 0, 1) := by decide +kernel
theorem dX11_look_30 : decode cX11_look 30 = .ok (.getfield 122, 3) := by decide +kernel
theorem dX11_look_33 : decode cX11_look 33 = .ok (.iaload, 1) := by decide +kernel
theorem dX11_look_34 : decode cX11_look 34 = .ok (.bipush 32, 2) := by decide +kernel
theorem dX11_look_36 : decode cX11_look 36 = .ok (.if_icmp .ne 16, 3) := by decide +kernel
theorem dX11_look_39 : decode cX11_look 39 = .ok (.aload_n 0, 1) := by decide +kernel
theorem dX11_look_40 : decode cX11_look 40 = .ok (.dup, 1) := by decide +kernel
theorem dX11_look_41 : decode cX11_look 41 = .ok (.getfield 122, 3) := by decide +kernel
theorem dX11_look_44 : decode cX11_look 44 = .ok (.iconst 1, 1) := by decide +kernel
theorem dX11_look_45 : decode cX11_look 45 = .ok (.iadd, 1) := by decide +kernel
theorem dX11_look_46 : decode cX11_look 46 = .ok (.putfield 122, 3) := by decide +kernel
theorem dX11_look_49 : decode cX11_look 49 = .ok (.goto (-49), 3) := by decide +kernel
theorem dX11_look_52 : decode cX11_look 52 = .ok (.aload_n 0, 1) := by decide +kernel
theorem dX11_look_53 : decode cX11_look 53 = .ok (.getfield 122, 3) := by decide +kernel
theorem dX11_look_56 : decode cX11_look 56 = .ok (.aload_n 0, 1) := by decide +kernel
theorem dX11_look_57 : decode cX11_look 57 = .ok (.getfield 125, 3) := by decide +kernel
theorem dX11_look_60 : decode cX11_look 60 = .ok (.if_icmp .ge 15, 3) := by decide +kernel
theorem dX11_look_63 : decode cX11_look 63 = .ok (.aload_n 0, 1) := by decide +kernel
theorem dX11_look_64 : decode cX11_look 64 = .ok (.getfield 7, 3) := by decide +kernel
theorem dX11_look_67 : decode cX11_look 67 = .ok (.aload_n 0, 1) := by decide +kernel
theorem dX11_look_68 : decode cX11_look 68 = .ok (.getfield 122, 3) := by decide +kernel
theorem dX11_look_71 : decode cX11_look 71 = .ok (.iaload, 1) := by decide +kernel
theorem dX11_look_72 : decode cX11_look 72 = .ok (.goto 4, 3) := by decide +kernel
theorem dX11_look_75 : decode cX11_look 75 = .ok (.iconst (-1), 1) := by decide +kernel
theorem dX11_look_76 : decode cX11_look 76 = .ok (.ireturn, 1) := by decide +kernel
theorem dX11_takesSign_0 : decode cX11_takesSign 0 = .ok (.aload_n 0, 1) := by decide +kernel
theorem dX11_takesSign_1 : decode cX11_takesSign 1 = .ok (.getfield 116, 3) := by decide +kernel
theorem dX11_takesSign_4 : decode cX11_takesSign 4 = .ok (.ifCond .ne 11, 3) := by decide +kernel
theorem dX11_takesSign_7 : decode cX11_takesSign 7 = .ok (.aload_n 0, 1) := by decide +kernel
theorem dX11_takesSign_8 : decode cX11_takesSign 8 = .ok (.invokevirtual 128, 3) := by decide +kernel
theorem dX11_takesSign_11 : decode cX11_takesSign 11 = .ok (.iload_n 1, 1) := by decide +kernel
theorem dX11_takesSign_12 : decode cX11_takesSign 12 = .ok (.if_icmp .eq 5, 3) := by decide +kernel
theorem dX11_takesSign_15 : decode cX11_takesSign 15 = .ok (.iconst 0, 1) := by decide +kernel
theorem dX11_takesSign_16 : decode cX11_takesSign 16 = .ok (.ireturn, 1) := by decide +kernel
theorem dX11_takesSign_17 : decode cX11_takesSign 17 = .ok (.aload_n 0, 1) := by decide +kernel
theorem dX11_takesSign_18 : decode cX11_takesSign 18 = .ok (.dup, 1) := by decide +kernel
theorem dX11_takesSign_19 : decode cX11_takesSign 19 = .ok (.getfield 122, 3) := by decide +kernel
theorem dX11_takesSign_22 : decode cX11_takesSign 22 = .ok (.iconst 1, 1) := by decide +kernel
theorem dX11_takesSign_23 : decode cX11_takesSign 23 = .ok (.iadd, 1) := by decide +kernel
theorem dX11_takesSign_24 : decode cX11_takesSign 24 = .ok (.putfield 122, 3) := by decide +kernel
theorem dX11_takesSign_27 : decode cX11_takesSign 27 = .ok (.iconst 1, 1) := by decide +kernel
theorem dX11_takesSign_28 : decode cX11_takesSign 28 = .ok (.ireturn, 1) := by decide +kernel
theorem dX11_asksSign_0 : decode cX11_asksSign 0 = .ok (.aload_n 0, 1) := by decide +kernel
theorem dX11_asksSign_1 : decode cX11_asksSign 1 = .ok (.getfield 116, 3) := by decide +kernel
theorem dX11_asksSign_4 : decode cX11_asksSign 4 = .ok (.ifCond .ne 20, 3) := by decide +kernel
theorem dX11_asksSign_7 : decode cX11_asksSign 7 = .ok (.aload_n 0, 1) := by decide +kernel
theorem dX11_asksSign_8 : decode cX11_asksSign 8 = .ok (.iload_n 1, 1) := by decide +kernel
theorem dX11_asksSign_9 : decode cX11_asksSign 9 = .ok (.invokevirtual 132, 3) := by decide +kernel
theorem dX11_asksSign_12 : decode cX11_asksSign 12 = .ok (.ifCond .ne 12, 3) := by decide +kernel
theorem dX11_asksSign_15 : decode cX11_asksSign 15 = .ok (.aload_n 0, 1) := by decide +kernel
theorem dX11_asksSign_16 : decode cX11_asksSign 16 = .ok (.iconst 1, 1) := by decide +kernel
theorem dX11_asksSign_17 : decode cX11_asksSign 17 = .ok (.aload_n 0, 1) := by decide +kernel
theorem dX11_asksSign_18 : decode cX11_asksSign 18 = .ok (.getfield 122, 3) := by decide +kernel
theorem dX11_asksSign_21 : decode cX11_asksSign 21 = .ok (.invokevirtual 135, 3) := by decide +kernel
theorem dX11_asksSign_24 : decode cX11_asksSign 24 = .ok (.return_, 1) := by decide +kernel
theorem dX11_isWordHere_0 : decode cX11_isWordHere 0 = .ok (.aload_n 0, 1) := by decide +kernel
theorem dX11_isWordHere_1 : decode cX11_isWordHere 1 = .ok (.getfield 116, 3) := by decide +kernel
theorem dX11_isWordHere_4 : decode cX11_isWordHere 4 = .ok (.ifCond .ne 28, 3) := by decide +kernel
theorem dX11_isWordHere_7 : decode cX11_isWordHere 7 = .ok (.aload_n 0, 1) := by decide +kernel
theorem dX11_isWordHere_8 : decode cX11_isWordHere 8 = .ok (.invokevirtual 128, 3) := by decide +kernel
theorem dX11_isWordHere_11 : decode cX11_isWordHere 11 = .ok (.invokestatic 139, 3) := by decide +kernel
theorem dX11_isWordHere_14 : decode cX11_isWordHere 14 = .ok (.ifCond .eq 18, 3) := by decide +kernel
theorem dX11_isWordHere_17 : decode cX11_isWordHere 17 = .ok (.aload_n 0, 1) := by decide +kernel
theorem dX11_isWordHere_18 : decode cX11_isWordHere 18 = .ok (.getfield 122, 3) := by decide +kernel
theorem dX11_isWordHere_21 : decode cX11_isWordHere 21 = .ok (.aload_n 0, 1) := by decide +kernel
theorem dX11_isWordHere_22 : decode cX11_isWordHere 22 = .ok (.getfield 142, 3) := by decide +kernel
theorem dX11_isWordHere_25 : decode cX11_isWordHere 25 = .ok (.if_icmp .eq 7, 3) := by decide +kernel
theorem dX11_isWordHere_28 : decode cX11_isWordHere 28 = .ok (.iconst 1, 1) := by decide +kernel
theorem dX11_isWordHere_29 : decode cX11_isWordHere 29 = .ok (.goto 4, 3) := by decide +kernel
theorem dX11_isWordHere_32 : decode cX11_isWordHere 32 = .ok (.iconst 0, 1) := by decide +kernel
theorem dX11_isWordHere_33 : decode cX11_isWordHere 33 = .ok (.ireturn, 1) := by decide +kernel
theorem dX11_longHere_0 : decode cX11_longHere 0 = .ok (.iconst 0, 1) := by decide +kernel
theorem dX11_longHere_1 : decode cX11_longHere 1 = .ok (.istore_n 1, 1) := by decide +kernel
theorem dX11_longHere_2 : decode cX11_longHere 2 = .ok (.aload_n 0, 1) := by decide +kernel
theorem dX11_longHere_3 : decode cX11_longHere 3 = .ok (.getfield 122, 3) := by decide +kernel
theorem dX11_longHere_6 : decode cX11_longHere 6 = .ok (.iload_n 1, 1) := by decide +kernel
theorem dX11_longHere_7 : decode cX11_longHere 7 = .ok (.iadd, 1) := by decide +kernel
theorem dX11_longHere_8 : decode cX11_longHere 8 = .ok (.aload_n 0, 1) := by decide +kernel
theorem dX11_longHere_9 : decode cX11_longHere 9 = .ok (.getfield 125, 3) := by decide +kernel
theorem dX11_longHere_12 : decode cX11_longHere 12 = .ok (.if_icmp .ge 26, 3) := by decide +kernel
theorem dX11_longHere_15 : decode cX11_longHere 15 = .ok (.aload_n 0, 1) := by decide +kernel
theorem dX11_longHere_16 : decode cX11_longHere 16 = .ok (.getfield 7, 3) := by decide +kernel
theorem dX11_longHere_19 : decode cX11_longHere 19 = .ok (.aload_n 0, 1) := by decide +kernel
theorem dX11_longHere_20 : decode cX11_longHere 20 = .ok (.getfield 122, 3) := by decide +kernel
theorem dX11_longHere_23 : decode cX11_longHere 23 = .ok (.iload_n 1, 1) := by decide +kernel
theorem dX11_longHere_24 : decode cX11_longHere 24 = .ok (.iadd, 1) := by decide +kernel
theorem dX11_longHere_25 : decode cX11_longHere 25 = .ok (.iaload, 1) := by decide +kernel
theorem dX11_longHere_26 : decode cX11_longHere 26 = .ok (.invokestatic 139, 3) := by decide +kernel
theorem dX11_longHere_29 : decode cX11_longHere 29 = .ok (.ifCond .eq 9, 3) := by decide +kernel
theorem dX11_longHere_32 : decode cX11_longHere 32 = .ok (.iinc 1 1, 3) := by decide +kernel
theorem dX11_longHere_35 : decode cX11_longHere 35 = .ok (.goto (-33), 3) := by decide +kernel
theorem dX11_longHere_38 : decode cX11_longHere 38 = .ok (.iload_n 1, 1) := by decide +kernel
theorem dX11_longHere_39 : decode cX11_longHere 39 = .ok (.ireturn, 1) := by decide +kernel
theorem dX11_ownHere_0 : decode cX11_ownHere 0 = .ok (.aload_n 0, 1) := by decide +kernel
theorem dX11_ownHere_1 : decode cX11_ownHere 1 = .ok (.invokevirtual 145, 3) := by decide +kernel
theorem dX11_ownHere_4 : decode cX11_ownHere 4 = .ok (.ifCond .ne 5, 3) := by decide +kernel
theorem dX11_ownHere_7 : decode cX11_ownHere 7 = .ok (.iconst (-1), 1) := by decide +kernel
theorem dX11_ownHere_8 : decode cX11_ownHere 8 = .ok (.ireturn, 1) := by decide +kernel
theorem dX11_ownHere_9 : decode cX11_ownHere 9 = .ok (.aload_n 0, 1) := by decide +kernel
theorem dX11_ownHere_10 : decode cX11_ownHere 10 = .ok (.invokevirtual 149, 3) := by decide +kernel
theorem dX11_ownHere_13 : decode cX11_ownHere 13 = .ok (.istore_n 1, 1) := by decide +kernel
theorem dX11_ownHere_14 : decode cX11_ownHere 14 = .ok (.iload_n 1, 1) := by decide +kernel
theorem dX11_ownHere_15 : decode cX11_ownHere 15 = .ok (.iconst 5, 1) := by decide +kernel
theorem dX11_ownHere_16 : decode cX11_ownHere 16 = .ok (.if_icmp .ne 83, 3) := by decide +kernel
theorem dX11_ownHere_19 : decode cX11_ownHere 19 = .ok (.aload_n 0, 1) := by decide +kernel
theorem dX11_ownHere_20 : decode cX11_ownHere 20 = .ok (.getfield 7, 3) := by decide +kernel
theorem dX11_ownHere_23 : decode cX11_ownHere 23 = .ok (.aload_n 0, 1) := by decide +kernel
theorem dX11_ownHere_24 : decode cX11_ownHere 24 = .ok (.getfield 122, 3) := by decide +kernel
theorem dX11_ownHere_27 : decode cX11_ownHere 27 = .ok (.iaload, 1) := by decide +kernel
theorem dX11_ownHere_28 : decode cX11_ownHere 28 = .ok (.bipush 110, 2) := by decide +kernel
theorem dX11_ownHere_30 : decode cX11_ownHere 30 = .ok (.if_icmp .ne 69, 3) := by decide +kernel
theorem dX11_ownHere_33 : decode cX11_ownHere 33 = .ok (.aload_n 0, 1) := by decide +kernel
theorem dX11_ownHere_34 : decode cX11_ownHere 34 = .ok (.getfield 7, 3) := by decide +kernel
theorem dX11_ownHere_37 : decode cX11_ownHere 37 = .ok (.aload_n 0, 1) := by decide +kernel
theorem dX11_ownHere_38 : decode cX11_ownHere 38 = .ok (.getfield 122, 3) := by decide +kernel
theorem dX11_ownHere_41 : decode cX11_ownHere 41 = .ok (.iconst 1, 1) := by decide +kernel
theorem dX11_ownHere_42 : decode cX11_ownHere 42 = .ok (.iadd, 1) := by decide +kernel
theorem dX11_ownHere_43 : decode cX11_ownHere 43 = .ok (.iaload, 1) := by decide +kernel
theorem dX11_ownHere_44 : decode cX11_ownHere 44 = .ok (.bipush 111, 2) := by decide +kernel
theorem dX11_ownHere_46 : decode cX11_ownHere 46 = .ok (.if_icmp .ne 53, 3) := by decide +kernel
theorem dX11_ownHere_49 : decode cX11_ownHere 49 = .ok (.aload_n 0, 1) := by decide +kernel
theorem dX11_ownHere_50 : decode cX11_ownHere 50 = .ok (.getfield 7, 3) := by decide +kernel
theorem dX11_ownHere_53 : decode cX11_ownHere 53 = .ok (.aload_n 0, 1) := by decide +kernel
theorem dX11_ownHere_54 : decode cX11_ownHere 54 = .ok (.getfield 122, 3) := by decide +kernel
theorem dX11_ownHere_57 : decode cX11_ownHere 57 = .ok (.iconst 2, 1) := by decide +kernel
theorem dX11_ownHere_58 : decode cX11_ownHere 58 = .ok (.iadd, 1) := by decide +kernel
theorem dX11_ownHere_59 : decode cX11_ownHere 59 = .ok (.iaload, 1) := by decide +kernel
theorem dX11_ownHere_60 : decode cX11_ownHere 60 = .ok (.bipush 100, 2) := by decide +kernel
theorem dX11_ownHere_62 : decode cX11_ownHere 62 = .ok (.if_icmp .ne 37, 3) := by decide +kernel
theorem dX11_ownHere_65 : decode cX11_ownHere 65 = .ok (.aload_n 0, 1) := by decide +kernel
theorem dX11_ownHere_66 : decode cX11_ownHere 66 = .ok (.getfield 7, 3) := by decide +kernel
theorem dX11_ownHere_69 : decode cX11_ownHere 69 = .ok (.aload_n 0, 1) := by decide +kernel
theorem dX11_ownHere_70 : decode cX11_ownHere 70 = .ok (.getfield 122, 3) := by decide +kernel
theorem dX11_ownHere_73 : decode cX11_ownHere 73 = .ok (.iconst 3, 1) := by decide +kernel
theorem dX11_ownHere_74 : decode cX11_ownHere 74 = .ok (.iadd, 1) := by decide +kernel
theorem dX11_ownHere_75 : decode cX11_ownHere 75 = .ok (.iaload, 1) := by decide +kernel
theorem dX11_ownHere_76 : decode cX11_ownHere 76 = .ok (.bipush 101, 2) := by decide +kernel
theorem dX11_ownHere_78 : decode cX11_ownHere 78 = .ok (.if_icmp .ne 21, 3) := by decide +kernel
theorem dX11_ownHere_81 : decode cX11_ownHere 81 = .ok (.aload_n 0, 1) := by decide +kernel
theorem dX11_ownHere_82 : decode cX11_ownHere 82 = .ok (.getfield 7, 3) := by decide +kernel
theorem dX11_ownHere_85 : decode cX11_ownHere 85 = .ok (.aload_n 0, 1) := by decide +kernel
theorem dX11_ownHere_86 : decode cX11_ownHere 86 = .ok (.getfield 122, 3) := by decide +kernel
theorem dX11_ownHere_89 : decode cX11_ownHere 89 = .ok (.iconst 4, 1) := by decide +kernel
theorem dX11_ownHere_90 : decode cX11_ownHere 90 = .ok (.iadd, 1) := by decide +kernel
theorem dX11_ownHere_91 : decode cX11_ownHere 91 = .ok (.iaload, 1) := by decide +kernel
theorem dX11_ownHere_92 : decode cX11_ownHere 92 = .ok (.bipush 115, 2) := by decide +kernel
theorem dX11_ownHere_94 : decode cX11_ownHere 94 = .ok (.if_icmp .ne 5, 3) := by decide +kernel
theorem dX11_ownHere_97 : decode cX11_ownHere 97 = .ok (.iconst 0, 1) := by decide +kernel
theorem dX11_ownHere_98 : decode cX11_ownHere 98 = .ok (.ireturn, 1) := by decide +kernel
theorem dX11_ownHere_99 : decode cX11_ownHere 99 = .ok (.iload_n 1, 1) := by decide +kernel
theorem dX11_ownHere_100 : decode cX11_ownHere 100 = .ok (.iconst 3, 1) := by decide +kernel
theorem dX11_ownHere_101 : decode cX11_ownHere 101 = .ok (.if_icmp .ne 53, 3) := by decide +kernel
theorem dX11_ownHere_104 : decode cX11_ownHere 104 = .ok (.aload_n 0, 1) := by decide +kernel
theorem dX11_ownHere_105 : decode cX11_ownHere 105 = .ok (.getfield 7, 3) := by decide +kernel
theorem dX11_ownHere_108 : decode cX11_ownHere 108 = .ok (.aload_n 0, 1) := by decide +kernel
theorem dX11_ownHere_109 : decode cX11_ownHere 109 = .ok (.getfield 122, 3) := by decide +kernel
theorem dX11_ownHere_112 : decode cX11_ownHere 112 = .ok (.iaload, 1) := by decide +kernel
theorem dX11_ownHere_113 : decode cX11_ownHere 113 = .ok (.bipush 119, 2) := by decide +kernel
theorem dX11_ownHere_115 : decode cX11_ownHere 115 = .ok (.if_icmp .ne 39, 3) := by decide +kernel
theorem dX11_ownHere_118 : decode cX11_ownHere 118 = .ok (.aload_n 0, 1) := by decide +kernel
theorem dX11_ownHere_119 : decode cX11_ownHere 119 = .ok (.getfield 7, 3) := by decide +kernel
theorem dX11_ownHere_122 : decode cX11_ownHere 122 = .ok (.aload_n 0, 1) := by decide +kernel
theorem dX11_ownHere_123 : decode cX11_ownHere 123 = .ok (.getfield 122, 3) := by decide +kernel
theorem dX11_ownHere_126 : decode cX11_ownHere 126 = .ok (.iconst 1, 1) := by decide +kernel
theorem dX11_ownHere_127 : decode cX11_ownHere 127 = .ok (.iadd, 1) := by decide +kernel
theorem dX11_ownHere_128 : decode cX11_ownHere 128 = .ok (.iaload, 1) := by decide +kernel
theorem dX11_ownHere_129 : decode cX11_ownHere 129 = .ok (.bipush 97, 2) := by decide +kernel
theorem dX11_ownHere_131 : decode cX11_ownHere 131 = .ok (.if_icmp .ne 23, 3) := by decide +kernel
theorem dX11_ownHere_134 : decode cX11_ownHere 134 = .ok (.aload_n 0, 1) := by decide +kernel
theorem dX11_ownHere_135 : decode cX11_ownHere 135 = .ok (.getfield 7, 3) := by decide +kernel
theorem dX11_ownHere_138 : decode cX11_ownHere 138 = .ok (.aload_n 0, 1) := by decide +kernel
theorem dX11_ownHere_139 : decode cX11_ownHere 139 = .ok (.getfield 122, 3) := by decide +kernel
theorem dX11_ownHere_142 : decode cX11_ownHere 142 = .ok (.iconst 2, 1) := by decide +kernel
theorem dX11_ownHere_143 : decode cX11_ownHere 143 = .ok (.iadd, 1) := by decide +kernel
theorem dX11_ownHere_144 : decode cX11_ownHere 144 = .ok (.iaload, 1) := by decide +kernel
theorem dX11_ownHere_145 : decode cX11_ownHere 145 = .ok (.bipush 121, 2) := by decide +kernel
theorem dX11_ownHere_147 : decode cX11_ownHere 147 = .ok (.if_icmp .ne 7, 3) := by decide +kernel
theorem dX11_ownHere_150 : decode cX11_ownHere 150 = .ok (.iconst 1, 1) := by decide +kernel
theorem dX11_ownHere_151 : decode cX11_ownHere 151 = .ok (.goto 4, 3) := by decide +kernel
theorem dX11_ownHere_154 : decode cX11_ownHere 154 = .ok (.iconst (-1), 1) := by decide +kernel
theorem dX11_ownHere_155 : decode cX11_ownHere 155 = .ok (.ireturn, 1) := by decide +kernel
theorem dX11_takes_0 : decode cX11_takes 0 = .ok (.aload_n 0, 1) := by decide +kernel
theorem dX11_takes_1 : decode cX11_takes 1 = .ok (.invokevirtual 152, 3) := by decide +kernel
theorem dX11_takes_4 : decode cX11_takes 4 = .ok (.iload_n 1, 1) := by decide +kernel
theorem dX11_takes_5 : decode cX11_takes 5 = .ok (.if_icmp .eq 5, 3) := by decide +kernel
theorem dX11_takes_8 : decode cX11_takes 8 = .ok (.iconst 0, 1) := by decide +kernel
theorem dX11_takes_9 : decode cX11_takes 9 = .ok (.ireturn, 1) := by decide +kernel
theorem dX11_takes_10 : decode cX11_takes 10 = .ok (.aload_n 0, 1) := by decide +kernel
theorem dX11_takes_11 : decode cX11_takes 11 = .ok (.dup, 1) := by decide +kernel
theorem dX11_takes_12 : decode cX11_takes 12 = .ok (.getfield 122, 3) := by decide +kernel
theorem dX11_takes_15 : decode cX11_takes 15 = .ok (.aload_n 0, 1) := by decide +kernel
theorem dX11_takes_16 : decode cX11_takes 16 = .ok (.invokevirtual 149, 3) := by decide +kernel
theorem dX11_takes_19 : decode cX11_takes 19 = .ok (.iadd, 1) := by decide +kernel
theorem dX11_takes_20 : decode cX11_takes 20 = .ok (.putfield 122, 3) := by decide +kernel
theorem dX11_takes_23 : decode cX11_takes 23 = .ok (.aload_n 0, 1) := by decide +kernel
theorem dX11_takes_24 : decode cX11_takes 24 = .ok (.aload_n 0, 1) := by decide +kernel
theorem dX11_takes_25 : decode cX11_takes 25 = .ok (.getfield 122, 3) := by decide +kernel
theorem dX11_takes_28 : decode cX11_takes 28 = .ok (.putfield 142, 3) := by decide +kernel
theorem dX11_takes_31 : decode cX11_takes 31 = .ok (.iconst 1, 1) := by decide +kernel
theorem dX11_takes_32 : decode cX11_takes 32 = .ok (.ireturn, 1) := by decide +kernel
theorem dX11_name_0 : decode cX11_name 0 = .ok (.aload_n 0, 1) := by decide +kernel
theorem dX11_name_1 : decode cX11_name 1 = .ok (.getfield 116, 3) := by decide +kernel
theorem dX11_name_4 : decode cX11_name 4 = .ok (.ifCond .eq 5, 3) := by decide +kernel
theorem dX11_name_7 : decode cX11_name 7 = .ok (.iconst 0, 1) := by decide +kernel
theorem dX11_name_8 : decode cX11_name 8 = .ok (.ireturn, 1) := by decide +kernel
theorem dX11_name_9 : decode cX11_name 9 = .ok (.aload_n 0, 1) := by decide +kernel
theorem dX11_name_10 : decode cX11_name 10 = .ok (.invokevirtual 145, 3) := by decide +kernel
theorem dX11_name_13 : decode cX11_name 13 = .ok (.ifCond .eq 11, 3) := by decide +kernel
theorem dX11_name_16 : decode cX11_name 16 = .ok (.aload_n 0, 1) := by decide +kernel
theorem dX11_name_17 : decode cX11_name 17 = .ok (.invokevirtual 152, 3) := by decide +kernel
theorem dX11_name_20 : decode cX11_name 20 = .ok (.iconst (-1), 1) := by decide +kernel
theorem dX11_name_21 : decode cX11_name 21 = .ok (.if_icmp .eq 29, 3) := by decide +kernel
theorem dX11_name_24 : decode cX11_name 24 = .ok (.aload_n 0, 1) := by decide +kernel
theorem dX11_name_25 : decode cX11_name 25 = .ok (.iconst 1, 1) := by decide +kernel
theorem dX11_name_26 : decode cX11_name 26 = .ok (.aload_n 0, 1) := by decide +kernel
theorem dX11_name_27 : decode cX11_name 27 = .ok (.invokevirtual 128, 3) := by decide +kernel
theorem dX11_name_30 : decode cX11_name 30 = .ok (.iconst (-1), 1) := by decide +kernel
theorem dX11_name_31 : decode cX11_name 31 = .ok (.if_icmp .ne 10, 3) := by decide +kernel
theorem dX11_name_34 : decode cX11_name 34 = .ok (.aload_n 0, 1) := by decide +kernel
theorem dX11_name_35 : decode cX11_name 35 = .ok (.getfield 125, 3) := by decide +kernel
theorem dX11_name_38 : decode cX11_name 38 = .ok (.goto 7, 3) := by decide +kernel
theorem dX11_name_41 : decode cX11_name 41 = .ok (.aload_n 0, 1) := by decide +kernel
theorem dX11_name_42 : decode cX11_name 42 = .ok (.getfield 122, 3) := by decide +kernel
theorem dX11_name_45 : decode cX11_name 45 = .ok (.invokevirtual 135, 3) := by decide +kernel
theorem dX11_name_48 : decode cX11_name 48 = .ok (.iconst 0, 1) := by decide +kernel
theorem dX11_name_49 : decode cX11_name 49 = .ok (.ireturn, 1) := by decide +kernel
theorem dX11_name_50 : decode cX11_name 50 = .ok (.aload_n 0, 1) := by decide +kernel
theorem dX11_name_51 : decode cX11_name 51 = .ok (.aload_n 0, 1) := by decide +kernel
theorem dX11_name_52 : decode cX11_name 52 = .ok (.getfield 122, 3) := by decide +kernel
theorem dX11_name_55 : decode cX11_name 55 = .ok (.putfield 155, 3) := by decide +kernel
theorem dX11_name_58 : decode cX11_name 58 = .ok (.iconst 0, 1) := by decide +kernel
theorem dX11_name_59 : decode cX11_name 59 = .ok (.istore_n 1, 1) := by decide +kernel
theorem dX11_name_60 : decode cX11_name 60 = .ok (.aload_n 0, 1) := by decide +kernel
theorem dX11_name_61 : decode cX11_name 61 = .ok (.getfield 122, 3) := by decide +kernel
theorem dX11_name_64 : decode cX11_name 64 = .ok (.aload_n 0, 1) := by decide +kernel
theorem dX11_name_65 : decode cX11_name 65 = .ok (.getfield 125, 3) := by decide +kernel
theorem dX11_name_68 : decode cX11_name 68 = .ok (.if_icmp .ge 75, 3) := by decide +kernel
theorem dX11_name_71 : decode cX11_name 71 = .ok (.aload_n 0, 1) := by decide +kernel
theorem dX11_name_72 : decode cX11_name 72 = .ok (.getfield 7, 3) := by decide +kernel
theorem dX11_name_75 : decode cX11_name 75 = .ok (.aload_n 0, 1) := by decide +kernel
theorem dX11_name_76 : decode cX11_name 76 = .ok (.getfield 122, 3) := by decide +kernel
theorem dX11_name_79 : decode cX11_name 79 = .ok (.iaload, 1) := by decide +kernel
theorem dX11_name_80 : decode cX11_name 80 = .ok (.invokestatic 139, 3) := by decide +kernel
theorem dX11_name_83 : decode cX11_name 83 = .ok (.ifCond .eq 60, 3) := by decide +kernel
theorem dX11_name_86 : decode cX11_name 86 = .ok (.aload_n 0, 1) := by decide +kernel
theorem dX11_name_87 : decode cX11_name 87 = .ok (.getfield 122, 3) := by decide +kernel
theorem dX11_name_90 : decode cX11_name 90 = .ok (.aload_n 0, 1) := by decide +kernel
theorem dX11_name_91 : decode cX11_name 91 = .ok (.getfield 155, 3) := by decide +kernel
theorem dX11_name_94 : decode cX11_name 94 = .ok (.isub, 1) := by decide +kernel
theorem dX11_name_95 : decode cX11_name 95 = .ok (.iconst 4, 1) := by decide +kernel
theorem dX11_name_96 : decode cX11_name 96 = .ok (.if_icmp .ne 14, 3) := by decide +kernel
theorem dX11_name_99 : decode cX11_name 99 = .ok (.aload_n 0, 1) := by decide +kernel
theorem dX11_name_100 : decode cX11_name 100 = .ok (.iconst 1, 1) := by decide +kernel
theorem dX11_name_101 : decode cX11_name 101 = .ok (.aload_n 0, 1) := by decide +kernel
theorem dX11_name_102 : decode cX11_name 102 = .ok (.getfield 122, 3) := by decide +kernel
theorem dX11_name_105 : decode cX11_name 105 = .ok (.invokevirtual 135, 3) := by decide +kernel
theorem dX11_name_108 : decode cX11_name 108 = .ok (.iconst 0, 1) := by decide +kernel
theorem dX11_name_109 : decode cX11_name 109 = .ok (.ireturn, 1) := by decide +kernel
theorem dX11_name_110 : decode cX11_name 110 = .ok (.bipush 27, 2) := by decide +kernel
theorem dX11_name_112 : decode cX11_name 112 = .ok (.iload_n 1, 1) := by decide +kernel
theorem dX11_name_113 : decode cX11_name 113 = .ok (.imul, 1) := by decide +kernel
theorem dX11_name_114 : decode cX11_name 114 = .ok (.aload_n 0, 1) := by decide +kernel
theorem dX11_name_115 : decode cX11_name 115 = .ok (.getfield 7, 3) := by decide +kernel
theorem dX11_name_118 : decode cX11_name 118 = .ok (.aload_n 0, 1) := by decide +kernel
theorem dX11_name_119 : decode cX11_name 119 = .ok (.getfield 122, 3) := by decide +kernel
theorem dX11_name_122 : decode cX11_name 122 = .ok (.iaload, 1) := by decide +kernel
theorem dX11_name_123 : decode cX11_name 123 = .ok (.iadd, 1) := by decide +kernel
theorem dX11_name_124 : decode cX11_name 124 = .ok (.bipush 97, 2) := by decide +kernel
theorem dX11_name_126 : decode cX11_name 126 = .ok (.isub, 1) := by decide +kernel
theorem dX11_name_127 : decode cX11_name 127 = .ok (.iconst 1, 1) := by decide +kernel
theorem dX11_name_128 : decode cX11_name 128 = .ok (.iadd, 1) := by decide +kernel
theorem dX11_name_129 : decode cX11_name 129 = .ok (.istore_n 1, 1) := by decide +kernel
theorem dX11_name_130 : decode cX11_name 130 = .ok (.aload_n 0, 1) := by decide +kernel
theorem dX11_name_131 : decode cX11_name 131 = .ok (.dup, 1) := by decide +kernel
theorem dX11_name_132 : decode cX11_name 132 = .ok (.getfield 122, 3) := by decide +kernel
theorem dX11_name_135 : decode cX11_name 135 = .ok (.iconst 1, 1) := by decide +kernel
theorem dX11_name_136 : decode cX11_name 136 = .ok (.iadd, 1) := by decide +kernel
theorem dX11_name_137 : decode cX11_name 137 = .ok (.putfield 122, 3) := by decide +kernel
theorem dX11_name_140 : decode cX11_name 140 = .ok (.goto (-80), 3) := by decide +kernel
theorem dX11_name_143 : decode cX11_name 143 = .ok (.aload_n 0, 1) := by decide +kernel
theorem dX11_name_144 : decode cX11_name 144 = .ok (.aload_n 0, 1) := by decide +kernel
theorem dX11_name_145 : decode cX11_name 145 = .ok (.getfield 122, 3) := by decide +kernel
theorem dX11_name_148 : decode cX11_name 148 = .ok (.putfield 142, 3) := by decide +kernel
theorem dX11_name_151 : decode cX11_name 151 = .ok (.iload_n 1, 1) := by decide +kernel
theorem dX11_name_152 : decode cX11_name 152 = .ok (.ireturn, 1) := by decide +kernel
theorem dX11_lineOf_0 : decode cX11_lineOf 0 = .ok (.iload_n 1, 1) := by decide +kernel
theorem dX11_lineOf_1 : decode cX11_lineOf 1 = .ok (.iload_n 2, 1) := by decide +kernel
theorem dX11_lineOf_2 : decode cX11_lineOf 2 = .ok (.if_icmp .ge 7, 3) := by decide +kernel
theorem dX11_lineOf_5 : decode cX11_lineOf 5 = .ok (.iload_n 1, 1) := by decide +kernel
theorem dX11_lineOf_6 : decode cX11_lineOf 6 = .ok (.goto 4, 3) := by decide +kernel
theorem dX11_lineOf_9 : decode cX11_lineOf 9 = .ok (.iload_n 2, 1) := by decide +kernel
theorem dX11_lineOf_10 : decode cX11_lineOf 10 = .ok (.istore_n 3, 1) := by decide +kernel
theorem dX11_lineOf_11 : decode cX11_lineOf 11 = .ok (.iload_n 1, 1) := by decide +kernel
theorem dX11_lineOf_12 : decode cX11_lineOf 12 = .ok (.iload_n 2, 1) := by decide +kernel
theorem dX11_lineOf_13 : decode cX11_lineOf 13 = .ok (.if_icmp .ge 7, 3) := by decide +kernel
theorem dX11_lineOf_16 : decode cX11_lineOf 16 = .ok (.iload_n 2, 1) := by decide +kernel
theorem dX11_lineOf_17 : decode cX11_lineOf 17 = .ok (.goto 4, 3) := by decide +kernel
theorem dX11_lineOf_20 : decode cX11_lineOf 20 = .ok (.iload_n 1, 1) := by decide +kernel
theorem dX11_lineOf_21 : decode cX11_lineOf 21 = .ok (.istore 4, 2) := by decide +kernel
theorem dX11_lineOf_23 : decode cX11_lineOf 23 = .ok (.iconst 0, 1) := by decide +kernel
theorem dX11_lineOf_24 : decode cX11_lineOf 24 = .ok (.istore 5, 2) := by decide +kernel
theorem dX11_lineOf_26 : decode cX11_lineOf 26 = .ok (.iload 5, 2) := by decide +kernel
theorem dX11_lineOf_28 : decode cX11_lineOf 28 = .ok (.aload_n 0, 1) := by decide +kernel
theorem dX11_lineOf_29 : decode cX11_lineOf 29 = .ok (.iconst 1, 1) := by decide +kernel
theorem dX11_lineOf_30 : decode cX11_lineOf 30 = .ok (.iaload, 1) := by decide +kernel
theorem dX11_lineOf_31 : decode cX11_lineOf 31 = .ok (.if_icmp .ge 41, 3) := by decide +kernel
theorem dX11_lineOf_34 : decode cX11_lineOf 34 = .ok (.aload_n 0, 1) := by decide +kernel
theorem dX11_lineOf_35 : decode cX11_lineOf 35 = .ok (.bipush 26, 2) := by decide +kernel
theorem dX11_lineOf_37 : decode cX11_lineOf 37 = .ok (.iconst 2, 1) := by decide +kernel
theorem dX11_lineOf_38 : decode cX11_lineOf 38 = .ok (.iload 5, 2) := by decide +kernel
theorem dX11_lineOf_40 : decode cX11_lineOf 40 = .ok (.imul, 1) := by decide +kernel
theorem dX11_lineOf_41 : decode cX11_lineOf 41 = .ok (.iadd, 1) := by decide +kernel
theorem dX11_lineOf_42 : decode cX11_lineOf 42 = .ok (.iaload, 1) := by decide +kernel
theorem dX11_lineOf_43 : decode cX11_lineOf 43 = .ok (.iload_n 3, 1) := by decide +kernel
theorem dX11_lineOf_44 : decode cX11_lineOf 44 = .ok (.if_icmp .ne 22, 3) := by decide +kernel
theorem dX11_lineOf_47 : decode cX11_lineOf 47 = .ok (.aload_n 0, 1) := by decide +kernel
theorem dX11_lineOf_48 : decode cX11_lineOf 48 = .ok (.bipush 26, 2) := by decide +kernel
theorem dX11_lineOf_50 : decode cX11_lineOf 50 = .ok (.iconst 2, 1) := by decide +kernel
theorem dX11_lineOf_51 : decode cX11_lineOf 51 = .ok (.iload 5, 2) := by decide +kernel
theorem dX11_lineOf_53 : decode cX11_lineOf 53 = .ok (.imul, 1) := by decide +kernel
theorem dX11_lineOf_54 : decode cX11_lineOf 54 = .ok (.iadd, 1) := by decide +kernel
theorem dX11_lineOf_55 : decode cX11_lineOf 55 = .ok (.iconst 1, 1) := by decide +kernel
theorem dX11_lineOf_56 : decode cX11_lineOf 56 = .ok (.iadd, 1) := by decide +kernel
theorem dX11_lineOf_57 : decode cX11_lineOf 57 = .ok (.iaload, 1) := by decide +kernel
theorem dX11_lineOf_58 : decode cX11_lineOf 58 = .ok (.iload 4, 2) := by decide +kernel
theorem dX11_lineOf_60 : decode cX11_lineOf 60 = .ok (.if_icmp .ne 6, 3) := by decide +kernel
theorem dX11_lineOf_63 : decode cX11_lineOf 63 = .ok (.iload 5, 2) := by decide +kernel
theorem dX11_lineOf_65 : decode cX11_lineOf 65 = .ok (.ireturn, 1) := by decide +kernel
theorem dX11_lineOf_66 : decode cX11_lineOf 66 = .ok (.iinc 5 1, 3) := by decide +kernel
theorem dX11_lineOf_69 : decode cX11_lineOf 69 = .ok (.goto (-43), 3) := by decide +kernel
theorem dX11_lineOf_72 : decode cX11_lineOf 72 = .ok (.iconst (-1), 1) := by decide +kernel
theorem dX11_lineOf_73 : decode cX11_lineOf 73 = .ok (.ireturn, 1) := by decide +kernel
theorem dX11_adds_0 : decode cX11_adds 0 = .ok (.bipush 26, 2) := by decide +kernel
theorem dX11_adds_2 : decode cX11_adds 2 = .ok (.iconst 2, 1) := by decide +kernel
theorem dX11_adds_3 : decode cX11_adds 3 = .ok (.aload_n 0, 1) := by decide +kernel
theorem dX11_adds_4 : decode cX11_adds 4 = .ok (.iconst 1, 1) := by decide +kernel
theorem dX11_adds_5 : decode cX11_adds 5 = .ok (.iaload, 1) := by decide +kernel
theorem dX11_adds_6 : decode cX11_adds 6 = .ok (.imul, 1) := by decide +kernel
theorem dX11_adds_7 : decode cX11_adds 7 = .ok (.iadd, 1) := by decide +kernel
theorem dX11_adds_8 : decode cX11_adds 8 = .ok (.istore 4, 2) := by decide +kernel
theorem dX11_adds_10 : decode cX11_adds 10 = .ok (.aload_n 0, 1) := by decide +kernel
theorem dX11_adds_11 : decode cX11_adds 11 = .ok (.sipush 146, 3) := by decide +kernel
theorem dX11_adds_14 : decode cX11_adds 14 = .ok (.aload_n 0, 1) := by decide +kernel
theorem dX11_adds_15 : decode cX11_adds 15 = .ok (.iconst 1, 1) := by decide +kernel
theorem dX11_adds_16 : decode cX11_adds 16 = .ok (.iaload, 1) := by decide +kernel
theorem dX11_adds_17 : decode cX11_adds 17 = .ok (.iadd, 1) := by decide +kernel
theorem dX11_adds_18 : decode cX11_adds 18 = .ok (.iload_n 3, 1) := by decide +kernel
theorem dX11_adds_19 : decode cX11_adds 19 = .ok (.iastore, 1) := by decide +kernel
theorem dX11_adds_20 : decode cX11_adds 20 = .ok (.aload_n 0, 1) := by decide +kernel
theorem dX11_adds_21 : decode cX11_adds 21 = .ok (.iload 4, 2) := by decide +kernel
theorem dX11_adds_23 : decode cX11_adds 23 = .ok (.iload_n 1, 1) := by decide +kernel
theorem dX11_adds_24 : decode cX11_adds 24 = .ok (.iload_n 2, 1) := by decide +kernel
theorem dX11_adds_25 : decode cX11_adds 25 = .ok (.if_icmp .ge 7, 3) := by decide +kernel
theorem dX11_adds_28 : decode cX11_adds 28 = .ok (.iload_n 1, 1) := by decide +kernel
theorem dX11_adds_29 : decode cX11_adds 29 = .ok (.goto 4, 3) := by decide +kernel
theorem dX11_adds_32 : decode cX11_adds 32 = .ok (.iload_n 2, 1) := by decide +kernel
theorem dX11_adds_33 : decode cX11_adds 33 = .ok (.iastore, 1) := by decide +kernel
theorem dX11_adds_34 : decode cX11_adds 34 = .ok (.aload_n 0, 1) := by decide +kernel
theorem dX11_adds_35 : decode cX11_adds 35 = .ok (.iload 4, 2) := by decide +kernel
theorem dX11_adds_37 : decode cX11_adds 37 = .ok (.iconst 1, 1) := by decide +kernel
theorem dX11_adds_38 : decode cX11_adds 38 = .ok (.iadd, 1) := by decide +kernel
theorem dX11_adds_39 : decode cX11_adds 39 = .ok (.iload_n 1, 1) := by decide +kernel
theorem dX11_adds_40 : decode cX11_adds 40 = .ok (.iload_n 2, 1) := by decide +kernel
theorem dX11_adds_41 : decode cX11_adds 41 = .ok (.if_icmp .ge 7, 3) := by decide +kernel
theorem dX11_adds_44 : decode cX11_adds 44 = .ok (.iload_n 2, 1) := by decide +kernel
theorem dX11_adds_45 : decode cX11_adds 45 = .ok (.goto 4, 3) := by decide +kernel
theorem dX11_adds_48 : decode cX11_adds 48 = .ok (.iload_n 1, 1) := by decide +kernel
theorem dX11_adds_49 : decode cX11_adds 49 = .ok (.iastore, 1) := by decide +kernel
theorem dX11_adds_50 : decode cX11_adds 50 = .ok (.aload_n 0, 1) := by decide +kernel
theorem dX11_adds_51 : decode cX11_adds 51 = .ok (.iconst 1, 1) := by decide +kernel
theorem dX11_adds_52 : decode cX11_adds 52 = .ok (.dup2, 1) := by decide +kernel
theorem dX11_adds_53 : decode cX11_adds 53 = .ok (.iaload, 1) := by decide +kernel
theorem dX11_adds_54 : decode cX11_adds 54 = .ok (.iconst 1, 1) := by decide +kernel
theorem dX11_adds_55 : decode cX11_adds 55 = .ok (.iadd, 1) := by decide +kernel
theorem dX11_adds_56 : decode cX11_adds 56 = .ok (.iastore, 1) := by decide +kernel
theorem dX11_adds_57 : decode cX11_adds 57 = .ok (.return_, 1) := by decide +kernel
theorem dX11_nodeNamed_0 : decode cX11_nodeNamed 0 = .ok (.iconst 0, 1) := by decide +kernel
theorem dX11_nodeNamed_1 : decode cX11_nodeNamed 1 = .ok (.istore_n 2, 1) := by decide +kernel
theorem dX11_nodeNamed_2 : decode cX11_nodeNamed 2 = .ok (.iload_n 2, 1) := by decide +kernel
theorem dX11_nodeNamed_3 : decode cX11_nodeNamed 3 = .ok (.aload_n 0, 1) := by decide +kernel
theorem dX11_nodeNamed_4 : decode cX11_nodeNamed 4 = .ok (.iconst 0, 1) := by decide +kernel
theorem dX11_nodeNamed_5 : decode cX11_nodeNamed 5 = .ok (.iaload, 1) := by decide +kernel
theorem dX11_nodeNamed_6 : decode cX11_nodeNamed 6 = .ok (.if_icmp .ge 20, 3) := by decide +kernel
theorem dX11_nodeNamed_9 : decode cX11_nodeNamed 9 = .ok (.aload_n 0, 1) := by decide +kernel
theorem dX11_nodeNamed_10 : decode cX11_nodeNamed 10 = .ok (.iconst 2, 1) := by decide +kernel
theorem dX11_nodeNamed_11 : decode cX11_nodeNamed 11 = .ok (.iload_n 2, 1) := by decide +kernel
theorem dX11_nodeNamed_12 : decode cX11_nodeNamed 12 = .ok (.iadd, 1) := by decide +kernel
theorem dX11_nodeNamed_13 : decode cX11_nodeNamed 13 = .ok (.iaload, 1) := by decide +kernel
theorem dX11_nodeNamed_14 : decode cX11_nodeNamed 14 = .ok (.iload_n 1, 1) := by decide +kernel
theorem dX11_nodeNamed_15 : decode cX11_nodeNamed 15 = .ok (.if_icmp .ne 5, 3) := by decide +kernel
theorem dX11_nodeNamed_18 : decode cX11_nodeNamed 18 = .ok (.iload_n 2, 1) := by decide +kernel
theorem dX11_nodeNamed_19 : decode cX11_nodeNamed 19 = .ok (.ireturn, 1) := by decide +kernel
theorem dX11_nodeNamed_20 : decode cX11_nodeNamed 20 = .ok (.iinc 2 1, 3) := by decide +kernel
theorem dX11_nodeNamed_23 : decode cX11_nodeNamed 23 = .ok (.goto (-21), 3) := by decide +kernel
theorem dX11_nodeNamed_26 : decode cX11_nodeNamed 26 = .ok (.iconst (-1), 1) := by decide +kernel
theorem dX11_nodeNamed_27 : decode cX11_nodeNamed 27 = .ok (.ireturn, 1) := by decide +kernel
theorem dX11_room_0 : decode cX11_room 0 = .ok (.aload_n 0, 1) := by decide +kernel
theorem dX11_room_1 : decode cX11_room 1 = .ok (.invokevirtual 128, 3) := by decide +kernel
theorem dX11_room_4 : decode cX11_room 4 = .ok (.pop, 1) := by decide +kernel
theorem dX11_room_5 : decode cX11_room 5 = .ok (.iload_n 1, 1) := by decide +kernel
theorem dX11_room_6 : decode cX11_room 6 = .ok (.bipush 24, 2) := by decide +kernel
theorem dX11_room_8 : decode cX11_room 8 = .ok (.if_icmp .ne 27, 3) := by decide +kernel
theorem dX11_room_11 : decode cX11_room 11 = .ok (.aload_n 0, 1) := by decide +kernel
theorem dX11_room_12 : decode cX11_room 12 = .ok (.aload_n 0, 1) := by decide +kernel
theorem dX11_room_13 : decode cX11_room 13 = .ok (.getfield 122, 3) := by decide +kernel
theorem dX11_room_16 : decode cX11_room 16 = .ok (.aload_n 0, 1) := by decide +kernel
theorem dX11_room_17 : decode cX11_room 17 = .ok (.getfield 125, 3) := by decide +kernel
theorem dX11_room_20 : decode cX11_room 20 = .ok (.if_icmp .ne 7, 3) := by decide +kernel
theorem dX11_room_23 : decode cX11_room 23 = .ok (.iconst 1, 1) := by decide +kernel
theorem dX11_room_24 : decode cX11_room 24 = .ok (.goto 4, 3) := by decide +kernel
theorem dX11_room_27 : decode cX11_room 27 = .ok (.iconst 5, 1) := by decide +kernel
theorem dX11_room_28 : decode cX11_room 28 = .ok (.aload_n 0, 1) := by decide +kernel
theorem dX11_room_29 : decode cX11_room 29 = .ok (.getfield 122, 3) := by decide +kernel
theorem dX11_room_32 : decode cX11_room 32 = .ok (.invokevirtual 135, 3) := by decide +kernel
theorem dX11_room_35 : decode cX11_room 35 = .ok (.return_, 1) := by decide +kernel
theorem dX11_nodesTold_0 : decode cX11_nodesTold 0 = .ok (.aload_n 0, 1) := by decide +kernel
theorem dX11_nodesTold_1 : decode cX11_nodesTold 1 = .ok (.getfield 116, 3) := by decide +kernel
theorem dX11_nodesTold_4 : decode cX11_nodesTold 4 = .ok (.ifCond .ne 7, 3) := by decide +kernel
theorem dX11_nodesTold_7 : decode cX11_nodesTold 7 = .ok (.iconst 1, 1) := by decide +kernel
theorem dX11_nodesTold_8 : decode cX11_nodesTold 8 = .ok (.goto 4, 3) := by decide +kernel
theorem dX11_nodesTold_11 : decode cX11_nodesTold 11 = .ok (.iconst 0, 1) := by decide +kernel
theorem dX11_nodesTold_12 : decode cX11_nodesTold 12 = .ok (.istore_n 1, 1) := by decide +kernel
theorem dX11_nodesTold_13 : decode cX11_nodesTold 13 = .ok (.iload_n 1, 1) := by decide +kernel
theorem dX11_nodesTold_14 : decode cX11_nodesTold 14 = .ok (.ifCond .eq 87, 3) := by decide +kernel
theorem dX11_nodesTold_17 : decode cX11_nodesTold 17 = .ok (.aload_n 0, 1) := by decide +kernel
theorem dX11_nodesTold_18 : decode cX11_nodesTold 18 = .ok (.aload_n 0, 1) := by decide +kernel
theorem dX11_nodesTold_19 : decode cX11_nodesTold 19 = .ok (.getfield 20, 3) := by decide +kernel
theorem dX11_nodesTold_22 : decode cX11_nodesTold 22 = .ok (.iconst 0, 1) := by decide +kernel
theorem dX11_nodesTold_23 : decode cX11_nodesTold 23 = .ok (.iaload, 1) := by decide +kernel
theorem dX11_nodesTold_24 : decode cX11_nodesTold 24 = .ok (.invokevirtual 158, 3) := by decide +kernel
theorem dX11_nodesTold_27 : decode cX11_nodesTold 27 = .ok (.aload_n 0, 1) := by decide +kernel
theorem dX11_nodesTold_28 : decode cX11_nodesTold 28 = .ok (.invokevirtual 162, 3) := by decide +kernel
theorem dX11_nodesTold_31 : decode cX11_nodesTold 31 = .ok (.istore_n 2, 1) := by decide +kernel
theorem dX11_nodesTold_32 : decode cX11_nodesTold 32 = .ok (.aload_n 0, 1) := by decide +kernel
theorem dX11_nodesTold_33 : decode cX11_nodesTold 33 = .ok (.getfield 116, 3) := by decide +kernel
theorem dX11_nodesTold_36 : decode cX11_nodesTold 36 = .ok (.ifCond .ne 24, 3) := by decide +kernel
theorem dX11_nodesTold_39 : decode cX11_nodesTold 39 = .ok (.aload_n 0, 1) := by decide +kernel
theorem dX11_nodesTold_40 : decode cX11_nodesTold 40 = .ok (.getfield 20, 3) := by decide +kernel
theorem dX11_nodesTold_43 : decode cX11_nodesTold 43 = .ok (.iload_n 2, 1) := by decide +kernel
theorem dX11_nodesTold_44 : decode cX11_nodesTold 44 = .ok (.invokestatic 165, 3) := by decide +kernel
theorem dX11_nodesTold_47 : decode cX11_nodesTold 47 = .ok (.iconst (-1), 1) := by decide +kernel
theorem dX11_nodesTold_48 : decode cX11_nodesTold 48 = .ok (.if_icmp .eq 12, 3) := by decide +kernel
theorem dX11_nodesTold_51 : decode cX11_nodesTold 51 = .ok (.aload_n 0, 1) := by decide +kernel
theorem dX11_nodesTold_52 : decode cX11_nodesTold 52 = .ok (.iconst 3, 1) := by decide +kernel
theorem dX11_nodesTold_53 : decode cX11_nodesTold 53 = .ok (.aload_n 0, 1) := by decide +kernel
theorem dX11_nodesTold_54 : decode cX11_nodesTold 54 = .ok (.getfield 155, 3) := by decide +kernel
theorem dX11_nodesTold_57 : decode cX11_nodesTold 57 = .ok (.invokevirtual 135, 3) := by decide +kernel
theorem dX11_nodesTold_60 : decode cX11_nodesTold 60 = .ok (.aload_n 0, 1) := by decide +kernel
theorem dX11_nodesTold_61 : decode cX11_nodesTold 61 = .ok (.getfield 116, 3) := by decide +kernel
theorem dX11_nodesTold_64 : decode cX11_nodesTold 64 = .ok (.ifCond .ne 27, 3) := by decide +kernel
theorem dX11_nodesTold_67 : decode cX11_nodesTold 67 = .ok (.aload_n 0, 1) := by decide +kernel
theorem dX11_nodesTold_68 : decode cX11_nodesTold 68 = .ok (.getfield 20, 3) := by decide +kernel
theorem dX11_nodesTold_71 : decode cX11_nodesTold 71 = .ok (.iconst 2, 1) := by decide +kernel
theorem dX11_nodesTold_72 : decode cX11_nodesTold 72 = .ok (.aload_n 0, 1) := by decide +kernel
theorem dX11_nodesTold_73 : decode cX11_nodesTold 73 = .ok (.getfield 20, 3) := by decide +kernel
theorem dX11_nodesTold_76 : decode cX11_nodesTold 76 = .ok (.iconst 0, 1) := by decide +kernel
theorem dX11_nodesTold_77 : decode cX11_nodesTold 77 = .ok (.iaload, 1) := by decide +kernel
theorem dX11_nodesTold_78 : decode cX11_nodesTold 78 = .ok (.iadd, 1) := by decide +kernel
theorem dX11_nodesTold_79 : decode cX11_nodesTold 79 = .ok (.iload_n 2, 1) := by decide +kernel
theorem dX11_nodesTold_80 : decode cX11_nodesTold 80 = .ok (.iastore, 1) := by decide +kernel
theorem dX11_nodesTold_81 : decode cX11_nodesTold 81 = .ok (.aload_n 0, 1) := by decide +kernel
theorem dX11_nodesTold_82 : decode cX11_nodesTold 82 = .ok (.getfield 20, 3) := by decide +kernel
theorem dX11_nodesTold_85 : decode cX11_nodesTold 85 = .ok (.iconst 0, 1) := by decide +kernel
theorem dX11_nodesTold_86 : decode cX11_nodesTold 86 = .ok (.dup2, 1) := by decide +kernel
theorem dX11_nodesTold_87 : decode cX11_nodesTold 87 = .ok (.iaload, 1) := by decide +kernel
theorem dX11_nodesTold_88 : decode cX11_nodesTold 88 = .ok (.iconst 1, 1) := by decide +kernel
theorem dX11_nodesTold_89 : decode cX11_nodesTold 89 = .ok (.iadd, 1) := by decide +kernel
theorem dX11_nodesTold_90 : decode cX11_nodesTold 90 = .ok (.iastore, 1) := by decide +kernel
theorem dX11_nodesTold_91 : decode cX11_nodesTold 91 = .ok (.aload_n 0, 1) := by decide +kernel
theorem dX11_nodesTold_92 : decode cX11_nodesTold 92 = .ok (.bipush 44, 2) := by decide +kernel
theorem dX11_nodesTold_94 : decode cX11_nodesTold 94 = .ok (.invokevirtual 132, 3) := by decide +kernel
theorem dX11_nodesTold_97 : decode cX11_nodesTold 97 = .ok (.istore_n 1, 1) := by decide +kernel
theorem dX11_nodesTold_98 : decode cX11_nodesTold 98 = .ok (.goto (-85), 3) := by decide +kernel
theorem dX11_nodesTold_101 : decode cX11_nodesTold 101 = .ok (.return_, 1) := by decide +kernel
theorem dX11_wayTold_0 : decode cX11_wayTold 0 = .ok (.iconst 0, 1) := by decide +kernel
theorem dX11_wayTold_1 : decode cX11_wayTold 1 = .ok (.istore_n 1, 1) := by decide +kernel
theorem dX11_wayTold_2 : decode cX11_wayTold 2 = .ok (.iconst (-1), 1) := by decide +kernel
theorem dX11_wayTold_3 : decode cX11_wayTold 3 = .ok (.istore_n 2, 1) := by decide +kernel
theorem dX11_wayTold_4 : decode cX11_wayTold 4 = .ok (.aload_n 0, 1) := by decide +kernel
theorem dX11_wayTold_5 : decode cX11_wayTold 5 = .ok (.getfield 116, 3) := by decide +kernel
theorem dX11_wayTold_8 : decode cX11_wayTold 8 = .ok (.ifCond .ne 7, 3) := by decide +kernel
theorem dX11_wayTold_11 : decode cX11_wayTold 11 = .ok (.iconst 1, 1) := by decide +kernel
theorem dX11_wayTold_12 : decode cX11_wayTold 12 = .ok (.goto 4, 3) := by decide +kernel
theorem dX11_wayTold_15 : decode cX11_wayTold 15 = .ok (.iconst 0, 1) := by decide +kernel
theorem dX11_wayTold_16 : decode cX11_wayTold 16 = .ok (.istore_n 3, 1) := by decide +kernel
theorem dX11_wayTold_17 : decode cX11_wayTold 17 = .ok (.iload_n 3, 1) := by decide +kernel
theorem dX11_wayTold_18 : decode cX11_wayTold 18 = .ok (.ifCond .eq 198, 3) := by decide +kernel
theorem dX11_wayTold_21 : decode cX11_wayTold 21 = .ok (.aload_n 0, 1) := by decide +kernel
theorem dX11_wayTold_22 : decode cX11_wayTold 22 = .ok (.iload_n 1, 1) := by decide +kernel
theorem dX11_wayTold_23 : decode cX11_wayTold 23 = .ok (.invokevirtual 158, 3) := by decide +kernel
theorem dX11_wayTold_26 : decode cX11_wayTold 26 = .ok (.aload_n 0, 1) := by decide +kernel
theorem dX11_wayTold_27 : decode cX11_wayTold 27 = .ok (.invokevirtual 162, 3) := by decide +kernel
theorem dX11_wayTold_30 : decode cX11_wayTold 30 = .ok (.istore 4, 2) := by decide +kernel
theorem dX11_wayTold_32 : decode cX11_wayTold 32 = .ok (.aload_n 0, 1) := by decide +kernel
theorem dX11_wayTold_33 : decode cX11_wayTold 33 = .ok (.getfield 116, 3) := by decide +kernel
theorem dX11_wayTold_36 : decode cX11_wayTold 36 = .ok (.ifCond .ne 15, 3) := by decide +kernel
theorem dX11_wayTold_39 : decode cX11_wayTold 39 = .ok (.aload_n 0, 1) := by decide +kernel
theorem dX11_wayTold_40 : decode cX11_wayTold 40 = .ok (.getfield 20, 3) := by decide +kernel
theorem dX11_wayTold_43 : decode cX11_wayTold 43 = .ok (.iload 4, 2) := by decide +kernel
theorem dX11_wayTold_45 : decode cX11_wayTold 45 = .ok (.invokestatic 165, 3) := by decide +kernel
theorem dX11_wayTold_48 : decode cX11_wayTold 48 = .ok (.goto 4, 3) := by decide +kernel
theorem dX11_wayTold_51 : decode cX11_wayTold 51 = .ok (.iconst (-1), 1) := by decide +kernel
theorem dX11_wayTold_52 : decode cX11_wayTold 52 = .ok (.istore 5, 2) := by decide +kernel
theorem dX11_wayTold_54 : decode cX11_wayTold 54 = .ok (.aload_n 0, 1) := by decide +kernel
theorem dX11_wayTold_55 : decode cX11_wayTold 55 = .ok (.getfield 116, 3) := by decide +kernel
theorem dX11_wayTold_58 : decode cX11_wayTold 58 = .ok (.ifCond .ne 18, 3) := by decide +kernel
theorem dX11_wayTold_61 : decode cX11_wayTold 61 = .ok (.iload 5, 2) := by decide +kernel
theorem dX11_wayTold_63 : decode cX11_wayTold 63 = .ok (.iconst (-1), 1) := by decide +kernel
theorem dX11_wayTold_64 : decode cX11_wayTold 64 = .ok (.if_icmp .ne 12, 3) := by decide +kernel
theorem dX11_wayTold_67 : decode cX11_wayTold 67 = .ok (.aload_n 0, 1) := by decide +kernel
theorem dX11_wayTold_68 : decode cX11_wayTold 68 = .ok (.iconst 3, 1) := by decide +kernel
theorem dX11_wayTold_69 : decode cX11_wayTold 69 = .ok (.aload_n 0, 1) := by decide +kernel
theorem dX11_wayTold_70 : decode cX11_wayTold 70 = .ok (.getfield 155, 3) := by decide +kernel
theorem dX11_wayTold_73 : decode cX11_wayTold 73 = .ok (.invokevirtual 135, 3) := by decide +kernel
theorem dX11_wayTold_76 : decode cX11_wayTold 76 = .ok (.aload_n 0, 1) := by decide +kernel
theorem dX11_wayTold_77 : decode cX11_wayTold 77 = .ok (.getfield 116, 3) := by decide +kernel
theorem dX11_wayTold_80 : decode cX11_wayTold 80 = .ok (.ifCond .ne 36, 3) := by decide +kernel
theorem dX11_wayTold_83 : decode cX11_wayTold 83 = .ok (.iload_n 1, 1) := by decide +kernel
theorem dX11_wayTold_84 : decode cX11_wayTold 84 = .ok (.ifCond .le 32, 3) := by decide +kernel
theorem dX11_wayTold_87 : decode cX11_wayTold 87 = .ok (.iload 5, 2) := by decide +kernel
theorem dX11_wayTold_89 : decode cX11_wayTold 89 = .ok (.iload_n 2, 1) := by decide +kernel
theorem dX11_wayTold_90 : decode cX11_wayTold 90 = .ok (.if_icmp .eq 17, 3) := by decide +kernel
theorem dX11_wayTold_93 : decode cX11_wayTold 93 = .ok (.aload_n 0, 1) := by decide +kernel
theorem dX11_wayTold_94 : decode cX11_wayTold 94 = .ok (.getfield 20, 3) := by decide +kernel
theorem dX11_wayTold_97 : decode cX11_wayTold 97 = .ok (.iload_n 2, 1) := by decide +kernel
theorem dX11_wayTold_98 : decode cX11_wayTold 98 = .ok (.iload 5, 2) := by decide +kernel
theorem dX11_wayTold_100 : decode cX11_wayTold 100 = .ok (.invokestatic 169, 3) := by decide +kernel
theorem dX11_wayTold_103 : decode cX11_wayTold 103 = .ok (.iconst (-1), 1) := by decide +kernel
theorem dX11_wayTold_104 : decode cX11_wayTold 104 = .ok (.if_icmp .eq 12, 3) := by decide +kernel
theorem dX11_wayTold_107 : decode cX11_wayTold 107 = .ok (.aload_n 0, 1) := by decide +kernel
theorem dX11_wayTold_108 : decode cX11_wayTold 108 = .ok (.iconst 4, 1) := by decide +kernel
theorem dX11_wayTold_109 : decode cX11_wayTold 109 = .ok (.aload_n 0, 1) := by decide +kernel
theorem dX11_wayTold_110 : decode cX11_wayTold 110 = .ok (.getfield 155, 3) := by decide +kernel
theorem dX11_wayTold_113 : decode cX11_wayTold 113 = .ok (.invokevirtual 135, 3) := by decide +kernel
theorem dX11_wayTold_116 : decode cX11_wayTold 116 = .ok (.aload_n 0, 1) := by decide +kernel
theorem dX11_wayTold_117 : decode cX11_wayTold 117 = .ok (.getfield 116, 3) := by decide +kernel
theorem dX11_wayTold_120 : decode cX11_wayTold 120 = .ok (.ifCond .ne 27, 3) := by decide +kernel
theorem dX11_wayTold_123 : decode cX11_wayTold 123 = .ok (.iload_n 1, 1) := by decide +kernel
theorem dX11_wayTold_124 : decode cX11_wayTold 124 = .ok (.ifCond .le 23, 3) := by decide +kernel
theorem dX11_wayTold_127 : decode cX11_wayTold 127 = .ok (.aload_n 0, 1) := by decide +kernel
theorem dX11_wayTold_128 : decode cX11_wayTold 128 = .ok (.getfield 20, 3) := by decide +kernel
theorem dX11_wayTold_131 : decode cX11_wayTold 131 = .ok (.iconst 1, 1) := by decide +kernel
theorem dX11_wayTold_132 : decode cX11_wayTold 132 = .ok (.iaload, 1) := by decide +kernel
theorem dX11_wayTold_133 : decode cX11_wayTold 133 = .ok (.bipush 60, 2) := by decide +kernel
theorem dX11_wayTold_135 : decode cX11_wayTold 135 = .ok (.if_icmp .ne 12, 3) := by decide +kernel
theorem dX11_wayTold_138 : decode cX11_wayTold 138 = .ok (.aload_n 0, 1) := by decide +kernel
theorem dX11_wayTold_139 : decode cX11_wayTold 139 = .ok (.iconst 5, 1) := by decide +kernel
theorem dX11_wayTold_140 : decode cX11_wayTold 140 = .ok (.aload_n 0, 1) := by decide +kernel
theorem dX11_wayTold_141 : decode cX11_wayTold 141 = .ok (.getfield 155, 3) := by decide +kernel
theorem dX11_wayTold_144 : decode cX11_wayTold 144 = .ok (.invokevirtual 135, 3) := by decide +kernel
theorem dX11_wayTold_147 : decode cX11_wayTold 147 = .ok (.aload_n 0, 1) := by decide +kernel
theorem dX11_wayTold_148 : decode cX11_wayTold 148 = .ok (.getfield 116, 3) := by decide +kernel
theorem dX11_wayTold_151 : decode cX11_wayTold 151 = .ok (.ifCond .ne 18, 3) := by decide +kernel
theorem dX11_wayTold_154 : decode cX11_wayTold 154 = .ok (.iload_n 1, 1) := by decide +kernel
theorem dX11_wayTold_155 : decode cX11_wayTold 155 = .ok (.ifCond .le 14, 3) := by decide +kernel
theorem dX11_wayTold_158 : decode cX11_wayTold 158 = .ok (.aload_n 0, 1) := by decide +kernel
theorem dX11_wayTold_159 : decode cX11_wayTold 159 = .ok (.getfield 20, 3) := by decide +kernel
theorem dX11_wayTold_162 : decode cX11_wayTold 162 = .ok (.iload_n 2, 1) := by decide +kernel
theorem dX11_wayTold_163 : decode cX11_wayTold 163 = .ok (.iload 5, 2) := by decide +kernel
theorem dX11_wayTold_165 : decode cX11_wayTold 165 = .ok (.iconst 1, 1) := by decide +kernel
theorem dX11_wayTold_166 : decode cX11_wayTold 166 = .ok (.invokestatic 173, 3) := by decide +kernel
theorem dX11_wayTold_169 : decode cX11_wayTold 169 = .ok (.iload 5, 2) := by decide +kernel
theorem dX11_wayTold_171 : decode cX11_wayTold 171 = .ok (.istore_n 2, 1) := by decide +kernel
theorem dX11_wayTold_172 : decode cX11_wayTold 172 = .ok (.iinc 1 1, 3) := by decide +kernel
theorem dX11_wayTold_175 : decode cX11_wayTold 175 = .ok (.iload_n 1, 1) := by decide +kernel
theorem dX11_wayTold_176 : decode cX11_wayTold 176 = .ok (.iconst 1, 1) := by decide +kernel
theorem dX11_wayTold_177 : decode cX11_wayTold 177 = .ok (.if_icmp .ne 9, 3) := by decide +kernel
theorem dX11_wayTold_180 : decode cX11_wayTold 180 = .ok (.aload_n 0, 1) := by decide +kernel
theorem dX11_wayTold_181 : decode cX11_wayTold 181 = .ok (.bipush 44, 2) := by decide +kernel
theorem dX11_wayTold_183 : decode cX11_wayTold 183 = .ok (.invokevirtual 177, 3) := by decide +kernel
theorem dX11_wayTold_186 : decode cX11_wayTold 186 = .ok (.aload_n 0, 1) := by decide +kernel
theorem dX11_wayTold_187 : decode cX11_wayTold 187 = .ok (.getfield 116, 3) := by decide +kernel
theorem dX11_wayTold_190 : decode cX11_wayTold 190 = .ok (.ifCond .ne 21, 3) := by decide +kernel
theorem dX11_wayTold_193 : decode cX11_wayTold 193 = .ok (.iload_n 1, 1) := by decide +kernel
theorem dX11_wayTold_194 : decode cX11_wayTold 194 = .ok (.iconst 1, 1) := by decide +kernel
theorem dX11_wayTold_195 : decode cX11_wayTold 195 = .ok (.if_icmp .eq 12, 3) := by decide +kernel
theorem dX11_wayTold_198 : decode cX11_wayTold 198 = .ok (.aload_n 0, 1) := by decide +kernel
theorem dX11_wayTold_199 : decode cX11_wayTold 199 = .ok (.bipush 44, 2) := by decide +kernel
theorem dX11_wayTold_201 : decode cX11_wayTold 201 = .ok (.invokevirtual 132, 3) := by decide +kernel
theorem dX11_wayTold_204 : decode cX11_wayTold 204 = .ok (.ifCond .eq 7, 3) := by decide +kernel
theorem dX11_wayTold_207 : decode cX11_wayTold 207 = .ok (.iconst 1, 1) := by decide +kernel
theorem dX11_wayTold_208 : decode cX11_wayTold 208 = .ok (.goto 4, 3) := by decide +kernel
theorem dX11_wayTold_211 : decode cX11_wayTold 211 = .ok (.iconst 0, 1) := by decide +kernel
theorem dX11_wayTold_212 : decode cX11_wayTold 212 = .ok (.istore_n 3, 1) := by decide +kernel
theorem dX11_wayTold_213 : decode cX11_wayTold 213 = .ok (.goto (-196), 3) := by decide +kernel
theorem dX11_wayTold_216 : decode cX11_wayTold 216 = .ok (.return_, 1) := by decide +kernel
theorem dX11_statementTold_0 : decode cX11_statementTold 0 = .ok (.aload_n 0, 1) := by decide +kernel
theorem dX11_statementTold_1 : decode cX11_statementTold 1 = .ok (.invokevirtual 128, 3) := by decide +kernel
theorem dX11_statementTold_4 : decode cX11_statementTold 4 = .ok (.pop, 1) := by decide +kernel
theorem dX11_statementTold_5 : decode cX11_statementTold 5 = .ok (.aload_n 0, 1) := by decide +kernel
theorem dX11_statementTold_6 : decode cX11_statementTold 6 = .ok (.getfield 122, 3) := by decide +kernel
theorem dX11_statementTold_9 : decode cX11_statementTold 9 = .ok (.istore_n 1, 1) := by decide +kernel
theorem dX11_statementTold_10 : decode cX11_statementTold 10 = .ok (.aload_n 0, 1) := by decide +kernel
theorem dX11_statementTold_11 : decode cX11_statementTold 11 = .ok (.invokevirtual 152, 3) := by decide +kernel
theorem dX11_statementTold_14 : decode cX11_statementTold 14 = .ok (.istore_n 2, 1) := by decide +kernel
theorem dX11_statementTold_15 : decode cX11_statementTold 15 = .ok (.iload_n 2, 1) := by decide +kernel
theorem dX11_statementTold_16 : decode cX11_statementTold 16 = .ok (.iconst (-1), 1) := by decide +kernel
theorem dX11_statementTold_17 : decode cX11_statementTold 17 = .ok (.if_icmp .eq 19, 3) := by decide +kernel
theorem dX11_statementTold_20 : decode cX11_statementTold 20 = .ok (.iload_n 2, 1) := by decide +kernel
theorem dX11_statementTold_21 : decode cX11_statementTold 21 = .ok (.aload_n 0, 1) := by decide +kernel
theorem dX11_statementTold_22 : decode cX11_statementTold 22 = .ok (.getfield 180, 3) := by decide +kernel
theorem dX11_statementTold_25 : decode cX11_statementTold 25 = .ok (.ifCond .ne 7, 3) := by decide +kernel
theorem dX11_statementTold_28 : decode cX11_statementTold 28 = .ok (.iconst 0, 1) := by decide +kernel
theorem dX11_statementTold_29 : decode cX11_statementTold 29 = .ok (.goto 4, 3) := by decide +kernel
theorem dX11_statementTold_32 : decode cX11_statementTold 32 = .ok (.iconst 1, 1) := by decide +kernel
theorem dX11_statementTold_33 : decode cX11_statementTold 33 = .ok (.if_icmp .eq 9, 3) := by decide +kernel
theorem dX11_statementTold_36 : decode cX11_statementTold 36 = .ok (.aload_n 0, 1) := by decide +kernel
theorem dX11_statementTold_37 : decode cX11_statementTold 37 = .ok (.iconst 1, 1) := by decide +kernel
theorem dX11_statementTold_38 : decode cX11_statementTold 38 = .ok (.iload_n 1, 1) := by decide +kernel
theorem dX11_statementTold_39 : decode cX11_statementTold 39 = .ok (.invokevirtual 135, 3) := by decide +kernel
theorem dX11_statementTold_42 : decode cX11_statementTold 42 = .ok (.aload_n 0, 1) := by decide +kernel
theorem dX11_statementTold_43 : decode cX11_statementTold 43 = .ok (.getfield 116, 3) := by decide +kernel
theorem dX11_statementTold_46 : decode cX11_statementTold 46 = .ok (.ifCond .ne 26, 3) := by decide +kernel
theorem dX11_statementTold_49 : decode cX11_statementTold 49 = .ok (.aload_n 0, 1) := by decide +kernel
theorem dX11_statementTold_50 : decode cX11_statementTold 50 = .ok (.iload_n 2, 1) := by decide +kernel
theorem dX11_statementTold_51 : decode cX11_statementTold 51 = .ok (.invokevirtual 183, 3) := by decide +kernel
theorem dX11_statementTold_54 : decode cX11_statementTold 54 = .ok (.ifCond .eq 18, 3) := by decide +kernel
theorem dX11_statementTold_57 : decode cX11_statementTold 57 = .ok (.iload_n 2, 1) := by decide +kernel
theorem dX11_statementTold_58 : decode cX11_statementTold 58 = .ok (.ifCond .ne 10, 3) := by decide +kernel
theorem dX11_statementTold_61 : decode cX11_statementTold 61 = .ok (.aload_n 0, 1) := by decide +kernel
theorem dX11_statementTold_62 : decode cX11_statementTold 62 = .ok (.invokevirtual 186, 3) := by decide +kernel
theorem dX11_statementTold_65 : decode cX11_statementTold 65 = .ok (.goto 7, 3) := by decide +kernel
theorem dX11_statementTold_68 : decode cX11_statementTold 68 = .ok (.aload_n 0, 1) := by decide +kernel
theorem dX11_statementTold_69 : decode cX11_statementTold 69 = .ok (.invokevirtual 189, 3) := by decide +kernel
theorem dX11_statementTold_72 : decode cX11_statementTold 72 = .ok (.aload_n 0, 1) := by decide +kernel
theorem dX11_statementTold_73 : decode cX11_statementTold 73 = .ok (.bipush 59, 2) := by decide +kernel
theorem dX11_statementTold_75 : decode cX11_statementTold 75 = .ok (.invokevirtual 177, 3) := by decide +kernel
theorem dX11_statementTold_78 : decode cX11_statementTold 78 = .ok (.aload_n 0, 1) := by decide +kernel
theorem dX11_statementTold_79 : decode cX11_statementTold 79 = .ok (.dup, 1) := by decide +kernel
theorem dX11_statementTold_80 : decode cX11_statementTold 80 = .ok (.getfield 180, 3) := by decide +kernel
theorem dX11_statementTold_83 : decode cX11_statementTold 83 = .ok (.iconst 1, 1) := by decide +kernel
theorem dX11_statementTold_84 : decode cX11_statementTold 84 = .ok (.iadd, 1) := by decide +kernel
theorem dX11_statementTold_85 : decode cX11_statementTold 85 = .ok (.putfield 180, 3) := by decide +kernel
theorem dX11_statementTold_88 : decode cX11_statementTold 88 = .ok (.return_, 1) := by decide +kernel
theorem dX11_net_0 : decode cX11_net 0 = .ok (.aload_n 0, 1) := by decide +kernel
theorem dX11_net_1 : decode cX11_net 1 = .ok (.aload_n 0, 1) := by decide +kernel
theorem dX11_net_2 : decode cX11_net 2 = .ok (.getfield 96, 3) := by decide +kernel
theorem dX11_net_5 : decode cX11_net 5 = .ok (.putfield 125, 3) := by decide +kernel
theorem dX11_net_8 : decode cX11_net 8 = .ok (.aload_n 0, 1) := by decide +kernel
theorem dX11_net_9 : decode cX11_net 9 = .ok (.iconst 0, 1) := by decide +kernel
theorem dX11_net_10 : decode cX11_net 10 = .ok (.putfield 96, 3) := by decide +kernel
theorem dX11_net_13 : decode cX11_net 13 = .ok (.aload_n 0, 1) := by decide +kernel
theorem dX11_net_14 : decode cX11_net 14 = .ok (.iconst 0, 1) := by decide +kernel
theorem dX11_net_15 : decode cX11_net 15 = .ok (.putfield 122, 3) := by decide +kernel
theorem dX11_net_18 : decode cX11_net 18 = .ok (.aload_n 0, 1) := by decide +kernel
theorem dX11_net_19 : decode cX11_net 19 = .ok (.iconst (-1), 1) := by decide +kernel
theorem dX11_net_20 : decode cX11_net 20 = .ok (.putfield 142, 3) := by decide +kernel
theorem dX11_net_23 : decode cX11_net 23 = .ok (.aload_n 0, 1) := by decide +kernel
theorem dX11_net_24 : decode cX11_net 24 = .ok (.iconst 0, 1) := by decide +kernel
theorem dX11_net_25 : decode cX11_net 25 = .ok (.putfield 116, 3) := by decide +kernel
theorem dX11_net_28 : decode cX11_net 28 = .ok (.aload_n 0, 1) := by decide +kernel
theorem dX11_net_29 : decode cX11_net 29 = .ok (.iconst (-1), 1) := by decide +kernel
theorem dX11_net_30 : decode cX11_net 30 = .ok (.putfield 119, 3) := by decide +kernel
theorem dX11_net_33 : decode cX11_net 33 = .ok (.aload_n 0, 1) := by decide +kernel
theorem dX11_net_34 : decode cX11_net 34 = .ok (.iconst 0, 1) := by decide +kernel
theorem dX11_net_35 : decode cX11_net 35 = .ok (.putfield 180, 3) := by decide +kernel
theorem dX11_net_38 : decode cX11_net 38 = .ok (.iconst 0, 1) := by decide +kernel
theorem dX11_net_39 : decode cX11_net 39 = .ok (.istore_n 1, 1) := by decide +kernel
theorem dX11_net_40 : decode cX11_net 40 = .ok (.iload_n 1, 1) := by decide +kernel
theorem dX11_net_41 : decode cX11_net 41 = .ok (.sipush 206, 3) := by decide +kernel
theorem dX11_net_44 : decode cX11_net 44 = .ok (.if_icmp .ge 16, 3) := by decide +kernel
theorem dX11_net_47 : decode cX11_net 47 = .ok (.aload_n 0, 1) := by decide +kernel
theorem dX11_net_48 : decode cX11_net 48 = .ok (.getfield 20, 3) := by decide +kernel
theorem dX11_net_51 : decode cX11_net 51 = .ok (.iload_n 1, 1) := by decide +kernel
theorem dX11_net_52 : decode cX11_net 52 = .ok (.iconst 0, 1) := by decide +kernel
theorem dX11_net_53 : decode cX11_net 53 = .ok (.iastore, 1) := by decide +kernel
theorem dX11_net_54 : decode cX11_net 54 = .ok (.iinc 1 1, 3) := by decide +kernel
theorem dX11_net_57 : decode cX11_net 57 = .ok (.goto (-17), 3) := by decide +kernel
theorem dX11_net_60 : decode cX11_net 60 = .ok (.aload_n 0, 1) := by decide +kernel
theorem dX11_net_61 : decode cX11_net 61 = .ok (.invokevirtual 192, 3) := by decide +kernel
theorem dX11_net_64 : decode cX11_net 64 = .ok (.aload_n 0, 1) := by decide +kernel
theorem dX11_net_65 : decode cX11_net 65 = .ok (.getfield 116, 3) := by decide +kernel
theorem dX11_net_68 : decode cX11_net 68 = .ok (.ifCond .ne 18, 3) := by decide +kernel
theorem dX11_net_71 : decode cX11_net 71 = .ok (.aload_n 0, 1) := by decide +kernel
theorem dX11_net_72 : decode cX11_net 72 = .ok (.invokevirtual 128, 3) := by decide +kernel
theorem dX11_net_75 : decode cX11_net 75 = .ok (.iconst (-1), 1) := by decide +kernel
theorem dX11_net_76 : decode cX11_net 76 = .ok (.if_icmp .eq 10, 3) := by decide +kernel
theorem dX11_net_79 : decode cX11_net 79 = .ok (.aload_n 0, 1) := by decide +kernel
theorem dX11_net_80 : decode cX11_net 80 = .ok (.invokevirtual 192, 3) := by decide +kernel
theorem dX11_net_83 : decode cX11_net 83 = .ok (.goto (-19), 3) := by decide +kernel
theorem dX11_net_86 : decode cX11_net 86 = .ok (.aload_n 0, 1) := by decide +kernel
theorem dX11_net_87 : decode cX11_net 87 = .ok (.aload_n 0, 1) := by decide +kernel
theorem dX11_net_88 : decode cX11_net 88 = .ok (.getfield 116, 3) := by decide +kernel
theorem dX11_net_91 : decode cX11_net 91 = .ok (.putfield 113, 3) := by decide +kernel
theorem dX11_net_94 : decode cX11_net 94 = .ok (.aload_n 0, 1) := by decide +kernel
theorem dX11_net_95 : decode cX11_net 95 = .ok (.aload_n 0, 1) := by decide +kernel
theorem dX11_net_96 : decode cX11_net 96 = .ok (.getfield 119, 3) := by decide +kernel
theorem dX11_net_99 : decode cX11_net 99 = .ok (.putfield 13, 3) := by decide +kernel
theorem dX11_net_102 : decode cX11_net 102 = .ok (.aload_n 0, 1) := by decide +kernel
theorem dX11_net_103 : decode cX11_net 103 = .ok (.getfield 116, 3) := by decide +kernel
theorem dX11_net_106 : decode cX11_net 106 = .ok (.ifCond .eq 9, 3) := by decide +kernel
theorem dX11_net_109 : decode cX11_net 109 = .ok (.aload_n 0, 1) := by decide +kernel
theorem dX11_net_110 : decode cX11_net 110 = .ok (.iconst 1, 1) := by decide +kernel
theorem dX11_net_111 : decode cX11_net 111 = .ok (.invokevirtual 99, 3) := by decide +kernel
theorem dX11_net_114 : decode cX11_net 114 = .ok (.ireturn, 1) := by decide +kernel
theorem dX11_net_115 : decode cX11_net 115 = .ok (.iconst 0, 1) := by decide +kernel
theorem dX11_net_116 : decode cX11_net 116 = .ok (.istore_n 1, 1) := by decide +kernel
theorem dX11_net_117 : decode cX11_net 117 = .ok (.iload_n 1, 1) := by decide +kernel
theorem dX11_net_118 : decode cX11_net 118 = .ok (.sipush 206, 3) := by decide +kernel
theorem dX11_net_121 : decode cX11_net 121 = .ok (.if_icmp .ge 21, 3) := by decide +kernel
theorem dX11_net_124 : decode cX11_net 124 = .ok (.aload_n 0, 1) := by decide +kernel
theorem dX11_net_125 : decode cX11_net 125 = .ok (.getfield 23, 3) := by decide +kernel
theorem dX11_net_128 : decode cX11_net 128 = .ok (.iload_n 1, 1) := by decide +kernel
theorem dX11_net_129 : decode cX11_net 129 = .ok (.aload_n 0, 1) := by decide +kernel
theorem dX11_net_130 : decode cX11_net 130 = .ok (.getfield 20, 3) := by decide +kernel
theorem dX11_net_133 : decode cX11_net 133 = .ok (.iload_n 1, 1) := by decide +kernel
theorem dX11_net_134 : decode cX11_net 134 = .ok (.iaload, 1) := by decide +kernel
theorem dX11_net_135 : decode cX11_net 135 = .ok (.iastore, 1) := by decide +kernel
theorem dX11_net_136 : decode cX11_net 136 = .ok (.iinc 1 1, 3) := by decide +kernel
theorem dX11_net_139 : decode cX11_net 139 = .ok (.goto (-22), 3) := by decide +kernel
theorem dX11_net_142 : decode cX11_net 142 = .ok (.aload_n 0, 1) := by decide +kernel
theorem dX11_net_143 : decode cX11_net 143 = .ok (.iconst 0, 1) := by decide +kernel
theorem dX11_net_144 : decode cX11_net 144 = .ok (.putfield 195, 3) := by decide +kernel
theorem dX11_net_147 : decode cX11_net 147 = .ok (.aload_n 0, 1) := by decide +kernel
theorem dX11_net_148 : decode cX11_net 148 = .ok (.iconst 0, 1) := by decide +kernel
theorem dX11_net_149 : decode cX11_net 149 = .ok (.putfield 199, 3) := by decide +kernel
theorem dX11_net_152 : decode cX11_net 152 = .ok (.aload_n 0, 1) := by decide +kernel
theorem dX11_net_153 : decode cX11_net 153 = .ok (.iconst 0, 1) := by decide +kernel
theorem dX11_net_154 : decode cX11_net 154 = .ok (.putfield 202, 3) := by decide +kernel
theorem dX11_net_157 : decode cX11_net 157 = .ok (.aload_n 0, 1) := by decide +kernel
theorem dX11_net_158 : decode cX11_net 158 = .ok (.iconst 0, 1) := by decide +kernel
theorem dX11_net_159 : decode cX11_net 159 = .ok (.putfield 205, 3) := by decide +kernel
theorem dX11_net_162 : decode cX11_net 162 = .ok (.aload_n 0, 1) := by decide +kernel
theorem dX11_net_163 : decode cX11_net 163 = .ok (.getfield 180, 3) := by decide +kernel
theorem dX11_net_166 : decode cX11_net 166 = .ok (.ireturn, 1) := by decide +kernel
theorem dX11_isNode_0 : decode cX11_isNode 0 = .ok (.iload_n 1, 1) := by decide +kernel
theorem dX11_isNode_1 : decode cX11_isNode 1 = .ok (.i2l, 1) := by decide +kernel
theorem dX11_isNode_2 : decode cX11_isNode 2 = .ok (.lconst 0, 1) := by decide +kernel
theorem dX11_isNode_3 : decode cX11_isNode 3 = .ok (.aload_n 0, 1) := by decide +kernel
theorem dX11_isNode_4 : decode cX11_isNode 4 = .ok (.getfield 23, 3) := by decide +kernel
theorem dX11_isNode_7 : decode cX11_isNode 7 = .ok (.iconst 0, 1) := by decide +kernel
theorem dX11_isNode_8 : decode cX11_isNode 8 = .ok (.iaload, 1) := by decide +kernel
theorem dX11_isNode_9 : decode cX11_isNode 9 = .ok (.iconst 1, 1) := by decide +kernel
theorem dX11_isNode_10 : decode cX11_isNode 10 = .ok (.isub, 1) := by decide +kernel
theorem dX11_isNode_11 : decode cX11_isNode 11 = .ok (.i2l, 1) := by decide +kernel
theorem dX11_isNode_12 : decode cX11_isNode 12 = .ok (.invokestatic 109, 3) := by decide +kernel
theorem dX11_isNode_15 : decode cX11_isNode 15 = .ok (.ireturn, 1) := by decide +kernel
theorem dX11_isLine_0 : decode cX11_isLine 0 = .ok (.iload_n 1, 1) := by decide +kernel
theorem dX11_isLine_1 : decode cX11_isLine 1 = .ok (.i2l, 1) := by decide +kernel
theorem dX11_isLine_2 : decode cX11_isLine 2 = .ok (.lconst 0, 1) := by decide +kernel
theorem dX11_isLine_3 : decode cX11_isLine 3 = .ok (.aload_n 0, 1) := by decide +kernel
theorem dX11_isLine_4 : decode cX11_isLine 4 = .ok (.getfield 23, 3) := by decide +kernel
theorem dX11_isLine_7 : decode cX11_isLine 7 = .ok (.iconst 1, 1) := by decide +kernel
theorem dX11_isLine_8 : decode cX11_isLine 8 = .ok (.iaload, 1) := by decide +kernel
theorem dX11_isLine_9 : decode cX11_isLine 9 = .ok (.iconst 1, 1) := by decide +kernel
theorem dX11_isLine_10 : decode cX11_isLine 10 = .ok (.isub, 1) := by decide +kernel
theorem dX11_isLine_11 : decode cX11_isLine 11 = .ok (.i2l, 1) := by decide +kernel
theorem dX11_isLine_12 : decode cX11_isLine 12 = .ok (.invokestatic 109, 3) := by decide +kernel
theorem dX11_isLine_15 : decode cX11_isLine 15 = .ok (.ireturn, 1) := by decide +kernel
theorem dX11_low_0 : decode cX11_low 0 = .ok (.aload_n 0, 1) := by decide +kernel
theorem dX11_low_1 : decode cX11_low 1 = .ok (.getfield 23, 3) := by decide +kernel
theorem dX11_low_4 : decode cX11_low 4 = .ok (.bipush 26, 2) := by decide +kernel
theorem dX11_low_6 : decode cX11_low 6 = .ok (.iconst 2, 1) := by decide +kernel
theorem dX11_low_7 : decode cX11_low 7 = .ok (.iload_n 1, 1) := by decide +kernel
theorem dX11_low_8 : decode cX11_low 8 = .ok (.imul, 1) := by decide +kernel
theorem dX11_low_9 : decode cX11_low 9 = .ok (.iadd, 1) := by decide +kernel
theorem dX11_low_10 : decode cX11_low 10 = .ok (.iaload, 1) := by decide +kernel
theorem dX11_low_11 : decode cX11_low 11 = .ok (.ireturn, 1) := by decide +kernel
theorem dX11_high_0 : decode cX11_high 0 = .ok (.aload_n 0, 1) := by decide +kernel
theorem dX11_high_1 : decode cX11_high 1 = .ok (.getfield 23, 3) := by decide +kernel
theorem dX11_high_4 : decode cX11_high 4 = .ok (.bipush 26, 2) := by decide +kernel
theorem dX11_high_6 : decode cX11_high 6 = .ok (.iconst 2, 1) := by decide +kernel
theorem dX11_high_7 : decode cX11_high 7 = .ok (.iload_n 1, 1) := by decide +kernel
theorem dX11_high_8 : decode cX11_high 8 = .ok (.imul, 1) := by decide +kernel
theorem dX11_high_9 : decode cX11_high 9 = .ok (.iadd, 1) := by decide +kernel
theorem dX11_high_10 : decode cX11_high 10 = .ok (.iconst 1, 1) := by decide +kernel
theorem dX11_high_11 : decode cX11_high 11 = .ok (.iadd, 1) := by decide +kernel
theorem dX11_high_12 : decode cX11_high 12 = .ok (.iaload, 1) := by decide +kernel
theorem dX11_high_13 : decode cX11_high 13 = .ok (.ireturn, 1) := by decide +kernel
theorem dX11_priceOf_0 : decode cX11_priceOf 0 = .ok (.aload_n 0, 1) := by decide +kernel
theorem dX11_priceOf_1 : decode cX11_priceOf 1 = .ok (.getfield 23, 3) := by decide +kernel
theorem dX11_priceOf_4 : decode cX11_priceOf 4 = .ok (.sipush 146, 3) := by decide +kernel
theorem dX11_priceOf_7 : decode cX11_priceOf 7 = .ok (.iload_n 1, 1) := by decide +kernel
theorem dX11_priceOf_8 : decode cX11_priceOf 8 = .ok (.iadd, 1) := by decide +kernel
theorem dX11_priceOf_9 : decode cX11_priceOf 9 = .ok (.iaload, 1) := by decide +kernel
theorem dX11_priceOf_10 : decode cX11_priceOf 10 = .ok (.ireturn, 1) := by decide +kernel
theorem dX11_all_0 : decode cX11_all 0 = .ok (.iconst 1, 1) := by decide +kernel
theorem dX11_all_1 : decode cX11_all 1 = .ok (.aload_n 0, 1) := by decide +kernel
theorem dX11_all_2 : decode cX11_all 2 = .ok (.getfield 23, 3) := by decide +kernel
theorem dX11_all_5 : decode cX11_all 5 = .ok (.iconst 0, 1) := by decide +kernel
theorem dX11_all_6 : decode cX11_all 6 = .ok (.iaload, 1) := by decide +kernel
theorem dX11_all_7 : decode cX11_all 7 = .ok (.ishl, 1) := by decide +kernel
theorem dX11_all_8 : decode cX11_all 8 = .ok (.iconst 1, 1) := by decide +kernel
theorem dX11_all_9 : decode cX11_all 9 = .ok (.isub, 1) := by decide +kernel
theorem dX11_all_10 : decode cX11_all 10 = .ok (.ireturn, 1) := by decide +kernel
theorem dX11_farOf_0 : decode cX11_farOf 0 = .ok (.aload_n 0, 1) := by decide +kernel
theorem dX11_farOf_1 : decode cX11_farOf 1 = .ok (.getfield 29, 3) := by decide +kernel
theorem dX11_farOf_4 : decode cX11_farOf 4 = .ok (.bipush 24, 2) := by decide +kernel
theorem dX11_farOf_6 : decode cX11_farOf 6 = .ok (.iload_n 1, 1) := by decide +kernel
theorem dX11_farOf_7 : decode cX11_farOf 7 = .ok (.imul, 1) := by decide +kernel
theorem dX11_farOf_8 : decode cX11_farOf 8 = .ok (.iload_n 2, 1) := by decide +kernel
theorem dX11_farOf_9 : decode cX11_farOf 9 = .ok (.iadd, 1) := by decide +kernel
theorem dX11_farOf_10 : decode cX11_farOf 10 = .ok (.iaload, 1) := by decide +kernel
theorem dX11_farOf_11 : decode cX11_farOf 11 = .ok (.ireturn, 1) := by decide +kernel
theorem dX11_laysFar_0 : decode cX11_laysFar 0 = .ok (.aload_n 0, 1) := by decide +kernel
theorem dX11_laysFar_1 : decode cX11_laysFar 1 = .ok (.getfield 23, 3) := by decide +kernel
theorem dX11_laysFar_4 : decode cX11_laysFar 4 = .ok (.iconst 0, 1) := by decide +kernel
theorem dX11_laysFar_5 : decode cX11_laysFar 5 = .ok (.iaload, 1) := by decide +kernel
theorem dX11_laysFar_6 : decode cX11_laysFar 6 = .ok (.istore_n 1, 1) := by decide +kernel
theorem dX11_laysFar_7 : decode cX11_laysFar 7 = .ok (.iconst 0, 1) := by decide +kernel
theorem dX11_laysFar_8 : decode cX11_laysFar 8 = .ok (.istore_n 2, 1) := by decide +kernel
theorem dX11_laysFar_9 : decode cX11_laysFar 9 = .ok (.iload_n 2, 1) := by decide +kernel
theorem dX11_laysFar_10 : decode cX11_laysFar 10 = .ok (.iload_n 1, 1) := by decide +kernel
theorem dX11_laysFar_11 : decode cX11_laysFar 11 = .ok (.if_icmp .ge 44, 3) := by decide +kernel
theorem dX11_laysFar_14 : decode cX11_laysFar 14 = .ok (.iconst 0, 1) := by decide +kernel
theorem dX11_laysFar_15 : decode cX11_laysFar 15 = .ok (.istore_n 3, 1) := by decide +kernel
theorem dX11_laysFar_16 : decode cX11_laysFar 16 = .ok (.iload_n 3, 1) := by decide +kernel
theorem dX11_laysFar_17 : decode cX11_laysFar 17 = .ok (.iload_n 1, 1) := by decide +kernel
theorem dX11_laysFar_18 : decode cX11_laysFar 18 = .ok (.if_icmp .ge 31, 3) := by decide +kernel
theorem dX11_laysFar_21 : decode cX11_laysFar 21 = .ok (.aload_n 0, 1) := by decide +kernel
theorem dX11_laysFar_22 : decode cX11_laysFar 22 = .ok (.getfield 29, 3) := by decide +kernel
theorem dX11_laysFar_25 : decode cX11_laysFar 25 = .ok (.bipush 24, 2) := by decide +kernel
theorem dX11_laysFar_27 : decode cX11_laysFar 27 = .ok (.iload_n 2, 1) := by decide +kernel
theorem dX11_laysFar_28 : decode cX11_laysFar 28 = .ok (.imul, 1) := by decide +kernel
theorem dX11_laysFar_29 : decode cX11_laysFar 29 = .ok (.iload_n 3, 1) := by decide +kernel
theorem dX11_laysFar_30 : decode cX11_laysFar 30 = .ok (.iadd, 1) := by decide +kernel
theorem dX11_laysFar_31 : decode cX11_laysFar 31 = .ok (.iload_n 2, 1) := by decide +kernel
theorem dX11_laysFar_32 : decode cX11_laysFar 32 = .ok (.iload_n 3, 1) := by decide +kernel
theorem dX11_laysFar_33 : decode cX11_laysFar 33 = .ok (.if_icmp .ne 7, 3) := by decide +kernel
theorem dX11_laysFar_36 : decode cX11_laysFar 36 = .ok (.iconst 0, 1) := by decide +kernel
theorem dX11_laysFar_37 : decode cX11_laysFar 37 = .ok (.goto 5, 3) := by decide +kernel
theorem dX11_laysFar_40 : decode cX11_laysFar 40 = .ok (.bipush 99, 2) := by decide +kernel
theorem dX11_laysFar_42 : decode cX11_laysFar 42 = .ok (.iastore, 1) := by decide +kernel
theorem dX11_laysFar_43 : decode cX11_laysFar 43 = .ok (.iinc 3 1, 3) := by decide +kernel
theorem dX11_laysFar_46 : decode cX11_laysFar 46 = .ok (.goto (-30), 3) := by decide +kernel
theorem dX11_laysFar_49 : decode cX11_laysFar 49 = .ok (.iinc 2 1, 3) := by decide +kernel
theorem dX11_laysFar_52 : decode cX11_laysFar 52 = .ok (.goto (-43), 3) := by decide +kernel
theorem dX11_laysFar_55 : decode cX11_laysFar 55 = .ok (.iconst 0, 1) := by decide +kernel
theorem dX11_laysFar_56 : decode cX11_laysFar 56 = .ok (.istore_n 2, 1) := by decide +kernel
theorem dX11_laysFar_57 : decode cX11_laysFar 57 = .ok (.iload_n 2, 1) := by decide +kernel
theorem dX11_laysFar_58 : decode cX11_laysFar 58 = .ok (.aload_n 0, 1) := by decide +kernel
theorem dX11_laysFar_59 : decode cX11_laysFar 59 = .ok (.getfield 23, 3) := by decide +kernel
theorem dX11_laysFar_62 : decode cX11_laysFar 62 = .ok (.iconst 1, 1) := by decide +kernel
theorem dX11_laysFar_63 : decode cX11_laysFar 63 = .ok (.iaload, 1) := by decide +kernel
theorem dX11_laysFar_64 : decode cX11_laysFar 64 = .ok (.if_icmp .ge 49, 3) := by decide +kernel
theorem dX11_laysFar_67 : decode cX11_laysFar 67 = .ok (.aload_n 0, 1) := by decide +kernel
theorem dX11_laysFar_68 : decode cX11_laysFar 68 = .ok (.getfield 29, 3) := by decide +kernel
theorem dX11_laysFar_71 : decode cX11_laysFar 71 = .ok (.bipush 24, 2) := by decide +kernel
theorem dX11_laysFar_73 : decode cX11_laysFar 73 = .ok (.aload_n 0, 1) := by decide +kernel
theorem dX11_laysFar_74 : decode cX11_laysFar 74 = .ok (.iload_n 2, 1) := by decide +kernel
theorem dX11_laysFar_75 : decode cX11_laysFar 75 = .ok (.invokevirtual 208, 3) := by decide +kernel
theorem dX11_laysFar_78 : decode cX11_laysFar 78 = .ok (.imul, 1) := by decide +kernel
theorem dX11_laysFar_79 : decode cX11_laysFar 79 = .ok (.aload_n 0, 1) := by decide +kernel
theorem dX11_laysFar_80 : decode cX11_laysFar 80 = .ok (.iload_n 2, 1) := by decide +kernel
theorem dX11_laysFar_81 : decode cX11_laysFar 81 = .ok (.invokevirtual 211, 3) := by decide +kernel
theorem dX11_laysFar_84 : decode cX11_laysFar 84 = .ok (.iadd, 1) := by decide +kernel
theorem dX11_laysFar_85 : decode cX11_laysFar 85 = .ok (.iconst 1, 1) := by decide +kernel
theorem dX11_laysFar_86 : decode cX11_laysFar 86 = .ok (.iastore, 1) := by decide +kernel
theorem dX11_laysFar_87 : decode cX11_laysFar 87 = .ok (.aload_n 0, 1) := by decide +kernel
theorem dX11_laysFar_88 : decode cX11_laysFar 88 = .ok (.getfield 29, 3) := by decide +kernel
theorem dX11_laysFar_91 : decode cX11_laysFar 91 = .ok (.bipush 24, 2) := by decide +kernel
theorem dX11_laysFar_93 : decode cX11_laysFar 93 = .ok (.aload_n 0, 1) := by decide +kernel
theorem dX11_laysFar_94 : decode cX11_laysFar 94 = .ok (.iload_n 2, 1) := by decide +kernel
theorem dX11_laysFar_95 : decode cX11_laysFar 95 = .ok (.invokevirtual 211, 3) := by decide +kernel
theorem dX11_laysFar_98 : decode cX11_laysFar 98 = .ok (.imul, 1) := by decide +kernel
theorem dX11_laysFar_99 : decode cX11_laysFar 99 = .ok (.aload_n 0, 1) := by decide +kernel
theorem dX11_laysFar_100 : decode cX11_laysFar 100 = .ok (.iload_n 2, 1) := by decide +kernel
theorem dX11_laysFar_101 : decode cX11_laysFar 101 = .ok (.invokevirtual 208, 3) := by decide +kernel
theorem dX11_laysFar_104 : decode cX11_laysFar 104 = .ok (.iadd, 1) := by decide +kernel
theorem dX11_laysFar_105 : decode cX11_laysFar 105 = .ok (.iconst 1, 1) := by decide +kernel
theorem dX11_laysFar_106 : decode cX11_laysFar 106 = .ok (.iastore, 1) := by decide +kernel
theorem dX11_laysFar_107 : decode cX11_laysFar 107 = .ok (.iinc 2 1, 3) := by decide +kernel
theorem dX11_laysFar_110 : decode cX11_laysFar 110 = .ok (.goto (-53), 3) := by decide +kernel
theorem dX11_laysFar_113 : decode cX11_laysFar 113 = .ok (.iconst 0, 1) := by decide +kernel
theorem dX11_laysFar_114 : decode cX11_laysFar 114 = .ok (.istore_n 2, 1) := by decide +kernel
theorem dX11_laysFar_115 : decode cX11_laysFar 115 = .ok (.iload_n 2, 1) := by decide +kernel
theorem dX11_laysFar_116 : decode cX11_laysFar 116 = .ok (.iload_n 1, 1) := by decide +kernel
theorem dX11_laysFar_117 : decode cX11_laysFar 117 = .ok (.if_icmp .ge 79, 3) := by decide +kernel
theorem dX11_laysFar_120 : decode cX11_laysFar 120 = .ok (.iconst 0, 1) := by decide +kernel
theorem dX11_laysFar_121 : decode cX11_laysFar 121 = .ok (.istore_n 3, 1) := by decide +kernel
theorem dX11_laysFar_122 : decode cX11_laysFar 122 = .ok (.iload_n 3, 1) := by decide +kernel
theorem dX11_laysFar_123 : decode cX11_laysFar 123 = .ok (.iload_n 1, 1) := by decide +kernel
theorem dX11_laysFar_124 : decode cX11_laysFar 124 = .ok (.if_icmp .ge 66, 3) := by decide +kernel
theorem dX11_laysFar_127 : decode cX11_laysFar 127 = .ok (.iconst 0, 1) := by decide +kernel
theorem dX11_laysFar_128 : decode cX11_laysFar 128 = .ok (.istore 4, 2) := by decide +kernel
theorem dX11_laysFar_130 : decode cX11_laysFar 130 = .ok (.iload 4, 2) := by decide +kernel
theorem dX11_laysFar_132 : decode cX11_laysFar 132 = .ok (.iload_n 1, 1) := by decide +kernel
theorem dX11_laysFar_133 : decode cX11_laysFar 133 = .ok (.if_icmp .ge 51, 3) := by decide +kernel
theorem dX11_laysFar_136 : decode cX11_laysFar 136 = .ok (.aload_n 0, 1) := by decide +kernel
theorem dX11_laysFar_137 : decode cX11_laysFar 137 = .ok (.iload_n 3, 1) := by decide +kernel
theorem dX11_laysFar_138 : decode cX11_laysFar 138 = .ok (.iload_n 2, 1) := by decide +kernel
theorem dX11_laysFar_139 : decode cX11_laysFar 139 = .ok (.invokevirtual 214, 3) := by decide +kernel
theorem dX11_laysFar_142 : decode cX11_laysFar 142 = .ok (.aload_n 0, 1) := by decide +kernel
theorem dX11_laysFar_143 : decode cX11_laysFar 143 = .ok (.iload_n 2, 1) := by decide +kernel
theorem dX11_laysFar_144 : decode cX11_laysFar 144 = .ok (.iload 4, 2) := by decide +kernel
theorem dX11_laysFar_146 : decode cX11_laysFar 146 = .ok (.invokevirtual 214, 3) := by decide +kernel
theorem dX11_laysFar_149 : decode cX11_laysFar 149 = .ok (.iadd, 1) := by decide +kernel
theorem dX11_laysFar_150 : decode cX11_laysFar 150 = .ok (.istore 5, 2) := by decide +kernel
theorem dX11_laysFar_152 : decode cX11_laysFar 152 = .ok (.iload 5, 2) := by decide +kernel
theorem dX11_laysFar_154 : decode cX11_laysFar 154 = .ok (.aload_n 0, 1) := by decide +kernel
theorem dX11_laysFar_155 : decode cX11_laysFar 155 = .ok (.iload_n 3, 1) := by decide +kernel
theorem dX11_laysFar_156 : decode cX11_laysFar 156 = .ok (.iload 4, 2) := by decide +kernel
theorem dX11_laysFar_158 : decode cX11_laysFar 158 = .ok (.invokevirtual 214, 3) := by decide +kernel
theorem dX11_laysFar_161 : decode cX11_laysFar 161 = .ok (.if_icmp .ge 17, 3) := by decide +kernel
theorem dX11_laysFar_164 : decode cX11_laysFar 164 = .ok (.aload_n 0, 1) := by decide +kernel
theorem dX11_laysFar_165 : decode cX11_laysFar 165 = .ok (.getfield 29, 3) := by decide +kernel
theorem dX11_laysFar_168 : decode cX11_laysFar 168 = .ok (.bipush 24, 2) := by decide +kernel
theorem dX11_laysFar_170 : decode cX11_laysFar 170 = .ok (.iload_n 3, 1) := by decide +kernel
theorem dX11_laysFar_171 : decode cX11_laysFar 171 = .ok (.imul, 1) := by decide +kernel
theorem dX11_laysFar_172 : decode cX11_laysFar 172 = .ok (.iload 4, 2) := by decide +kernel
theorem dX11_laysFar_174 : decode cX11_laysFar 174 = .ok (.iadd, 1) := by decide +kernel
theorem dX11_laysFar_175 : decode cX11_laysFar 175 = .ok (.iload 5, 2) := by decide +kernel
theorem dX11_laysFar_177 : decode cX11_laysFar 177 = .ok (.iastore, 1) := by decide +kernel
theorem dX11_laysFar_178 : decode cX11_laysFar 178 = .ok (.iinc 4 1, 3) := by decide +kernel
theorem dX11_laysFar_181 : decode cX11_laysFar 181 = .ok (.goto (-51), 3) := by decide +kernel
theorem dX11_laysFar_184 : decode cX11_laysFar 184 = .ok (.iinc 3 1, 3) := by decide +kernel
theorem dX11_laysFar_187 : decode cX11_laysFar 187 = .ok (.goto (-65), 3) := by decide +kernel
theorem dX11_laysFar_190 : decode cX11_laysFar 190 = .ok (.iinc 2 1, 3) := by decide +kernel
theorem dX11_laysFar_193 : decode cX11_laysFar 193 = .ok (.goto (-78), 3) := by decide +kernel
theorem dX11_laysFar_196 : decode cX11_laysFar 196 = .ok (.return_, 1) := by decide +kernel
theorem dX11_areAlike_0 : decode cX11_areAlike 0 = .ok (.aload_n 0, 1) := by decide +kernel
theorem dX11_areAlike_1 : decode cX11_areAlike 1 = .ok (.aload_n 0, 1) := by decide +kernel
theorem dX11_areAlike_2 : decode cX11_areAlike 2 = .ok (.iload_n 1, 1) := by decide +kernel
theorem dX11_areAlike_3 : decode cX11_areAlike 3 = .ok (.invokevirtual 208, 3) := by decide +kernel
theorem dX11_areAlike_6 : decode cX11_areAlike 6 = .ok (.aload_n 0, 1) := by decide +kernel
theorem dX11_areAlike_7 : decode cX11_areAlike 7 = .ok (.iload_n 2, 1) := by decide +kernel
theorem dX11_areAlike_8 : decode cX11_areAlike 8 = .ok (.invokevirtual 208, 3) := by decide +kernel
theorem dX11_areAlike_11 : decode cX11_areAlike 11 = .ok (.invokevirtual 214, 3) := by decide +kernel
theorem dX11_areAlike_14 : decode cX11_areAlike 14 = .ok (.istore_n 3, 1) := by decide +kernel
theorem dX11_areAlike_15 : decode cX11_areAlike 15 = .ok (.aload_n 0, 1) := by decide +kernel
theorem dX11_areAlike_16 : decode cX11_areAlike 16 = .ok (.aload_n 0, 1) := by decide +kernel
theorem dX11_areAlike_17 : decode cX11_areAlike 17 = .ok (.iload_n 1, 1) := by decide +kernel
theorem dX11_areAlike_18 : decode cX11_areAlike 18 = .ok (.invokevirtual 211, 3) := by decide +kernel
theorem dX11_areAlike_21 : decode cX11_areAlike 21 = .ok (.aload_n 0, 1) := by decide +kernel
theorem dX11_areAlike_22 : decode cX11_areAlike 22 = .ok (.iload_n 2, 1) := by decide +kernel
theorem dX11_areAlike_23 : decode cX11_areAlike 23 = .ok (.invokevirtual 211, 3) := by decide +kernel
theorem dX11_areAlike_26 : decode cX11_areAlike 26 = .ok (.invokevirtual 214, 3) := by decide +kernel
theorem dX11_areAlike_29 : decode cX11_areAlike 29 = .ok (.istore 4, 2) := by decide +kernel
theorem dX11_areAlike_31 : decode cX11_areAlike 31 = .ok (.iload_n 3, 1) := by decide +kernel
theorem dX11_areAlike_32 : decode cX11_areAlike 32 = .ok (.bipush 99, 2) := by decide +kernel
theorem dX11_areAlike_34 : decode cX11_areAlike 34 = .ok (.if_icmp .ge 10, 3) := by decide +kernel
theorem dX11_areAlike_37 : decode cX11_areAlike 37 = .ok (.iload 4, 2) := by decide +kernel
theorem dX11_areAlike_39 : decode cX11_areAlike 39 = .ok (.bipush 99, 2) := by decide +kernel
theorem dX11_areAlike_41 : decode cX11_areAlike 41 = .ok (.if_icmp .lt 5, 3) := by decide +kernel
theorem dX11_areAlike_44 : decode cX11_areAlike 44 = .ok (.iconst 0, 1) := by decide +kernel
theorem dX11_areAlike_45 : decode cX11_areAlike 45 = .ok (.ireturn, 1) := by decide +kernel
theorem dX11_areAlike_46 : decode cX11_areAlike 46 = .ok (.iload_n 3, 1) := by decide +kernel
theorem dX11_areAlike_47 : decode cX11_areAlike 47 = .ok (.iload 4, 2) := by decide +kernel
theorem dX11_areAlike_49 : decode cX11_areAlike 49 = .ok (.iadd, 1) := by decide +kernel
theorem dX11_areAlike_50 : decode cX11_areAlike 50 = .ok (.aload_n 0, 1) := by decide +kernel
theorem dX11_areAlike_51 : decode cX11_areAlike 51 = .ok (.aload_n 0, 1) := by decide +kernel
theorem dX11_areAlike_52 : decode cX11_areAlike 52 = .ok (.iload_n 1, 1) := by decide +kernel
theorem dX11_areAlike_53 : decode cX11_areAlike 53 = .ok (.invokevirtual 208, 3) := by decide +kernel
theorem dX11_areAlike_56 : decode cX11_areAlike 56 = .ok (.aload_n 0, 1) := by decide +kernel
theorem dX11_areAlike_57 : decode cX11_areAlike 57 = .ok (.iload_n 2, 1) := by decide +kernel
theorem dX11_areAlike_58 : decode cX11_areAlike 58 = .ok (.invokevirtual 211, 3) := by decide +kernel
theorem dX11_areAlike_61 : decode cX11_areAlike 61 = .ok (.invokevirtual 214, 3) := by decide +kernel
theorem dX11_areAlike_64 : decode cX11_areAlike 64 = .ok (.aload_n 0, 1) := by decide +kernel
theorem dX11_areAlike_65 : decode cX11_areAlike 65 = .ok (.aload_n 0, 1) := by decide +kernel
theorem dX11_areAlike_66 : decode cX11_areAlike 66 = .ok (.iload_n 1, 1) := by decide +kernel
theorem dX11_areAlike_67 : decode cX11_areAlike 67 = .ok (.invokevirtual 211, 3) := by decide +kernel
theorem dX11_areAlike_70 : decode cX11_areAlike 70 = .ok (.aload_n 0, 1) := by decide +kernel
theorem dX11_areAlike_71 : decode cX11_areAlike 71 = .ok (.iload_n 2, 1) := by decide +kernel
theorem dX11_areAlike_72 : decode cX11_areAlike 72 = .ok (.invokevirtual 208, 3) := by decide +kernel
theorem dX11_areAlike_75 : decode cX11_areAlike 75 = .ok (.invokevirtual 214, 3) := by decide +kernel
theorem dX11_areAlike_78 : decode cX11_areAlike 78 = .ok (.iadd, 1) := by decide +kernel
theorem dX11_areAlike_79 : decode cX11_areAlike 79 = .ok (.if_icmp .eq 7, 3) := by decide +kernel
theorem dX11_areAlike_82 : decode cX11_areAlike 82 = .ok (.iconst 1, 1) := by decide +kernel
theorem dX11_areAlike_83 : decode cX11_areAlike 83 = .ok (.goto 4, 3) := by decide +kernel
theorem dX11_areAlike_86 : decode cX11_areAlike 86 = .ok (.iconst 0, 1) := by decide +kernel
theorem dX11_areAlike_87 : decode cX11_areAlike 87 = .ok (.ireturn, 1) := by decide +kernel
theorem dX11_laysKinds_0 : decode cX11_laysKinds 0 = .ok (.aload_n 0, 1) := by decide +kernel
theorem dX11_laysKinds_1 : decode cX11_laysKinds 1 = .ok (.getfield 23, 3) := by decide +kernel
theorem dX11_laysKinds_4 : decode cX11_laysKinds 4 = .ok (.iconst 1, 1) := by decide +kernel
theorem dX11_laysKinds_5 : decode cX11_laysKinds 5 = .ok (.iaload, 1) := by decide +kernel
theorem dX11_laysKinds_6 : decode cX11_laysKinds 6 = .ok (.istore_n 1, 1) := by decide +kernel
theorem dX11_laysKinds_7 : decode cX11_laysKinds 7 = .ok (.iconst 0, 1) := by decide +kernel
theorem dX11_laysKinds_8 : decode cX11_laysKinds 8 = .ok (.istore_n 2, 1) := by decide +kernel
theorem dX11_laysKinds_9 : decode cX11_laysKinds 9 = .ok (.iload_n 2, 1) := by decide +kernel
theorem dX11_laysKinds_10 : decode cX11_laysKinds 10 = .ok (.iload_n 1, 1) := by decide +kernel
theorem dX11_laysKinds_11 : decode cX11_laysKinds 11 = .ok (.if_icmp .ge 16, 3) := by decide +kernel
theorem dX11_laysKinds_14 : decode cX11_laysKinds 14 = .ok (.aload_n 0, 1) := by decide +kernel
theorem dX11_laysKinds_15 : decode cX11_laysKinds 15 = .ok (.getfield 32, 3) := by decide +kernel
theorem dX11_laysKinds_18 : decode cX11_laysKinds 18 = .ok (.iload_n 2, 1) := by decide +kernel
theorem dX11_laysKinds_19 : decode cX11_laysKinds 19 = .ok (.iload_n 2, 1) := by decide +kernel
theorem dX11_laysKinds_20 : decode cX11_laysKinds 20 = .ok (.iastore, 1) := by decide +kernel
theorem dX11_laysKinds_21 : decode cX11_laysKinds 21 = .ok (.iinc 2 1, 3) := by decide +kernel
theorem dX11_laysKinds_24 : decode cX11_laysKinds 24 = .ok (.goto (-15), 3) := by decide +kernel
theorem dX11_laysKinds_27 : decode cX11_laysKinds 27 = .ok (.iconst 1, 1) := by decide +kernel
theorem dX11_laysKinds_28 : decode cX11_laysKinds 28 = .ok (.istore_n 2, 1) := by decide +kernel
theorem dX11_laysKinds_29 : decode cX11_laysKinds 29 = .ok (.iload_n 2, 1) := by decide +kernel
theorem dX11_laysKinds_30 : decode cX11_laysKinds 30 = .ok (.ifCond .eq 77, 3) := by decide +kernel
theorem dX11_laysKinds_33 : decode cX11_laysKinds 33 = .ok (.iconst 0, 1) := by decide +kernel
theorem dX11_laysKinds_34 : decode cX11_laysKinds 34 = .ok (.istore_n 2, 1) := by decide +kernel
theorem dX11_laysKinds_35 : decode cX11_laysKinds 35 = .ok (.iconst 0, 1) := by decide +kernel
theorem dX11_laysKinds_36 : decode cX11_laysKinds 36 = .ok (.istore_n 3, 1) := by decide +kernel
theorem dX11_laysKinds_37 : decode cX11_laysKinds 37 = .ok (.iload_n 3, 1) := by decide +kernel
theorem dX11_laysKinds_38 : decode cX11_laysKinds 38 = .ok (.iload_n 1, 1) := by decide +kernel
theorem dX11_laysKinds_39 : decode cX11_laysKinds 39 = .ok (.if_icmp .ge 65, 3) := by decide +kernel
theorem dX11_laysKinds_42 : decode cX11_laysKinds 42 = .ok (.iconst 0, 1) := by decide +kernel
theorem dX11_laysKinds_43 : decode cX11_laysKinds 43 = .ok (.istore 4, 2) := by decide +kernel
theorem dX11_laysKinds_45 : decode cX11_laysKinds 45 = .ok (.iload 4, 2) := by decide +kernel
theorem dX11_laysKinds_47 : decode cX11_laysKinds 47 = .ok (.iload_n 1, 1) := by decide +kernel
theorem dX11_laysKinds_48 : decode cX11_laysKinds 48 = .ok (.if_icmp .ge 50, 3) := by decide +kernel
theorem dX11_laysKinds_51 : decode cX11_laysKinds 51 = .ok (.aload_n 0, 1) := by decide +kernel
theorem dX11_laysKinds_52 : decode cX11_laysKinds 52 = .ok (.getfield 32, 3) := by decide +kernel
theorem dX11_laysKinds_55 : decode cX11_laysKinds 55 = .ok (.iload 4, 2) := by decide +kernel
theorem dX11_laysKinds_57 : decode cX11_laysKinds 57 = .ok (.iaload, 1) := by decide +kernel
theorem dX11_laysKinds_58 : decode cX11_laysKinds 58 = .ok (.aload_n 0, 1) := by decide +kernel
theorem dX11_laysKinds_59 : decode cX11_laysKinds 59 = .ok (.getfield 32, 3) := by decide +kernel
theorem dX11_laysKinds_62 : decode cX11_laysKinds 62 = .ok (.iload_n 3, 1) := by decide +kernel
theorem dX11_laysKinds_63 : decode cX11_laysKinds 63 = .ok (.iaload, 1) := by decide +kernel
theorem dX11_laysKinds_64 : decode cX11_laysKinds 64 = .ok (.if_icmp .ge 28, 3) := by decide +kernel
theorem dX11_laysKinds_67 : decode cX11_laysKinds 67 = .ok (.aload_n 0, 1) := by decide +kernel
theorem dX11_laysKinds_68 : decode cX11_laysKinds 68 = .ok (.iload_n 3, 1) := by decide +kernel
theorem dX11_laysKinds_69 : decode cX11_laysKinds 69 = .ok (.iload 4, 2) := by decide +kernel
theorem dX11_laysKinds_71 : decode cX11_laysKinds 71 = .ok (.invokevirtual 218, 3) := by decide +kernel
theorem dX11_laysKinds_74 : decode cX11_laysKinds 74 = .ok (.ifCond .eq 18, 3) := by decide +kernel
theorem dX11_laysKinds_77 : decode cX11_laysKinds 77 = .ok (.aload_n 0, 1) := by decide +kernel
theorem dX11_laysKinds_78 : decode cX11_laysKinds 78 = .ok (.getfield 32, 3) := by decide +kernel
theorem dX11_laysKinds_81 : decode cX11_laysKinds 81 = .ok (.iload_n 3, 1) := by decide +kernel
theorem dX11_laysKinds_82 : decode cX11_laysKinds 82 = .ok (.aload_n 0, 1) := by decide +kernel
theorem dX11_laysKinds_83 : decode cX11_laysKinds 83 = .ok (.getfield 32, 3) := by decide +kernel
theorem dX11_laysKinds_86 : decode cX11_laysKinds 86 = .ok (.iload 4, 2) := by decide +kernel
theorem dX11_laysKinds_88 : decode cX11_laysKinds 88 = .ok (.iaload, 1) := by decide +kernel
theorem dX11_laysKinds_89 : decode cX11_laysKinds 89 = .ok (.iastore, 1) := by decide +kernel
theorem dX11_laysKinds_90 : decode cX11_laysKinds 90 = .ok (.iconst 1, 1) := by decide +kernel
theorem dX11_laysKinds_91 : decode cX11_laysKinds 91 = .ok (.istore_n 2, 1) := by decide +kernel
theorem dX11_laysKinds_92 : decode cX11_laysKinds 92 = .ok (.iinc 4 1, 3) := by decide +kernel
theorem dX11_laysKinds_95 : decode cX11_laysKinds 95 = .ok (.goto (-50), 3) := by decide +kernel
theorem dX11_laysKinds_98 : decode cX11_laysKinds 98 = .ok (.iinc 3 1, 3) := by decide +kernel
theorem dX11_laysKinds_101 : decode cX11_laysKinds 101 = .ok (.goto (-64), 3) := by decide +kernel
theorem dX11_laysKinds_104 : decode cX11_laysKinds 104 = .ok (.goto (-75), 3) := by decide +kernel
theorem dX11_laysKinds_107 : decode cX11_laysKinds 107 = .ok (.aload_n 0, 1) := by decide +kernel
theorem dX11_laysKinds_108 : decode cX11_laysKinds 108 = .ok (.iconst 0, 1) := by decide +kernel
theorem dX11_laysKinds_109 : decode cX11_laysKinds 109 = .ok (.putfield 222, 3) := by decide +kernel
theorem dX11_laysKinds_112 : decode cX11_laysKinds 112 = .ok (.iconst 0, 1) := by decide +kernel
theorem dX11_laysKinds_113 : decode cX11_laysKinds 113 = .ok (.istore_n 3, 1) := by decide +kernel
theorem dX11_laysKinds_114 : decode cX11_laysKinds 114 = .ok (.iload_n 3, 1) := by decide +kernel
theorem dX11_laysKinds_115 : decode cX11_laysKinds 115 = .ok (.iload_n 1, 1) := by decide +kernel
theorem dX11_laysKinds_116 : decode cX11_laysKinds 116 = .ok (.if_icmp .ge 39, 3) := by decide +kernel
theorem dX11_laysKinds_119 : decode cX11_laysKinds 119 = .ok (.aload_n 0, 1) := by decide +kernel
theorem dX11_laysKinds_120 : decode cX11_laysKinds 120 = .ok (.getfield 32, 3) := by decide +kernel
theorem dX11_laysKinds_123 : decode cX11_laysKinds 123 = .ok (.iload_n 3, 1) := by decide +kernel
theorem dX11_laysKinds_124 : decode cX11_laysKinds 124 = .ok (.iaload, 1) := by decide +kernel
theorem dX11_laysKinds_125 : decode cX11_laysKinds 125 = .ok (.iload_n 3, 1) := by decide +kernel
theorem dX11_laysKinds_126 : decode cX11_laysKinds 126 = .ok (.if_icmp .ne 23, 3) := by decide +kernel
theorem dX11_laysKinds_129 : decode cX11_laysKinds 129 = .ok (.aload_n 0, 1) := by decide +kernel
theorem dX11_laysKinds_130 : decode cX11_laysKinds 130 = .ok (.getfield 38, 3) := by decide +kernel
theorem dX11_laysKinds_133 : decode cX11_laysKinds 133 = .ok (.aload_n 0, 1) := by decide +kernel
theorem dX11_laysKinds_134 : decode cX11_laysKinds 134 = .ok (.getfield 222, 3) := by decide +kernel
theorem dX11_laysKinds_137 : decode cX11_laysKinds 137 = .ok (.iload_n 3, 1) := by decide +kernel
theorem dX11_laysKinds_138 : decode cX11_laysKinds 138 = .ok (.iastore, 1) := by decide +kernel
theorem dX11_laysKinds_139 : decode cX11_laysKinds 139 = .ok (.aload_n 0, 1) := by decide +kernel
theorem dX11_laysKinds_140 : decode cX11_laysKinds 140 = .ok (.dup, 1) := by decide +kernel
theorem dX11_laysKinds_141 : decode cX11_laysKinds 141 = .ok (.getfield 222, 3) := by decide +kernel
theorem dX11_laysKinds_144 : decode cX11_laysKinds 144 = .ok (.iconst 1, 1) := by decide +kernel
theorem dX11_laysKinds_145 : decode cX11_laysKinds 145 = .ok (.iadd, 1) := by decide +kernel
theorem dX11_laysKinds_146 : decode cX11_laysKinds 146 = .ok (.putfield 222, 3) := by decide +kernel
theorem dX11_laysKinds_149 : decode cX11_laysKinds 149 = .ok (.iinc 3 1, 3) := by decide +kernel
theorem dX11_laysKinds_152 : decode cX11_laysKinds 152 = .ok (.goto (-38), 3) := by decide +kernel
theorem dX11_laysKinds_155 : decode cX11_laysKinds 155 = .ok (.iconst 0, 1) := by decide +kernel
theorem dX11_laysKinds_156 : decode cX11_laysKinds 156 = .ok (.istore_n 3, 1) := by decide +kernel
theorem dX11_laysKinds_157 : decode cX11_laysKinds 157 = .ok (.iload_n 3, 1) := by decide +kernel
theorem dX11_laysKinds_158 : decode cX11_laysKinds 158 = .ok (.iload_n 1, 1) := by decide +kernel
theorem dX11_laysKinds_159 : decode cX11_laysKinds 159 = .ok (.if_icmp .ge 51, 3) := by decide +kernel
theorem dX11_laysKinds_162 : decode cX11_laysKinds 162 = .ok (.iconst 0, 1) := by decide +kernel
theorem dX11_laysKinds_163 : decode cX11_laysKinds 163 = .ok (.istore 4, 2) := by decide +kernel
theorem dX11_laysKinds_165 : decode cX11_laysKinds 165 = .ok (.iload 4, 2) := by decide +kernel
theorem dX11_laysKinds_167 : decode cX11_laysKinds 167 = .ok (.aload_n 0, 1) := by decide +kernel
theorem dX11_laysKinds_168 : decode cX11_laysKinds 168 = .ok (.getfield 222, 3) := by decide +kernel
theorem dX11_laysKinds_171 : decode cX11_laysKinds 171 = .ok (.if_icmp .ge 33, 3) := by decide +kernel
theorem dX11_laysKinds_174 : decode cX11_laysKinds 174 = .ok (.aload_n 0, 1) := by decide +kernel
theorem dX11_laysKinds_175 : decode cX11_laysKinds 175 = .ok (.getfield 32, 3) := by decide +kernel
theorem dX11_laysKinds_178 : decode cX11_laysKinds 178 = .ok (.iload_n 3, 1) := by decide +kernel
theorem dX11_laysKinds_179 : decode cX11_laysKinds 179 = .ok (.iaload, 1) := by decide +kernel
theorem dX11_laysKinds_180 : decode cX11_laysKinds 180 = .ok (.aload_n 0, 1) := by decide +kernel
theorem dX11_laysKinds_181 : decode cX11_laysKinds 181 = .ok (.getfield 38, 3) := by decide +kernel
theorem dX11_laysKinds_184 : decode cX11_laysKinds 184 = .ok (.iload 4, 2) := by decide +kernel
theorem dX11_laysKinds_186 : decode cX11_laysKinds 186 = .ok (.iaload, 1) := by decide +kernel
theorem dX11_laysKinds_187 : decode cX11_laysKinds 187 = .ok (.if_icmp .ne 11, 3) := by decide +kernel
theorem dX11_laysKinds_190 : decode cX11_laysKinds 190 = .ok (.aload_n 0, 1) := by decide +kernel
theorem dX11_laysKinds_191 : decode cX11_laysKinds 191 = .ok (.getfield 44, 3) := by decide +kernel
theorem dX11_laysKinds_194 : decode cX11_laysKinds 194 = .ok (.iload_n 3, 1) := by decide +kernel
theorem dX11_laysKinds_195 : decode cX11_laysKinds 195 = .ok (.iload 4, 2) := by decide +kernel
theorem dX11_laysKinds_197 : decode cX11_laysKinds 197 = .ok (.iastore, 1) := by decide +kernel
theorem dX11_laysKinds_198 : decode cX11_laysKinds 198 = .ok (.iinc 4 1, 3) := by decide +kernel
theorem dX11_laysKinds_201 : decode cX11_laysKinds 201 = .ok (.goto (-36), 3) := by decide +kernel
theorem dX11_laysKinds_204 : decode cX11_laysKinds 204 = .ok (.iinc 3 1, 3) := by decide +kernel
theorem dX11_laysKinds_207 : decode cX11_laysKinds 207 = .ok (.goto (-50), 3) := by decide +kernel
theorem dX11_laysKinds_210 : decode cX11_laysKinds 210 = .ok (.iconst 0, 1) := by decide +kernel
theorem dX11_laysKinds_211 : decode cX11_laysKinds 211 = .ok (.istore_n 3, 1) := by decide +kernel
theorem dX11_laysKinds_212 : decode cX11_laysKinds 212 = .ok (.iload_n 3, 1) := by decide +kernel
theorem dX11_laysKinds_213 : decode cX11_laysKinds 213 = .ok (.iload_n 1, 1) := by decide +kernel
theorem dX11_laysKinds_214 : decode cX11_laysKinds 214 = .ok (.if_icmp .ge 21, 3) := by decide +kernel
theorem dX11_laysKinds_217 : decode cX11_laysKinds 217 = .ok (.aload_n 0, 1) := by decide +kernel
theorem dX11_laysKinds_218 : decode cX11_laysKinds 218 = .ok (.getfield 32, 3) := by decide +kernel
theorem dX11_laysKinds_221 : decode cX11_laysKinds 221 = .ok (.iload_n 3, 1) := by decide +kernel
theorem dX11_laysKinds_222 : decode cX11_laysKinds 222 = .ok (.aload_n 0, 1) := by decide +kernel
theorem dX11_laysKinds_223 : decode cX11_laysKinds 223 = .ok (.getfield 44, 3) := by decide +kernel
theorem dX11_laysKinds_226 : decode cX11_laysKinds 226 = .ok (.iload_n 3, 1) := by decide +kernel
theorem dX11_laysKinds_227 : decode cX11_laysKinds 227 = .ok (.iaload, 1) := by decide +kernel
theorem dX11_laysKinds_228 : decode cX11_laysKinds 228 = .ok (.iastore, 1) := by decide +kernel
theorem dX11_laysKinds_229 : decode cX11_laysKinds 229 = .ok (.iinc 3 1, 3) := by decide +kernel
theorem dX11_laysKinds_232 : decode cX11_laysKinds 232 = .ok (.goto (-20), 3) := by decide +kernel
theorem dX11_laysKinds_235 : decode cX11_laysKinds 235 = .ok (.return_, 1) := by decide +kernel
theorem dX11_isWhy_0 : decode cX11_isWhy 0 = .ok (.aload_n 0, 1) := by decide +kernel
theorem dX11_isWhy_1 : decode cX11_isWhy 1 = .ok (.getfield 225, 3) := by decide +kernel
theorem dX11_isWhy_4 : decode cX11_isWhy 4 = .ok (.ifCond .eq 4, 3) := by decide +kernel
theorem dX11_isWhy_7 : decode cX11_isWhy 7 = .ok (.return_, 1) := by decide +kernel
theorem dX11_isWhy_8 : decode cX11_isWhy 8 = .ok (.aload_n 0, 1) := by decide +kernel
theorem dX11_isWhy_9 : decode cX11_isWhy 9 = .ok (.iload_n 1, 1) := by decide +kernel
theorem dX11_isWhy_10 : decode cX11_isWhy 10 = .ok (.putfield 225, 3) := by decide +kernel
theorem dX11_isWhy_13 : decode cX11_isWhy 13 = .ok (.aload_n 0, 1) := by decide +kernel
theorem dX11_isWhy_14 : decode cX11_isWhy 14 = .ok (.getfield 35, 3) := by decide +kernel
theorem dX11_isWhy_17 : decode cX11_isWhy 17 = .ok (.iconst 0, 1) := by decide +kernel
theorem dX11_isWhy_18 : decode cX11_isWhy 18 = .ok (.iload_n 2, 1) := by decide +kernel
theorem dX11_isWhy_19 : decode cX11_isWhy 19 = .ok (.iastore, 1) := by decide +kernel
theorem dX11_isWhy_20 : decode cX11_isWhy 20 = .ok (.aload_n 0, 1) := by decide +kernel
theorem dX11_isWhy_21 : decode cX11_isWhy 21 = .ok (.getfield 35, 3) := by decide +kernel
theorem dX11_isWhy_24 : decode cX11_isWhy 24 = .ok (.iconst 1, 1) := by decide +kernel
theorem dX11_isWhy_25 : decode cX11_isWhy 25 = .ok (.iload_n 3, 1) := by decide +kernel
theorem dX11_isWhy_26 : decode cX11_isWhy 26 = .ok (.iastore, 1) := by decide +kernel
theorem dX11_isWhy_27 : decode cX11_isWhy 27 = .ok (.return_, 1) := by decide +kernel
theorem dX11_laysReason_0 : decode cX11_laysReason 0 = .ok (.aload_n 0, 1) := by decide +kernel
theorem dX11_laysReason_1 : decode cX11_laysReason 1 = .ok (.getfield 23, 3) := by decide +kernel
theorem dX11_laysReason_4 : decode cX11_laysReason 4 = .ok (.iconst 0, 1) := by decide +kernel
theorem dX11_laysReason_5 : decode cX11_laysReason 5 = .ok (.iaload, 1) := by decide +kernel
theorem dX11_laysReason_6 : decode cX11_laysReason 6 = .ok (.istore_n 1, 1) := by decide +kernel
theorem dX11_laysReason_7 : decode cX11_laysReason 7 = .ok (.aload_n 0, 1) := by decide +kernel
theorem dX11_laysReason_8 : decode cX11_laysReason 8 = .ok (.getfield 23, 3) := by decide +kernel
theorem dX11_laysReason_11 : decode cX11_laysReason 11 = .ok (.iconst 1, 1) := by decide +kernel
theorem dX11_laysReason_12 : decode cX11_laysReason 12 = .ok (.iaload, 1) := by decide +kernel
theorem dX11_laysReason_13 : decode cX11_laysReason 13 = .ok (.istore_n 2, 1) := by decide +kernel
theorem dX11_laysReason_14 : decode cX11_laysReason 14 = .ok (.aload_n 0, 1) := by decide +kernel
theorem dX11_laysReason_15 : decode cX11_laysReason 15 = .ok (.iconst 0, 1) := by decide +kernel
theorem dX11_laysReason_16 : decode cX11_laysReason 16 = .ok (.putfield 225, 3) := by decide +kernel
theorem dX11_laysReason_19 : decode cX11_laysReason 19 = .ok (.iconst 0, 1) := by decide +kernel
theorem dX11_laysReason_20 : decode cX11_laysReason 20 = .ok (.istore_n 3, 1) := by decide +kernel
theorem dX11_laysReason_21 : decode cX11_laysReason 21 = .ok (.iload_n 3, 1) := by decide +kernel
theorem dX11_laysReason_22 : decode cX11_laysReason 22 = .ok (.iload_n 1, 1) := by decide +kernel
theorem dX11_laysReason_23 : decode cX11_laysReason 23 = .ok (.if_icmp .ge 46, 3) := by decide +kernel
theorem dX11_laysReason_26 : decode cX11_laysReason 26 = .ok (.iload_n 3, 1) := by decide +kernel
theorem dX11_laysReason_27 : decode cX11_laysReason 27 = .ok (.iconst 1, 1) := by decide +kernel
theorem dX11_laysReason_28 : decode cX11_laysReason 28 = .ok (.iadd, 1) := by decide +kernel
theorem dX11_laysReason_29 : decode cX11_laysReason 29 = .ok (.istore 4, 2) := by decide +kernel
theorem dX11_laysReason_31 : decode cX11_laysReason 31 = .ok (.iload 4, 2) := by decide +kernel
theorem dX11_laysReason_33 : decode cX11_laysReason 33 = .ok (.iload_n 1, 1) := by decide +kernel
theorem dX11_laysReason_34 : decode cX11_laysReason 34 = .ok (.if_icmp .ge 29, 3) := by decide +kernel
theorem dX11_laysReason_37 : decode cX11_laysReason 37 = .ok (.aload_n 0, 1) := by decide +kernel
theorem dX11_laysReason_38 : decode cX11_laysReason 38 = .ok (.iload_n 3, 1) := by decide +kernel
theorem dX11_laysReason_39 : decode cX11_laysReason 39 = .ok (.iload 4, 2) := by decide +kernel
theorem dX11_laysReason_41 : decode cX11_laysReason 41 = .ok (.invokevirtual 214, 3) := by decide +kernel
theorem dX11_laysReason_44 : decode cX11_laysReason 44 = .ok (.bipush 99, 2) := by decide +kernel
theorem dX11_laysReason_46 : decode cX11_laysReason 46 = .ok (.if_icmp .lt 11, 3) := by decide +kernel
theorem dX11_laysReason_49 : decode cX11_laysReason 49 = .ok (.aload_n 0, 1) := by decide +kernel
theorem dX11_laysReason_50 : decode cX11_laysReason 50 = .ok (.iconst 1, 1) := by decide +kernel
theorem dX11_laysReason_51 : decode cX11_laysReason 51 = .ok (.iload_n 3, 1) := by decide +kernel
theorem dX11_laysReason_52 : decode cX11_laysReason 52 = .ok (.iload 4, 2) := by decide +kernel
theorem dX11_laysReason_54 : decode cX11_laysReason 54 = .ok (.invokevirtual 228, 3) := by decide +kernel
theorem dX11_laysReason_57 : decode cX11_laysReason 57 = .ok (.iinc 4 1, 3) := by decide +kernel
theorem dX11_laysReason_60 : decode cX11_laysReason 60 = .ok (.goto (-29), 3) := by decide +kernel
theorem dX11_laysReason_63 : decode cX11_laysReason 63 = .ok (.iinc 3 1, 3) := by decide +kernel
theorem dX11_laysReason_66 : decode cX11_laysReason 66 = .ok (.goto (-45), 3) := by decide +kernel
theorem dX11_laysReason_69 : decode cX11_laysReason 69 = .ok (.iconst 0, 1) := by decide +kernel
theorem dX11_laysReason_70 : decode cX11_laysReason 70 = .ok (.istore_n 3, 1) := by decide +kernel
theorem dX11_laysReason_71 : decode cX11_laysReason 71 = .ok (.iload_n 3, 1) := by decide +kernel
theorem dX11_laysReason_72 : decode cX11_laysReason 72 = .ok (.iload_n 2, 1) := by decide +kernel
theorem dX11_laysReason_73 : decode cX11_laysReason 73 = .ok (.if_icmp .ge 64, 3) := by decide +kernel
theorem dX11_laysReason_76 : decode cX11_laysReason 76 = .ok (.aload_n 0, 1) := by decide +kernel
theorem dX11_laysReason_77 : decode cX11_laysReason 77 = .ok (.getfield 225, 3) := by decide +kernel
theorem dX11_laysReason_80 : decode cX11_laysReason 80 = .ok (.ifCond .ne 57, 3) := by decide +kernel
theorem dX11_laysReason_83 : decode cX11_laysReason 83 = .ok (.iconst 0, 1) := by decide +kernel
theorem dX11_laysReason_84 : decode cX11_laysReason 84 = .ok (.istore 4, 2) := by decide +kernel
theorem dX11_laysReason_86 : decode cX11_laysReason 86 = .ok (.iload 4, 2) := by decide +kernel
theorem dX11_laysReason_88 : decode cX11_laysReason 88 = .ok (.iload_n 1, 1) := by decide +kernel
theorem dX11_laysReason_89 : decode cX11_laysReason 89 = .ok (.if_icmp .ge 42, 3) := by decide +kernel
theorem dX11_laysReason_92 : decode cX11_laysReason 92 = .ok (.aload_n 0, 1) := by decide +kernel
theorem dX11_laysReason_93 : decode cX11_laysReason 93 = .ok (.iload 4, 2) := by decide +kernel
theorem dX11_laysReason_95 : decode cX11_laysReason 95 = .ok (.aload_n 0, 1) := by decide +kernel
theorem dX11_laysReason_96 : decode cX11_laysReason 96 = .ok (.iload_n 3, 1) := by decide +kernel
theorem dX11_laysReason_97 : decode cX11_laysReason 97 = .ok (.invokevirtual 208, 3) := by decide +kernel
theorem dX11_laysReason_100 : decode cX11_laysReason 100 = .ok (.invokevirtual 214, 3) := by decide +kernel
theorem dX11_laysReason_103 : decode cX11_laysReason 103 = .ok (.aload_n 0, 1) := by decide +kernel
theorem dX11_laysReason_104 : decode cX11_laysReason 104 = .ok (.iload 4, 2) := by decide +kernel
theorem dX11_laysReason_106 : decode cX11_laysReason 106 = .ok (.aload_n 0, 1) := by decide +kernel
theorem dX11_laysReason_107 : decode cX11_laysReason 107 = .ok (.iload_n 3, 1) := by decide +kernel
theorem dX11_laysReason_108 : decode cX11_laysReason 108 = .ok (.invokevirtual 211, 3) := by decide +kernel
theorem dX11_laysReason_111 : decode cX11_laysReason 111 = .ok (.invokevirtual 214, 3) := by decide +kernel
theorem dX11_laysReason_114 : decode cX11_laysReason 114 = .ok (.if_icmp .ne 11, 3) := by decide +kernel
theorem dX11_laysReason_117 : decode cX11_laysReason 117 = .ok (.aload_n 0, 1) := by decide +kernel
theorem dX11_laysReason_118 : decode cX11_laysReason 118 = .ok (.iconst 2, 1) := by decide +kernel
theorem dX11_laysReason_119 : decode cX11_laysReason 119 = .ok (.iload_n 3, 1) := by decide +kernel
theorem dX11_laysReason_120 : decode cX11_laysReason 120 = .ok (.iload 4, 2) := by decide +kernel
theorem dX11_laysReason_122 : decode cX11_laysReason 122 = .ok (.invokevirtual 228, 3) := by decide +kernel
theorem dX11_laysReason_125 : decode cX11_laysReason 125 = .ok (.iinc 4 1, 3) := by decide +kernel
theorem dX11_laysReason_128 : decode cX11_laysReason 128 = .ok (.goto (-42), 3) := by decide +kernel
theorem dX11_laysReason_131 : decode cX11_laysReason 131 = .ok (.iinc 3 1, 3) := by decide +kernel
theorem dX11_laysReason_134 : decode cX11_laysReason 134 = .ok (.goto (-63), 3) := by decide +kernel
theorem dX11_laysReason_137 : decode cX11_laysReason 137 = .ok (.iconst 0, 1) := by decide +kernel
theorem dX11_laysReason_138 : decode cX11_laysReason 138 = .ok (.istore_n 3, 1) := by decide +kernel
theorem dX11_laysReason_139 : decode cX11_laysReason 139 = .ok (.iload_n 3, 1) := by decide +kernel
theorem dX11_laysReason_140 : decode cX11_laysReason 140 = .ok (.iload_n 2, 1) := by decide +kernel
theorem dX11_laysReason_141 : decode cX11_laysReason 141 = .ok (.if_icmp .ge 67, 3) := by decide +kernel
theorem dX11_laysReason_144 : decode cX11_laysReason 144 = .ok (.aload_n 0, 1) := by decide +kernel
theorem dX11_laysReason_145 : decode cX11_laysReason 145 = .ok (.getfield 225, 3) := by decide +kernel
theorem dX11_laysReason_148 : decode cX11_laysReason 148 = .ok (.ifCond .ne 60, 3) := by decide +kernel
theorem dX11_laysReason_151 : decode cX11_laysReason 151 = .ok (.iload_n 3, 1) := by decide +kernel
theorem dX11_laysReason_152 : decode cX11_laysReason 152 = .ok (.iconst 1, 1) := by decide +kernel
theorem dX11_laysReason_153 : decode cX11_laysReason 153 = .ok (.iadd, 1) := by decide +kernel
theorem dX11_laysReason_154 : decode cX11_laysReason 154 = .ok (.istore 4, 2) := by decide +kernel
theorem dX11_laysReason_156 : decode cX11_laysReason 156 = .ok (.iload 4, 2) := by decide +kernel
theorem dX11_laysReason_158 : decode cX11_laysReason 158 = .ok (.iload_n 2, 1) := by decide +kernel
theorem dX11_laysReason_159 : decode cX11_laysReason 159 = .ok (.if_icmp .ge 43, 3) := by decide +kernel
theorem dX11_laysReason_162 : decode cX11_laysReason 162 = .ok (.aload_n 0, 1) := by decide +kernel
theorem dX11_laysReason_163 : decode cX11_laysReason 163 = .ok (.getfield 32, 3) := by decide +kernel
theorem dX11_laysReason_166 : decode cX11_laysReason 166 = .ok (.iload_n 3, 1) := by decide +kernel
theorem dX11_laysReason_167 : decode cX11_laysReason 167 = .ok (.iaload, 1) := by decide +kernel
theorem dX11_laysReason_168 : decode cX11_laysReason 168 = .ok (.aload_n 0, 1) := by decide +kernel
theorem dX11_laysReason_169 : decode cX11_laysReason 169 = .ok (.getfield 32, 3) := by decide +kernel
theorem dX11_laysReason_172 : decode cX11_laysReason 172 = .ok (.iload 4, 2) := by decide +kernel
theorem dX11_laysReason_174 : decode cX11_laysReason 174 = .ok (.iaload, 1) := by decide +kernel
theorem dX11_laysReason_175 : decode cX11_laysReason 175 = .ok (.if_icmp .ne 21, 3) := by decide +kernel
theorem dX11_laysReason_178 : decode cX11_laysReason 178 = .ok (.aload_n 0, 1) := by decide +kernel
theorem dX11_laysReason_179 : decode cX11_laysReason 179 = .ok (.iload_n 3, 1) := by decide +kernel
theorem dX11_laysReason_180 : decode cX11_laysReason 180 = .ok (.iload 4, 2) := by decide +kernel
theorem dX11_laysReason_182 : decode cX11_laysReason 182 = .ok (.invokevirtual 218, 3) := by decide +kernel
theorem dX11_laysReason_185 : decode cX11_laysReason 185 = .ok (.ifCond .ne 11, 3) := by decide +kernel
theorem dX11_laysReason_188 : decode cX11_laysReason 188 = .ok (.aload_n 0, 1) := by decide +kernel
theorem dX11_laysReason_189 : decode cX11_laysReason 189 = .ok (.iconst 3, 1) := by decide +kernel
theorem dX11_laysReason_190 : decode cX11_laysReason 190 = .ok (.iload_n 3, 1) := by decide +kernel
theorem dX11_laysReason_191 : decode cX11_laysReason 191 = .ok (.iload 4, 2) := by decide +kernel
theorem dX11_laysReason_193 : decode cX11_laysReason 193 = .ok (.invokevirtual 228, 3) := by decide +kernel
theorem dX11_laysReason_196 : decode cX11_laysReason 196 = .ok (.iinc 4 1, 3) := by decide +kernel
theorem dX11_laysReason_199 : decode cX11_laysReason 199 = .ok (.goto (-43), 3) := by decide +kernel
theorem dX11_laysReason_202 : decode cX11_laysReason 202 = .ok (.iinc 3 1, 3) := by decide +kernel
theorem dX11_laysReason_205 : decode cX11_laysReason 205 = .ok (.goto (-66), 3) := by decide +kernel
theorem dX11_laysReason_208 : decode cX11_laysReason 208 = .ok (.return_, 1) := by decide +kernel
theorem dX11_laysSides_0 : decode cX11_laysSides 0 = .ok (.iconst 0, 1) := by decide +kernel
theorem dX11_laysSides_1 : decode cX11_laysSides 1 = .ok (.istore_n 1, 1) := by decide +kernel
theorem dX11_laysSides_2 : decode cX11_laysSides 2 = .ok (.iload_n 1, 1) := by decide +kernel
theorem dX11_laysSides_3 : decode cX11_laysSides 3 = .ok (.aload_n 0, 1) := by decide +kernel
theorem dX11_laysSides_4 : decode cX11_laysSides 4 = .ok (.getfield 23, 3) := by decide +kernel
theorem dX11_laysSides_7 : decode cX11_laysSides 7 = .ok (.iconst 0, 1) := by decide +kernel
theorem dX11_laysSides_8 : decode cX11_laysSides 8 = .ok (.iaload, 1) := by decide +kernel
theorem dX11_laysSides_9 : decode cX11_laysSides 9 = .ok (.if_icmp .ge 84, 3) := by decide +kernel
theorem dX11_laysSides_12 : decode cX11_laysSides 12 = .ok (.aload_n 0, 1) := by decide +kernel
theorem dX11_laysSides_13 : decode cX11_laysSides 13 = .ok (.getfield 41, 3) := by decide +kernel
theorem dX11_laysSides_16 : decode cX11_laysSides 16 = .ok (.iload_n 1, 1) := by decide +kernel
theorem dX11_laysSides_17 : decode cX11_laysSides 17 = .ok (.iconst 0, 1) := by decide +kernel
theorem dX11_laysSides_18 : decode cX11_laysSides 18 = .ok (.iastore, 1) := by decide +kernel
theorem dX11_laysSides_19 : decode cX11_laysSides 19 = .ok (.iconst 0, 1) := by decide +kernel
theorem dX11_laysSides_20 : decode cX11_laysSides 20 = .ok (.istore_n 2, 1) := by decide +kernel
theorem dX11_laysSides_21 : decode cX11_laysSides 21 = .ok (.iload_n 2, 1) := by decide +kernel
theorem dX11_laysSides_22 : decode cX11_laysSides 22 = .ok (.aload_n 0, 1) := by decide +kernel
theorem dX11_laysSides_23 : decode cX11_laysSides 23 = .ok (.getfield 222, 3) := by decide +kernel
theorem dX11_laysSides_26 : decode cX11_laysSides 26 = .ok (.if_icmp .ge 61, 3) := by decide +kernel
theorem dX11_laysSides_29 : decode cX11_laysSides 29 = .ok (.aload_n 0, 1) := by decide +kernel
theorem dX11_laysSides_30 : decode cX11_laysSides 30 = .ok (.getfield 225, 3) := by decide +kernel
theorem dX11_laysSides_33 : decode cX11_laysSides 33 = .ok (.ifCond .ne 54, 3) := by decide +kernel
theorem dX11_laysSides_36 : decode cX11_laysSides 36 = .ok (.aload_n 0, 1) := by decide +kernel
theorem dX11_laysSides_37 : decode cX11_laysSides 37 = .ok (.iload_n 1, 1) := by decide +kernel
theorem dX11_laysSides_38 : decode cX11_laysSides 38 = .ok (.aload_n 0, 1) := by decide +kernel
theorem dX11_laysSides_39 : decode cX11_laysSides 39 = .ok (.aload_n 0, 1) := by decide +kernel
theorem dX11_laysSides_40 : decode cX11_laysSides 40 = .ok (.getfield 38, 3) := by decide +kernel
theorem dX11_laysSides_43 : decode cX11_laysSides 43 = .ok (.iload_n 2, 1) := by decide +kernel
theorem dX11_laysSides_44 : decode cX11_laysSides 44 = .ok (.iaload, 1) := by decide +kernel
theorem dX11_laysSides_45 : decode cX11_laysSides 45 = .ok (.invokevirtual 208, 3) := by decide +kernel
theorem dX11_laysSides_48 : decode cX11_laysSides 48 = .ok (.invokevirtual 214, 3) := by decide +kernel
theorem dX11_laysSides_51 : decode cX11_laysSides 51 = .ok (.aload_n 0, 1) := by decide +kernel
theorem dX11_laysSides_52 : decode cX11_laysSides 52 = .ok (.iload_n 1, 1) := by decide +kernel
theorem dX11_laysSides_53 : decode cX11_laysSides 53 = .ok (.aload_n 0, 1) := by decide +kernel
theorem dX11_laysSides_54 : decode cX11_laysSides 54 = .ok (.aload_n 0, 1) := by decide +kernel
theorem dX11_laysSides_55 : decode cX11_laysSides 55 = .ok (.getfield 38, 3) := by decide +kernel
theorem dX11_laysSides_58 : decode cX11_laysSides 58 = .ok (.iload_n 2, 1) := by decide +kernel
theorem dX11_laysSides_59 : decode cX11_laysSides 59 = .ok (.iaload, 1) := by decide +kernel
theorem dX11_laysSides_60 : decode cX11_laysSides 60 = .ok (.invokevirtual 211, 3) := by decide +kernel
theorem dX11_laysSides_63 : decode cX11_laysSides 63 = .ok (.invokevirtual 214, 3) := by decide +kernel
theorem dX11_laysSides_66 : decode cX11_laysSides 66 = .ok (.if_icmp .le 15, 3) := by decide +kernel
theorem dX11_laysSides_69 : decode cX11_laysSides 69 = .ok (.aload_n 0, 1) := by decide +kernel
theorem dX11_laysSides_70 : decode cX11_laysSides 70 = .ok (.getfield 41, 3) := by decide +kernel
theorem dX11_laysSides_73 : decode cX11_laysSides 73 = .ok (.iload_n 1, 1) := by decide +kernel
theorem dX11_laysSides_74 : decode cX11_laysSides 74 = .ok (.dup2, 1) := by decide +kernel
theorem dX11_laysSides_75 : decode cX11_laysSides 75 = .ok (.iaload, 1) := by decide +kernel
theorem dX11_laysSides_76 : decode cX11_laysSides 76 = .ok (.iconst 1, 1) := by decide +kernel
theorem dX11_laysSides_77 : decode cX11_laysSides 77 = .ok (.iload_n 2, 1) := by decide +kernel
theorem dX11_laysSides_78 : decode cX11_laysSides 78 = .ok (.ishl, 1) := by decide +kernel
theorem dX11_laysSides_79 : decode cX11_laysSides 79 = .ok (.ior, 1) := by decide +kernel
theorem dX11_laysSides_80 : decode cX11_laysSides 80 = .ok (.iastore, 1) := by decide +kernel
theorem dX11_laysSides_81 : decode cX11_laysSides 81 = .ok (.iinc 2 1, 3) := by decide +kernel
theorem dX11_laysSides_84 : decode cX11_laysSides 84 = .ok (.goto (-63), 3) := by decide +kernel
theorem dX11_laysSides_87 : decode cX11_laysSides 87 = .ok (.iinc 1 1, 3) := by decide +kernel
theorem dX11_laysSides_90 : decode cX11_laysSides 90 = .ok (.goto (-88), 3) := by decide +kernel
theorem dX11_laysSides_93 : decode cX11_laysSides 93 = .ok (.return_, 1) := by decide +kernel
theorem dX11_lays_0 : decode cX11_lays 0 = .ok (.aload_n 0, 1) := by decide +kernel
theorem dX11_lays_1 : decode cX11_lays 1 = .ok (.getfield 195, 3) := by decide +kernel
theorem dX11_lays_4 : decode cX11_lays 4 = .ok (.ifCond .eq 4, 3) := by decide +kernel
theorem dX11_lays_7 : decode cX11_lays 7 = .ok (.return_, 1) := by decide +kernel
theorem dX11_lays_8 : decode cX11_lays 8 = .ok (.aload_n 0, 1) := by decide +kernel
theorem dX11_lays_9 : decode cX11_lays 9 = .ok (.iconst 1, 1) := by decide +kernel
theorem dX11_lays_10 : decode cX11_lays 10 = .ok (.putfield 195, 3) := by decide +kernel
theorem dX11_lays_13 : decode cX11_lays 13 = .ok (.aload_n 0, 1) := by decide +kernel
theorem dX11_lays_14 : decode cX11_lays 14 = .ok (.invokevirtual 232, 3) := by decide +kernel
theorem dX11_lays_17 : decode cX11_lays 17 = .ok (.aload_n 0, 1) := by decide +kernel
theorem dX11_lays_18 : decode cX11_lays 18 = .ok (.invokevirtual 235, 3) := by decide +kernel
theorem dX11_lays_21 : decode cX11_lays 21 = .ok (.aload_n 0, 1) := by decide +kernel
theorem dX11_lays_22 : decode cX11_lays 22 = .ok (.invokevirtual 238, 3) := by decide +kernel
theorem dX11_lays_25 : decode cX11_lays 25 = .ok (.aload_n 0, 1) := by decide +kernel
theorem dX11_lays_26 : decode cX11_lays 26 = .ok (.invokevirtual 241, 3) := by decide +kernel
theorem dX11_lays_29 : decode cX11_lays 29 = .ok (.return_, 1) := by decide +kernel
theorem dX11_sits_0 : decode cX11_sits 0 = .ok (.aload_n 0, 1) := by decide +kernel
theorem dX11_sits_1 : decode cX11_sits 1 = .ok (.invokevirtual 244, 3) := by decide +kernel
theorem dX11_sits_4 : decode cX11_sits 4 = .ok (.aload_n 0, 1) := by decide +kernel
theorem dX11_sits_5 : decode cX11_sits 5 = .ok (.getfield 225, 3) := by decide +kernel
theorem dX11_sits_8 : decode cX11_sits 8 = .ok (.ifCond .ne 16, 3) := by decide +kernel
theorem dX11_sits_11 : decode cX11_sits 11 = .ok (.aload_n 0, 1) := by decide +kernel
theorem dX11_sits_12 : decode cX11_sits 12 = .ok (.getfield 23, 3) := by decide +kernel
theorem dX11_sits_15 : decode cX11_sits 15 = .ok (.iconst 0, 1) := by decide +kernel
theorem dX11_sits_16 : decode cX11_sits 16 = .ok (.iaload, 1) := by decide +kernel
theorem dX11_sits_17 : decode cX11_sits 17 = .ok (.ifCond .le 7, 3) := by decide +kernel
theorem dX11_sits_20 : decode cX11_sits 20 = .ok (.iconst 1, 1) := by decide +kernel
theorem dX11_sits_21 : decode cX11_sits 21 = .ok (.goto 4, 3) := by decide +kernel
theorem dX11_sits_24 : decode cX11_sits 24 = .ok (.iconst 0, 1) := by decide +kernel
theorem dX11_sits_25 : decode cX11_sits 25 = .ok (.ireturn, 1) := by decide +kernel
theorem dX11_isWhole_0 : decode cX11_isWhole 0 = .ok (.aload_n 0, 1) := by decide +kernel
theorem dX11_isWhole_1 : decode cX11_isWhole 1 = .ok (.invokevirtual 244, 3) := by decide +kernel
theorem dX11_isWhole_4 : decode cX11_isWhole 4 = .ok (.aload_n 0, 1) := by decide +kernel
theorem dX11_isWhole_5 : decode cX11_isWhole 5 = .ok (.getfield 225, 3) := by decide +kernel
theorem dX11_isWhole_8 : decode cX11_isWhole 8 = .ok (.iconst 1, 1) := by decide +kernel
theorem dX11_isWhole_9 : decode cX11_isWhole 9 = .ok (.if_icmp .eq 16, 3) := by decide +kernel
theorem dX11_isWhole_12 : decode cX11_isWhole 12 = .ok (.aload_n 0, 1) := by decide +kernel
theorem dX11_isWhole_13 : decode cX11_isWhole 13 = .ok (.getfield 23, 3) := by decide +kernel
theorem dX11_isWhole_16 : decode cX11_isWhole 16 = .ok (.iconst 0, 1) := by decide +kernel
theorem dX11_isWhole_17 : decode cX11_isWhole 17 = .ok (.iaload, 1) := by decide +kernel
theorem dX11_isWhole_18 : decode cX11_isWhole 18 = .ok (.ifCond .le 7, 3) := by decide +kernel
theorem dX11_isWhole_21 : decode cX11_isWhole 21 = .ok (.iconst 1, 1) := by decide +kernel
theorem dX11_isWhole_22 : decode cX11_isWhole 22 = .ok (.goto 4, 3) := by decide +kernel
theorem dX11_isWhole_25 : decode cX11_isWhole 25 = .ok (.iconst 0, 1) := by decide +kernel
theorem dX11_isWhole_26 : decode cX11_isWhole 26 = .ok (.ireturn, 1) := by decide +kernel
theorem dX11_has_0 : decode cX11_has 0 = .ok (.aload_n 0, 1) := by decide +kernel
theorem dX11_has_1 : decode cX11_has 1 = .ok (.invokevirtual 244, 3) := by decide +kernel
theorem dX11_has_4 : decode cX11_has 4 = .ok (.iload_n 1, 1) := by decide +kernel
theorem dX11_has_5 : decode cX11_has 5 = .ok (.tableswitch 94 0 7 #[47, 54, 61, 66, 71, 76, 81, 86], 47) := by decide +kernel
theorem dX11_has_52 : decode cX11_has 52 = .ok (.aload_n 0, 1) := by decide +kernel
theorem dX11_has_53 : decode cX11_has 53 = .ok (.getfield 23, 3) := by decide +kernel
theorem dX11_has_56 : decode cX11_has 56 = .ok (.iconst 0, 1) := by decide +kernel
theorem dX11_has_57 : decode cX11_has 57 = .ok (.iaload, 1) := by decide +kernel
theorem dX11_has_58 : decode cX11_has 58 = .ok (.ireturn, 1) := by decide +kernel
theorem dX11_has_59 : decode cX11_has 59 = .ok (.aload_n 0, 1) := by decide +kernel
theorem dX11_has_60 : decode cX11_has 60 = .ok (.getfield 23, 3) := by decide +kernel
theorem dX11_has_63 : decode cX11_has 63 = .ok (.iconst 1, 1) := by decide +kernel
theorem dX11_has_64 : decode cX11_has 64 = .ok (.iaload, 1) := by decide +kernel
theorem dX11_has_65 : decode cX11_has 65 = .ok (.ireturn, 1) := by decide +kernel
theorem dX11_has_66 : decode cX11_has 66 = .ok (.aload_n 0, 1) := by decide +kernel
theorem dX11_has_67 : decode cX11_has 67 = .ok (.getfield 222, 3) := by decide +kernel
theorem dX11_has_70 : decode cX11_has 70 = .ok (.ireturn, 1) := by decide +kernel
theorem dX11_has_71 : decode cX11_has 71 = .ok (.aload_n 0, 1) := by decide +kernel
theorem dX11_has_72 : decode cX11_has 72 = .ok (.getfield 202, 3) := by decide +kernel
theorem dX11_has_75 : decode cX11_has 75 = .ok (.ireturn, 1) := by decide +kernel
theorem dX11_has_76 : decode cX11_has 76 = .ok (.aload_n 0, 1) := by decide +kernel
theorem dX11_has_77 : decode cX11_has 77 = .ok (.getfield 205, 3) := by decide +kernel
theorem dX11_has_80 : decode cX11_has 80 = .ok (.ireturn, 1) := by decide +kernel
theorem dX11_has_81 : decode cX11_has 81 = .ok (.aload_n 0, 1) := by decide +kernel
theorem dX11_has_82 : decode cX11_has 82 = .ok (.getfield 199, 3) := by decide +kernel
theorem dX11_has_85 : decode cX11_has 85 = .ok (.ireturn, 1) := by decide +kernel
theorem dX11_has_86 : decode cX11_has 86 = .ok (.aload_n 0, 1) := by decide +kernel
theorem dX11_has_87 : decode cX11_has 87 = .ok (.getfield 225, 3) := by decide +kernel
theorem dX11_has_90 : decode cX11_has 90 = .ok (.ireturn, 1) := by decide +kernel
theorem dX11_has_91 : decode cX11_has 91 = .ok (.aload_n 0, 1) := by decide +kernel
theorem dX11_has_92 : decode cX11_has 92 = .ok (.invokevirtual 247, 3) := by decide +kernel
theorem dX11_has_95 : decode cX11_has 95 = .ok (.invokestatic 250, 3) := by decide +kernel
theorem dX11_has_98 : decode cX11_has 98 = .ok (.ireturn, 1) := by decide +kernel
theorem dX11_has_99 : decode cX11_has 99 = .ok (.iconst (-1), 1) := by decide +kernel
theorem dX11_has_100 : decode cX11_has 100 = .ok (.ireturn, 1) := by decide +kernel
theorem dX11_isFair_0 : decode cX11_isFair 0 = .ok (.iconst 0, 1) := by decide +kernel
theorem dX11_isFair_1 : decode cX11_isFair 1 = .ok (.istore_n 1, 1) := by decide +kernel
theorem dX11_isFair_2 : decode cX11_isFair 2 = .ok (.iload_n 1, 1) := by decide +kernel
theorem dX11_isFair_3 : decode cX11_isFair 3 = .ok (.aload_n 0, 1) := by decide +kernel
theorem dX11_isFair_4 : decode cX11_isFair 4 = .ok (.getfield 23, 3) := by decide +kernel
theorem dX11_isFair_7 : decode cX11_isFair 7 = .ok (.iconst 1, 1) := by decide +kernel
theorem dX11_isFair_8 : decode cX11_isFair 8 = .ok (.iaload, 1) := by decide +kernel
theorem dX11_isFair_9 : decode cX11_isFair 9 = .ok (.if_icmp .ge 34, 3) := by decide +kernel
theorem dX11_isFair_12 : decode cX11_isFair 12 = .ok (.aload_n 0, 1) := by decide +kernel
theorem dX11_isFair_13 : decode cX11_isFair 13 = .ok (.iload_n 1, 1) := by decide +kernel
theorem dX11_isFair_14 : decode cX11_isFair 14 = .ok (.invokevirtual 254, 3) := by decide +kernel
theorem dX11_isFair_17 : decode cX11_isFair 17 = .ok (.aload_n 0, 1) := by decide +kernel
theorem dX11_isFair_18 : decode cX11_isFair 18 = .ok (.aload_n 0, 1) := by decide +kernel
theorem dX11_isFair_19 : decode cX11_isFair 19 = .ok (.getfield 38, 3) := by decide +kernel
theorem dX11_isFair_22 : decode cX11_isFair 22 = .ok (.aload_n 0, 1) := by decide +kernel
theorem dX11_isFair_23 : decode cX11_isFair 23 = .ok (.getfield 32, 3) := by decide +kernel
theorem dX11_isFair_26 : decode cX11_isFair 26 = .ok (.iload_n 1, 1) := by decide +kernel
theorem dX11_isFair_27 : decode cX11_isFair 27 = .ok (.iaload, 1) := by decide +kernel
theorem dX11_isFair_28 : decode cX11_isFair 28 = .ok (.iaload, 1) := by decide +kernel
theorem dX11_isFair_29 : decode cX11_isFair 29 = .ok (.invokevirtual 254, 3) := by decide +kernel
theorem dX11_isFair_32 : decode cX11_isFair 32 = .ok (.if_icmp .eq 5, 3) := by decide +kernel
theorem dX11_isFair_35 : decode cX11_isFair 35 = .ok (.iconst 0, 1) := by decide +kernel
theorem dX11_isFair_36 : decode cX11_isFair 36 = .ok (.ireturn, 1) := by decide +kernel
theorem dX11_isFair_37 : decode cX11_isFair 37 = .ok (.iinc 1 1, 3) := by decide +kernel
theorem dX11_isFair_40 : decode cX11_isFair 40 = .ok (.goto (-38), 3) := by decide +kernel
theorem dX11_isFair_43 : decode cX11_isFair 43 = .ok (.iconst 1, 1) := by decide +kernel
theorem dX11_isFair_44 : decode cX11_isFair 44 = .ok (.ireturn, 1) := by decide +kernel
theorem dX11_letter_0 : decode cX11_letter 0 = .ok (.aload_n 0, 1) := by decide +kernel
theorem dX11_letter_1 : decode cX11_letter 1 = .ok (.iload_n 1, 1) := by decide +kernel
theorem dX11_letter_2 : decode cX11_letter 2 = .ok (.invokevirtual 257, 3) := by decide +kernel
theorem dX11_letter_5 : decode cX11_letter 5 = .ok (.ifCond .eq 15, 3) := by decide +kernel
theorem dX11_letter_8 : decode cX11_letter 8 = .ok (.iload_n 2, 1) := by decide +kernel
theorem dX11_letter_9 : decode cX11_letter 9 = .ok (.i2l, 1) := by decide +kernel
theorem dX11_letter_10 : decode cX11_letter 10 = .ok (.lconst 0, 1) := by decide +kernel
theorem dX11_letter_11 : decode cX11_letter 11 = .ok (.ldc2_w 260, 3) := by decide +kernel
theorem dX11_letter_14 : decode cX11_letter 14 = .ok (.invokestatic 109, 3) := by decide +kernel
theorem dX11_letter_17 : decode cX11_letter 17 = .ok (.ifCond .ne 5, 3) := by decide +kernel
theorem dX11_letter_20 : decode cX11_letter 20 = .ok (.iconst (-1), 1) := by decide +kernel
theorem dX11_letter_21 : decode cX11_letter 21 = .ok (.ireturn, 1) := by decide +kernel
theorem dX11_letter_22 : decode cX11_letter 22 = .ok (.aload_n 0, 1) := by decide +kernel
theorem dX11_letter_23 : decode cX11_letter 23 = .ok (.getfield 23, 3) := by decide +kernel
theorem dX11_letter_26 : decode cX11_letter 26 = .ok (.iconst 2, 1) := by decide +kernel
theorem dX11_letter_27 : decode cX11_letter 27 = .ok (.iload_n 1, 1) := by decide +kernel
theorem dX11_letter_28 : decode cX11_letter 28 = .ok (.iadd, 1) := by decide +kernel
theorem dX11_letter_29 : decode cX11_letter 29 = .ok (.iaload, 1) := by decide +kernel
theorem dX11_letter_30 : decode cX11_letter 30 = .ok (.istore_n 3, 1) := by decide +kernel
theorem dX11_letter_31 : decode cX11_letter 31 = .ok (.iconst 0, 1) := by decide +kernel
theorem dX11_letter_32 : decode cX11_letter 32 = .ok (.istore 4, 2) := by decide +kernel
theorem dX11_letter_34 : decode cX11_letter 34 = .ok (.iload_n 3, 1) := by decide +kernel
theorem dX11_letter_35 : decode cX11_letter 35 = .ok (.istore 5, 2) := by decide +kernel
theorem dX11_letter_37 : decode cX11_letter 37 = .ok (.iload 5, 2) := by decide +kernel
theorem dX11_letter_39 : decode cX11_letter 39 = .ok (.ifCond .le 16, 3) := by decide +kernel
theorem dX11_letter_42 : decode cX11_letter 42 = .ok (.iinc 4 1, 3) := by decide +kernel
theorem dX11_letter_45 : decode cX11_letter 45 = .ok (.iload 5, 2) := by decide +kernel
theorem dX11_letter_47 : decode cX11_letter 47 = .ok (.bipush 27, 2) := by decide +kernel
theorem dX11_letter_49 : decode cX11_letter 49 = .ok (.idiv, 1) := by decide +kernel
theorem dX11_letter_50 : decode cX11_letter 50 = .ok (.istore 5, 2) := by decide +kernel
theorem dX11_letter_52 : decode cX11_letter 52 = .ok (.goto (-15), 3) := by decide +kernel
theorem dX11_letter_55 : decode cX11_letter 55 = .ok (.iload 4, 2) := by decide +kernel
theorem dX11_letter_57 : decode cX11_letter 57 = .ok (.iconst 1, 1) := by decide +kernel
theorem dX11_letter_58 : decode cX11_letter 58 = .ok (.isub, 1) := by decide +kernel
theorem dX11_letter_59 : decode cX11_letter 59 = .ok (.istore 5, 2) := by decide +kernel
theorem dX11_letter_61 : decode cX11_letter 61 = .ok (.iload 5, 2) := by decide +kernel
theorem dX11_letter_63 : decode cX11_letter 63 = .ok (.iload_n 2, 1) := by decide +kernel
theorem dX11_letter_64 : decode cX11_letter 64 = .ok (.if_icmp .le 14, 3) := by decide +kernel
theorem dX11_letter_67 : decode cX11_letter 67 = .ok (.iload_n 3, 1) := by decide +kernel
theorem dX11_letter_68 : decode cX11_letter 68 = .ok (.bipush 27, 2) := by decide +kernel
theorem dX11_letter_70 : decode cX11_letter 70 = .ok (.idiv, 1) := by decide +kernel
theorem dX11_letter_71 : decode cX11_letter 71 = .ok (.istore_n 3, 1) := by decide +kernel
theorem dX11_letter_72 : decode cX11_letter 72 = .ok (.iinc 5 (-1), 3) := by decide +kernel
theorem dX11_letter_75 : decode cX11_letter 75 = .ok (.goto (-14), 3) := by decide +kernel
theorem dX11_letter_78 : decode cX11_letter 78 = .ok (.iload_n 2, 1) := by decide +kernel
theorem dX11_letter_79 : decode cX11_letter 79 = .ok (.iload 4, 2) := by decide +kernel
theorem dX11_letter_81 : decode cX11_letter 81 = .ok (.if_icmp .ge 10, 3) := by decide +kernel
theorem dX11_letter_84 : decode cX11_letter 84 = .ok (.iload_n 3, 1) := by decide +kernel
theorem dX11_letter_85 : decode cX11_letter 85 = .ok (.bipush 27, 2) := by decide +kernel
theorem dX11_letter_87 : decode cX11_letter 87 = .ok (.irem, 1) := by decide +kernel
theorem dX11_letter_88 : decode cX11_letter 88 = .ok (.goto 4, 3) := by decide +kernel
theorem dX11_letter_91 : decode cX11_letter 91 = .ok (.iconst 0, 1) := by decide +kernel
theorem dX11_letter_92 : decode cX11_letter 92 = .ok (.ireturn, 1) := by decide +kernel
theorem dX11_named_0 : decode cX11_named 0 = .ok (.aload_n 0, 1) := by decide +kernel
theorem dX11_named_1 : decode cX11_named 1 = .ok (.getfield 96, 3) := by decide +kernel
theorem dX11_named_4 : decode cX11_named 4 = .ok (.istore_n 1, 1) := by decide +kernel
theorem dX11_named_5 : decode cX11_named 5 = .ok (.aload_n 0, 1) := by decide +kernel
theorem dX11_named_6 : decode cX11_named 6 = .ok (.iconst 0, 1) := by decide +kernel
theorem dX11_named_7 : decode cX11_named 7 = .ok (.putfield 96, 3) := by decide +kernel
theorem dX11_named_10 : decode cX11_named 10 = .ok (.iconst 0, 1) := by decide +kernel
theorem dX11_named_11 : decode cX11_named 11 = .ok (.istore_n 2, 1) := by decide +kernel
theorem dX11_named_12 : decode cX11_named 12 = .ok (.iconst 0, 1) := by decide +kernel
theorem dX11_named_13 : decode cX11_named 13 = .ok (.istore_n 3, 1) := by decide +kernel
theorem dX11_named_14 : decode cX11_named 14 = .ok (.iload_n 3, 1) := by decide +kernel
theorem dX11_named_15 : decode cX11_named 15 = .ok (.iload_n 1, 1) := by decide +kernel
theorem dX11_named_16 : decode cX11_named 16 = .ok (.if_icmp .ge 45, 3) := by decide +kernel
theorem dX11_named_19 : decode cX11_named 19 = .ok (.iload_n 3, 1) := by decide +kernel
theorem dX11_named_20 : decode cX11_named 20 = .ok (.iconst 4, 1) := by decide +kernel
theorem dX11_named_21 : decode cX11_named 21 = .ok (.if_icmp .eq 15, 3) := by decide +kernel
theorem dX11_named_24 : decode cX11_named 24 = .ok (.aload_n 0, 1) := by decide +kernel
theorem dX11_named_25 : decode cX11_named 25 = .ok (.getfield 7, 3) := by decide +kernel
theorem dX11_named_28 : decode cX11_named 28 = .ok (.iload_n 3, 1) := by decide +kernel
theorem dX11_named_29 : decode cX11_named 29 = .ok (.iaload, 1) := by decide +kernel
theorem dX11_named_30 : decode cX11_named 30 = .ok (.invokestatic 139, 3) := by decide +kernel
theorem dX11_named_33 : decode cX11_named 33 = .ok (.ifCond .ne 5, 3) := by decide +kernel
theorem dX11_named_36 : decode cX11_named 36 = .ok (.iconst (-1), 1) := by decide +kernel
theorem dX11_named_37 : decode cX11_named 37 = .ok (.ireturn, 1) := by decide +kernel
theorem dX11_named_38 : decode cX11_named 38 = .ok (.bipush 27, 2) := by decide +kernel
theorem dX11_named_40 : decode cX11_named 40 = .ok (.iload_n 2, 1) := by decide +kernel
theorem dX11_named_41 : decode cX11_named 41 = .ok (.imul, 1) := by decide +kernel
theorem dX11_named_42 : decode cX11_named 42 = .ok (.aload_n 0, 1) := by decide +kernel
theorem dX11_named_43 : decode cX11_named 43 = .ok (.getfield 7, 3) := by decide +kernel
theorem dX11_named_46 : decode cX11_named 46 = .ok (.iload_n 3, 1) := by decide +kernel
theorem dX11_named_47 : decode cX11_named 47 = .ok (.iaload, 1) := by decide +kernel
theorem dX11_named_48 : decode cX11_named 48 = .ok (.iadd, 1) := by decide +kernel
theorem dX11_named_49 : decode cX11_named 49 = .ok (.bipush 97, 2) := by decide +kernel
theorem dX11_named_51 : decode cX11_named 51 = .ok (.isub, 1) := by decide +kernel
theorem dX11_named_52 : decode cX11_named 52 = .ok (.iconst 1, 1) := by decide +kernel
theorem dX11_named_53 : decode cX11_named 53 = .ok (.iadd, 1) := by decide +kernel
theorem dX11_named_54 : decode cX11_named 54 = .ok (.istore_n 2, 1) := by decide +kernel
theorem dX11_named_55 : decode cX11_named 55 = .ok (.iinc 3 1, 3) := by decide +kernel
theorem dX11_named_58 : decode cX11_named 58 = .ok (.goto (-44), 3) := by decide +kernel
theorem dX11_named_61 : decode cX11_named 61 = .ok (.iload_n 1, 1) := by decide +kernel
theorem dX11_named_62 : decode cX11_named 62 = .ok (.ifCond .ne 7, 3) := by decide +kernel
theorem dX11_named_65 : decode cX11_named 65 = .ok (.iconst (-1), 1) := by decide +kernel
theorem dX11_named_66 : decode cX11_named 66 = .ok (.goto 11, 3) := by decide +kernel
theorem dX11_named_69 : decode cX11_named 69 = .ok (.aload_n 0, 1) := by decide +kernel
theorem dX11_named_70 : decode cX11_named 70 = .ok (.getfield 23, 3) := by decide +kernel
theorem dX11_named_73 : decode cX11_named 73 = .ok (.iload_n 2, 1) := by decide +kernel
theorem dX11_named_74 : decode cX11_named 74 = .ok (.invokestatic 165, 3) := by decide +kernel
theorem dX11_named_77 : decode cX11_named 77 = .ok (.ireturn, 1) := by decide +kernel
theorem dX11_line_0 : decode cX11_line 0 = .ok (.aload_n 0, 1) := by decide +kernel
theorem dX11_line_1 : decode cX11_line 1 = .ok (.iload_n 1, 1) := by decide +kernel
theorem dX11_line_2 : decode cX11_line 2 = .ok (.invokevirtual 262, 3) := by decide +kernel
theorem dX11_line_5 : decode cX11_line 5 = .ok (.ifCond .ne 5, 3) := by decide +kernel
theorem dX11_line_8 : decode cX11_line 8 = .ok (.iconst (-1), 1) := by decide +kernel
theorem dX11_line_9 : decode cX11_line 9 = .ok (.ireturn, 1) := by decide +kernel
theorem dX11_line_10 : decode cX11_line 10 = .ok (.aload_n 0, 1) := by decide +kernel
theorem dX11_line_11 : decode cX11_line 11 = .ok (.invokevirtual 244, 3) := by decide +kernel
theorem dX11_line_14 : decode cX11_line 14 = .ok (.iload_n 2, 1) := by decide +kernel
theorem dX11_line_15 : decode cX11_line 15 = .ok (.ifCond .ne 11, 3) := by decide +kernel
theorem dX11_line_18 : decode cX11_line 18 = .ok (.aload_n 0, 1) := by decide +kernel
theorem dX11_line_19 : decode cX11_line 19 = .ok (.iload_n 1, 1) := by decide +kernel
theorem dX11_line_20 : decode cX11_line 20 = .ok (.invokevirtual 208, 3) := by decide +kernel
theorem dX11_line_23 : decode cX11_line 23 = .ok (.goto 44, 3) := by decide +kernel
theorem dX11_line_26 : decode cX11_line 26 = .ok (.iload_n 2, 1) := by decide +kernel
theorem dX11_line_27 : decode cX11_line 27 = .ok (.iconst 1, 1) := by decide +kernel
theorem dX11_line_28 : decode cX11_line 28 = .ok (.if_icmp .ne 11, 3) := by decide +kernel
theorem dX11_line_31 : decode cX11_line 31 = .ok (.aload_n 0, 1) := by decide +kernel
theorem dX11_line_32 : decode cX11_line 32 = .ok (.iload_n 1, 1) := by decide +kernel
theorem dX11_line_33 : decode cX11_line 33 = .ok (.invokevirtual 211, 3) := by decide +kernel
theorem dX11_line_36 : decode cX11_line 36 = .ok (.goto 31, 3) := by decide +kernel
theorem dX11_line_39 : decode cX11_line 39 = .ok (.iload_n 2, 1) := by decide +kernel
theorem dX11_line_40 : decode cX11_line 40 = .ok (.iconst 2, 1) := by decide +kernel
theorem dX11_line_41 : decode cX11_line 41 = .ok (.if_icmp .ne 12, 3) := by decide +kernel
theorem dX11_line_44 : decode cX11_line 44 = .ok (.aload_n 0, 1) := by decide +kernel
theorem dX11_line_45 : decode cX11_line 45 = .ok (.getfield 32, 3) := by decide +kernel
theorem dX11_line_48 : decode cX11_line 48 = .ok (.iload_n 1, 1) := by decide +kernel
theorem dX11_line_49 : decode cX11_line 49 = .ok (.iaload, 1) := by decide +kernel
theorem dX11_line_50 : decode cX11_line 50 = .ok (.goto 17, 3) := by decide +kernel
theorem dX11_line_53 : decode cX11_line 53 = .ok (.iload_n 2, 1) := by decide +kernel
theorem dX11_line_54 : decode cX11_line 54 = .ok (.iconst 3, 1) := by decide +kernel
theorem dX11_line_55 : decode cX11_line 55 = .ok (.if_icmp .ne 11, 3) := by decide +kernel
theorem dX11_line_58 : decode cX11_line 58 = .ok (.aload_n 0, 1) := by decide +kernel
theorem dX11_line_59 : decode cX11_line 59 = .ok (.iload_n 1, 1) := by decide +kernel
theorem dX11_line_60 : decode cX11_line 60 = .ok (.invokevirtual 254, 3) := by decide +kernel
theorem dX11_line_63 : decode cX11_line 63 = .ok (.goto 4, 3) := by decide +kernel
theorem dX11_line_66 : decode cX11_line 66 = .ok (.iconst (-1), 1) := by decide +kernel
theorem dX11_line_67 : decode cX11_line 67 = .ok (.ireturn, 1) := by decide +kernel
theorem dX11_degreeOf_0 : decode cX11_degreeOf 0 = .ok (.iconst 0, 1) := by decide +kernel
theorem dX11_degreeOf_1 : decode cX11_degreeOf 1 = .ok (.istore_n 2, 1) := by decide +kernel
theorem dX11_degreeOf_2 : decode cX11_degreeOf 2 = .ok (.iconst 0, 1) := by decide +kernel
theorem dX11_degreeOf_3 : decode cX11_degreeOf 3 = .ok (.istore_n 3, 1) := by decide +kernel
theorem dX11_degreeOf_4 : decode cX11_degreeOf 4 = .ok (.iload_n 3, 1) := by decide +kernel
theorem dX11_degreeOf_5 : decode cX11_degreeOf 5 = .ok (.aload_n 0, 1) := by decide +kernel
theorem dX11_degreeOf_6 : decode cX11_degreeOf 6 = .ok (.getfield 23, 3) := by decide +kernel
theorem dX11_degreeOf_9 : decode cX11_degreeOf 9 = .ok (.iconst 1, 1) := by decide +kernel
theorem dX11_degreeOf_10 : decode cX11_degreeOf 10 = .ok (.iaload, 1) := by decide +kernel
theorem dX11_degreeOf_11 : decode cX11_degreeOf 11 = .ok (.if_icmp .ge 38, 3) := by decide +kernel
theorem dX11_degreeOf_14 : decode cX11_degreeOf 14 = .ok (.iload_n 2, 1) := by decide +kernel
theorem dX11_degreeOf_15 : decode cX11_degreeOf 15 = .ok (.aload_n 0, 1) := by decide +kernel
theorem dX11_degreeOf_16 : decode cX11_degreeOf 16 = .ok (.iload_n 3, 1) := by decide +kernel
theorem dX11_degreeOf_17 : decode cX11_degreeOf 17 = .ok (.invokevirtual 208, 3) := by decide +kernel
theorem dX11_degreeOf_20 : decode cX11_degreeOf 20 = .ok (.iload_n 1, 1) := by decide +kernel
theorem dX11_degreeOf_21 : decode cX11_degreeOf 21 = .ok (.if_icmp .eq 12, 3) := by decide +kernel
theorem dX11_degreeOf_24 : decode cX11_degreeOf 24 = .ok (.aload_n 0, 1) := by decide +kernel
theorem dX11_degreeOf_25 : decode cX11_degreeOf 25 = .ok (.iload_n 3, 1) := by decide +kernel
theorem dX11_degreeOf_26 : decode cX11_degreeOf 26 = .ok (.invokevirtual 211, 3) := by decide +kernel
theorem dX11_degreeOf_29 : decode cX11_degreeOf 29 = .ok (.iload_n 1, 1) := by decide +kernel
theorem dX11_degreeOf_30 : decode cX11_degreeOf 30 = .ok (.if_icmp .ne 7, 3) := by decide +kernel
theorem dX11_degreeOf_33 : decode cX11_degreeOf 33 = .ok (.iconst 1, 1) := by decide +kernel
theorem dX11_degreeOf_34 : decode cX11_degreeOf 34 = .ok (.goto 4, 3) := by decide +kernel
theorem dX11_degreeOf_37 : decode cX11_degreeOf 37 = .ok (.iconst 0, 1) := by decide +kernel
theorem dX11_degreeOf_38 : decode cX11_degreeOf 38 = .ok (.invokestatic 250, 3) := by decide +kernel
theorem dX11_degreeOf_41 : decode cX11_degreeOf 41 = .ok (.iadd, 1) := by decide +kernel
theorem dX11_degreeOf_42 : decode cX11_degreeOf 42 = .ok (.istore_n 2, 1) := by decide +kernel
theorem dX11_degreeOf_43 : decode cX11_degreeOf 43 = .ok (.iinc 3 1, 3) := by decide +kernel
theorem dX11_degreeOf_46 : decode cX11_degreeOf 46 = .ok (.goto (-42), 3) := by decide +kernel
theorem dX11_degreeOf_49 : decode cX11_degreeOf 49 = .ok (.iload_n 2, 1) := by decide +kernel
theorem dX11_degreeOf_50 : decode cX11_degreeOf 50 = .ok (.ireturn, 1) := by decide +kernel
theorem dX11_degree_0 : decode cX11_degree 0 = .ok (.aload_n 0, 1) := by decide +kernel
theorem dX11_degree_1 : decode cX11_degree 1 = .ok (.iload_n 1, 1) := by decide +kernel
theorem dX11_degree_2 : decode cX11_degree 2 = .ok (.invokevirtual 257, 3) := by decide +kernel
theorem dX11_degree_5 : decode cX11_degree 5 = .ok (.ifCond .eq 11, 3) := by decide +kernel
theorem dX11_degree_8 : decode cX11_degree 8 = .ok (.aload_n 0, 1) := by decide +kernel
theorem dX11_degree_9 : decode cX11_degree 9 = .ok (.iload_n 1, 1) := by decide +kernel
theorem dX11_degree_10 : decode cX11_degree 10 = .ok (.invokevirtual 265, 3) := by decide +kernel
theorem dX11_degree_13 : decode cX11_degree 13 = .ok (.goto 4, 3) := by decide +kernel
theorem dX11_degree_16 : decode cX11_degree 16 = .ok (.iconst (-1), 1) := by decide +kernel
theorem dX11_degree_17 : decode cX11_degree 17 = .ok (.ireturn, 1) := by decide +kernel
theorem dX11_areNodes_0 : decode cX11_areNodes 0 = .ok (.aload_n 0, 1) := by decide +kernel
theorem dX11_areNodes_1 : decode cX11_areNodes 1 = .ok (.invokevirtual 244, 3) := by decide +kernel
theorem dX11_areNodes_4 : decode cX11_areNodes 4 = .ok (.aload_n 0, 1) := by decide +kernel
theorem dX11_areNodes_5 : decode cX11_areNodes 5 = .ok (.iload_n 1, 1) := by decide +kernel
theorem dX11_areNodes_6 : decode cX11_areNodes 6 = .ok (.invokevirtual 257, 3) := by decide +kernel
theorem dX11_areNodes_9 : decode cX11_areNodes 9 = .ok (.ifCond .eq 15, 3) := by decide +kernel
theorem dX11_areNodes_12 : decode cX11_areNodes 12 = .ok (.aload_n 0, 1) := by decide +kernel
theorem dX11_areNodes_13 : decode cX11_areNodes 13 = .ok (.iload_n 2, 1) := by decide +kernel
theorem dX11_areNodes_14 : decode cX11_areNodes 14 = .ok (.invokevirtual 257, 3) := by decide +kernel
theorem dX11_areNodes_17 : decode cX11_areNodes 17 = .ok (.ifCond .eq 7, 3) := by decide +kernel
theorem dX11_areNodes_20 : decode cX11_areNodes 20 = .ok (.iconst 1, 1) := by decide +kernel
theorem dX11_areNodes_21 : decode cX11_areNodes 21 = .ok (.goto 4, 3) := by decide +kernel
theorem dX11_areNodes_24 : decode cX11_areNodes 24 = .ok (.iconst 0, 1) := by decide +kernel
theorem dX11_areNodes_25 : decode cX11_areNodes 25 = .ok (.ireturn, 1) := by decide +kernel
theorem dX11_far_0 : decode cX11_far 0 = .ok (.aload_n 0, 1) := by decide +kernel
theorem dX11_far_1 : decode cX11_far 1 = .ok (.iload_n 1, 1) := by decide +kernel
theorem dX11_far_2 : decode cX11_far 2 = .ok (.iload_n 2, 1) := by decide +kernel
theorem dX11_far_3 : decode cX11_far 3 = .ok (.invokevirtual 268, 3) := by decide +kernel
theorem dX11_far_6 : decode cX11_far 6 = .ok (.ifCond .eq 23, 3) := by decide +kernel
theorem dX11_far_9 : decode cX11_far 9 = .ok (.aload_n 0, 1) := by decide +kernel
theorem dX11_far_10 : decode cX11_far 10 = .ok (.iload_n 1, 1) := by decide +kernel
theorem dX11_far_11 : decode cX11_far 11 = .ok (.iload_n 2, 1) := by decide +kernel
theorem dX11_far_12 : decode cX11_far 12 = .ok (.invokevirtual 214, 3) := by decide +kernel
theorem dX11_far_15 : decode cX11_far 15 = .ok (.bipush 99, 2) := by decide +kernel
theorem dX11_far_17 : decode cX11_far 17 = .ok (.if_icmp .ge 12, 3) := by decide +kernel
theorem dX11_far_20 : decode cX11_far 20 = .ok (.aload_n 0, 1) := by decide +kernel
theorem dX11_far_21 : decode cX11_far 21 = .ok (.iload_n 1, 1) := by decide +kernel
theorem dX11_far_22 : decode cX11_far 22 = .ok (.iload_n 2, 1) := by decide +kernel
theorem dX11_far_23 : decode cX11_far 23 = .ok (.invokevirtual 214, 3) := by decide +kernel
theorem dX11_far_26 : decode cX11_far 26 = .ok (.goto 4, 3) := by decide +kernel
theorem dX11_far_29 : decode cX11_far 29 = .ok (.iconst (-1), 1) := by decide +kernel
theorem dX11_far_30 : decode cX11_far 30 = .ok (.ireturn, 1) := by decide +kernel
theorem dX11_ways_0 : decode cX11_ways 0 = .ok (.aload_n 0, 1) := by decide +kernel
theorem dX11_ways_1 : decode cX11_ways 1 = .ok (.iload_n 1, 1) := by decide +kernel
theorem dX11_ways_2 : decode cX11_ways 2 = .ok (.iload_n 2, 1) := by decide +kernel
theorem dX11_ways_3 : decode cX11_ways 3 = .ok (.invokevirtual 268, 3) := by decide +kernel
theorem dX11_ways_6 : decode cX11_ways 6 = .ok (.ifCond .ne 5, 3) := by decide +kernel
theorem dX11_ways_9 : decode cX11_ways 9 = .ok (.iconst (-1), 1) := by decide +kernel
theorem dX11_ways_10 : decode cX11_ways 10 = .ok (.ireturn, 1) := by decide +kernel
theorem dX11_ways_11 : decode cX11_ways 11 = .ok (.iconst 0, 1) := by decide +kernel
theorem dX11_ways_12 : decode cX11_ways 12 = .ok (.istore_n 3, 1) := by decide +kernel
theorem dX11_ways_13 : decode cX11_ways 13 = .ok (.iload_n 3, 1) := by decide +kernel
theorem dX11_ways_14 : decode cX11_ways 14 = .ok (.aload_n 0, 1) := by decide +kernel
theorem dX11_ways_15 : decode cX11_ways 15 = .ok (.getfield 23, 3) := by decide +kernel
theorem dX11_ways_18 : decode cX11_ways 18 = .ok (.iconst 0, 1) := by decide +kernel
theorem dX11_ways_19 : decode cX11_ways 19 = .ok (.iaload, 1) := by decide +kernel
theorem dX11_ways_20 : decode cX11_ways 20 = .ok (.if_icmp .ge 29, 3) := by decide +kernel
theorem dX11_ways_23 : decode cX11_ways 23 = .ok (.aload_n 0, 1) := by decide +kernel
theorem dX11_ways_24 : decode cX11_ways 24 = .ok (.getfield 47, 3) := by decide +kernel
theorem dX11_ways_27 : decode cX11_ways 27 = .ok (.iload_n 3, 1) := by decide +kernel
theorem dX11_ways_28 : decode cX11_ways 28 = .ok (.iload_n 3, 1) := by decide +kernel
theorem dX11_ways_29 : decode cX11_ways 29 = .ok (.iload_n 1, 1) := by decide +kernel
theorem dX11_ways_30 : decode cX11_ways 30 = .ok (.if_icmp .ne 7, 3) := by decide +kernel
theorem dX11_ways_33 : decode cX11_ways 33 = .ok (.iconst 1, 1) := by decide +kernel
theorem dX11_ways_34 : decode cX11_ways 34 = .ok (.goto 4, 3) := by decide +kernel
theorem dX11_ways_37 : decode cX11_ways 37 = .ok (.iconst 0, 1) := by decide +kernel
theorem dX11_ways_38 : decode cX11_ways 38 = .ok (.invokestatic 250, 3) := by decide +kernel
theorem dX11_ways_41 : decode cX11_ways 41 = .ok (.i2l, 1) := by decide +kernel
theorem dX11_ways_42 : decode cX11_ways 42 = .ok (.lastore, 1) := by decide +kernel
theorem dX11_ways_43 : decode cX11_ways 43 = .ok (.iinc 3 1, 3) := by decide +kernel
theorem dX11_ways_46 : decode cX11_ways 46 = .ok (.goto (-33), 3) := by decide +kernel
theorem dX11_ways_49 : decode cX11_ways 49 = .ok (.iconst 1, 1) := by decide +kernel
theorem dX11_ways_50 : decode cX11_ways 50 = .ok (.istore_n 3, 1) := by decide +kernel
theorem dX11_ways_51 : decode cX11_ways 51 = .ok (.iload_n 3, 1) := by decide +kernel
theorem dX11_ways_52 : decode cX11_ways 52 = .ok (.bipush 24, 2) := by decide +kernel
theorem dX11_ways_54 : decode cX11_ways 54 = .ok (.if_icmp .ge 138, 3) := by decide +kernel
theorem dX11_ways_57 : decode cX11_ways 57 = .ok (.iconst 0, 1) := by decide +kernel
theorem dX11_ways_58 : decode cX11_ways 58 = .ok (.istore 4, 2) := by decide +kernel
theorem dX11_ways_60 : decode cX11_ways 60 = .ok (.iload 4, 2) := by decide +kernel
theorem dX11_ways_62 : decode cX11_ways 62 = .ok (.aload_n 0, 1) := by decide +kernel
theorem dX11_ways_63 : decode cX11_ways 63 = .ok (.getfield 23, 3) := by decide +kernel
theorem dX11_ways_66 : decode cX11_ways 66 = .ok (.iconst 0, 1) := by decide +kernel
theorem dX11_ways_67 : decode cX11_ways 67 = .ok (.iaload, 1) := by decide +kernel
theorem dX11_ways_68 : decode cX11_ways 68 = .ok (.if_icmp .ge 118, 3) := by decide +kernel
theorem dX11_ways_71 : decode cX11_ways 71 = .ok (.aload_n 0, 1) := by decide +kernel
theorem dX11_ways_72 : decode cX11_ways 72 = .ok (.iload_n 1, 1) := by decide +kernel
theorem dX11_ways_73 : decode cX11_ways 73 = .ok (.iload 4, 2) := by decide +kernel
theorem dX11_ways_75 : decode cX11_ways 75 = .ok (.invokevirtual 214, 3) := by decide +kernel
theorem dX11_ways_78 : decode cX11_ways 78 = .ok (.iload_n 3, 1) := by decide +kernel
theorem dX11_ways_79 : decode cX11_ways 79 = .ok (.if_icmp .eq 6, 3) := by decide +kernel
theorem dX11_ways_82 : decode cX11_ways 82 = .ok (.goto 98, 3) := by decide +kernel
theorem dX11_ways_85 : decode cX11_ways 85 = .ok (.iconst 0, 1) := by decide +kernel
theorem dX11_ways_86 : decode cX11_ways 86 = .ok (.istore 5, 2) := by decide +kernel
theorem dX11_ways_88 : decode cX11_ways 88 = .ok (.iload 5, 2) := by decide +kernel
theorem dX11_ways_90 : decode cX11_ways 90 = .ok (.aload_n 0, 1) := by decide +kernel
theorem dX11_ways_91 : decode cX11_ways 91 = .ok (.getfield 23, 3) := by decide +kernel
theorem dX11_ways_94 : decode cX11_ways 94 = .ok (.iconst 0, 1) := by decide +kernel
theorem dX11_ways_95 : decode cX11_ways 95 = .ok (.iaload, 1) := by decide +kernel
theorem dX11_ways_96 : decode cX11_ways 96 = .ok (.if_icmp .ge 84, 3) := by decide +kernel
theorem dX11_ways_99 : decode cX11_ways 99 = .ok (.aload_n 0, 1) := by decide +kernel
theorem dX11_ways_100 : decode cX11_ways 100 = .ok (.iload 5, 2) := by decide +kernel
theorem dX11_ways_102 : decode cX11_ways 102 = .ok (.iload 4, 2) := by decide +kernel
theorem dX11_ways_104 : decode cX11_ways 104 = .ok (.invokevirtual 214, 3) := by decide +kernel
theorem dX11_ways_107 : decode cX11_ways 107 = .ok (.iconst 1, 1) := by decide +kernel
theorem dX11_ways_108 : decode cX11_ways 108 = .ok (.if_icmp .ne 66, 3) := by decide +kernel
theorem dX11_ways_111 : decode cX11_ways 111 = .ok (.aload_n 0, 1) := by decide +kernel
theorem dX11_ways_112 : decode cX11_ways 112 = .ok (.iload_n 1, 1) := by decide +kernel
theorem dX11_ways_113 : decode cX11_ways 113 = .ok (.iload 5, 2) := by decide +kernel
theorem dX11_ways_115 : decode cX11_ways 115 = .ok (.invokevirtual 214, 3) := by decide +kernel
theorem dX11_ways_118 : decode cX11_ways 118 = .ok (.iload_n 3, 1) := by decide +kernel
theorem dX11_ways_119 : decode cX11_ways 119 = .ok (.iconst 1, 1) := by decide +kernel
theorem dX11_ways_120 : decode cX11_ways 120 = .ok (.isub, 1) := by decide +kernel
theorem dX11_ways_121 : decode cX11_ways 121 = .ok (.if_icmp .ne 53, 3) := by decide +kernel
theorem dX11_ways_124 : decode cX11_ways 124 = .ok (.aload_n 0, 1) := by decide +kernel
theorem dX11_ways_125 : decode cX11_ways 125 = .ok (.getfield 47, 3) := by decide +kernel
theorem dX11_ways_128 : decode cX11_ways 128 = .ok (.iload 4, 2) := by decide +kernel
theorem dX11_ways_130 : decode cX11_ways 130 = .ok (.aload_n 0, 1) := by decide +kernel
theorem dX11_ways_131 : decode cX11_ways 131 = .ok (.getfield 47, 3) := by decide +kernel
theorem dX11_ways_134 : decode cX11_ways 134 = .ok (.iload 4, 2) := by decide +kernel
theorem dX11_ways_136 : decode cX11_ways 136 = .ok (.laload, 1) := by decide +kernel
theorem dX11_ways_137 : decode cX11_ways 137 = .ok (.aload_n 0, 1) := by decide +kernel
theorem dX11_ways_138 : decode cX11_ways 138 = .ok (.getfield 47, 3) := by decide +kernel
theorem dX11_ways_141 : decode cX11_ways 141 = .ok (.iload 5, 2) := by decide +kernel
theorem dX11_ways_143 : decode cX11_ways 143 = .ok (.laload, 1) := by decide +kernel
theorem dX11_ways_144 : decode cX11_ways 144 = .ok (.ladd, 1) := by decide +kernel
theorem dX11_ways_145 : decode cX11_ways 145 = .ok (.ldc2_w 271, 3) := by decide +kernel
theorem dX11_ways_148 : decode cX11_ways 148 = .ok (.lcmp, 1) := by decide +kernel
theorem dX11_ways_149 : decode cX11_ways 149 = .ok (.ifCond .le 9, 3) := by decide +kernel
theorem dX11_ways_152 : decode cX11_ways 152 = .ok (.ldc2_w 271, 3) := by decide +kernel
theorem dX11_ways_155 : decode cX11_ways 155 = .ok (.goto 18, 3) := by decide +kernel
theorem dX11_ways_158 : decode cX11_ways 158 = .ok (.aload_n 0, 1) := by decide +kernel
theorem dX11_ways_159 : decode cX11_ways 159 = .ok (.getfield 47, 3) := by decide +kernel
theorem dX11_ways_162 : decode cX11_ways 162 = .ok (.iload 4, 2) := by decide +kernel
theorem dX11_ways_164 : decode cX11_ways 164 = .ok (.laload, 1) := by decide +kernel
theorem dX11_ways_165 : decode cX11_ways 165 = .ok (.aload_n 0, 1) := by decide +kernel
theorem dX11_ways_166 : decode cX11_ways 166 = .ok (.getfield 47, 3) := by decide +kernel
theorem dX11_ways_169 : decode cX11_ways 169 = .ok (.iload 5, 2) := by decide +kernel
theorem dX11_ways_171 : decode cX11_ways 171 = .ok (.laload, 1) := by decide +kernel
theorem dX11_ways_172 : decode cX11_ways 172 = .ok (.ladd, 1) := by decide +kernel
theorem dX11_ways_173 : decode cX11_ways 173 = .ok (.lastore, 1) := by decide +kernel
theorem dX11_ways_174 : decode cX11_ways 174 = .ok (.iinc 5 1, 3) := by decide +kernel
theorem dX11_ways_177 : decode cX11_ways 177 = .ok (.goto (-89), 3) := by decide +kernel
theorem dX11_ways_180 : decode cX11_ways 180 = .ok (.iinc 4 1, 3) := by decide +kernel
theorem dX11_ways_183 : decode cX11_ways 183 = .ok (.goto (-123), 3) := by decide +kernel
theorem dX11_ways_186 : decode cX11_ways 186 = .ok (.iinc 3 1, 3) := by decide +kernel
theorem dX11_ways_189 : decode cX11_ways 189 = .ok (.goto (-138), 3) := by decide +kernel
theorem dX11_ways_192 : decode cX11_ways 192 = .ok (.aload_n 0, 1) := by decide +kernel
theorem dX11_ways_193 : decode cX11_ways 193 = .ok (.getfield 47, 3) := by decide +kernel
theorem dX11_ways_196 : decode cX11_ways 196 = .ok (.iload_n 2, 1) := by decide +kernel
theorem dX11_ways_197 : decode cX11_ways 197 = .ok (.laload, 1) := by decide +kernel
theorem dX11_ways_198 : decode cX11_ways 198 = .ok (.l2i, 1) := by decide +kernel
theorem dX11_ways_199 : decode cX11_ways 199 = .ok (.ireturn, 1) := by decide +kernel
theorem dX11_betweenOf_0 : decode cX11_betweenOf 0 = .ok (.iconst 0, 1) := by decide +kernel
theorem dX11_betweenOf_1 : decode cX11_betweenOf 1 = .ok (.istore_n 3, 1) := by decide +kernel
theorem dX11_betweenOf_2 : decode cX11_betweenOf 2 = .ok (.iconst 0, 1) := by decide +kernel
theorem dX11_betweenOf_3 : decode cX11_betweenOf 3 = .ok (.istore 4, 2) := by decide +kernel
theorem dX11_betweenOf_5 : decode cX11_betweenOf 5 = .ok (.iload 4, 2) := by decide +kernel
theorem dX11_betweenOf_7 : decode cX11_betweenOf 7 = .ok (.aload_n 0, 1) := by decide +kernel
theorem dX11_betweenOf_8 : decode cX11_betweenOf 8 = .ok (.getfield 23, 3) := by decide +kernel
theorem dX11_betweenOf_11 : decode cX11_betweenOf 11 = .ok (.iconst 0, 1) := by decide +kernel
theorem dX11_betweenOf_12 : decode cX11_betweenOf 12 = .ok (.iaload, 1) := by decide +kernel
theorem dX11_betweenOf_13 : decode cX11_betweenOf 13 = .ok (.if_icmp .ge 51, 3) := by decide +kernel
theorem dX11_betweenOf_16 : decode cX11_betweenOf 16 = .ok (.aload_n 0, 1) := by decide +kernel
theorem dX11_betweenOf_17 : decode cX11_betweenOf 17 = .ok (.iload_n 1, 1) := by decide +kernel
theorem dX11_betweenOf_18 : decode cX11_betweenOf 18 = .ok (.iload_n 2, 1) := by decide +kernel
theorem dX11_betweenOf_19 : decode cX11_betweenOf 19 = .ok (.invokevirtual 214, 3) := by decide +kernel
theorem dX11_betweenOf_22 : decode cX11_betweenOf 22 = .ok (.bipush 99, 2) := by decide +kernel
theorem dX11_betweenOf_24 : decode cX11_betweenOf 24 = .ok (.if_icmp .ge 40, 3) := by decide +kernel
theorem dX11_betweenOf_27 : decode cX11_betweenOf 27 = .ok (.aload_n 0, 1) := by decide +kernel
theorem dX11_betweenOf_28 : decode cX11_betweenOf 28 = .ok (.iload_n 1, 1) := by decide +kernel
theorem dX11_betweenOf_29 : decode cX11_betweenOf 29 = .ok (.iload 4, 2) := by decide +kernel
theorem dX11_betweenOf_31 : decode cX11_betweenOf 31 = .ok (.invokevirtual 214, 3) := by decide +kernel
theorem dX11_betweenOf_34 : decode cX11_betweenOf 34 = .ok (.aload_n 0, 1) := by decide +kernel
theorem dX11_betweenOf_35 : decode cX11_betweenOf 35 = .ok (.iload 4, 2) := by decide +kernel
theorem dX11_betweenOf_37 : decode cX11_betweenOf 37 = .ok (.iload_n 2, 1) := by decide +kernel
theorem dX11_betweenOf_38 : decode cX11_betweenOf 38 = .ok (.invokevirtual 214, 3) := by decide +kernel
theorem dX11_betweenOf_41 : decode cX11_betweenOf 41 = .ok (.iadd, 1) := by decide +kernel
theorem dX11_betweenOf_42 : decode cX11_betweenOf 42 = .ok (.aload_n 0, 1) := by decide +kernel
theorem dX11_betweenOf_43 : decode cX11_betweenOf 43 = .ok (.iload_n 1, 1) := by decide +kernel
theorem dX11_betweenOf_44 : decode cX11_betweenOf 44 = .ok (.iload_n 2, 1) := by decide +kernel
theorem dX11_betweenOf_45 : decode cX11_betweenOf 45 = .ok (.invokevirtual 214, 3) := by decide +kernel
theorem dX11_betweenOf_48 : decode cX11_betweenOf 48 = .ok (.if_icmp .ne 10, 3) := by decide +kernel
theorem dX11_betweenOf_51 : decode cX11_betweenOf 51 = .ok (.iload_n 3, 1) := by decide +kernel
theorem dX11_betweenOf_52 : decode cX11_betweenOf 52 = .ok (.iconst 1, 1) := by decide +kernel
theorem dX11_betweenOf_53 : decode cX11_betweenOf 53 = .ok (.iload 4, 2) := by decide +kernel
theorem dX11_betweenOf_55 : decode cX11_betweenOf 55 = .ok (.ishl, 1) := by decide +kernel
theorem dX11_betweenOf_56 : decode cX11_betweenOf 56 = .ok (.ior, 1) := by decide +kernel
theorem dX11_betweenOf_57 : decode cX11_betweenOf 57 = .ok (.istore_n 3, 1) := by decide +kernel
theorem dX11_betweenOf_58 : decode cX11_betweenOf 58 = .ok (.iinc 4 1, 3) := by decide +kernel
theorem dX11_betweenOf_61 : decode cX11_betweenOf 61 = .ok (.goto (-56), 3) := by decide +kernel
theorem dX11_betweenOf_64 : decode cX11_betweenOf 64 = .ok (.iload_n 3, 1) := by decide +kernel
theorem dX11_betweenOf_65 : decode cX11_betweenOf 65 = .ok (.ireturn, 1) := by decide +kernel
theorem dX11_between_0 : decode cX11_between 0 = .ok (.aload_n 0, 1) := by decide +kernel
theorem dX11_between_1 : decode cX11_between 1 = .ok (.iload_n 1, 1) := by decide +kernel
theorem dX11_between_2 : decode cX11_between 2 = .ok (.iload_n 2, 1) := by decide +kernel
theorem dX11_between_3 : decode cX11_between 3 = .ok (.invokevirtual 268, 3) := by decide +kernel
theorem dX11_between_6 : decode cX11_between 6 = .ok (.ifCond .eq 12, 3) := by decide +kernel
theorem dX11_between_9 : decode cX11_between 9 = .ok (.aload_n 0, 1) := by decide +kernel
theorem dX11_between_10 : decode cX11_between 10 = .ok (.iload_n 1, 1) := by decide +kernel
theorem dX11_between_11 : decode cX11_between 11 = .ok (.iload_n 2, 1) := by decide +kernel
theorem dX11_between_12 : decode cX11_between 12 = .ok (.invokevirtual 273, 3) := by decide +kernel
theorem dX11_between_15 : decode cX11_between 15 = .ok (.goto 4, 3) := by decide +kernel
theorem dX11_between_18 : decode cX11_between 18 = .ok (.iconst (-1), 1) := by decide +kernel
theorem dX11_between_19 : decode cX11_between 19 = .ok (.ireturn, 1) := by decide +kernel
theorem dX11_reach_0 : decode cX11_reach 0 = .ok (.aload_n 0, 1) := by decide +kernel
theorem dX11_reach_1 : decode cX11_reach 1 = .ok (.iload_n 1, 1) := by decide +kernel
theorem dX11_reach_2 : decode cX11_reach 2 = .ok (.iload_n 1, 1) := by decide +kernel
theorem dX11_reach_3 : decode cX11_reach 3 = .ok (.invokevirtual 268, 3) := by decide +kernel
theorem dX11_reach_6 : decode cX11_reach 6 = .ok (.ifCond .ne 5, 3) := by decide +kernel
theorem dX11_reach_9 : decode cX11_reach 9 = .ok (.iconst (-1), 1) := by decide +kernel
theorem dX11_reach_10 : decode cX11_reach 10 = .ok (.ireturn, 1) := by decide +kernel
theorem dX11_reach_11 : decode cX11_reach 11 = .ok (.iconst 0, 1) := by decide +kernel
theorem dX11_reach_12 : decode cX11_reach 12 = .ok (.istore_n 2, 1) := by decide +kernel
theorem dX11_reach_13 : decode cX11_reach 13 = .ok (.iconst 0, 1) := by decide +kernel
theorem dX11_reach_14 : decode cX11_reach 14 = .ok (.istore_n 3, 1) := by decide +kernel
theorem dX11_reach_15 : decode cX11_reach 15 = .ok (.iload_n 3, 1) := by decide +kernel
theorem dX11_reach_16 : decode cX11_reach 16 = .ok (.aload_n 0, 1) := by decide +kernel
theorem dX11_reach_17 : decode cX11_reach 17 = .ok (.getfield 23, 3) := by decide +kernel
theorem dX11_reach_20 : decode cX11_reach 20 = .ok (.iconst 0, 1) := by decide +kernel
theorem dX11_reach_21 : decode cX11_reach 21 = .ok (.iaload, 1) := by decide +kernel
theorem dX11_reach_22 : decode cX11_reach 22 = .ok (.if_icmp .ge 37, 3) := by decide +kernel
theorem dX11_reach_25 : decode cX11_reach 25 = .ok (.aload_n 0, 1) := by decide +kernel
theorem dX11_reach_26 : decode cX11_reach 26 = .ok (.iload_n 1, 1) := by decide +kernel
theorem dX11_reach_27 : decode cX11_reach 27 = .ok (.iload_n 3, 1) := by decide +kernel
theorem dX11_reach_28 : decode cX11_reach 28 = .ok (.invokevirtual 214, 3) := by decide +kernel
theorem dX11_reach_31 : decode cX11_reach 31 = .ok (.bipush 99, 2) := by decide +kernel
theorem dX11_reach_33 : decode cX11_reach 33 = .ok (.if_icmp .ge 20, 3) := by decide +kernel
theorem dX11_reach_36 : decode cX11_reach 36 = .ok (.aload_n 0, 1) := by decide +kernel
theorem dX11_reach_37 : decode cX11_reach 37 = .ok (.iload_n 1, 1) := by decide +kernel
theorem dX11_reach_38 : decode cX11_reach 38 = .ok (.iload_n 3, 1) := by decide +kernel
theorem dX11_reach_39 : decode cX11_reach 39 = .ok (.invokevirtual 214, 3) := by decide +kernel
theorem dX11_reach_42 : decode cX11_reach 42 = .ok (.iload_n 2, 1) := by decide +kernel
theorem dX11_reach_43 : decode cX11_reach 43 = .ok (.if_icmp .le 10, 3) := by decide +kernel
theorem dX11_reach_46 : decode cX11_reach 46 = .ok (.aload_n 0, 1) := by decide +kernel
theorem dX11_reach_47 : decode cX11_reach 47 = .ok (.iload_n 1, 1) := by decide +kernel
theorem dX11_reach_48 : decode cX11_reach 48 = .ok (.iload_n 3, 1) := by decide +kernel
theorem dX11_reach_49 : decode cX11_reach 49 = .ok (.invokevirtual 214, 3) := by decide +kernel
theorem dX11_reach_52 : decode cX11_reach 52 = .ok (.istore_n 2, 1) := by decide +kernel
theorem dX11_reach_53 : decode cX11_reach 53 = .ok (.iinc 3 1, 3) := by decide +kernel
theorem dX11_reach_56 : decode cX11_reach 56 = .ok (.goto (-41), 3) := by decide +kernel
theorem dX11_reach_59 : decode cX11_reach 59 = .ok (.iload_n 2, 1) := by decide +kernel
theorem dX11_reach_60 : decode cX11_reach 60 = .ok (.ireturn, 1) := by decide +kernel
theorem dX11_laysCosts_0 : decode cX11_laysCosts 0 = .ok (.iconst 0, 1) := by decide +kernel
theorem dX11_laysCosts_1 : decode cX11_laysCosts 1 = .ok (.istore_n 2, 1) := by decide +kernel
theorem dX11_laysCosts_2 : decode cX11_laysCosts 2 = .ok (.iload_n 2, 1) := by decide +kernel
theorem dX11_laysCosts_3 : decode cX11_laysCosts 3 = .ok (.aload_n 0, 1) := by decide +kernel
theorem dX11_laysCosts_4 : decode cX11_laysCosts 4 = .ok (.getfield 23, 3) := by decide +kernel
theorem dX11_laysCosts_7 : decode cX11_laysCosts 7 = .ok (.iconst 0, 1) := by decide +kernel
theorem dX11_laysCosts_8 : decode cX11_laysCosts 8 = .ok (.iaload, 1) := by decide +kernel
theorem dX11_laysCosts_9 : decode cX11_laysCosts 9 = .ok (.if_icmp .ge 27, 3) := by decide +kernel
theorem dX11_laysCosts_12 : decode cX11_laysCosts 12 = .ok (.aload_n 0, 1) := by decide +kernel
theorem dX11_laysCosts_13 : decode cX11_laysCosts 13 = .ok (.getfield 51, 3) := by decide +kernel
theorem dX11_laysCosts_16 : decode cX11_laysCosts 16 = .ok (.iload_n 2, 1) := by decide +kernel
theorem dX11_laysCosts_17 : decode cX11_laysCosts 17 = .ok (.iload_n 2, 1) := by decide +kernel
theorem dX11_laysCosts_18 : decode cX11_laysCosts 18 = .ok (.iload_n 1, 1) := by decide +kernel
theorem dX11_laysCosts_19 : decode cX11_laysCosts 19 = .ok (.if_icmp .ne 7, 3) := by decide +kernel
theorem dX11_laysCosts_22 : decode cX11_laysCosts 22 = .ok (.iconst 0, 1) := by decide +kernel
theorem dX11_laysCosts_23 : decode cX11_laysCosts 23 = .ok (.goto 6, 3) := by decide +kernel
theorem dX11_laysCosts_26 : decode cX11_laysCosts 26 = .ok (.ldc_w 276, 3) := by decide +kernel
theorem dX11_laysCosts_29 : decode cX11_laysCosts 29 = .ok (.iastore, 1) := by decide +kernel
theorem dX11_laysCosts_30 : decode cX11_laysCosts 30 = .ok (.iinc 2 1, 3) := by decide +kernel
theorem dX11_laysCosts_33 : decode cX11_laysCosts 33 = .ok (.goto (-31), 3) := by decide +kernel
theorem dX11_laysCosts_36 : decode cX11_laysCosts 36 = .ok (.iconst 1, 1) := by decide +kernel
theorem dX11_laysCosts_37 : decode cX11_laysCosts 37 = .ok (.istore_n 2, 1) := by decide +kernel
theorem dX11_laysCosts_38 : decode cX11_laysCosts 38 = .ok (.iload_n 2, 1) := by decide +kernel
theorem dX11_laysCosts_39 : decode cX11_laysCosts 39 = .ok (.ifCond .eq 90, 3) := by decide +kernel
theorem dX11_laysCosts_42 : decode cX11_laysCosts 42 = .ok (.iconst 0, 1) := by decide +kernel
theorem dX11_laysCosts_43 : decode cX11_laysCosts 43 = .ok (.istore_n 2, 1) := by decide +kernel
theorem dX11_laysCosts_44 : decode cX11_laysCosts 44 = .ok (.iconst 0, 1) := by decide +kernel
theorem dX11_laysCosts_45 : decode cX11_laysCosts 45 = .ok (.istore_n 3, 1) := by decide +kernel
theorem dX11_laysCosts_46 : decode cX11_laysCosts 46 = .ok (.iload_n 3, 1) := by decide +kernel
theorem dX11_laysCosts_47 : decode cX11_laysCosts 47 = .ok (.aload_n 0, 1) := by decide +kernel
theorem dX11_laysCosts_48 : decode cX11_laysCosts 48 = .ok (.getfield 23, 3) := by decide +kernel
theorem dX11_laysCosts_51 : decode cX11_laysCosts 51 = .ok (.iconst 1, 1) := by decide +kernel
theorem dX11_laysCosts_52 : decode cX11_laysCosts 52 = .ok (.iaload, 1) := by decide +kernel
theorem dX11_laysCosts_53 : decode cX11_laysCosts 53 = .ok (.if_icmp .ge 73, 3) := by decide +kernel
theorem dX11_laysCosts_56 : decode cX11_laysCosts 56 = .ok (.aload_n 0, 1) := by decide +kernel
theorem dX11_laysCosts_57 : decode cX11_laysCosts 57 = .ok (.aload_n 0, 1) := by decide +kernel
theorem dX11_laysCosts_58 : decode cX11_laysCosts 58 = .ok (.iload_n 3, 1) := by decide +kernel
theorem dX11_laysCosts_59 : decode cX11_laysCosts 59 = .ok (.invokevirtual 208, 3) := by decide +kernel
theorem dX11_laysCosts_62 : decode cX11_laysCosts 62 = .ok (.aload_n 0, 1) := by decide +kernel
theorem dX11_laysCosts_63 : decode cX11_laysCosts 63 = .ok (.iload_n 3, 1) := by decide +kernel
theorem dX11_laysCosts_64 : decode cX11_laysCosts 64 = .ok (.invokevirtual 211, 3) := by decide +kernel
theorem dX11_laysCosts_67 : decode cX11_laysCosts 67 = .ok (.aload_n 0, 1) := by decide +kernel
theorem dX11_laysCosts_68 : decode cX11_laysCosts 68 = .ok (.iload_n 3, 1) := by decide +kernel
theorem dX11_laysCosts_69 : decode cX11_laysCosts 69 = .ok (.invokevirtual 254, 3) := by decide +kernel
theorem dX11_laysCosts_72 : decode cX11_laysCosts 72 = .ok (.invokevirtual 277, 3) := by decide +kernel
theorem dX11_laysCosts_75 : decode cX11_laysCosts 75 = .ok (.ifCond .ne 7, 3) := by decide +kernel
theorem dX11_laysCosts_78 : decode cX11_laysCosts 78 = .ok (.iload_n 2, 1) := by decide +kernel
theorem dX11_laysCosts_79 : decode cX11_laysCosts 79 = .ok (.ifCond .eq 7, 3) := by decide +kernel
theorem dX11_laysCosts_82 : decode cX11_laysCosts 82 = .ok (.iconst 1, 1) := by decide +kernel
theorem dX11_laysCosts_83 : decode cX11_laysCosts 83 = .ok (.goto 4, 3) := by decide +kernel
theorem dX11_laysCosts_86 : decode cX11_laysCosts 86 = .ok (.iconst 0, 1) := by decide +kernel
theorem dX11_laysCosts_87 : decode cX11_laysCosts 87 = .ok (.istore_n 2, 1) := by decide +kernel
theorem dX11_laysCosts_88 : decode cX11_laysCosts 88 = .ok (.aload_n 0, 1) := by decide +kernel
theorem dX11_laysCosts_89 : decode cX11_laysCosts 89 = .ok (.aload_n 0, 1) := by decide +kernel
theorem dX11_laysCosts_90 : decode cX11_laysCosts 90 = .ok (.iload_n 3, 1) := by decide +kernel
theorem dX11_laysCosts_91 : decode cX11_laysCosts 91 = .ok (.invokevirtual 211, 3) := by decide +kernel
theorem dX11_laysCosts_94 : decode cX11_laysCosts 94 = .ok (.aload_n 0, 1) := by decide +kernel
theorem dX11_laysCosts_95 : decode cX11_laysCosts 95 = .ok (.iload_n 3, 1) := by decide +kernel
theorem dX11_laysCosts_96 : decode cX11_laysCosts 96 = .ok (.invokevirtual 208, 3) := by decide +kernel
theorem dX11_laysCosts_99 : decode cX11_laysCosts 99 = .ok (.aload_n 0, 1) := by decide +kernel
theorem dX11_laysCosts_100 : decode cX11_laysCosts 100 = .ok (.iload_n 3, 1) := by decide +kernel
theorem dX11_laysCosts_101 : decode cX11_laysCosts 101 = .ok (.invokevirtual 254, 3) := by decide +kernel
theorem dX11_laysCosts_104 : decode cX11_laysCosts 104 = .ok (.invokevirtual 277, 3) := by decide +kernel
theorem dX11_laysCosts_107 : decode cX11_laysCosts 107 = .ok (.ifCond .ne 7, 3) := by decide +kernel
theorem dX11_laysCosts_110 : decode cX11_laysCosts 110 = .ok (.iload_n 2, 1) := by decide +kernel
theorem dX11_laysCosts_111 : decode cX11_laysCosts 111 = .ok (.ifCond .eq 7, 3) := by decide +kernel
theorem dX11_laysCosts_114 : decode cX11_laysCosts 114 = .ok (.iconst 1, 1) := by decide +kernel
theorem dX11_laysCosts_115 : decode cX11_laysCosts 115 = .ok (.goto 4, 3) := by decide +kernel
theorem dX11_laysCosts_118 : decode cX11_laysCosts 118 = .ok (.iconst 0, 1) := by decide +kernel
theorem dX11_laysCosts_119 : decode cX11_laysCosts 119 = .ok (.istore_n 2, 1) := by decide +kernel
theorem dX11_laysCosts_120 : decode cX11_laysCosts 120 = .ok (.iinc 3 1, 3) := by decide +kernel
theorem dX11_laysCosts_123 : decode cX11_laysCosts 123 = .ok (.goto (-77), 3) := by decide +kernel
theorem dX11_laysCosts_126 : decode cX11_laysCosts 126 = .ok (.goto (-88), 3) := by decide +kernel
theorem dX11_laysCosts_129 : decode cX11_laysCosts 129 = .ok (.return_, 1) := by decide +kernel
theorem dX11_cheapens_0 : decode cX11_cheapens 0 = .ok (.aload_n 0, 1) := by decide +kernel
theorem dX11_cheapens_1 : decode cX11_cheapens 1 = .ok (.getfield 51, 3) := by decide +kernel
theorem dX11_cheapens_4 : decode cX11_cheapens 4 = .ok (.iload_n 2, 1) := by decide +kernel
theorem dX11_cheapens_5 : decode cX11_cheapens 5 = .ok (.iaload, 1) := by decide +kernel
theorem dX11_cheapens_6 : decode cX11_cheapens 6 = .ok (.iload_n 3, 1) := by decide +kernel
theorem dX11_cheapens_7 : decode cX11_cheapens 7 = .ok (.iadd, 1) := by decide +kernel
theorem dX11_cheapens_8 : decode cX11_cheapens 8 = .ok (.aload_n 0, 1) := by decide +kernel
theorem dX11_cheapens_9 : decode cX11_cheapens 9 = .ok (.getfield 51, 3) := by decide +kernel
theorem dX11_cheapens_12 : decode cX11_cheapens 12 = .ok (.iload_n 1, 1) := by decide +kernel
theorem dX11_cheapens_13 : decode cX11_cheapens 13 = .ok (.iaload, 1) := by decide +kernel
theorem dX11_cheapens_14 : decode cX11_cheapens 14 = .ok (.if_icmp .lt 5, 3) := by decide +kernel
theorem dX11_cheapens_17 : decode cX11_cheapens 17 = .ok (.iconst 0, 1) := by decide +kernel
theorem dX11_cheapens_18 : decode cX11_cheapens 18 = .ok (.ireturn, 1) := by decide +kernel
theorem dX11_cheapens_19 : decode cX11_cheapens 19 = .ok (.aload_n 0, 1) := by decide +kernel
theorem dX11_cheapens_20 : decode cX11_cheapens 20 = .ok (.getfield 51, 3) := by decide +kernel
theorem dX11_cheapens_23 : decode cX11_cheapens 23 = .ok (.iload_n 1, 1) := by decide +kernel
theorem dX11_cheapens_24 : decode cX11_cheapens 24 = .ok (.aload_n 0, 1) := by decide +kernel
theorem dX11_cheapens_25 : decode cX11_cheapens 25 = .ok (.getfield 51, 3) := by decide +kernel
theorem dX11_cheapens_28 : decode cX11_cheapens 28 = .ok (.iload_n 2, 1) := by decide +kernel
theorem dX11_cheapens_29 : decode cX11_cheapens 29 = .ok (.iaload, 1) := by decide +kernel
theorem dX11_cheapens_30 : decode cX11_cheapens 30 = .ok (.iload_n 3, 1) := by decide +kernel
theorem dX11_cheapens_31 : decode cX11_cheapens 31 = .ok (.iadd, 1) := by decide +kernel
theorem dX11_cheapens_32 : decode cX11_cheapens 32 = .ok (.iastore, 1) := by decide +kernel
theorem dX11_cheapens_33 : decode cX11_cheapens 33 = .ok (.iconst 1, 1) := by decide +kernel
theorem dX11_cheapens_34 : decode cX11_cheapens 34 = .ok (.ireturn, 1) := by decide +kernel
theorem dX11_barOf_0 : decode cX11_barOf 0 = .ok (.iconst 0, 1) := by decide +kernel
theorem dX11_barOf_1 : decode cX11_barOf 1 = .ok (.istore_n 3, 1) := by decide +kernel
theorem dX11_barOf_2 : decode cX11_barOf 2 = .ok (.iconst 1, 1) := by decide +kernel
theorem dX11_barOf_3 : decode cX11_barOf 3 = .ok (.iload_n 1, 1) := by decide +kernel
theorem dX11_barOf_4 : decode cX11_barOf 4 = .ok (.ishl, 1) := by decide +kernel
theorem dX11_barOf_5 : decode cX11_barOf 5 = .ok (.istore 4, 2) := by decide +kernel
theorem dX11_barOf_7 : decode cX11_barOf 7 = .ok (.iload 4, 2) := by decide +kernel
theorem dX11_barOf_9 : decode cX11_barOf 9 = .ok (.iload_n 2, 1) := by decide +kernel
theorem dX11_barOf_10 : decode cX11_barOf 10 = .ok (.invokestatic 281, 3) := by decide +kernel
theorem dX11_barOf_13 : decode cX11_barOf 13 = .ok (.ifCond .ne 106, 3) := by decide +kernel
theorem dX11_barOf_16 : decode cX11_barOf 16 = .ok (.iinc 3 1, 3) := by decide +kernel
theorem dX11_barOf_19 : decode cX11_barOf 19 = .ok (.iconst 0, 1) := by decide +kernel
theorem dX11_barOf_20 : decode cX11_barOf 20 = .ok (.istore 5, 2) := by decide +kernel
theorem dX11_barOf_22 : decode cX11_barOf 22 = .ok (.iload 5, 2) := by decide +kernel
theorem dX11_barOf_24 : decode cX11_barOf 24 = .ok (.iload 4, 2) := by decide +kernel
theorem dX11_barOf_26 : decode cX11_barOf 26 = .ok (.if_icmp .eq 90, 3) := by decide +kernel
theorem dX11_barOf_29 : decode cX11_barOf 29 = .ok (.iload 4, 2) := by decide +kernel
theorem dX11_barOf_31 : decode cX11_barOf 31 = .ok (.istore 5, 2) := by decide +kernel
theorem dX11_barOf_33 : decode cX11_barOf 33 = .ok (.iconst 0, 1) := by decide +kernel
theorem dX11_barOf_34 : decode cX11_barOf 34 = .ok (.istore 6, 2) := by decide +kernel
theorem dX11_barOf_36 : decode cX11_barOf 36 = .ok (.iload 6, 2) := by decide +kernel
theorem dX11_barOf_38 : decode cX11_barOf 38 = .ok (.aload_n 0, 1) := by decide +kernel
theorem dX11_barOf_39 : decode cX11_barOf 39 = .ok (.getfield 23, 3) := by decide +kernel
theorem dX11_barOf_42 : decode cX11_barOf 42 = .ok (.iconst 1, 1) := by decide +kernel
theorem dX11_barOf_43 : decode cX11_barOf 43 = .ok (.iaload, 1) := by decide +kernel
theorem dX11_barOf_44 : decode cX11_barOf 44 = .ok (.if_icmp .ge 69, 3) := by decide +kernel
theorem dX11_barOf_47 : decode cX11_barOf 47 = .ok (.aload_n 0, 1) := by decide +kernel
theorem dX11_barOf_48 : decode cX11_barOf 48 = .ok (.iload 6, 2) := by decide +kernel
theorem dX11_barOf_50 : decode cX11_barOf 50 = .ok (.invokevirtual 254, 3) := by decide +kernel
theorem dX11_barOf_53 : decode cX11_barOf 53 = .ok (.iload_n 3, 1) := by decide +kernel
theorem dX11_barOf_54 : decode cX11_barOf 54 = .ok (.if_icmp .gt 53, 3) := by decide +kernel
theorem dX11_barOf_57 : decode cX11_barOf 57 = .ok (.iload 4, 2) := by decide +kernel
theorem dX11_barOf_59 : decode cX11_barOf 59 = .ok (.aload_n 0, 1) := by decide +kernel
theorem dX11_barOf_60 : decode cX11_barOf 60 = .ok (.iload 6, 2) := by decide +kernel
theorem dX11_barOf_62 : decode cX11_barOf 62 = .ok (.invokevirtual 208, 3) := by decide +kernel
theorem dX11_barOf_65 : decode cX11_barOf 65 = .ok (.invokestatic 281, 3) := by decide +kernel
theorem dX11_barOf_68 : decode cX11_barOf 68 = .ok (.ifCond .ne 17, 3) := by decide +kernel
theorem dX11_barOf_71 : decode cX11_barOf 71 = .ok (.iload 4, 2) := by decide +kernel
theorem dX11_barOf_73 : decode cX11_barOf 73 = .ok (.aload_n 0, 1) := by decide +kernel
theorem dX11_barOf_74 : decode cX11_barOf 74 = .ok (.iload 6, 2) := by decide +kernel
theorem dX11_barOf_76 : decode cX11_barOf 76 = .ok (.invokevirtual 211, 3) := by decide +kernel
theorem dX11_barOf_79 : decode cX11_barOf 79 = .ok (.invokestatic 281, 3) := by decide +kernel
theorem dX11_barOf_82 : decode cX11_barOf 82 = .ok (.ifCond .eq 25, 3) := by decide +kernel
theorem dX11_barOf_85 : decode cX11_barOf 85 = .ok (.iload 4, 2) := by decide +kernel
theorem dX11_barOf_87 : decode cX11_barOf 87 = .ok (.iconst 1, 1) := by decide +kernel
theorem dX11_barOf_88 : decode cX11_barOf 88 = .ok (.aload_n 0, 1) := by decide +kernel
theorem dX11_barOf_89 : decode cX11_barOf 89 = .ok (.iload 6, 2) := by decide +kernel
theorem dX11_barOf_91 : decode cX11_barOf 91 = .ok (.invokevirtual 208, 3) := by decide +kernel
theorem dX11_barOf_94 : decode cX11_barOf 94 = .ok (.ishl, 1) := by decide +kernel
theorem dX11_barOf_95 : decode cX11_barOf 95 = .ok (.iconst 1, 1) := by decide +kernel
theorem dX11_barOf_96 : decode cX11_barOf 96 = .ok (.aload_n 0, 1) := by decide +kernel
theorem dX11_barOf_97 : decode cX11_barOf 97 = .ok (.iload 6, 2) := by decide +kernel
theorem dX11_barOf_99 : decode cX11_barOf 99 = .ok (.invokevirtual 211, 3) := by decide +kernel
theorem dX11_barOf_102 : decode cX11_barOf 102 = .ok (.ishl, 1) := by decide +kernel
theorem dX11_barOf_103 : decode cX11_barOf 103 = .ok (.ior, 1) := by decide +kernel
theorem dX11_barOf_104 : decode cX11_barOf 104 = .ok (.ior, 1) := by decide +kernel
theorem dX11_barOf_105 : decode cX11_barOf 105 = .ok (.istore 4, 2) := by decide +kernel
theorem dX11_barOf_107 : decode cX11_barOf 107 = .ok (.iinc 6 1, 3) := by decide +kernel
theorem dX11_barOf_110 : decode cX11_barOf 110 = .ok (.goto (-74), 3) := by decide +kernel
theorem dX11_barOf_113 : decode cX11_barOf 113 = .ok (.goto (-91), 3) := by decide +kernel
theorem dX11_barOf_116 : decode cX11_barOf 116 = .ok (.goto (-109), 3) := by decide +kernel
theorem dX11_barOf_119 : decode cX11_barOf 119 = .ok (.iload_n 3, 1) := by decide +kernel
theorem dX11_barOf_120 : decode cX11_barOf 120 = .ok (.ireturn, 1) := by decide +kernel
theorem dX11_areJoined_0 : decode cX11_areJoined 0 = .ok (.aload_n 0, 1) := by decide +kernel
theorem dX11_areJoined_1 : decode cX11_areJoined 1 = .ok (.iload_n 1, 1) := by decide +kernel
theorem dX11_areJoined_2 : decode cX11_areJoined 2 = .ok (.iload_n 2, 1) := by decide +kernel
theorem dX11_areJoined_3 : decode cX11_areJoined 3 = .ok (.invokevirtual 268, 3) := by decide +kernel
theorem dX11_areJoined_6 : decode cX11_areJoined 6 = .ok (.ifCond .eq 18, 3) := by decide +kernel
theorem dX11_areJoined_9 : decode cX11_areJoined 9 = .ok (.aload_n 0, 1) := by decide +kernel
theorem dX11_areJoined_10 : decode cX11_areJoined 10 = .ok (.iload_n 1, 1) := by decide +kernel
theorem dX11_areJoined_11 : decode cX11_areJoined 11 = .ok (.iload_n 2, 1) := by decide +kernel
theorem dX11_areJoined_12 : decode cX11_areJoined 12 = .ok (.invokevirtual 214, 3) := by decide +kernel
theorem dX11_areJoined_15 : decode cX11_areJoined 15 = .ok (.bipush 99, 2) := by decide +kernel
theorem dX11_areJoined_17 : decode cX11_areJoined 17 = .ok (.if_icmp .ge 7, 3) := by decide +kernel
theorem dX11_areJoined_20 : decode cX11_areJoined 20 = .ok (.iconst 1, 1) := by decide +kernel
theorem dX11_areJoined_21 : decode cX11_areJoined 21 = .ok (.goto 4, 3) := by decide +kernel
theorem dX11_areJoined_24 : decode cX11_areJoined 24 = .ok (.iconst 0, 1) := by decide +kernel
theorem dX11_areJoined_25 : decode cX11_areJoined 25 = .ok (.ireturn, 1) := by decide +kernel
theorem dX11_price_0 : decode cX11_price 0 = .ok (.aload_n 0, 1) := by decide +kernel
theorem dX11_price_1 : decode cX11_price 1 = .ok (.iload_n 1, 1) := by decide +kernel
theorem dX11_price_2 : decode cX11_price 2 = .ok (.iload_n 2, 1) := by decide +kernel
theorem dX11_price_3 : decode cX11_price 3 = .ok (.invokevirtual 284, 3) := by decide +kernel
theorem dX11_price_6 : decode cX11_price 6 = .ok (.ifCond .eq 13, 3) := by decide +kernel
theorem dX11_price_9 : decode cX11_price 9 = .ok (.iload_n 3, 1) := by decide +kernel
theorem dX11_price_10 : decode cX11_price 10 = .ok (.i2l, 1) := by decide +kernel
theorem dX11_price_11 : decode cX11_price 11 = .ok (.lconst 0, 1) := by decide +kernel
theorem dX11_price_12 : decode cX11_price 12 = .ok (.lconst 1, 1) := by decide +kernel
theorem dX11_price_13 : decode cX11_price 13 = .ok (.invokestatic 109, 3) := by decide +kernel
theorem dX11_price_16 : decode cX11_price 16 = .ok (.ifCond .ne 5, 3) := by decide +kernel
theorem dX11_price_19 : decode cX11_price 19 = .ok (.iconst (-1), 1) := by decide +kernel
theorem dX11_price_20 : decode cX11_price 20 = .ok (.ireturn, 1) := by decide +kernel
theorem dX11_price_21 : decode cX11_price 21 = .ok (.iload_n 3, 1) := by decide +kernel
theorem dX11_price_22 : decode cX11_price 22 = .ok (.iconst 1, 1) := by decide +kernel
theorem dX11_price_23 : decode cX11_price 23 = .ok (.if_icmp .ne 10, 3) := by decide +kernel
theorem dX11_price_26 : decode cX11_price 26 = .ok (.aload_n 0, 1) := by decide +kernel
theorem dX11_price_27 : decode cX11_price 27 = .ok (.iload_n 1, 1) := by decide +kernel
theorem dX11_price_28 : decode cX11_price 28 = .ok (.iload_n 2, 1) := by decide +kernel
theorem dX11_price_29 : decode cX11_price 29 = .ok (.invokevirtual 287, 3) := by decide +kernel
theorem dX11_price_32 : decode cX11_price 32 = .ok (.ireturn, 1) := by decide +kernel
theorem dX11_price_33 : decode cX11_price 33 = .ok (.aload_n 0, 1) := by decide +kernel
theorem dX11_price_34 : decode cX11_price 34 = .ok (.iload_n 2, 1) := by decide +kernel
theorem dX11_price_35 : decode cX11_price 35 = .ok (.invokevirtual 290, 3) := by decide +kernel
theorem dX11_price_38 : decode cX11_price 38 = .ok (.aload_n 0, 1) := by decide +kernel
theorem dX11_price_39 : decode cX11_price 39 = .ok (.getfield 51, 3) := by decide +kernel
theorem dX11_price_42 : decode cX11_price 42 = .ok (.iload_n 1, 1) := by decide +kernel
theorem dX11_price_43 : decode cX11_price 43 = .ok (.iaload, 1) := by decide +kernel
theorem dX11_price_44 : decode cX11_price 44 = .ok (.ireturn, 1) := by decide +kernel
theorem dX11_nextOf_0 : decode cX11_nextOf 0 = .ok (.iconst 0, 1) := by decide +kernel
theorem dX11_nextOf_1 : decode cX11_nextOf 1 = .ok (.istore_n 2, 1) := by decide +kernel
theorem dX11_nextOf_2 : decode cX11_nextOf 2 = .ok (.iload_n 2, 1) := by decide +kernel
theorem dX11_nextOf_3 : decode cX11_nextOf 3 = .ok (.aload_n 0, 1) := by decide +kernel
theorem dX11_nextOf_4 : decode cX11_nextOf 4 = .ok (.getfield 23, 3) := by decide +kernel
theorem dX11_nextOf_7 : decode cX11_nextOf 7 = .ok (.iconst 0, 1) := by decide +kernel
theorem dX11_nextOf_8 : decode cX11_nextOf 8 = .ok (.iaload, 1) := by decide +kernel
theorem dX11_nextOf_9 : decode cX11_nextOf 9 = .ok (.if_icmp .ge 52, 3) := by decide +kernel
theorem dX11_nextOf_12 : decode cX11_nextOf 12 = .ok (.aload_n 0, 1) := by decide +kernel
theorem dX11_nextOf_13 : decode cX11_nextOf 13 = .ok (.getfield 23, 3) := by decide +kernel
theorem dX11_nextOf_16 : decode cX11_nextOf 16 = .ok (.iload_n 1, 1) := by decide +kernel
theorem dX11_nextOf_17 : decode cX11_nextOf 17 = .ok (.iload_n 2, 1) := by decide +kernel
theorem dX11_nextOf_18 : decode cX11_nextOf 18 = .ok (.invokestatic 169, 3) := by decide +kernel
theorem dX11_nextOf_21 : decode cX11_nextOf 21 = .ok (.istore_n 3, 1) := by decide +kernel
theorem dX11_nextOf_22 : decode cX11_nextOf 22 = .ok (.iload_n 2, 1) := by decide +kernel
theorem dX11_nextOf_23 : decode cX11_nextOf 23 = .ok (.iload_n 1, 1) := by decide +kernel
theorem dX11_nextOf_24 : decode cX11_nextOf 24 = .ok (.if_icmp .eq 31, 3) := by decide +kernel
theorem dX11_nextOf_27 : decode cX11_nextOf 27 = .ok (.iload_n 3, 1) := by decide +kernel
theorem dX11_nextOf_28 : decode cX11_nextOf 28 = .ok (.iconst (-1), 1) := by decide +kernel
theorem dX11_nextOf_29 : decode cX11_nextOf 29 = .ok (.if_icmp .eq 26, 3) := by decide +kernel
theorem dX11_nextOf_32 : decode cX11_nextOf 32 = .ok (.aload_n 0, 1) := by decide +kernel
theorem dX11_nextOf_33 : decode cX11_nextOf 33 = .ok (.getfield 51, 3) := by decide +kernel
theorem dX11_nextOf_36 : decode cX11_nextOf 36 = .ok (.iload_n 2, 1) := by decide +kernel
theorem dX11_nextOf_37 : decode cX11_nextOf 37 = .ok (.iaload, 1) := by decide +kernel
theorem dX11_nextOf_38 : decode cX11_nextOf 38 = .ok (.aload_n 0, 1) := by decide +kernel
theorem dX11_nextOf_39 : decode cX11_nextOf 39 = .ok (.iload_n 3, 1) := by decide +kernel
theorem dX11_nextOf_40 : decode cX11_nextOf 40 = .ok (.invokevirtual 254, 3) := by decide +kernel
theorem dX11_nextOf_43 : decode cX11_nextOf 43 = .ok (.iadd, 1) := by decide +kernel
theorem dX11_nextOf_44 : decode cX11_nextOf 44 = .ok (.aload_n 0, 1) := by decide +kernel
theorem dX11_nextOf_45 : decode cX11_nextOf 45 = .ok (.getfield 51, 3) := by decide +kernel
theorem dX11_nextOf_48 : decode cX11_nextOf 48 = .ok (.iload_n 1, 1) := by decide +kernel
theorem dX11_nextOf_49 : decode cX11_nextOf 49 = .ok (.iaload, 1) := by decide +kernel
theorem dX11_nextOf_50 : decode cX11_nextOf 50 = .ok (.if_icmp .ne 5, 3) := by decide +kernel
theorem dX11_nextOf_53 : decode cX11_nextOf 53 = .ok (.iload_n 2, 1) := by decide +kernel
theorem dX11_nextOf_54 : decode cX11_nextOf 54 = .ok (.ireturn, 1) := by decide +kernel
theorem dX11_nextOf_55 : decode cX11_nextOf 55 = .ok (.iinc 2 1, 3) := by decide +kernel
theorem dX11_nextOf_58 : decode cX11_nextOf 58 = .ok (.goto (-56), 3) := by decide +kernel
theorem dX11_nextOf_61 : decode cX11_nextOf 61 = .ok (.iconst (-1), 1) := by decide +kernel
theorem dX11_nextOf_62 : decode cX11_nextOf 62 = .ok (.ireturn, 1) := by decide +kernel
theorem dX11_road_0 : decode cX11_road 0 = .ok (.aload_n 0, 1) := by decide +kernel
theorem dX11_road_1 : decode cX11_road 1 = .ok (.iload_n 1, 1) := by decide +kernel
theorem dX11_road_2 : decode cX11_road 2 = .ok (.iload_n 2, 1) := by decide +kernel
theorem dX11_road_3 : decode cX11_road 3 = .ok (.invokevirtual 284, 3) := by decide +kernel
theorem dX11_road_6 : decode cX11_road 6 = .ok (.ifCond .eq 8, 3) := by decide +kernel
theorem dX11_road_9 : decode cX11_road 9 = .ok (.iload_n 3, 1) := by decide +kernel
theorem dX11_road_10 : decode cX11_road 10 = .ok (.iconst (-1), 1) := by decide +kernel
theorem dX11_road_11 : decode cX11_road 11 = .ok (.if_icmp .ge 5, 3) := by decide +kernel
theorem dX11_road_14 : decode cX11_road 14 = .ok (.iconst (-1), 1) := by decide +kernel
theorem dX11_road_15 : decode cX11_road 15 = .ok (.ireturn, 1) := by decide +kernel
theorem dX11_road_16 : decode cX11_road 16 = .ok (.aload_n 0, 1) := by decide +kernel
theorem dX11_road_17 : decode cX11_road 17 = .ok (.iload_n 2, 1) := by decide +kernel
theorem dX11_road_18 : decode cX11_road 18 = .ok (.invokevirtual 290, 3) := by decide +kernel
theorem dX11_road_21 : decode cX11_road 21 = .ok (.iload_n 1, 1) := by decide +kernel
theorem dX11_road_22 : decode cX11_road 22 = .ok (.istore 4, 2) := by decide +kernel
theorem dX11_road_24 : decode cX11_road 24 = .ok (.iconst 0, 1) := by decide +kernel
theorem dX11_road_25 : decode cX11_road 25 = .ok (.istore 5, 2) := by decide +kernel
theorem dX11_road_27 : decode cX11_road 27 = .ok (.iload 4, 2) := by decide +kernel
theorem dX11_road_29 : decode cX11_road 29 = .ok (.iload_n 2, 1) := by decide +kernel
theorem dX11_road_30 : decode cX11_road 30 = .ok (.if_icmp .eq 23, 3) := by decide +kernel
theorem dX11_road_33 : decode cX11_road 33 = .ok (.iload 5, 2) := by decide +kernel
theorem dX11_road_35 : decode cX11_road 35 = .ok (.iload_n 3, 1) := by decide +kernel
theorem dX11_road_36 : decode cX11_road 36 = .ok (.if_icmp .eq 17, 3) := by decide +kernel
theorem dX11_road_39 : decode cX11_road 39 = .ok (.aload_n 0, 1) := by decide +kernel
theorem dX11_road_40 : decode cX11_road 40 = .ok (.iload 4, 2) := by decide +kernel
theorem dX11_road_42 : decode cX11_road 42 = .ok (.invokevirtual 293, 3) := by decide +kernel
theorem dX11_road_45 : decode cX11_road 45 = .ok (.istore 4, 2) := by decide +kernel
theorem dX11_road_47 : decode cX11_road 47 = .ok (.iinc 5 1, 3) := by decide +kernel
theorem dX11_road_50 : decode cX11_road 50 = .ok (.goto (-23), 3) := by decide +kernel
theorem dX11_road_53 : decode cX11_road 53 = .ok (.iload_n 3, 1) := by decide +kernel
theorem dX11_road_54 : decode cX11_road 54 = .ok (.iconst (-1), 1) := by decide +kernel
theorem dX11_road_55 : decode cX11_road 55 = .ok (.if_icmp .ne 10, 3) := by decide +kernel
theorem dX11_road_58 : decode cX11_road 58 = .ok (.iload 5, 2) := by decide +kernel
theorem dX11_road_60 : decode cX11_road 60 = .ok (.iconst 1, 1) := by decide +kernel
theorem dX11_road_61 : decode cX11_road 61 = .ok (.iadd, 1) := by decide +kernel
theorem dX11_road_62 : decode cX11_road 62 = .ok (.goto 15, 3) := by decide +kernel
theorem dX11_road_65 : decode cX11_road 65 = .ok (.iload 5, 2) := by decide +kernel
theorem dX11_road_67 : decode cX11_road 67 = .ok (.iload_n 3, 1) := by decide +kernel
theorem dX11_road_68 : decode cX11_road 68 = .ok (.if_icmp .ne 8, 3) := by decide +kernel
theorem dX11_road_71 : decode cX11_road 71 = .ok (.iload 4, 2) := by decide +kernel
theorem dX11_road_73 : decode cX11_road 73 = .ok (.goto 4, 3) := by decide +kernel
theorem dX11_road_76 : decode cX11_road 76 = .ok (.iconst (-1), 1) := by decide +kernel
theorem dX11_road_77 : decode cX11_road 77 = .ok (.ireturn, 1) := by decide +kernel
theorem dX11_spread_0 : decode cX11_spread 0 = .ok (.aload_n 0, 1) := by decide +kernel
theorem dX11_spread_1 : decode cX11_spread 1 = .ok (.invokevirtual 244, 3) := by decide +kernel
theorem dX11_spread_4 : decode cX11_spread 4 = .ok (.iconst 0, 1) := by decide +kernel
theorem dX11_spread_5 : decode cX11_spread 5 = .ok (.istore_n 1, 1) := by decide +kernel
theorem dX11_spread_6 : decode cX11_spread 6 = .ok (.iconst 0, 1) := by decide +kernel
theorem dX11_spread_7 : decode cX11_spread 7 = .ok (.istore_n 2, 1) := by decide +kernel
theorem dX11_spread_8 : decode cX11_spread 8 = .ok (.iload_n 2, 1) := by decide +kernel
theorem dX11_spread_9 : decode cX11_spread 9 = .ok (.aload_n 0, 1) := by decide +kernel
theorem dX11_spread_10 : decode cX11_spread 10 = .ok (.getfield 23, 3) := by decide +kernel
theorem dX11_spread_13 : decode cX11_spread 13 = .ok (.iconst 0, 1) := by decide +kernel
theorem dX11_spread_14 : decode cX11_spread 14 = .ok (.iaload, 1) := by decide +kernel
theorem dX11_spread_15 : decode cX11_spread 15 = .ok (.if_icmp .ge 49, 3) := by decide +kernel
theorem dX11_spread_18 : decode cX11_spread 18 = .ok (.iload_n 2, 1) := by decide +kernel
theorem dX11_spread_19 : decode cX11_spread 19 = .ok (.iconst 1, 1) := by decide +kernel
theorem dX11_spread_20 : decode cX11_spread 20 = .ok (.iadd, 1) := by decide +kernel
theorem dX11_spread_21 : decode cX11_spread 21 = .ok (.istore_n 3, 1) := by decide +kernel
theorem dX11_spread_22 : decode cX11_spread 22 = .ok (.iload_n 3, 1) := by decide +kernel
theorem dX11_spread_23 : decode cX11_spread 23 = .ok (.aload_n 0, 1) := by decide +kernel
theorem dX11_spread_24 : decode cX11_spread 24 = .ok (.getfield 23, 3) := by decide +kernel
theorem dX11_spread_27 : decode cX11_spread 27 = .ok (.iconst 0, 1) := by decide +kernel
theorem dX11_spread_28 : decode cX11_spread 28 = .ok (.iaload, 1) := by decide +kernel
theorem dX11_spread_29 : decode cX11_spread 29 = .ok (.if_icmp .ge 29, 3) := by decide +kernel
theorem dX11_spread_32 : decode cX11_spread 32 = .ok (.aload_n 0, 1) := by decide +kernel
theorem dX11_spread_33 : decode cX11_spread 33 = .ok (.iload_n 2, 1) := by decide +kernel
theorem dX11_spread_34 : decode cX11_spread 34 = .ok (.iload_n 3, 1) := by decide +kernel
theorem dX11_spread_35 : decode cX11_spread 35 = .ok (.invokevirtual 214, 3) := by decide +kernel
theorem dX11_spread_38 : decode cX11_spread 38 = .ok (.bipush 99, 2) := by decide +kernel
theorem dX11_spread_40 : decode cX11_spread 40 = .ok (.if_icmp .ge 12, 3) := by decide +kernel
theorem dX11_spread_43 : decode cX11_spread 43 = .ok (.iload_n 1, 1) := by decide +kernel
theorem dX11_spread_44 : decode cX11_spread 44 = .ok (.aload_n 0, 1) := by decide +kernel
theorem dX11_spread_45 : decode cX11_spread 45 = .ok (.iload_n 2, 1) := by decide +kernel
theorem dX11_spread_46 : decode cX11_spread 46 = .ok (.iload_n 3, 1) := by decide +kernel
theorem dX11_spread_47 : decode cX11_spread 47 = .ok (.invokevirtual 214, 3) := by decide +kernel
theorem dX11_spread_50 : decode cX11_spread 50 = .ok (.iadd, 1) := by decide +kernel
theorem dX11_spread_51 : decode cX11_spread 51 = .ok (.istore_n 1, 1) := by decide +kernel
theorem dX11_spread_52 : decode cX11_spread 52 = .ok (.iinc 3 1, 3) := by decide +kernel
theorem dX11_spread_55 : decode cX11_spread 55 = .ok (.goto (-33), 3) := by decide +kernel
theorem dX11_spread_58 : decode cX11_spread 58 = .ok (.iinc 2 1, 3) := by decide +kernel
theorem dX11_spread_61 : decode cX11_spread 61 = .ok (.goto (-53), 3) := by decide +kernel
theorem dX11_spread_64 : decode cX11_spread 64 = .ok (.iload_n 1, 1) := by decide +kernel
theorem dX11_spread_65 : decode cX11_spread 65 = .ok (.ireturn, 1) := by decide +kernel
theorem dX11_alike_0 : decode cX11_alike 0 = .ok (.aload_n 0, 1) := by decide +kernel
theorem dX11_alike_1 : decode cX11_alike 1 = .ok (.iload_n 1, 1) := by decide +kernel
theorem dX11_alike_2 : decode cX11_alike 2 = .ok (.invokevirtual 262, 3) := by decide +kernel
theorem dX11_alike_5 : decode cX11_alike 5 = .ok (.ifCond .eq 11, 3) := by decide +kernel
theorem dX11_alike_8 : decode cX11_alike 8 = .ok (.aload_n 0, 1) := by decide +kernel
theorem dX11_alike_9 : decode cX11_alike 9 = .ok (.iload_n 2, 1) := by decide +kernel
theorem dX11_alike_10 : decode cX11_alike 10 = .ok (.invokevirtual 262, 3) := by decide +kernel
theorem dX11_alike_13 : decode cX11_alike 13 = .ok (.ifCond .ne 5, 3) := by decide +kernel
theorem dX11_alike_16 : decode cX11_alike 16 = .ok (.iconst (-1), 1) := by decide +kernel
theorem dX11_alike_17 : decode cX11_alike 17 = .ok (.ireturn, 1) := by decide +kernel
theorem dX11_alike_18 : decode cX11_alike 18 = .ok (.aload_n 0, 1) := by decide +kernel
theorem dX11_alike_19 : decode cX11_alike 19 = .ok (.invokevirtual 244, 3) := by decide +kernel
theorem dX11_alike_22 : decode cX11_alike 22 = .ok (.aload_n 0, 1) := by decide +kernel
theorem dX11_alike_23 : decode cX11_alike 23 = .ok (.iload_n 1, 1) := by decide +kernel
theorem dX11_alike_24 : decode cX11_alike 24 = .ok (.iload_n 2, 1) := by decide +kernel
theorem dX11_alike_25 : decode cX11_alike 25 = .ok (.invokevirtual 218, 3) := by decide +kernel
theorem dX11_alike_28 : decode cX11_alike 28 = .ok (.invokestatic 250, 3) := by decide +kernel
theorem dX11_alike_31 : decode cX11_alike 31 = .ok (.ireturn, 1) := by decide +kernel
theorem dX11_sideOne_0 : decode cX11_sideOne 0 = .ok (.iconst 0, 1) := by decide +kernel
theorem dX11_sideOne_1 : decode cX11_sideOne 1 = .ok (.istore_n 2, 1) := by decide +kernel
theorem dX11_sideOne_2 : decode cX11_sideOne 2 = .ok (.iconst 0, 1) := by decide +kernel
theorem dX11_sideOne_3 : decode cX11_sideOne 3 = .ok (.istore_n 3, 1) := by decide +kernel
theorem dX11_sideOne_4 : decode cX11_sideOne 4 = .ok (.iload_n 3, 1) := by decide +kernel
theorem dX11_sideOne_5 : decode cX11_sideOne 5 = .ok (.aload_n 0, 1) := by decide +kernel
theorem dX11_sideOne_6 : decode cX11_sideOne 6 = .ok (.getfield 23, 3) := by decide +kernel
theorem dX11_sideOne_9 : decode cX11_sideOne 9 = .ok (.iconst 0, 1) := by decide +kernel
theorem dX11_sideOne_10 : decode cX11_sideOne 10 = .ok (.iaload, 1) := by decide +kernel
theorem dX11_sideOne_11 : decode cX11_sideOne 11 = .ok (.if_icmp .ge 28, 3) := by decide +kernel
theorem dX11_sideOne_14 : decode cX11_sideOne 14 = .ok (.aload_n 0, 1) := by decide +kernel
theorem dX11_sideOne_15 : decode cX11_sideOne 15 = .ok (.getfield 41, 3) := by decide +kernel
theorem dX11_sideOne_18 : decode cX11_sideOne 18 = .ok (.iload_n 3, 1) := by decide +kernel
theorem dX11_sideOne_19 : decode cX11_sideOne 19 = .ok (.iaload, 1) := by decide +kernel
theorem dX11_sideOne_20 : decode cX11_sideOne 20 = .ok (.iload_n 1, 1) := by decide +kernel
theorem dX11_sideOne_21 : decode cX11_sideOne 21 = .ok (.invokestatic 281, 3) := by decide +kernel
theorem dX11_sideOne_24 : decode cX11_sideOne 24 = .ok (.ifCond .eq 9, 3) := by decide +kernel
theorem dX11_sideOne_27 : decode cX11_sideOne 27 = .ok (.iload_n 2, 1) := by decide +kernel
theorem dX11_sideOne_28 : decode cX11_sideOne 28 = .ok (.iconst 1, 1) := by decide +kernel
theorem dX11_sideOne_29 : decode cX11_sideOne 29 = .ok (.iload_n 3, 1) := by decide +kernel
theorem dX11_sideOne_30 : decode cX11_sideOne 30 = .ok (.ishl, 1) := by decide +kernel
theorem dX11_sideOne_31 : decode cX11_sideOne 31 = .ok (.ior, 1) := by decide +kernel
theorem dX11_sideOne_32 : decode cX11_sideOne 32 = .ok (.istore_n 2, 1) := by decide +kernel
theorem dX11_sideOne_33 : decode cX11_sideOne 33 = .ok (.iinc 3 1, 3) := by decide +kernel
theorem dX11_sideOne_36 : decode cX11_sideOne 36 = .ok (.goto (-32), 3) := by decide +kernel
theorem dX11_sideOne_39 : decode cX11_sideOne 39 = .ok (.iload_n 2, 1) := by decide +kernel
theorem dX11_sideOne_40 : decode cX11_sideOne 40 = .ok (.ireturn, 1) := by decide +kernel
theorem dX11_costOf_0 : decode cX11_costOf 0 = .ok (.aload_n 0, 1) := by decide +kernel
theorem dX11_costOf_1 : decode cX11_costOf 1 = .ok (.iload_n 1, 1) := by decide +kernel
theorem dX11_costOf_2 : decode cX11_costOf 2 = .ok (.invokevirtual 296, 3) := by decide +kernel
theorem dX11_costOf_5 : decode cX11_costOf 5 = .ok (.invokestatic 299, 3) := by decide +kernel
theorem dX11_costOf_8 : decode cX11_costOf 8 = .ok (.istore_n 2, 1) := by decide +kernel
theorem dX11_costOf_9 : decode cX11_costOf 9 = .ok (.iload_n 2, 1) := by decide +kernel
theorem dX11_costOf_10 : decode cX11_costOf 10 = .ok (.aload_n 0, 1) := by decide +kernel
theorem dX11_costOf_11 : decode cX11_costOf 11 = .ok (.getfield 23, 3) := by decide +kernel
theorem dX11_costOf_14 : decode cX11_costOf 14 = .ok (.iconst 0, 1) := by decide +kernel
theorem dX11_costOf_15 : decode cX11_costOf 15 = .ok (.iaload, 1) := by decide +kernel
theorem dX11_costOf_16 : decode cX11_costOf 16 = .ok (.iload_n 2, 1) := by decide +kernel
theorem dX11_costOf_17 : decode cX11_costOf 17 = .ok (.isub, 1) := by decide +kernel
theorem dX11_costOf_18 : decode cX11_costOf 18 = .ok (.imul, 1) := by decide +kernel
theorem dX11_costOf_19 : decode cX11_costOf 19 = .ok (.ireturn, 1) := by decide +kernel
theorem dX11_sort_0 : decode cX11_sort 0 = .ok (.aload_n 0, 1) := by decide +kernel
theorem dX11_sort_1 : decode cX11_sort 1 = .ok (.invokevirtual 244, 3) := by decide +kernel
theorem dX11_sort_4 : decode cX11_sort 4 = .ok (.iload_n 1, 1) := by decide +kernel
theorem dX11_sort_5 : decode cX11_sort 5 = .ok (.i2l, 1) := by decide +kernel
theorem dX11_sort_6 : decode cX11_sort 6 = .ok (.lconst 0, 1) := by decide +kernel
theorem dX11_sort_7 : decode cX11_sort 7 = .ok (.aload_n 0, 1) := by decide +kernel
theorem dX11_sort_8 : decode cX11_sort 8 = .ok (.getfield 222, 3) := by decide +kernel
theorem dX11_sort_11 : decode cX11_sort 11 = .ok (.iconst 1, 1) := by decide +kernel
theorem dX11_sort_12 : decode cX11_sort 12 = .ok (.isub, 1) := by decide +kernel
theorem dX11_sort_13 : decode cX11_sort 13 = .ok (.i2l, 1) := by decide +kernel
theorem dX11_sort_14 : decode cX11_sort 14 = .ok (.invokestatic 109, 3) := by decide +kernel
theorem dX11_sort_17 : decode cX11_sort 17 = .ok (.ifCond .ne 5, 3) := by decide +kernel
theorem dX11_sort_20 : decode cX11_sort 20 = .ok (.iconst (-1), 1) := by decide +kernel
theorem dX11_sort_21 : decode cX11_sort 21 = .ok (.ireturn, 1) := by decide +kernel
theorem dX11_sort_22 : decode cX11_sort 22 = .ok (.iconst 0, 1) := by decide +kernel
theorem dX11_sort_23 : decode cX11_sort 23 = .ok (.istore_n 3, 1) := by decide +kernel
theorem dX11_sort_24 : decode cX11_sort 24 = .ok (.iconst 0, 1) := by decide +kernel
theorem dX11_sort_25 : decode cX11_sort 25 = .ok (.istore 4, 2) := by decide +kernel
theorem dX11_sort_27 : decode cX11_sort 27 = .ok (.iload 4, 2) := by decide +kernel
theorem dX11_sort_29 : decode cX11_sort 29 = .ok (.aload_n 0, 1) := by decide +kernel
theorem dX11_sort_30 : decode cX11_sort 30 = .ok (.getfield 23, 3) := by decide +kernel
theorem dX11_sort_33 : decode cX11_sort 33 = .ok (.iconst 1, 1) := by decide +kernel
theorem dX11_sort_34 : decode cX11_sort 34 = .ok (.iaload, 1) := by decide +kernel
theorem dX11_sort_35 : decode cX11_sort 35 = .ok (.if_icmp .ge 31, 3) := by decide +kernel
theorem dX11_sort_38 : decode cX11_sort 38 = .ok (.iload_n 3, 1) := by decide +kernel
theorem dX11_sort_39 : decode cX11_sort 39 = .ok (.aload_n 0, 1) := by decide +kernel
theorem dX11_sort_40 : decode cX11_sort 40 = .ok (.getfield 32, 3) := by decide +kernel
theorem dX11_sort_43 : decode cX11_sort 43 = .ok (.iload 4, 2) := by decide +kernel
theorem dX11_sort_45 : decode cX11_sort 45 = .ok (.iaload, 1) := by decide +kernel
theorem dX11_sort_46 : decode cX11_sort 46 = .ok (.iload_n 1, 1) := by decide +kernel
theorem dX11_sort_47 : decode cX11_sort 47 = .ok (.if_icmp .ne 7, 3) := by decide +kernel
theorem dX11_sort_50 : decode cX11_sort 50 = .ok (.iconst 1, 1) := by decide +kernel
theorem dX11_sort_51 : decode cX11_sort 51 = .ok (.goto 4, 3) := by decide +kernel
theorem dX11_sort_54 : decode cX11_sort 54 = .ok (.iconst 0, 1) := by decide +kernel
theorem dX11_sort_55 : decode cX11_sort 55 = .ok (.invokestatic 250, 3) := by decide +kernel
theorem dX11_sort_58 : decode cX11_sort 58 = .ok (.iadd, 1) := by decide +kernel
theorem dX11_sort_59 : decode cX11_sort 59 = .ok (.istore_n 3, 1) := by decide +kernel
theorem dX11_sort_60 : decode cX11_sort 60 = .ok (.iinc 4 1, 3) := by decide +kernel
theorem dX11_sort_63 : decode cX11_sort 63 = .ok (.goto (-36), 3) := by decide +kernel
theorem dX11_sort_66 : decode cX11_sort 66 = .ok (.iload_n 2, 1) := by decide +kernel
theorem dX11_sort_67 : decode cX11_sort 67 = .ok (.tableswitch 72 0 3 #[29, 31, 38, 55], 29) := by decide +kernel
theorem dX11_sort_96 : decode cX11_sort 96 = .ok (.iload_n 3, 1) := by decide +kernel
theorem dX11_sort_97 : decode cX11_sort 97 = .ok (.ireturn, 1) := by decide +kernel
theorem dX11_sort_98 : decode cX11_sort 98 = .ok (.aload_n 0, 1) := by decide +kernel
theorem dX11_sort_99 : decode cX11_sort 99 = .ok (.getfield 38, 3) := by decide +kernel
theorem dX11_sort_102 : decode cX11_sort 102 = .ok (.iload_n 1, 1) := by decide +kernel
theorem dX11_sort_103 : decode cX11_sort 103 = .ok (.iaload, 1) := by decide +kernel
theorem dX11_sort_104 : decode cX11_sort 104 = .ok (.ireturn, 1) := by decide +kernel
theorem dX11_sort_105 : decode cX11_sort 105 = .ok (.aload_n 0, 1) := by decide +kernel
theorem dX11_sort_106 : decode cX11_sort 106 = .ok (.getfield 225, 3) := by decide +kernel
theorem dX11_sort_109 : decode cX11_sort 109 = .ok (.ifCond .ne 11, 3) := by decide +kernel
theorem dX11_sort_112 : decode cX11_sort 112 = .ok (.aload_n 0, 1) := by decide +kernel
theorem dX11_sort_113 : decode cX11_sort 113 = .ok (.iload_n 1, 1) := by decide +kernel
theorem dX11_sort_114 : decode cX11_sort 114 = .ok (.invokevirtual 302, 3) := by decide +kernel
theorem dX11_sort_117 : decode cX11_sort 117 = .ok (.goto 4, 3) := by decide +kernel
theorem dX11_sort_120 : decode cX11_sort 120 = .ok (.iconst (-1), 1) := by decide +kernel
theorem dX11_sort_121 : decode cX11_sort 121 = .ok (.ireturn, 1) := by decide +kernel
theorem dX11_sort_122 : decode cX11_sort 122 = .ok (.aload_n 0, 1) := by decide +kernel
theorem dX11_sort_123 : decode cX11_sort 123 = .ok (.getfield 225, 3) := by decide +kernel
theorem dX11_sort_126 : decode cX11_sort 126 = .ok (.ifCond .ne 11, 3) := by decide +kernel
theorem dX11_sort_129 : decode cX11_sort 129 = .ok (.aload_n 0, 1) := by decide +kernel
theorem dX11_sort_130 : decode cX11_sort 130 = .ok (.iload_n 1, 1) := by decide +kernel
theorem dX11_sort_131 : decode cX11_sort 131 = .ok (.invokevirtual 296, 3) := by decide +kernel
theorem dX11_sort_134 : decode cX11_sort 134 = .ok (.goto 4, 3) := by decide +kernel
theorem dX11_sort_137 : decode cX11_sort 137 = .ok (.iconst (-1), 1) := by decide +kernel
theorem dX11_sort_138 : decode cX11_sort 138 = .ok (.ireturn, 1) := by decide +kernel
theorem dX11_sort_139 : decode cX11_sort 139 = .ok (.iconst (-1), 1) := by decide +kernel
theorem dX11_sort_140 : decode cX11_sort 140 = .ok (.ireturn, 1) := by decide +kernel
theorem dX11_shows_0 : decode cX11_shows 0 = .ok (.aload_n 0, 1) := by decide +kernel
theorem dX11_shows_1 : decode cX11_shows 1 = .ok (.invokevirtual 244, 3) := by decide +kernel
theorem dX11_shows_4 : decode cX11_shows 4 = .ok (.aload_n 0, 1) := by decide +kernel
theorem dX11_shows_5 : decode cX11_shows 5 = .ok (.getfield 225, 3) := by decide +kernel
theorem dX11_shows_8 : decode cX11_shows 8 = .ok (.ifCond .eq 22, 3) := by decide +kernel
theorem dX11_shows_11 : decode cX11_shows 11 = .ok (.iload_n 1, 1) := by decide +kernel
theorem dX11_shows_12 : decode cX11_shows 12 = .ok (.i2l, 1) := by decide +kernel
theorem dX11_shows_13 : decode cX11_shows 13 = .ok (.lconst 0, 1) := by decide +kernel
theorem dX11_shows_14 : decode cX11_shows 14 = .ok (.lconst 1, 1) := by decide +kernel
theorem dX11_shows_15 : decode cX11_shows 15 = .ok (.invokestatic 109, 3) := by decide +kernel
theorem dX11_shows_18 : decode cX11_shows 18 = .ok (.ifCond .eq 12, 3) := by decide +kernel
theorem dX11_shows_21 : decode cX11_shows 21 = .ok (.aload_n 0, 1) := by decide +kernel
theorem dX11_shows_22 : decode cX11_shows 22 = .ok (.getfield 35, 3) := by decide +kernel
theorem dX11_shows_25 : decode cX11_shows 25 = .ok (.iload_n 1, 1) := by decide +kernel
theorem dX11_shows_26 : decode cX11_shows 26 = .ok (.iaload, 1) := by decide +kernel
theorem dX11_shows_27 : decode cX11_shows 27 = .ok (.goto 4, 3) := by decide +kernel
theorem dX11_shows_30 : decode cX11_shows 30 = .ok (.iconst (-1), 1) := by decide +kernel
theorem dX11_shows_31 : decode cX11_shows 31 = .ok (.ireturn, 1) := by decide +kernel
theorem dX11_sides_0 : decode cX11_sides 0 = .ok (.aload_n 0, 1) := by decide +kernel
theorem dX11_sides_1 : decode cX11_sides 1 = .ok (.invokevirtual 305, 3) := by decide +kernel
theorem dX11_sides_4 : decode cX11_sides 4 = .ok (.ifCond .eq 20, 3) := by decide +kernel
theorem dX11_sides_7 : decode cX11_sides 7 = .ok (.aload_n 0, 1) := by decide +kernel
theorem dX11_sides_8 : decode cX11_sides 8 = .ok (.iload_n 1, 1) := by decide +kernel
theorem dX11_sides_9 : decode cX11_sides 9 = .ok (.invokevirtual 257, 3) := by decide +kernel
theorem dX11_sides_12 : decode cX11_sides 12 = .ok (.ifCond .eq 12, 3) := by decide +kernel
theorem dX11_sides_15 : decode cX11_sides 15 = .ok (.aload_n 0, 1) := by decide +kernel
theorem dX11_sides_16 : decode cX11_sides 16 = .ok (.getfield 41, 3) := by decide +kernel
theorem dX11_sides_19 : decode cX11_sides 19 = .ok (.iload_n 1, 1) := by decide +kernel
theorem dX11_sides_20 : decode cX11_sides 20 = .ok (.iaload, 1) := by decide +kernel
theorem dX11_sides_21 : decode cX11_sides 21 = .ok (.goto 4, 3) := by decide +kernel
theorem dX11_sides_24 : decode cX11_sides 24 = .ok (.iconst (-1), 1) := by decide +kernel
theorem dX11_sides_25 : decode cX11_sides 25 = .ok (.ireturn, 1) := by decide +kernel
theorem dX11_nodeAt_0 : decode cX11_nodeAt 0 = .ok (.iconst 0, 1) := by decide +kernel
theorem dX11_nodeAt_1 : decode cX11_nodeAt 1 = .ok (.istore_n 2, 1) := by decide +kernel
theorem dX11_nodeAt_2 : decode cX11_nodeAt 2 = .ok (.iload_n 2, 1) := by decide +kernel
theorem dX11_nodeAt_3 : decode cX11_nodeAt 3 = .ok (.aload_n 0, 1) := by decide +kernel
theorem dX11_nodeAt_4 : decode cX11_nodeAt 4 = .ok (.getfield 23, 3) := by decide +kernel
theorem dX11_nodeAt_7 : decode cX11_nodeAt 7 = .ok (.iconst 0, 1) := by decide +kernel
theorem dX11_nodeAt_8 : decode cX11_nodeAt 8 = .ok (.iaload, 1) := by decide +kernel
theorem dX11_nodeAt_9 : decode cX11_nodeAt 9 = .ok (.if_icmp .ge 21, 3) := by decide +kernel
theorem dX11_nodeAt_12 : decode cX11_nodeAt 12 = .ok (.aload_n 0, 1) := by decide +kernel
theorem dX11_nodeAt_13 : decode cX11_nodeAt 13 = .ok (.getfield 41, 3) := by decide +kernel
theorem dX11_nodeAt_16 : decode cX11_nodeAt 16 = .ok (.iload_n 2, 1) := by decide +kernel
theorem dX11_nodeAt_17 : decode cX11_nodeAt 17 = .ok (.iaload, 1) := by decide +kernel
theorem dX11_nodeAt_18 : decode cX11_nodeAt 18 = .ok (.iload_n 1, 1) := by decide +kernel
theorem dX11_nodeAt_19 : decode cX11_nodeAt 19 = .ok (.if_icmp .ne 5, 3) := by decide +kernel
theorem dX11_nodeAt_22 : decode cX11_nodeAt 22 = .ok (.iload_n 2, 1) := by decide +kernel
theorem dX11_nodeAt_23 : decode cX11_nodeAt 23 = .ok (.ireturn, 1) := by decide +kernel
theorem dX11_nodeAt_24 : decode cX11_nodeAt 24 = .ok (.iinc 2 1, 3) := by decide +kernel
theorem dX11_nodeAt_27 : decode cX11_nodeAt 27 = .ok (.goto (-25), 3) := by decide +kernel
theorem dX11_nodeAt_30 : decode cX11_nodeAt 30 = .ok (.iconst (-1), 1) := by decide +kernel
theorem dX11_nodeAt_31 : decode cX11_nodeAt 31 = .ok (.ireturn, 1) := by decide +kernel
theorem dX11_at_0 : decode cX11_at 0 = .ok (.aload_n 0, 1) := by decide +kernel
theorem dX11_at_1 : decode cX11_at 1 = .ok (.invokevirtual 305, 3) := by decide +kernel
theorem dX11_at_4 : decode cX11_at 4 = .ok (.ifCond .eq 11, 3) := by decide +kernel
theorem dX11_at_7 : decode cX11_at 7 = .ok (.aload_n 0, 1) := by decide +kernel
theorem dX11_at_8 : decode cX11_at 8 = .ok (.iload_n 1, 1) := by decide +kernel
theorem dX11_at_9 : decode cX11_at 9 = .ok (.invokevirtual 308, 3) := by decide +kernel
theorem dX11_at_12 : decode cX11_at 12 = .ok (.goto 4, 3) := by decide +kernel
theorem dX11_at_15 : decode cX11_at 15 = .ok (.iconst (-1), 1) := by decide +kernel
theorem dX11_at_16 : decode cX11_at 16 = .ok (.ireturn, 1) := by decide +kernel
theorem dX11_isDirection_0 : decode cX11_isDirection 0 = .ok (.aload_n 0, 1) := by decide +kernel
theorem dX11_isDirection_1 : decode cX11_isDirection 1 = .ok (.invokevirtual 305, 3) := by decide +kernel
theorem dX11_isDirection_4 : decode cX11_isDirection 4 = .ok (.ifCond .eq 23, 3) := by decide +kernel
theorem dX11_isDirection_7 : decode cX11_isDirection 7 = .ok (.iload_n 1, 1) := by decide +kernel
theorem dX11_isDirection_8 : decode cX11_isDirection 8 = .ok (.i2l, 1) := by decide +kernel
theorem dX11_isDirection_9 : decode cX11_isDirection 9 = .ok (.lconst 0, 1) := by decide +kernel
theorem dX11_isDirection_10 : decode cX11_isDirection 10 = .ok (.aload_n 0, 1) := by decide +kernel
theorem dX11_isDirection_11 : decode cX11_isDirection 11 = .ok (.getfield 222, 3) := by decide +kernel
theorem dX11_isDirection_14 : decode cX11_isDirection 14 = .ok (.iconst 1, 1) := by decide +kernel
theorem dX11_isDirection_15 : decode cX11_isDirection 15 = .ok (.isub, 1) := by decide +kernel
theorem dX11_isDirection_16 : decode cX11_isDirection 16 = .ok (.i2l, 1) := by decide +kernel
theorem dX11_isDirection_17 : decode cX11_isDirection 17 = .ok (.invokestatic 109, 3) := by decide +kernel
theorem dX11_isDirection_20 : decode cX11_isDirection 20 = .ok (.ifCond .eq 7, 3) := by decide +kernel
theorem dX11_isDirection_23 : decode cX11_isDirection 23 = .ok (.iconst 1, 1) := by decide +kernel
theorem dX11_isDirection_24 : decode cX11_isDirection 24 = .ok (.goto 4, 3) := by decide +kernel
theorem dX11_isDirection_27 : decode cX11_isDirection 27 = .ok (.iconst 0, 1) := by decide +kernel
theorem dX11_isDirection_28 : decode cX11_isDirection 28 = .ok (.ireturn, 1) := by decide +kernel
theorem dX11_pairsOf_0 : decode cX11_pairsOf 0 = .ok (.iconst 0, 1) := by decide +kernel
theorem dX11_pairsOf_1 : decode cX11_pairsOf 1 = .ok (.istore_n 3, 1) := by decide +kernel
theorem dX11_pairsOf_2 : decode cX11_pairsOf 2 = .ok (.iconst 0, 1) := by decide +kernel
theorem dX11_pairsOf_3 : decode cX11_pairsOf 3 = .ok (.istore 4, 2) := by decide +kernel
theorem dX11_pairsOf_5 : decode cX11_pairsOf 5 = .ok (.iload 4, 2) := by decide +kernel
theorem dX11_pairsOf_7 : decode cX11_pairsOf 7 = .ok (.aload_n 0, 1) := by decide +kernel
theorem dX11_pairsOf_8 : decode cX11_pairsOf 8 = .ok (.getfield 23, 3) := by decide +kernel
theorem dX11_pairsOf_11 : decode cX11_pairsOf 11 = .ok (.iconst 0, 1) := by decide +kernel
theorem dX11_pairsOf_12 : decode cX11_pairsOf 12 = .ok (.iaload, 1) := by decide +kernel
theorem dX11_pairsOf_13 : decode cX11_pairsOf 13 = .ok (.if_icmp .ge 39, 3) := by decide +kernel
theorem dX11_pairsOf_16 : decode cX11_pairsOf 16 = .ok (.iload_n 3, 1) := by decide +kernel
theorem dX11_pairsOf_17 : decode cX11_pairsOf 17 = .ok (.iconst 1, 1) := by decide +kernel
theorem dX11_pairsOf_18 : decode cX11_pairsOf 18 = .ok (.iconst 2, 1) := by decide +kernel
theorem dX11_pairsOf_19 : decode cX11_pairsOf 19 = .ok (.aload_n 0, 1) := by decide +kernel
theorem dX11_pairsOf_20 : decode cX11_pairsOf 20 = .ok (.getfield 41, 3) := by decide +kernel
theorem dX11_pairsOf_23 : decode cX11_pairsOf 23 = .ok (.iload 4, 2) := by decide +kernel
theorem dX11_pairsOf_25 : decode cX11_pairsOf 25 = .ok (.iaload, 1) := by decide +kernel
theorem dX11_pairsOf_26 : decode cX11_pairsOf 26 = .ok (.iload_n 1, 1) := by decide +kernel
theorem dX11_pairsOf_27 : decode cX11_pairsOf 27 = .ok (.ishr, 1) := by decide +kernel
theorem dX11_pairsOf_28 : decode cX11_pairsOf 28 = .ok (.iconst 1, 1) := by decide +kernel
theorem dX11_pairsOf_29 : decode cX11_pairsOf 29 = .ok (.iand, 1) := by decide +kernel
theorem dX11_pairsOf_30 : decode cX11_pairsOf 30 = .ok (.imul, 1) := by decide +kernel
theorem dX11_pairsOf_31 : decode cX11_pairsOf 31 = .ok (.aload_n 0, 1) := by decide +kernel
theorem dX11_pairsOf_32 : decode cX11_pairsOf 32 = .ok (.getfield 41, 3) := by decide +kernel
theorem dX11_pairsOf_35 : decode cX11_pairsOf 35 = .ok (.iload 4, 2) := by decide +kernel
theorem dX11_pairsOf_37 : decode cX11_pairsOf 37 = .ok (.iaload, 1) := by decide +kernel
theorem dX11_pairsOf_38 : decode cX11_pairsOf 38 = .ok (.iload_n 2, 1) := by decide +kernel
theorem dX11_pairsOf_39 : decode cX11_pairsOf 39 = .ok (.ishr, 1) := by decide +kernel
theorem dX11_pairsOf_40 : decode cX11_pairsOf 40 = .ok (.iconst 1, 1) := by decide +kernel
theorem dX11_pairsOf_41 : decode cX11_pairsOf 41 = .ok (.iand, 1) := by decide +kernel
theorem dX11_pairsOf_42 : decode cX11_pairsOf 42 = .ok (.iadd, 1) := by decide +kernel
theorem dX11_pairsOf_43 : decode cX11_pairsOf 43 = .ok (.ishl, 1) := by decide +kernel
theorem dX11_pairsOf_44 : decode cX11_pairsOf 44 = .ok (.ior, 1) := by decide +kernel
theorem dX11_pairsOf_45 : decode cX11_pairsOf 45 = .ok (.istore_n 3, 1) := by decide +kernel
theorem dX11_pairsOf_46 : decode cX11_pairsOf 46 = .ok (.iinc 4 1, 3) := by decide +kernel
theorem dX11_pairsOf_49 : decode cX11_pairsOf 49 = .ok (.goto (-44), 3) := by decide +kernel
theorem dX11_pairsOf_52 : decode cX11_pairsOf 52 = .ok (.iload_n 3, 1) := by decide +kernel
theorem dX11_pairsOf_53 : decode cX11_pairsOf 53 = .ok (.invokestatic 299, 3) := by decide +kernel
theorem dX11_pairsOf_56 : decode cX11_pairsOf 56 = .ok (.ireturn, 1) := by decide +kernel
theorem dX11_cross_0 : decode cX11_cross 0 = .ok (.aload_n 0, 1) := by decide +kernel
theorem dX11_cross_1 : decode cX11_cross 1 = .ok (.iload_n 1, 1) := by decide +kernel
theorem dX11_cross_2 : decode cX11_cross 2 = .ok (.invokevirtual 311, 3) := by decide +kernel
theorem dX11_cross_5 : decode cX11_cross 5 = .ok (.ifCond .eq 25, 3) := by decide +kernel
theorem dX11_cross_8 : decode cX11_cross 8 = .ok (.aload_n 0, 1) := by decide +kernel
theorem dX11_cross_9 : decode cX11_cross 9 = .ok (.iload_n 2, 1) := by decide +kernel
theorem dX11_cross_10 : decode cX11_cross 10 = .ok (.invokevirtual 311, 3) := by decide +kernel
theorem dX11_cross_13 : decode cX11_cross 13 = .ok (.ifCond .eq 17, 3) := by decide +kernel
theorem dX11_cross_16 : decode cX11_cross 16 = .ok (.iload_n 1, 1) := by decide +kernel
theorem dX11_cross_17 : decode cX11_cross 17 = .ok (.iload_n 2, 1) := by decide +kernel
theorem dX11_cross_18 : decode cX11_cross 18 = .ok (.if_icmp .eq 12, 3) := by decide +kernel
theorem dX11_cross_21 : decode cX11_cross 21 = .ok (.aload_n 0, 1) := by decide +kernel
theorem dX11_cross_22 : decode cX11_cross 22 = .ok (.iload_n 1, 1) := by decide +kernel
theorem dX11_cross_23 : decode cX11_cross 23 = .ok (.iload_n 2, 1) := by decide +kernel
theorem dX11_cross_24 : decode cX11_cross 24 = .ok (.invokevirtual 314, 3) := by decide +kernel
theorem dX11_cross_27 : decode cX11_cross 27 = .ok (.goto 4, 3) := by decide +kernel
theorem dX11_cross_30 : decode cX11_cross 30 = .ok (.iconst (-1), 1) := by decide +kernel
theorem dX11_cross_31 : decode cX11_cross 31 = .ok (.ireturn, 1) := by decide +kernel
theorem dX11_half_0 : decode cX11_half 0 = .ok (.iload_n 1, 1) := by decide +kernel
theorem dX11_half_1 : decode cX11_half 1 = .ok (.iconst 2, 1) := by decide +kernel
theorem dX11_half_2 : decode cX11_half 2 = .ok (.irem, 1) := by decide +kernel
theorem dX11_half_3 : decode cX11_half 3 = .ok (.iconst 1, 1) := by decide +kernel
theorem dX11_half_4 : decode cX11_half 4 = .ok (.if_icmp .ne 13, 3) := by decide +kernel
theorem dX11_half_7 : decode cX11_half 7 = .ok (.aload_n 0, 1) := by decide +kernel
theorem dX11_half_8 : decode cX11_half 8 = .ok (.iload_n 1, 1) := by decide +kernel
theorem dX11_half_9 : decode cX11_half 9 = .ok (.iconst 2, 1) := by decide +kernel
theorem dX11_half_10 : decode cX11_half 10 = .ok (.idiv, 1) := by decide +kernel
theorem dX11_half_11 : decode cX11_half 11 = .ok (.invokevirtual 296, 3) := by decide +kernel
theorem dX11_half_14 : decode cX11_half 14 = .ok (.goto 17, 3) := by decide +kernel
theorem dX11_half_17 : decode cX11_half 17 = .ok (.aload_n 0, 1) := by decide +kernel
theorem dX11_half_18 : decode cX11_half 18 = .ok (.invokevirtual 317, 3) := by decide +kernel
theorem dX11_half_21 : decode cX11_half 21 = .ok (.aload_n 0, 1) := by decide +kernel
theorem dX11_half_22 : decode cX11_half 22 = .ok (.iload_n 1, 1) := by decide +kernel
theorem dX11_half_23 : decode cX11_half 23 = .ok (.iconst 2, 1) := by decide +kernel
theorem dX11_half_24 : decode cX11_half 24 = .ok (.idiv, 1) := by decide +kernel
theorem dX11_half_25 : decode cX11_half 25 = .ok (.invokevirtual 296, 3) := by decide +kernel
theorem dX11_half_28 : decode cX11_half 28 = .ok (.iconst (-1), 1) := by decide +kernel
theorem dX11_half_29 : decode cX11_half 29 = .ok (.ixor, 1) := by decide +kernel
theorem dX11_half_30 : decode cX11_half 30 = .ok (.iand, 1) := by decide +kernel
theorem dX11_half_31 : decode cX11_half 31 = .ok (.ireturn, 1) := by decide +kernel
theorem dX11_doFit_0 : decode cX11_doFit 0 = .ok (.aload_n 0, 1) := by decide +kernel
theorem dX11_doFit_1 : decode cX11_doFit 1 = .ok (.iload_n 1, 1) := by decide +kernel
theorem dX11_doFit_2 : decode cX11_doFit 2 = .ok (.invokevirtual 320, 3) := by decide +kernel
theorem dX11_doFit_5 : decode cX11_doFit 5 = .ok (.aload_n 0, 1) := by decide +kernel
theorem dX11_doFit_6 : decode cX11_doFit 6 = .ok (.iload_n 2, 1) := by decide +kernel
theorem dX11_doFit_7 : decode cX11_doFit 7 = .ok (.invokevirtual 320, 3) := by decide +kernel
theorem dX11_doFit_10 : decode cX11_doFit 10 = .ok (.ior, 1) := by decide +kernel
theorem dX11_doFit_11 : decode cX11_doFit 11 = .ok (.aload_n 0, 1) := by decide +kernel
theorem dX11_doFit_12 : decode cX11_doFit 12 = .ok (.invokevirtual 317, 3) := by decide +kernel
theorem dX11_doFit_15 : decode cX11_doFit 15 = .ok (.if_icmp .ne 21, 3) := by decide +kernel
theorem dX11_doFit_18 : decode cX11_doFit 18 = .ok (.aload_n 0, 1) := by decide +kernel
theorem dX11_doFit_19 : decode cX11_doFit 19 = .ok (.iload_n 1, 1) := by decide +kernel
theorem dX11_doFit_20 : decode cX11_doFit 20 = .ok (.invokevirtual 320, 3) := by decide +kernel
theorem dX11_doFit_23 : decode cX11_doFit 23 = .ok (.aload_n 0, 1) := by decide +kernel
theorem dX11_doFit_24 : decode cX11_doFit 24 = .ok (.iload_n 2, 1) := by decide +kernel
theorem dX11_doFit_25 : decode cX11_doFit 25 = .ok (.invokevirtual 320, 3) := by decide +kernel
theorem dX11_doFit_28 : decode cX11_doFit 28 = .ok (.iand, 1) := by decide +kernel
theorem dX11_doFit_29 : decode cX11_doFit 29 = .ok (.ifCond .eq 7, 3) := by decide +kernel
theorem dX11_doFit_32 : decode cX11_doFit 32 = .ok (.iconst 1, 1) := by decide +kernel
theorem dX11_doFit_33 : decode cX11_doFit 33 = .ok (.goto 4, 3) := by decide +kernel
theorem dX11_doFit_36 : decode cX11_doFit 36 = .ok (.iconst 0, 1) := by decide +kernel
theorem dX11_doFit_37 : decode cX11_doFit 37 = .ok (.ireturn, 1) := by decide +kernel
theorem dX11_isHalf_0 : decode cX11_isHalf 0 = .ok (.aload_n 0, 1) := by decide +kernel
theorem dX11_isHalf_1 : decode cX11_isHalf 1 = .ok (.invokevirtual 305, 3) := by decide +kernel
theorem dX11_isHalf_4 : decode cX11_isHalf 4 = .ok (.ifCond .eq 25, 3) := by decide +kernel
theorem dX11_isHalf_7 : decode cX11_isHalf 7 = .ok (.iload_n 1, 1) := by decide +kernel
theorem dX11_isHalf_8 : decode cX11_isHalf 8 = .ok (.i2l, 1) := by decide +kernel
theorem dX11_isHalf_9 : decode cX11_isHalf 9 = .ok (.lconst 0, 1) := by decide +kernel
theorem dX11_isHalf_10 : decode cX11_isHalf 10 = .ok (.iconst 2, 1) := by decide +kernel
theorem dX11_isHalf_11 : decode cX11_isHalf 11 = .ok (.aload_n 0, 1) := by decide +kernel
theorem dX11_isHalf_12 : decode cX11_isHalf 12 = .ok (.getfield 222, 3) := by decide +kernel
theorem dX11_isHalf_15 : decode cX11_isHalf 15 = .ok (.imul, 1) := by decide +kernel
theorem dX11_isHalf_16 : decode cX11_isHalf 16 = .ok (.iconst 1, 1) := by decide +kernel
theorem dX11_isHalf_17 : decode cX11_isHalf 17 = .ok (.isub, 1) := by decide +kernel
theorem dX11_isHalf_18 : decode cX11_isHalf 18 = .ok (.i2l, 1) := by decide +kernel
theorem dX11_isHalf_19 : decode cX11_isHalf 19 = .ok (.invokestatic 109, 3) := by decide +kernel
theorem dX11_isHalf_22 : decode cX11_isHalf 22 = .ok (.ifCond .eq 7, 3) := by decide +kernel
theorem dX11_isHalf_25 : decode cX11_isHalf 25 = .ok (.iconst 1, 1) := by decide +kernel
theorem dX11_isHalf_26 : decode cX11_isHalf 26 = .ok (.goto 4, 3) := by decide +kernel
theorem dX11_isHalf_29 : decode cX11_isHalf 29 = .ok (.iconst 0, 1) := by decide +kernel
theorem dX11_isHalf_30 : decode cX11_isHalf 30 = .ok (.ireturn, 1) := by decide +kernel
theorem dX11_fit_0 : decode cX11_fit 0 = .ok (.aload_n 0, 1) := by decide +kernel
theorem dX11_fit_1 : decode cX11_fit 1 = .ok (.iload_n 1, 1) := by decide +kernel
theorem dX11_fit_2 : decode cX11_fit 2 = .ok (.invokevirtual 323, 3) := by decide +kernel
theorem dX11_fit_5 : decode cX11_fit 5 = .ok (.ifCond .eq 28, 3) := by decide +kernel
theorem dX11_fit_8 : decode cX11_fit 8 = .ok (.aload_n 0, 1) := by decide +kernel
theorem dX11_fit_9 : decode cX11_fit 9 = .ok (.iload_n 2, 1) := by decide +kernel
theorem dX11_fit_10 : decode cX11_fit 10 = .ok (.invokevirtual 323, 3) := by decide +kernel
theorem dX11_fit_13 : decode cX11_fit 13 = .ok (.ifCond .eq 20, 3) := by decide +kernel
theorem dX11_fit_16 : decode cX11_fit 16 = .ok (.iload_n 1, 1) := by decide +kernel
theorem dX11_fit_17 : decode cX11_fit 17 = .ok (.iload_n 2, 1) := by decide +kernel
theorem dX11_fit_18 : decode cX11_fit 18 = .ok (.if_icmp .eq 15, 3) := by decide +kernel
theorem dX11_fit_21 : decode cX11_fit 21 = .ok (.aload_n 0, 1) := by decide +kernel
theorem dX11_fit_22 : decode cX11_fit 22 = .ok (.iload_n 1, 1) := by decide +kernel
theorem dX11_fit_23 : decode cX11_fit 23 = .ok (.iload_n 2, 1) := by decide +kernel
theorem dX11_fit_24 : decode cX11_fit 24 = .ok (.invokevirtual 326, 3) := by decide +kernel
theorem dX11_fit_27 : decode cX11_fit 27 = .ok (.invokestatic 250, 3) := by decide +kernel
theorem dX11_fit_30 : decode cX11_fit 30 = .ok (.goto 4, 3) := by decide +kernel
theorem dX11_fit_33 : decode cX11_fit 33 = .ok (.iconst (-1), 1) := by decide +kernel
theorem dX11_fit_34 : decode cX11_fit 34 = .ok (.ireturn, 1) := by decide +kernel
theorem dX11_isCube_0 : decode cX11_isCube 0 = .ok (.iload_n 2, 1) := by decide +kernel
theorem dX11_isCube_1 : decode cX11_isCube 1 = .ok (.istore_n 3, 1) := by decide +kernel
theorem dX11_isCube_2 : decode cX11_isCube 2 = .ok (.iload_n 3, 1) := by decide +kernel
theorem dX11_isCube_3 : decode cX11_isCube 3 = .ok (.ifCond .le 30, 3) := by decide +kernel
theorem dX11_isCube_6 : decode cX11_isCube 6 = .ok (.aload_n 0, 1) := by decide +kernel
theorem dX11_isCube_7 : decode cX11_isCube 7 = .ok (.aload_n 0, 1) := by decide +kernel
theorem dX11_isCube_8 : decode cX11_isCube 8 = .ok (.getfield 41, 3) := by decide +kernel
theorem dX11_isCube_11 : decode cX11_isCube 11 = .ok (.iload_n 1, 1) := by decide +kernel
theorem dX11_isCube_12 : decode cX11_isCube 12 = .ok (.iaload, 1) := by decide +kernel
theorem dX11_isCube_13 : decode cX11_isCube 13 = .ok (.iload_n 3, 1) := by decide +kernel
theorem dX11_isCube_14 : decode cX11_isCube 14 = .ok (.ior, 1) := by decide +kernel
theorem dX11_isCube_15 : decode cX11_isCube 15 = .ok (.invokevirtual 308, 3) := by decide +kernel
theorem dX11_isCube_18 : decode cX11_isCube 18 = .ok (.iconst (-1), 1) := by decide +kernel
theorem dX11_isCube_19 : decode cX11_isCube 19 = .ok (.if_icmp .ne 5, 3) := by decide +kernel
theorem dX11_isCube_22 : decode cX11_isCube 22 = .ok (.iconst 0, 1) := by decide +kernel
theorem dX11_isCube_23 : decode cX11_isCube 23 = .ok (.ireturn, 1) := by decide +kernel
theorem dX11_isCube_24 : decode cX11_isCube 24 = .ok (.iload_n 3, 1) := by decide +kernel
theorem dX11_isCube_25 : decode cX11_isCube 25 = .ok (.iconst 1, 1) := by decide +kernel
theorem dX11_isCube_26 : decode cX11_isCube 26 = .ok (.isub, 1) := by decide +kernel
theorem dX11_isCube_27 : decode cX11_isCube 27 = .ok (.iload_n 2, 1) := by decide +kernel
theorem dX11_isCube_28 : decode cX11_isCube 28 = .ok (.iand, 1) := by decide +kernel
theorem dX11_isCube_29 : decode cX11_isCube 29 = .ok (.istore_n 3, 1) := by decide +kernel
theorem dX11_isCube_30 : decode cX11_isCube 30 = .ok (.goto (-28), 3) := by decide +kernel
theorem dX11_isCube_33 : decode cX11_isCube 33 = .ok (.iconst 1, 1) := by decide +kernel
theorem dX11_isCube_34 : decode cX11_isCube 34 = .ok (.ireturn, 1) := by decide +kernel
theorem dX11_cubes_0 : decode cX11_cubes 0 = .ok (.aload_n 0, 1) := by decide +kernel
theorem dX11_cubes_1 : decode cX11_cubes 1 = .ok (.invokevirtual 305, 3) := by decide +kernel
theorem dX11_cubes_4 : decode cX11_cubes 4 = .ok (.ifCond .eq 7, 3) := by decide +kernel
theorem dX11_cubes_7 : decode cX11_cubes 7 = .ok (.iload_n 1, 1) := by decide +kernel
theorem dX11_cubes_8 : decode cX11_cubes 8 = .ok (.ifCond .ge 5, 3) := by decide +kernel
theorem dX11_cubes_11 : decode cX11_cubes 11 = .ok (.iconst (-1), 1) := by decide +kernel
theorem dX11_cubes_12 : decode cX11_cubes 12 = .ok (.ireturn, 1) := by decide +kernel
theorem dX11_cubes_13 : decode cX11_cubes 13 = .ok (.iconst 0, 1) := by decide +kernel
theorem dX11_cubes_14 : decode cX11_cubes 14 = .ok (.istore_n 2, 1) := by decide +kernel
theorem dX11_cubes_15 : decode cX11_cubes 15 = .ok (.iconst 0, 1) := by decide +kernel
theorem dX11_cubes_16 : decode cX11_cubes 16 = .ok (.istore_n 3, 1) := by decide +kernel
theorem dX11_cubes_17 : decode cX11_cubes 17 = .ok (.iload_n 3, 1) := by decide +kernel
theorem dX11_cubes_18 : decode cX11_cubes 18 = .ok (.aload_n 0, 1) := by decide +kernel
theorem dX11_cubes_19 : decode cX11_cubes 19 = .ok (.getfield 23, 3) := by decide +kernel
theorem dX11_cubes_22 : decode cX11_cubes 22 = .ok (.iconst 0, 1) := by decide +kernel
theorem dX11_cubes_23 : decode cX11_cubes 23 = .ok (.iaload, 1) := by decide +kernel
theorem dX11_cubes_24 : decode cX11_cubes 24 = .ok (.if_icmp .ge 101, 3) := by decide +kernel
theorem dX11_cubes_27 : decode cX11_cubes 27 = .ok (.iconst 0, 1) := by decide +kernel
theorem dX11_cubes_28 : decode cX11_cubes 28 = .ok (.istore 4, 2) := by decide +kernel
theorem dX11_cubes_30 : decode cX11_cubes 30 = .ok (.iload 4, 2) := by decide +kernel
theorem dX11_cubes_32 : decode cX11_cubes 32 = .ok (.aload_n 0, 1) := by decide +kernel
theorem dX11_cubes_33 : decode cX11_cubes 33 = .ok (.getfield 23, 3) := by decide +kernel
theorem dX11_cubes_36 : decode cX11_cubes 36 = .ok (.iconst 0, 1) := by decide +kernel
theorem dX11_cubes_37 : decode cX11_cubes 37 = .ok (.iaload, 1) := by decide +kernel
theorem dX11_cubes_38 : decode cX11_cubes 38 = .ok (.if_icmp .ge 81, 3) := by decide +kernel
theorem dX11_cubes_41 : decode cX11_cubes 41 = .ok (.aload_n 0, 1) := by decide +kernel
theorem dX11_cubes_42 : decode cX11_cubes 42 = .ok (.getfield 41, 3) := by decide +kernel
theorem dX11_cubes_45 : decode cX11_cubes 45 = .ok (.iload 4, 2) := by decide +kernel
theorem dX11_cubes_47 : decode cX11_cubes 47 = .ok (.iaload, 1) := by decide +kernel
theorem dX11_cubes_48 : decode cX11_cubes 48 = .ok (.aload_n 0, 1) := by decide +kernel
theorem dX11_cubes_49 : decode cX11_cubes 49 = .ok (.getfield 41, 3) := by decide +kernel
theorem dX11_cubes_52 : decode cX11_cubes 52 = .ok (.iload_n 3, 1) := by decide +kernel
theorem dX11_cubes_53 : decode cX11_cubes 53 = .ok (.iaload, 1) := by decide +kernel
theorem dX11_cubes_54 : decode cX11_cubes 54 = .ok (.iconst (-1), 1) := by decide +kernel
theorem dX11_cubes_55 : decode cX11_cubes 55 = .ok (.ixor, 1) := by decide +kernel
theorem dX11_cubes_56 : decode cX11_cubes 56 = .ok (.iand, 1) := by decide +kernel
theorem dX11_cubes_57 : decode cX11_cubes 57 = .ok (.istore 5, 2) := by decide +kernel
theorem dX11_cubes_59 : decode cX11_cubes 59 = .ok (.iload_n 2, 1) := by decide +kernel
theorem dX11_cubes_60 : decode cX11_cubes 60 = .ok (.aload_n 0, 1) := by decide +kernel
theorem dX11_cubes_61 : decode cX11_cubes 61 = .ok (.getfield 41, 3) := by decide +kernel
theorem dX11_cubes_64 : decode cX11_cubes 64 = .ok (.iload_n 3, 1) := by decide +kernel
theorem dX11_cubes_65 : decode cX11_cubes 65 = .ok (.iaload, 1) := by decide +kernel
theorem dX11_cubes_66 : decode cX11_cubes 66 = .ok (.aload_n 0, 1) := by decide +kernel
theorem dX11_cubes_67 : decode cX11_cubes 67 = .ok (.getfield 41, 3) := by decide +kernel
theorem dX11_cubes_70 : decode cX11_cubes 70 = .ok (.iload 4, 2) := by decide +kernel
theorem dX11_cubes_72 : decode cX11_cubes 72 = .ok (.iaload, 1) := by decide +kernel
theorem dX11_cubes_73 : decode cX11_cubes 73 = .ok (.iconst (-1), 1) := by decide +kernel
theorem dX11_cubes_74 : decode cX11_cubes 74 = .ok (.ixor, 1) := by decide +kernel
theorem dX11_cubes_75 : decode cX11_cubes 75 = .ok (.iand, 1) := by decide +kernel
theorem dX11_cubes_76 : decode cX11_cubes 76 = .ok (.ifCond .ne 31, 3) := by decide +kernel
theorem dX11_cubes_79 : decode cX11_cubes 79 = .ok (.iload 5, 2) := by decide +kernel
theorem dX11_cubes_81 : decode cX11_cubes 81 = .ok (.invokestatic 299, 3) := by decide +kernel
theorem dX11_cubes_84 : decode cX11_cubes 84 = .ok (.iload_n 1, 1) := by decide +kernel
theorem dX11_cubes_85 : decode cX11_cubes 85 = .ok (.if_icmp .ne 22, 3) := by decide +kernel
theorem dX11_cubes_88 : decode cX11_cubes 88 = .ok (.iload_n 1, 1) := by decide +kernel
theorem dX11_cubes_89 : decode cX11_cubes 89 = .ok (.iconst 4, 1) := by decide +kernel
theorem dX11_cubes_90 : decode cX11_cubes 90 = .ok (.if_icmp .gt 17, 3) := by decide +kernel
theorem dX11_cubes_93 : decode cX11_cubes 93 = .ok (.aload_n 0, 1) := by decide +kernel
theorem dX11_cubes_94 : decode cX11_cubes 94 = .ok (.iload_n 3, 1) := by decide +kernel
theorem dX11_cubes_95 : decode cX11_cubes 95 = .ok (.iload 5, 2) := by decide +kernel
theorem dX11_cubes_97 : decode cX11_cubes 97 = .ok (.invokevirtual 329, 3) := by decide +kernel
theorem dX11_cubes_100 : decode cX11_cubes 100 = .ok (.ifCond .eq 7, 3) := by decide +kernel
theorem dX11_cubes_103 : decode cX11_cubes 103 = .ok (.iconst 1, 1) := by decide +kernel
theorem dX11_cubes_104 : decode cX11_cubes 104 = .ok (.goto 4, 3) := by decide +kernel
theorem dX11_cubes_107 : decode cX11_cubes 107 = .ok (.iconst 0, 1) := by decide +kernel
theorem dX11_cubes_108 : decode cX11_cubes 108 = .ok (.invokestatic 250, 3) := by decide +kernel
theorem dX11_cubes_111 : decode cX11_cubes 111 = .ok (.iadd, 1) := by decide +kernel
theorem dX11_cubes_112 : decode cX11_cubes 112 = .ok (.istore_n 2, 1) := by decide +kernel
theorem dX11_cubes_113 : decode cX11_cubes 113 = .ok (.iinc 4 1, 3) := by decide +kernel
theorem dX11_cubes_116 : decode cX11_cubes 116 = .ok (.goto (-86), 3) := by decide +kernel
theorem dX11_cubes_119 : decode cX11_cubes 119 = .ok (.iinc 3 1, 3) := by decide +kernel
theorem dX11_cubes_122 : decode cX11_cubes 122 = .ok (.goto (-105), 3) := by decide +kernel
theorem dX11_cubes_125 : decode cX11_cubes 125 = .ok (.iload_n 2, 1) := by decide +kernel
theorem dX11_cubes_126 : decode cX11_cubes 126 = .ok (.ireturn, 1) := by decide +kernel
theorem dX11_mostCrossing_0 : decode cX11_mostCrossing 0 = .ok (.iconst 0, 1) := by decide +kernel
theorem dX11_mostCrossing_1 : decode cX11_mostCrossing 1 = .ok (.istore_n 1, 1) := by decide +kernel
theorem dX11_mostCrossing_2 : decode cX11_mostCrossing 2 = .ok (.iconst 0, 1) := by decide +kernel
theorem dX11_mostCrossing_3 : decode cX11_mostCrossing 3 = .ok (.istore_n 2, 1) := by decide +kernel
theorem dX11_mostCrossing_4 : decode cX11_mostCrossing 4 = .ok (.aload_n 0, 1) := by decide +kernel
theorem dX11_mostCrossing_5 : decode cX11_mostCrossing 5 = .ok (.getfield 54, 3) := by decide +kernel
theorem dX11_mostCrossing_8 : decode cX11_mostCrossing 8 = .ok (.iconst 0, 1) := by decide +kernel
theorem dX11_mostCrossing_9 : decode cX11_mostCrossing 9 = .ok (.iconst 1, 1) := by decide +kernel
theorem dX11_mostCrossing_10 : decode cX11_mostCrossing 10 = .ok (.aload_n 0, 1) := by decide +kernel
theorem dX11_mostCrossing_11 : decode cX11_mostCrossing 11 = .ok (.getfield 222, 3) := by decide +kernel
theorem dX11_mostCrossing_14 : decode cX11_mostCrossing 14 = .ok (.ishl, 1) := by decide +kernel
theorem dX11_mostCrossing_15 : decode cX11_mostCrossing 15 = .ok (.iconst 1, 1) := by decide +kernel
theorem dX11_mostCrossing_16 : decode cX11_mostCrossing 16 = .ok (.isub, 1) := by decide +kernel
theorem dX11_mostCrossing_17 : decode cX11_mostCrossing 17 = .ok (.iastore, 1) := by decide +kernel
theorem dX11_mostCrossing_18 : decode cX11_mostCrossing 18 = .ok (.aload_n 0, 1) := by decide +kernel
theorem dX11_mostCrossing_19 : decode cX11_mostCrossing 19 = .ok (.getfield 57, 3) := by decide +kernel
theorem dX11_mostCrossing_22 : decode cX11_mostCrossing 22 = .ok (.iconst 0, 1) := by decide +kernel
theorem dX11_mostCrossing_23 : decode cX11_mostCrossing 23 = .ok (.iconst 0, 1) := by decide +kernel
theorem dX11_mostCrossing_24 : decode cX11_mostCrossing 24 = .ok (.iastore, 1) := by decide +kernel
theorem dX11_mostCrossing_25 : decode cX11_mostCrossing 25 = .ok (.iload_n 2, 1) := by decide +kernel
theorem dX11_mostCrossing_26 : decode cX11_mostCrossing 26 = .ok (.ifCond .lt 179, 3) := by decide +kernel
theorem dX11_mostCrossing_29 : decode cX11_mostCrossing 29 = .ok (.aload_n 0, 1) := by decide +kernel
theorem dX11_mostCrossing_30 : decode cX11_mostCrossing 30 = .ok (.getfield 54, 3) := by decide +kernel
theorem dX11_mostCrossing_33 : decode cX11_mostCrossing 33 = .ok (.iload_n 2, 1) := by decide +kernel
theorem dX11_mostCrossing_34 : decode cX11_mostCrossing 34 = .ok (.iaload, 1) := by decide +kernel
theorem dX11_mostCrossing_35 : decode cX11_mostCrossing 35 = .ok (.ifCond .ne 9, 3) := by decide +kernel
theorem dX11_mostCrossing_38 : decode cX11_mostCrossing 38 = .ok (.iinc 2 (-1), 3) := by decide +kernel
theorem dX11_mostCrossing_41 : decode cX11_mostCrossing 41 = .ok (.goto (-16), 3) := by decide +kernel
theorem dX11_mostCrossing_44 : decode cX11_mostCrossing 44 = .ok (.iconst 0, 1) := by decide +kernel
theorem dX11_mostCrossing_45 : decode cX11_mostCrossing 45 = .ok (.istore_n 3, 1) := by decide +kernel
theorem dX11_mostCrossing_46 : decode cX11_mostCrossing 46 = .ok (.aload_n 0, 1) := by decide +kernel
theorem dX11_mostCrossing_47 : decode cX11_mostCrossing 47 = .ok (.getfield 54, 3) := by decide +kernel
theorem dX11_mostCrossing_50 : decode cX11_mostCrossing 50 = .ok (.iload_n 2, 1) := by decide +kernel
theorem dX11_mostCrossing_51 : decode cX11_mostCrossing 51 = .ok (.iaload, 1) := by decide +kernel
theorem dX11_mostCrossing_52 : decode cX11_mostCrossing 52 = .ok (.iload_n 3, 1) := by decide +kernel
theorem dX11_mostCrossing_53 : decode cX11_mostCrossing 53 = .ok (.invokestatic 281, 3) := by decide +kernel
theorem dX11_mostCrossing_56 : decode cX11_mostCrossing 56 = .ok (.ifCond .ne 9, 3) := by decide +kernel
theorem dX11_mostCrossing_59 : decode cX11_mostCrossing 59 = .ok (.iinc 3 1, 3) := by decide +kernel
theorem dX11_mostCrossing_62 : decode cX11_mostCrossing 62 = .ok (.goto (-16), 3) := by decide +kernel
theorem dX11_mostCrossing_65 : decode cX11_mostCrossing 65 = .ok (.aload_n 0, 1) := by decide +kernel
theorem dX11_mostCrossing_66 : decode cX11_mostCrossing 66 = .ok (.getfield 54, 3) := by decide +kernel
theorem dX11_mostCrossing_69 : decode cX11_mostCrossing 69 = .ok (.iload_n 2, 1) := by decide +kernel
theorem dX11_mostCrossing_70 : decode cX11_mostCrossing 70 = .ok (.dup2, 1) := by decide +kernel
theorem dX11_mostCrossing_71 : decode cX11_mostCrossing 71 = .ok (.iaload, 1) := by decide +kernel
theorem dX11_mostCrossing_72 : decode cX11_mostCrossing 72 = .ok (.iconst 1, 1) := by decide +kernel
theorem dX11_mostCrossing_73 : decode cX11_mostCrossing 73 = .ok (.iload_n 3, 1) := by decide +kernel
theorem dX11_mostCrossing_74 : decode cX11_mostCrossing 74 = .ok (.ishl, 1) := by decide +kernel
theorem dX11_mostCrossing_75 : decode cX11_mostCrossing 75 = .ok (.iconst (-1), 1) := by decide +kernel
theorem dX11_mostCrossing_76 : decode cX11_mostCrossing 76 = .ok (.ixor, 1) := by decide +kernel
theorem dX11_mostCrossing_77 : decode cX11_mostCrossing 77 = .ok (.iand, 1) := by decide +kernel
theorem dX11_mostCrossing_78 : decode cX11_mostCrossing 78 = .ok (.iastore, 1) := by decide +kernel
theorem dX11_mostCrossing_79 : decode cX11_mostCrossing 79 = .ok (.aload_n 0, 1) := by decide +kernel
theorem dX11_mostCrossing_80 : decode cX11_mostCrossing 80 = .ok (.getfield 57, 3) := by decide +kernel
theorem dX11_mostCrossing_83 : decode cX11_mostCrossing 83 = .ok (.iload_n 2, 1) := by decide +kernel
theorem dX11_mostCrossing_84 : decode cX11_mostCrossing 84 = .ok (.iaload, 1) := by decide +kernel
theorem dX11_mostCrossing_85 : decode cX11_mostCrossing 85 = .ok (.iconst 1, 1) := by decide +kernel
theorem dX11_mostCrossing_86 : decode cX11_mostCrossing 86 = .ok (.iload_n 3, 1) := by decide +kernel
theorem dX11_mostCrossing_87 : decode cX11_mostCrossing 87 = .ok (.ishl, 1) := by decide +kernel
theorem dX11_mostCrossing_88 : decode cX11_mostCrossing 88 = .ok (.ior, 1) := by decide +kernel
theorem dX11_mostCrossing_89 : decode cX11_mostCrossing 89 = .ok (.istore 4, 2) := by decide +kernel
theorem dX11_mostCrossing_91 : decode cX11_mostCrossing 91 = .ok (.iload 4, 2) := by decide +kernel
theorem dX11_mostCrossing_93 : decode cX11_mostCrossing 93 = .ok (.invokestatic 299, 3) := by decide +kernel
theorem dX11_mostCrossing_96 : decode cX11_mostCrossing 96 = .ok (.iload_n 1, 1) := by decide +kernel
theorem dX11_mostCrossing_97 : decode cX11_mostCrossing 97 = .ok (.invokestatic 299, 3) := by decide +kernel
theorem dX11_mostCrossing_100 : decode cX11_mostCrossing 100 = .ok (.if_icmp .gt 21, 3) := by decide +kernel
theorem dX11_mostCrossing_103 : decode cX11_mostCrossing 103 = .ok (.iload 4, 2) := by decide +kernel
theorem dX11_mostCrossing_105 : decode cX11_mostCrossing 105 = .ok (.invokestatic 299, 3) := by decide +kernel
theorem dX11_mostCrossing_108 : decode cX11_mostCrossing 108 = .ok (.iload_n 1, 1) := by decide +kernel
theorem dX11_mostCrossing_109 : decode cX11_mostCrossing 109 = .ok (.invokestatic 299, 3) := by decide +kernel
theorem dX11_mostCrossing_112 : decode cX11_mostCrossing 112 = .ok (.if_icmp .ne 12, 3) := by decide +kernel
theorem dX11_mostCrossing_115 : decode cX11_mostCrossing 115 = .ok (.iload 4, 2) := by decide +kernel
theorem dX11_mostCrossing_117 : decode cX11_mostCrossing 117 = .ok (.iload_n 1, 1) := by decide +kernel
theorem dX11_mostCrossing_118 : decode cX11_mostCrossing 118 = .ok (.if_icmp .ge 6, 3) := by decide +kernel
theorem dX11_mostCrossing_121 : decode cX11_mostCrossing 121 = .ok (.iload 4, 2) := by decide +kernel
theorem dX11_mostCrossing_123 : decode cX11_mostCrossing 123 = .ok (.istore_n 1, 1) := by decide +kernel
theorem dX11_mostCrossing_124 : decode cX11_mostCrossing 124 = .ok (.iinc 2 1, 3) := by decide +kernel
theorem dX11_mostCrossing_127 : decode cX11_mostCrossing 127 = .ok (.aload_n 0, 1) := by decide +kernel
theorem dX11_mostCrossing_128 : decode cX11_mostCrossing 128 = .ok (.getfield 57, 3) := by decide +kernel
theorem dX11_mostCrossing_131 : decode cX11_mostCrossing 131 = .ok (.iload_n 2, 1) := by decide +kernel
theorem dX11_mostCrossing_132 : decode cX11_mostCrossing 132 = .ok (.iload 4, 2) := by decide +kernel
theorem dX11_mostCrossing_134 : decode cX11_mostCrossing 134 = .ok (.iastore, 1) := by decide +kernel
theorem dX11_mostCrossing_135 : decode cX11_mostCrossing 135 = .ok (.aload_n 0, 1) := by decide +kernel
theorem dX11_mostCrossing_136 : decode cX11_mostCrossing 136 = .ok (.getfield 54, 3) := by decide +kernel
theorem dX11_mostCrossing_139 : decode cX11_mostCrossing 139 = .ok (.iload_n 2, 1) := by decide +kernel
theorem dX11_mostCrossing_140 : decode cX11_mostCrossing 140 = .ok (.iconst 0, 1) := by decide +kernel
theorem dX11_mostCrossing_141 : decode cX11_mostCrossing 141 = .ok (.iastore, 1) := by decide +kernel
theorem dX11_mostCrossing_142 : decode cX11_mostCrossing 142 = .ok (.iload_n 3, 1) := by decide +kernel
theorem dX11_mostCrossing_143 : decode cX11_mostCrossing 143 = .ok (.iconst 1, 1) := by decide +kernel
theorem dX11_mostCrossing_144 : decode cX11_mostCrossing 144 = .ok (.iadd, 1) := by decide +kernel
theorem dX11_mostCrossing_145 : decode cX11_mostCrossing 145 = .ok (.istore 5, 2) := by decide +kernel
theorem dX11_mostCrossing_147 : decode cX11_mostCrossing 147 = .ok (.iload 5, 2) := by decide +kernel
theorem dX11_mostCrossing_149 : decode cX11_mostCrossing 149 = .ok (.aload_n 0, 1) := by decide +kernel
theorem dX11_mostCrossing_150 : decode cX11_mostCrossing 150 = .ok (.getfield 222, 3) := by decide +kernel
theorem dX11_mostCrossing_153 : decode cX11_mostCrossing 153 = .ok (.if_icmp .ge 49, 3) := by decide +kernel
theorem dX11_mostCrossing_156 : decode cX11_mostCrossing 156 = .ok (.aload_n 0, 1) := by decide +kernel
theorem dX11_mostCrossing_157 : decode cX11_mostCrossing 157 = .ok (.getfield 54, 3) := by decide +kernel
theorem dX11_mostCrossing_160 : decode cX11_mostCrossing 160 = .ok (.iload_n 2, 1) := by decide +kernel
theorem dX11_mostCrossing_161 : decode cX11_mostCrossing 161 = .ok (.iconst 1, 1) := by decide +kernel
theorem dX11_mostCrossing_162 : decode cX11_mostCrossing 162 = .ok (.isub, 1) := by decide +kernel
theorem dX11_mostCrossing_163 : decode cX11_mostCrossing 163 = .ok (.iaload, 1) := by decide +kernel
theorem dX11_mostCrossing_164 : decode cX11_mostCrossing 164 = .ok (.iload 5, 2) := by decide +kernel
theorem dX11_mostCrossing_166 : decode cX11_mostCrossing 166 = .ok (.invokestatic 281, 3) := by decide +kernel
theorem dX11_mostCrossing_169 : decode cX11_mostCrossing 169 = .ok (.ifCond .eq 27, 3) := by decide +kernel
theorem dX11_mostCrossing_172 : decode cX11_mostCrossing 172 = .ok (.aload_n 0, 1) := by decide +kernel
theorem dX11_mostCrossing_173 : decode cX11_mostCrossing 173 = .ok (.iload_n 3, 1) := by decide +kernel
theorem dX11_mostCrossing_174 : decode cX11_mostCrossing 174 = .ok (.iload 5, 2) := by decide +kernel
theorem dX11_mostCrossing_176 : decode cX11_mostCrossing 176 = .ok (.invokevirtual 314, 3) := by decide +kernel
theorem dX11_mostCrossing_179 : decode cX11_mostCrossing 179 = .ok (.iconst 4, 1) := by decide +kernel
theorem dX11_mostCrossing_180 : decode cX11_mostCrossing 180 = .ok (.if_icmp .ne 16, 3) := by decide +kernel
theorem dX11_mostCrossing_183 : decode cX11_mostCrossing 183 = .ok (.aload_n 0, 1) := by decide +kernel
theorem dX11_mostCrossing_184 : decode cX11_mostCrossing 184 = .ok (.getfield 54, 3) := by decide +kernel
theorem dX11_mostCrossing_187 : decode cX11_mostCrossing 187 = .ok (.iload_n 2, 1) := by decide +kernel
theorem dX11_mostCrossing_188 : decode cX11_mostCrossing 188 = .ok (.dup2, 1) := by decide +kernel
theorem dX11_mostCrossing_189 : decode cX11_mostCrossing 189 = .ok (.iaload, 1) := by decide +kernel
theorem dX11_mostCrossing_190 : decode cX11_mostCrossing 190 = .ok (.iconst 1, 1) := by decide +kernel
theorem dX11_mostCrossing_191 : decode cX11_mostCrossing 191 = .ok (.iload 5, 2) := by decide +kernel
theorem dX11_mostCrossing_193 : decode cX11_mostCrossing 193 = .ok (.ishl, 1) := by decide +kernel
theorem dX11_mostCrossing_194 : decode cX11_mostCrossing 194 = .ok (.ior, 1) := by decide +kernel
theorem dX11_mostCrossing_195 : decode cX11_mostCrossing 195 = .ok (.iastore, 1) := by decide +kernel
theorem dX11_mostCrossing_196 : decode cX11_mostCrossing 196 = .ok (.iinc 5 1, 3) := by decide +kernel
theorem dX11_mostCrossing_199 : decode cX11_mostCrossing 199 = .ok (.goto (-52), 3) := by decide +kernel
theorem dX11_mostCrossing_202 : decode cX11_mostCrossing 202 = .ok (.goto (-177), 3) := by decide +kernel
theorem dX11_mostCrossing_205 : decode cX11_mostCrossing 205 = .ok (.iload_n 1, 1) := by decide +kernel
theorem dX11_mostCrossing_206 : decode cX11_mostCrossing 206 = .ok (.ireturn, 1) := by decide +kernel
theorem dX11_most_0 : decode cX11_most 0 = .ok (.aload_n 0, 1) := by decide +kernel
theorem dX11_most_1 : decode cX11_most 1 = .ok (.invokevirtual 305, 3) := by decide +kernel
theorem dX11_most_4 : decode cX11_most 4 = .ok (.ifCond .eq 13, 3) := by decide +kernel
theorem dX11_most_7 : decode cX11_most 7 = .ok (.iload_n 1, 1) := by decide +kernel
theorem dX11_most_8 : decode cX11_most 8 = .ok (.i2l, 1) := by decide +kernel
theorem dX11_most_9 : decode cX11_most 9 = .ok (.lconst 0, 1) := by decide +kernel
theorem dX11_most_10 : decode cX11_most 10 = .ok (.lconst 1, 1) := by decide +kernel
theorem dX11_most_11 : decode cX11_most 11 = .ok (.invokestatic 109, 3) := by decide +kernel
theorem dX11_most_14 : decode cX11_most 14 = .ok (.ifCond .ne 5, 3) := by decide +kernel
theorem dX11_most_17 : decode cX11_most 17 = .ok (.iconst (-1), 1) := by decide +kernel
theorem dX11_most_18 : decode cX11_most 18 = .ok (.ireturn, 1) := by decide +kernel
theorem dX11_most_19 : decode cX11_most 19 = .ok (.aload_n 0, 1) := by decide +kernel
theorem dX11_most_20 : decode cX11_most 20 = .ok (.invokevirtual 332, 3) := by decide +kernel
theorem dX11_most_23 : decode cX11_most 23 = .ok (.istore_n 2, 1) := by decide +kernel
theorem dX11_most_24 : decode cX11_most 24 = .ok (.iload_n 1, 1) := by decide +kernel
theorem dX11_most_25 : decode cX11_most 25 = .ok (.ifCond .ne 10, 3) := by decide +kernel
theorem dX11_most_28 : decode cX11_most 28 = .ok (.iload_n 2, 1) := by decide +kernel
theorem dX11_most_29 : decode cX11_most 29 = .ok (.invokestatic 299, 3) := by decide +kernel
theorem dX11_most_32 : decode cX11_most 32 = .ok (.goto 4, 3) := by decide +kernel
theorem dX11_most_35 : decode cX11_most 35 = .ok (.iload_n 2, 1) := by decide +kernel
theorem dX11_most_36 : decode cX11_most 36 = .ok (.ireturn, 1) := by decide +kernel
theorem dX11_opposite_0 : decode cX11_opposite 0 = .ok (.aload_n 0, 1) := by decide +kernel
theorem dX11_opposite_1 : decode cX11_opposite 1 = .ok (.invokevirtual 305, 3) := by decide +kernel
theorem dX11_opposite_4 : decode cX11_opposite 4 = .ok (.ifCond .eq 35, 3) := by decide +kernel
theorem dX11_opposite_7 : decode cX11_opposite 7 = .ok (.aload_n 0, 1) := by decide +kernel
theorem dX11_opposite_8 : decode cX11_opposite 8 = .ok (.iload_n 1, 1) := by decide +kernel
theorem dX11_opposite_9 : decode cX11_opposite 9 = .ok (.invokevirtual 257, 3) := by decide +kernel
theorem dX11_opposite_12 : decode cX11_opposite 12 = .ok (.ifCond .eq 27, 3) := by decide +kernel
theorem dX11_opposite_15 : decode cX11_opposite 15 = .ok (.aload_n 0, 1) := by decide +kernel
theorem dX11_opposite_16 : decode cX11_opposite 16 = .ok (.iconst 1, 1) := by decide +kernel
theorem dX11_opposite_17 : decode cX11_opposite 17 = .ok (.aload_n 0, 1) := by decide +kernel
theorem dX11_opposite_18 : decode cX11_opposite 18 = .ok (.getfield 222, 3) := by decide +kernel
theorem dX11_opposite_21 : decode cX11_opposite 21 = .ok (.ishl, 1) := by decide +kernel
theorem dX11_opposite_22 : decode cX11_opposite 22 = .ok (.iconst 1, 1) := by decide +kernel
theorem dX11_opposite_23 : decode cX11_opposite 23 = .ok (.isub, 1) := by decide +kernel
theorem dX11_opposite_24 : decode cX11_opposite 24 = .ok (.aload_n 0, 1) := by decide +kernel
theorem dX11_opposite_25 : decode cX11_opposite 25 = .ok (.getfield 41, 3) := by decide +kernel
theorem dX11_opposite_28 : decode cX11_opposite 28 = .ok (.iload_n 1, 1) := by decide +kernel
theorem dX11_opposite_29 : decode cX11_opposite 29 = .ok (.iaload, 1) := by decide +kernel
theorem dX11_opposite_30 : decode cX11_opposite 30 = .ok (.iconst (-1), 1) := by decide +kernel
theorem dX11_opposite_31 : decode cX11_opposite 31 = .ok (.ixor, 1) := by decide +kernel
theorem dX11_opposite_32 : decode cX11_opposite 32 = .ok (.iand, 1) := by decide +kernel
theorem dX11_opposite_33 : decode cX11_opposite 33 = .ok (.invokevirtual 308, 3) := by decide +kernel
theorem dX11_opposite_36 : decode cX11_opposite 36 = .ok (.goto 4, 3) := by decide +kernel
theorem dX11_opposite_39 : decode cX11_opposite 39 = .ok (.iconst (-1), 1) := by decide +kernel
theorem dX11_opposite_40 : decode cX11_opposite 40 = .ok (.ireturn, 1) := by decide +kernel
theorem dX11_even_0 : decode cX11_even 0 = .ok (.aload_n 0, 1) := by decide +kernel
theorem dX11_even_1 : decode cX11_even 1 = .ok (.invokevirtual 305, 3) := by decide +kernel
theorem dX11_even_4 : decode cX11_even 4 = .ok (.ifCond .eq 20, 3) := by decide +kernel
theorem dX11_even_7 : decode cX11_even 7 = .ok (.aload_n 0, 1) := by decide +kernel
theorem dX11_even_8 : decode cX11_even 8 = .ok (.getfield 222, 3) := by decide +kernel
theorem dX11_even_11 : decode cX11_even 11 = .ok (.ifCond .eq 13, 3) := by decide +kernel
theorem dX11_even_14 : decode cX11_even 14 = .ok (.iload_n 1, 1) := by decide +kernel
theorem dX11_even_15 : decode cX11_even 15 = .ok (.i2l, 1) := by decide +kernel
theorem dX11_even_16 : decode cX11_even 16 = .ok (.lconst 0, 1) := by decide +kernel
theorem dX11_even_17 : decode cX11_even 17 = .ok (.lconst 1, 1) := by decide +kernel
theorem dX11_even_18 : decode cX11_even 18 = .ok (.invokestatic 109, 3) := by decide +kernel
theorem dX11_even_21 : decode cX11_even 21 = .ok (.ifCond .ne 5, 3) := by decide +kernel
theorem dX11_even_24 : decode cX11_even 24 = .ok (.iconst (-1), 1) := by decide +kernel
theorem dX11_even_25 : decode cX11_even 25 = .ok (.ireturn, 1) := by decide +kernel
theorem dX11_even_26 : decode cX11_even 26 = .ok (.iconst 0, 1) := by decide +kernel
theorem dX11_even_27 : decode cX11_even 27 = .ok (.istore_n 2, 1) := by decide +kernel
theorem dX11_even_28 : decode cX11_even 28 = .ok (.iconst 1, 1) := by decide +kernel
theorem dX11_even_29 : decode cX11_even 29 = .ok (.istore_n 3, 1) := by decide +kernel
theorem dX11_even_30 : decode cX11_even 30 = .ok (.iload_n 3, 1) := by decide +kernel
theorem dX11_even_31 : decode cX11_even 31 = .ok (.aload_n 0, 1) := by decide +kernel
theorem dX11_even_32 : decode cX11_even 32 = .ok (.getfield 222, 3) := by decide +kernel
theorem dX11_even_35 : decode cX11_even 35 = .ok (.if_icmp .ge 24, 3) := by decide +kernel
theorem dX11_even_38 : decode cX11_even 38 = .ok (.aload_n 0, 1) := by decide +kernel
theorem dX11_even_39 : decode cX11_even 39 = .ok (.iload_n 3, 1) := by decide +kernel
theorem dX11_even_40 : decode cX11_even 40 = .ok (.invokevirtual 302, 3) := by decide +kernel
theorem dX11_even_43 : decode cX11_even 43 = .ok (.aload_n 0, 1) := by decide +kernel
theorem dX11_even_44 : decode cX11_even 44 = .ok (.iload_n 2, 1) := by decide +kernel
theorem dX11_even_45 : decode cX11_even 45 = .ok (.invokevirtual 302, 3) := by decide +kernel
theorem dX11_even_48 : decode cX11_even 48 = .ok (.if_icmp .le 5, 3) := by decide +kernel
theorem dX11_even_51 : decode cX11_even 51 = .ok (.iload_n 3, 1) := by decide +kernel
theorem dX11_even_52 : decode cX11_even 52 = .ok (.istore_n 2, 1) := by decide +kernel
theorem dX11_even_53 : decode cX11_even 53 = .ok (.iinc 3 1, 3) := by decide +kernel
theorem dX11_even_56 : decode cX11_even 56 = .ok (.goto (-26), 3) := by decide +kernel
theorem dX11_even_59 : decode cX11_even 59 = .ok (.iload_n 1, 1) := by decide +kernel
theorem dX11_even_60 : decode cX11_even 60 = .ok (.ifCond .ne 7, 3) := by decide +kernel
theorem dX11_even_63 : decode cX11_even 63 = .ok (.iload_n 2, 1) := by decide +kernel
theorem dX11_even_64 : decode cX11_even 64 = .ok (.goto 8, 3) := by decide +kernel
theorem dX11_even_67 : decode cX11_even 67 = .ok (.aload_n 0, 1) := by decide +kernel
theorem dX11_even_68 : decode cX11_even 68 = .ok (.iload_n 2, 1) := by decide +kernel
theorem dX11_even_69 : decode cX11_even 69 = .ok (.invokevirtual 302, 3) := by decide +kernel
theorem dX11_even_72 : decode cX11_even 72 = .ok (.ireturn, 1) := by decide +kernel
theorem dX11_few_0 : decode cX11_few 0 = .ok (.aload_n 0, 1) := by decide +kernel
theorem dX11_few_1 : decode cX11_few 1 = .ok (.invokevirtual 305, 3) := by decide +kernel
theorem dX11_few_4 : decode cX11_few 4 = .ok (.ifCond .eq 12, 3) := by decide +kernel
theorem dX11_few_7 : decode cX11_few 7 = .ok (.aload_n 0, 1) := by decide +kernel
theorem dX11_few_8 : decode cX11_few 8 = .ok (.getfield 222, 3) := by decide +kernel
theorem dX11_few_11 : decode cX11_few 11 = .ok (.bipush 8, 2) := by decide +kernel
theorem dX11_few_13 : decode cX11_few 13 = .ok (.if_icmp .le 5, 3) := by decide +kernel
theorem dX11_few_16 : decode cX11_few 16 = .ok (.iconst (-1), 1) := by decide +kernel
theorem dX11_few_17 : decode cX11_few 17 = .ok (.ireturn, 1) := by decide +kernel
theorem dX11_few_18 : decode cX11_few 18 = .ok (.iconst 2, 1) := by decide +kernel
theorem dX11_few_19 : decode cX11_few 19 = .ok (.aload_n 0, 1) := by decide +kernel
theorem dX11_few_20 : decode cX11_few 20 = .ok (.getfield 222, 3) := by decide +kernel
theorem dX11_few_23 : decode cX11_few 23 = .ok (.imul, 1) := by decide +kernel
theorem dX11_few_24 : decode cX11_few 24 = .ok (.istore_n 1, 1) := by decide +kernel
theorem dX11_few_25 : decode cX11_few 25 = .ok (.iconst 0, 1) := by decide +kernel
theorem dX11_few_26 : decode cX11_few 26 = .ok (.istore_n 2, 1) := by decide +kernel
theorem dX11_few_27 : decode cX11_few 27 = .ok (.iload_n 2, 1) := by decide +kernel
theorem dX11_few_28 : decode cX11_few 28 = .ok (.iload_n 1, 1) := by decide +kernel
theorem dX11_few_29 : decode cX11_few 29 = .ok (.if_icmp .ge 50, 3) := by decide +kernel
theorem dX11_few_32 : decode cX11_few 32 = .ok (.aload_n 0, 1) := by decide +kernel
theorem dX11_few_33 : decode cX11_few 33 = .ok (.getfield 65, 3) := by decide +kernel
theorem dX11_few_36 : decode cX11_few 36 = .ok (.iload_n 2, 1) := by decide +kernel
theorem dX11_few_37 : decode cX11_few 37 = .ok (.iconst 0, 1) := by decide +kernel
theorem dX11_few_38 : decode cX11_few 38 = .ok (.iastore, 1) := by decide +kernel
theorem dX11_few_39 : decode cX11_few 39 = .ok (.iconst 0, 1) := by decide +kernel
theorem dX11_few_40 : decode cX11_few 40 = .ok (.istore_n 3, 1) := by decide +kernel
theorem dX11_few_41 : decode cX11_few 41 = .ok (.iload_n 3, 1) := by decide +kernel
theorem dX11_few_42 : decode cX11_few 42 = .ok (.iload_n 2, 1) := by decide +kernel
theorem dX11_few_43 : decode cX11_few 43 = .ok (.if_icmp .ge 30, 3) := by decide +kernel
theorem dX11_few_46 : decode cX11_few 46 = .ok (.aload_n 0, 1) := by decide +kernel
theorem dX11_few_47 : decode cX11_few 47 = .ok (.iload_n 2, 1) := by decide +kernel
theorem dX11_few_48 : decode cX11_few 48 = .ok (.iload_n 3, 1) := by decide +kernel
theorem dX11_few_49 : decode cX11_few 49 = .ok (.invokevirtual 326, 3) := by decide +kernel
theorem dX11_few_52 : decode cX11_few 52 = .ok (.ifCond .eq 15, 3) := by decide +kernel
theorem dX11_few_55 : decode cX11_few 55 = .ok (.aload_n 0, 1) := by decide +kernel
theorem dX11_few_56 : decode cX11_few 56 = .ok (.getfield 65, 3) := by decide +kernel
theorem dX11_few_59 : decode cX11_few 59 = .ok (.iload_n 2, 1) := by decide +kernel
theorem dX11_few_60 : decode cX11_few 60 = .ok (.dup2, 1) := by decide +kernel
theorem dX11_few_61 : decode cX11_few 61 = .ok (.iaload, 1) := by decide +kernel
theorem dX11_few_62 : decode cX11_few 62 = .ok (.iconst 1, 1) := by decide +kernel
theorem dX11_few_63 : decode cX11_few 63 = .ok (.iload_n 3, 1) := by decide +kernel
theorem dX11_few_64 : decode cX11_few 64 = .ok (.ishl, 1) := by decide +kernel
theorem dX11_few_65 : decode cX11_few 65 = .ok (.ior, 1) := by decide +kernel
theorem dX11_few_66 : decode cX11_few 66 = .ok (.iastore, 1) := by decide +kernel
theorem dX11_few_67 : decode cX11_few 67 = .ok (.iinc 3 1, 3) := by decide +kernel
theorem dX11_few_70 : decode cX11_few 70 = .ok (.goto (-29), 3) := by decide +kernel
theorem dX11_few_73 : decode cX11_few 73 = .ok (.iinc 2 1, 3) := by decide +kernel
theorem dX11_few_76 : decode cX11_few 76 = .ok (.goto (-49), 3) := by decide +kernel
theorem dX11_few_79 : decode cX11_few 79 = .ok (.aload_n 0, 1) := by decide +kernel
theorem dX11_few_80 : decode cX11_few 80 = .ok (.getfield 61, 3) := by decide +kernel
theorem dX11_few_83 : decode cX11_few 83 = .ok (.iconst 0, 1) := by decide +kernel
theorem dX11_few_84 : decode cX11_few 84 = .ok (.iconst 0, 1) := by decide +kernel
theorem dX11_few_85 : decode cX11_few 85 = .ok (.bastore, 1) := by decide +kernel
theorem dX11_few_86 : decode cX11_few 86 = .ok (.iconst 1, 1) := by decide +kernel
theorem dX11_few_87 : decode cX11_few 87 = .ok (.istore_n 2, 1) := by decide +kernel
theorem dX11_few_88 : decode cX11_few 88 = .ok (.iload_n 2, 1) := by decide +kernel
theorem dX11_few_89 : decode cX11_few 89 = .ok (.iconst 1, 1) := by decide +kernel
theorem dX11_few_90 : decode cX11_few 90 = .ok (.iload_n 1, 1) := by decide +kernel
theorem dX11_few_91 : decode cX11_few 91 = .ok (.ishl, 1) := by decide +kernel
theorem dX11_few_92 : decode cX11_few 92 = .ok (.if_icmp .ge 123, 3) := by decide +kernel
theorem dX11_few_95 : decode cX11_few 95 = .ok (.iconst 0, 1) := by decide +kernel
theorem dX11_few_96 : decode cX11_few 96 = .ok (.istore_n 3, 1) := by decide +kernel
theorem dX11_few_97 : decode cX11_few 97 = .ok (.iload_n 2, 1) := by decide +kernel
theorem dX11_few_98 : decode cX11_few 98 = .ok (.iload_n 3, 1) := by decide +kernel
theorem dX11_few_99 : decode cX11_few 99 = .ok (.iconst 1, 1) := by decide +kernel
theorem dX11_few_100 : decode cX11_few 100 = .ok (.iadd, 1) := by decide +kernel
theorem dX11_few_101 : decode cX11_few 101 = .ok (.ishr, 1) := by decide +kernel
theorem dX11_few_102 : decode cX11_few 102 = .ok (.ifCond .eq 9, 3) := by decide +kernel
theorem dX11_few_105 : decode cX11_few 105 = .ok (.iinc 3 1, 3) := by decide +kernel
theorem dX11_few_108 : decode cX11_few 108 = .ok (.goto (-11), 3) := by decide +kernel
theorem dX11_few_111 : decode cX11_few 111 = .ok (.iload_n 2, 1) := by decide +kernel
theorem dX11_few_112 : decode cX11_few 112 = .ok (.iconst 1, 1) := by decide +kernel
theorem dX11_few_113 : decode cX11_few 113 = .ok (.iload_n 3, 1) := by decide +kernel
theorem dX11_few_114 : decode cX11_few 114 = .ok (.ishl, 1) := by decide +kernel
theorem dX11_few_115 : decode cX11_few 115 = .ok (.iconst (-1), 1) := by decide +kernel
theorem dX11_few_116 : decode cX11_few 116 = .ok (.ixor, 1) := by decide +kernel
theorem dX11_few_117 : decode cX11_few 117 = .ok (.iand, 1) := by decide +kernel
theorem dX11_few_118 : decode cX11_few 118 = .ok (.istore 4, 2) := by decide +kernel
theorem dX11_few_120 : decode cX11_few 120 = .ok (.aload_n 0, 1) := by decide +kernel
theorem dX11_few_121 : decode cX11_few 121 = .ok (.getfield 61, 3) := by decide +kernel
theorem dX11_few_124 : decode cX11_few 124 = .ok (.iload 4, 2) := by decide +kernel
theorem dX11_few_126 : decode cX11_few 126 = .ok (.baload, 1) := by decide +kernel
theorem dX11_few_127 : decode cX11_few 127 = .ok (.istore 5, 2) := by decide +kernel
theorem dX11_few_129 : decode cX11_few 129 = .ok (.iconst 0, 1) := by decide +kernel
theorem dX11_few_130 : decode cX11_few 130 = .ok (.istore 6, 2) := by decide +kernel
theorem dX11_few_132 : decode cX11_few 132 = .ok (.iload 6, 2) := by decide +kernel
theorem dX11_few_134 : decode cX11_few 134 = .ok (.iload_n 3, 1) := by decide +kernel
theorem dX11_few_135 : decode cX11_few 135 = .ok (.if_icmp .ge 65, 3) := by decide +kernel
theorem dX11_few_138 : decode cX11_few 138 = .ok (.aload_n 0, 1) := by decide +kernel
theorem dX11_few_139 : decode cX11_few 139 = .ok (.getfield 65, 3) := by decide +kernel
theorem dX11_few_142 : decode cX11_few 142 = .ok (.iload_n 3, 1) := by decide +kernel
theorem dX11_few_143 : decode cX11_few 143 = .ok (.iaload, 1) := by decide +kernel
theorem dX11_few_144 : decode cX11_few 144 = .ok (.iload 4, 2) := by decide +kernel
theorem dX11_few_146 : decode cX11_few 146 = .ok (.iand, 1) := by decide +kernel
theorem dX11_few_147 : decode cX11_few 147 = .ok (.iload 6, 2) := by decide +kernel
theorem dX11_few_149 : decode cX11_few 149 = .ok (.invokestatic 281, 3) := by decide +kernel
theorem dX11_few_152 : decode cX11_few 152 = .ok (.ifCond .eq 42, 3) := by decide +kernel
theorem dX11_few_155 : decode cX11_few 155 = .ok (.aload_n 0, 1) := by decide +kernel
theorem dX11_few_156 : decode cX11_few 156 = .ok (.getfield 61, 3) := by decide +kernel
theorem dX11_few_159 : decode cX11_few 159 = .ok (.iload 4, 2) := by decide +kernel
theorem dX11_few_161 : decode cX11_few 161 = .ok (.iconst 1, 1) := by decide +kernel
theorem dX11_few_162 : decode cX11_few 162 = .ok (.iload 6, 2) := by decide +kernel
theorem dX11_few_164 : decode cX11_few 164 = .ok (.ishl, 1) := by decide +kernel
theorem dX11_few_165 : decode cX11_few 165 = .ok (.iconst (-1), 1) := by decide +kernel
theorem dX11_few_166 : decode cX11_few 166 = .ok (.ixor, 1) := by decide +kernel
theorem dX11_few_167 : decode cX11_few 167 = .ok (.iand, 1) := by decide +kernel
theorem dX11_few_168 : decode cX11_few 168 = .ok (.baload, 1) := by decide +kernel
theorem dX11_few_169 : decode cX11_few 169 = .ok (.iconst 1, 1) := by decide +kernel
theorem dX11_few_170 : decode cX11_few 170 = .ok (.iadd, 1) := by decide +kernel
theorem dX11_few_171 : decode cX11_few 171 = .ok (.iload 5, 2) := by decide +kernel
theorem dX11_few_173 : decode cX11_few 173 = .ok (.if_icmp .le 21, 3) := by decide +kernel
theorem dX11_few_176 : decode cX11_few 176 = .ok (.aload_n 0, 1) := by decide +kernel
theorem dX11_few_177 : decode cX11_few 177 = .ok (.getfield 61, 3) := by decide +kernel
theorem dX11_few_180 : decode cX11_few 180 = .ok (.iload 4, 2) := by decide +kernel
theorem dX11_few_182 : decode cX11_few 182 = .ok (.iconst 1, 1) := by decide +kernel
theorem dX11_few_183 : decode cX11_few 183 = .ok (.iload 6, 2) := by decide +kernel
theorem dX11_few_185 : decode cX11_few 185 = .ok (.ishl, 1) := by decide +kernel
theorem dX11_few_186 : decode cX11_few 186 = .ok (.iconst (-1), 1) := by decide +kernel
theorem dX11_few_187 : decode cX11_few 187 = .ok (.ixor, 1) := by decide +kernel
theorem dX11_few_188 : decode cX11_few 188 = .ok (.iand, 1) := by decide +kernel
theorem dX11_few_189 : decode cX11_few 189 = .ok (.baload, 1) := by decide +kernel
theorem dX11_few_190 : decode cX11_few 190 = .ok (.iconst 1, 1) := by decide +kernel
theorem dX11_few_191 : decode cX11_few 191 = .ok (.iadd, 1) := by decide +kernel
theorem dX11_few_192 : decode cX11_few 192 = .ok (.istore 5, 2) := by decide +kernel
theorem dX11_few_194 : decode cX11_few 194 = .ok (.iinc 6 1, 3) := by decide +kernel
theorem dX11_few_197 : decode cX11_few 197 = .ok (.goto (-65), 3) := by decide +kernel
theorem dX11_few_200 : decode cX11_few 200 = .ok (.aload_n 0, 1) := by decide +kernel
theorem dX11_few_201 : decode cX11_few 201 = .ok (.getfield 61, 3) := by decide +kernel
theorem dX11_few_204 : decode cX11_few 204 = .ok (.iload_n 2, 1) := by decide +kernel
theorem dX11_few_205 : decode cX11_few 205 = .ok (.iload 5, 2) := by decide +kernel
theorem dX11_few_207 : decode cX11_few 207 = .ok (.i2b, 1) := by decide +kernel
theorem dX11_few_208 : decode cX11_few 208 = .ok (.bastore, 1) := by decide +kernel
theorem dX11_few_209 : decode cX11_few 209 = .ok (.iinc 2 1, 3) := by decide +kernel
theorem dX11_few_212 : decode cX11_few 212 = .ok (.goto (-124), 3) := by decide +kernel
theorem dX11_few_215 : decode cX11_few 215 = .ok (.aload_n 0, 1) := by decide +kernel
theorem dX11_few_216 : decode cX11_few 216 = .ok (.getfield 222, 3) := by decide +kernel
theorem dX11_few_219 : decode cX11_few 219 = .ok (.aload_n 0, 1) := by decide +kernel
theorem dX11_few_220 : decode cX11_few 220 = .ok (.getfield 61, 3) := by decide +kernel
theorem dX11_few_223 : decode cX11_few 223 = .ok (.iconst 1, 1) := by decide +kernel
theorem dX11_few_224 : decode cX11_few 224 = .ok (.iload_n 1, 1) := by decide +kernel
theorem dX11_few_225 : decode cX11_few 225 = .ok (.ishl, 1) := by decide +kernel
theorem dX11_few_226 : decode cX11_few 226 = .ok (.iconst 1, 1) := by decide +kernel
theorem dX11_few_227 : decode cX11_few 227 = .ok (.isub, 1) := by decide +kernel
theorem dX11_few_228 : decode cX11_few 228 = .ok (.baload, 1) := by decide +kernel
theorem dX11_few_229 : decode cX11_few 229 = .ok (.isub, 1) := by decide +kernel
theorem dX11_few_230 : decode cX11_few 230 = .ok (.ireturn, 1) := by decide +kernel
theorem dX11_medianOf_0 : decode cX11_medianOf 0 = .ok (.aload_n 0, 1) := by decide +kernel
theorem dX11_medianOf_1 : decode cX11_medianOf 1 = .ok (.iload_n 1, 1) := by decide +kernel
theorem dX11_medianOf_2 : decode cX11_medianOf 2 = .ok (.iload_n 2, 1) := by decide +kernel
theorem dX11_medianOf_3 : decode cX11_medianOf 3 = .ok (.invokevirtual 273, 3) := by decide +kernel
theorem dX11_medianOf_6 : decode cX11_medianOf 6 = .ok (.aload_n 0, 1) := by decide +kernel
theorem dX11_medianOf_7 : decode cX11_medianOf 7 = .ok (.iload_n 2, 1) := by decide +kernel
theorem dX11_medianOf_8 : decode cX11_medianOf 8 = .ok (.iload_n 3, 1) := by decide +kernel
theorem dX11_medianOf_9 : decode cX11_medianOf 9 = .ok (.invokevirtual 273, 3) := by decide +kernel
theorem dX11_medianOf_12 : decode cX11_medianOf 12 = .ok (.iand, 1) := by decide +kernel
theorem dX11_medianOf_13 : decode cX11_medianOf 13 = .ok (.aload_n 0, 1) := by decide +kernel
theorem dX11_medianOf_14 : decode cX11_medianOf 14 = .ok (.iload_n 1, 1) := by decide +kernel
theorem dX11_medianOf_15 : decode cX11_medianOf 15 = .ok (.iload_n 3, 1) := by decide +kernel
theorem dX11_medianOf_16 : decode cX11_medianOf 16 = .ok (.invokevirtual 273, 3) := by decide +kernel
theorem dX11_medianOf_19 : decode cX11_medianOf 19 = .ok (.iand, 1) := by decide +kernel
theorem dX11_medianOf_20 : decode cX11_medianOf 20 = .ok (.ireturn, 1) := by decide +kernel
theorem dX11_median_0 : decode cX11_median 0 = .ok (.aload_n 0, 1) := by decide +kernel
theorem dX11_median_1 : decode cX11_median 1 = .ok (.iload_n 1, 1) := by decide +kernel
theorem dX11_median_2 : decode cX11_median 2 = .ok (.iload_n 2, 1) := by decide +kernel
theorem dX11_median_3 : decode cX11_median 3 = .ok (.invokevirtual 268, 3) := by decide +kernel
theorem dX11_median_6 : decode cX11_median 6 = .ok (.ifCond .eq 21, 3) := by decide +kernel
theorem dX11_median_9 : decode cX11_median 9 = .ok (.aload_n 0, 1) := by decide +kernel
theorem dX11_median_10 : decode cX11_median 10 = .ok (.iload_n 3, 1) := by decide +kernel
theorem dX11_median_11 : decode cX11_median 11 = .ok (.invokevirtual 257, 3) := by decide +kernel
theorem dX11_median_14 : decode cX11_median 14 = .ok (.ifCond .eq 13, 3) := by decide +kernel
theorem dX11_median_17 : decode cX11_median 17 = .ok (.aload_n 0, 1) := by decide +kernel
theorem dX11_median_18 : decode cX11_median 18 = .ok (.iload_n 1, 1) := by decide +kernel
theorem dX11_median_19 : decode cX11_median 19 = .ok (.iload_n 2, 1) := by decide +kernel
theorem dX11_median_20 : decode cX11_median 20 = .ok (.iload_n 3, 1) := by decide +kernel
theorem dX11_median_21 : decode cX11_median 21 = .ok (.invokevirtual 335, 3) := by decide +kernel
theorem dX11_median_24 : decode cX11_median 24 = .ok (.goto 4, 3) := by decide +kernel
theorem dX11_median_27 : decode cX11_median 27 = .ok (.iconst (-1), 1) := by decide +kernel
theorem dX11_median_28 : decode cX11_median 28 = .ok (.ireturn, 1) := by decide +kernel
theorem dX11_medians_0 : decode cX11_medians 0 = .ok (.iload_n 1, 1) := by decide +kernel
theorem dX11_medians_1 : decode cX11_medians 1 = .ok (.i2l, 1) := by decide +kernel
theorem dX11_medians_2 : decode cX11_medians 2 = .ok (.lconst 0, 1) := by decide +kernel
theorem dX11_medians_3 : decode cX11_medians 3 = .ok (.ldc2_w 260, 3) := by decide +kernel
theorem dX11_medians_6 : decode cX11_medians 6 = .ok (.invokestatic 109, 3) := by decide +kernel
theorem dX11_medians_9 : decode cX11_medians 9 = .ok (.ifCond .ne 5, 3) := by decide +kernel
theorem dX11_medians_12 : decode cX11_medians 12 = .ok (.iconst (-1), 1) := by decide +kernel
theorem dX11_medians_13 : decode cX11_medians 13 = .ok (.ireturn, 1) := by decide +kernel
theorem dX11_medians_14 : decode cX11_medians 14 = .ok (.aload_n 0, 1) := by decide +kernel
theorem dX11_medians_15 : decode cX11_medians 15 = .ok (.invokevirtual 244, 3) := by decide +kernel
theorem dX11_medians_18 : decode cX11_medians 18 = .ok (.aload_n 0, 1) := by decide +kernel
theorem dX11_medians_19 : decode cX11_medians 19 = .ok (.getfield 23, 3) := by decide +kernel
theorem dX11_medians_22 : decode cX11_medians 22 = .ok (.iconst 0, 1) := by decide +kernel
theorem dX11_medians_23 : decode cX11_medians 23 = .ok (.iaload, 1) := by decide +kernel
theorem dX11_medians_24 : decode cX11_medians 24 = .ok (.istore_n 2, 1) := by decide +kernel
theorem dX11_medians_25 : decode cX11_medians 25 = .ok (.iconst 0, 1) := by decide +kernel
theorem dX11_medians_26 : decode cX11_medians 26 = .ok (.istore_n 3, 1) := by decide +kernel
theorem dX11_medians_27 : decode cX11_medians 27 = .ok (.iload_n 3, 1) := by decide +kernel
theorem dX11_medians_28 : decode cX11_medians 28 = .ok (.iload_n 2, 1) := by decide +kernel
theorem dX11_medians_29 : decode cX11_medians 29 = .ok (.if_icmp .ge 90, 3) := by decide +kernel
theorem dX11_medians_32 : decode cX11_medians 32 = .ok (.iload_n 3, 1) := by decide +kernel
theorem dX11_medians_33 : decode cX11_medians 33 = .ok (.iconst 1, 1) := by decide +kernel
theorem dX11_medians_34 : decode cX11_medians 34 = .ok (.iadd, 1) := by decide +kernel
theorem dX11_medians_35 : decode cX11_medians 35 = .ok (.istore 4, 2) := by decide +kernel
theorem dX11_medians_37 : decode cX11_medians 37 = .ok (.iload 4, 2) := by decide +kernel
theorem dX11_medians_39 : decode cX11_medians 39 = .ok (.iload_n 2, 1) := by decide +kernel
theorem dX11_medians_40 : decode cX11_medians 40 = .ok (.if_icmp .ge 73, 3) := by decide +kernel
theorem dX11_medians_43 : decode cX11_medians 43 = .ok (.iload 4, 2) := by decide +kernel
theorem dX11_medians_45 : decode cX11_medians 45 = .ok (.iconst 1, 1) := by decide +kernel
theorem dX11_medians_46 : decode cX11_medians 46 = .ok (.iadd, 1) := by decide +kernel
theorem dX11_medians_47 : decode cX11_medians 47 = .ok (.istore 5, 2) := by decide +kernel
theorem dX11_medians_49 : decode cX11_medians 49 = .ok (.iload 5, 2) := by decide +kernel
theorem dX11_medians_51 : decode cX11_medians 51 = .ok (.iload_n 2, 1) := by decide +kernel
theorem dX11_medians_52 : decode cX11_medians 52 = .ok (.if_icmp .ge 55, 3) := by decide +kernel
theorem dX11_medians_55 : decode cX11_medians 55 = .ok (.aload_n 0, 1) := by decide +kernel
theorem dX11_medians_56 : decode cX11_medians 56 = .ok (.iload_n 3, 1) := by decide +kernel
theorem dX11_medians_57 : decode cX11_medians 57 = .ok (.iload 4, 2) := by decide +kernel
theorem dX11_medians_59 : decode cX11_medians 59 = .ok (.iload 5, 2) := by decide +kernel
theorem dX11_medians_61 : decode cX11_medians 61 = .ok (.invokevirtual 335, 3) := by decide +kernel
theorem dX11_medians_64 : decode cX11_medians 64 = .ok (.invokestatic 299, 3) := by decide +kernel
theorem dX11_medians_67 : decode cX11_medians 67 = .ok (.iconst 1, 1) := by decide +kernel
theorem dX11_medians_68 : decode cX11_medians 68 = .ok (.if_icmp .eq 33, 3) := by decide +kernel
theorem dX11_medians_71 : decode cX11_medians 71 = .ok (.iload_n 1, 1) := by decide +kernel
theorem dX11_medians_72 : decode cX11_medians 72 = .ok (.ifCond .ne 7, 3) := by decide +kernel
theorem dX11_medians_75 : decode cX11_medians 75 = .ok (.iconst 0, 1) := by decide +kernel
theorem dX11_medians_76 : decode cX11_medians 76 = .ok (.goto 24, 3) := by decide +kernel
theorem dX11_medians_79 : decode cX11_medians 79 = .ok (.iload_n 1, 1) := by decide +kernel
theorem dX11_medians_80 : decode cX11_medians 80 = .ok (.iconst 1, 1) := by decide +kernel
theorem dX11_medians_81 : decode cX11_medians 81 = .ok (.if_icmp .ne 7, 3) := by decide +kernel
theorem dX11_medians_84 : decode cX11_medians 84 = .ok (.iload_n 3, 1) := by decide +kernel
theorem dX11_medians_85 : decode cX11_medians 85 = .ok (.goto 15, 3) := by decide +kernel
theorem dX11_medians_88 : decode cX11_medians 88 = .ok (.iload_n 1, 1) := by decide +kernel
theorem dX11_medians_89 : decode cX11_medians 89 = .ok (.iconst 2, 1) := by decide +kernel
theorem dX11_medians_90 : decode cX11_medians 90 = .ok (.if_icmp .ne 8, 3) := by decide +kernel
theorem dX11_medians_93 : decode cX11_medians 93 = .ok (.iload 4, 2) := by decide +kernel
theorem dX11_medians_95 : decode cX11_medians 95 = .ok (.goto 5, 3) := by decide +kernel
theorem dX11_medians_98 : decode cX11_medians 98 = .ok (.iload 5, 2) := by decide +kernel
theorem dX11_medians_100 : decode cX11_medians 100 = .ok (.ireturn, 1) := by decide +kernel
theorem dX11_medians_101 : decode cX11_medians 101 = .ok (.iinc 5 1, 3) := by decide +kernel
theorem dX11_medians_104 : decode cX11_medians 104 = .ok (.goto (-55), 3) := by decide +kernel
theorem dX11_medians_107 : decode cX11_medians 107 = .ok (.iinc 4 1, 3) := by decide +kernel
theorem dX11_medians_110 : decode cX11_medians 110 = .ok (.goto (-73), 3) := by decide +kernel
theorem dX11_medians_113 : decode cX11_medians 113 = .ok (.iinc 3 1, 3) := by decide +kernel
theorem dX11_medians_116 : decode cX11_medians 116 = .ok (.goto (-89), 3) := by decide +kernel
theorem dX11_medians_119 : decode cX11_medians 119 = .ok (.iload_n 1, 1) := by decide +kernel
theorem dX11_medians_120 : decode cX11_medians 120 = .ok (.ifCond .ne 7, 3) := by decide +kernel
theorem dX11_medians_123 : decode cX11_medians 123 = .ok (.iconst 1, 1) := by decide +kernel
theorem dX11_medians_124 : decode cX11_medians 124 = .ok (.goto 4, 3) := by decide +kernel
theorem dX11_medians_127 : decode cX11_medians 127 = .ok (.iconst (-1), 1) := by decide +kernel
theorem dX11_medians_128 : decode cX11_medians 128 = .ok (.ireturn, 1) := by decide +kernel
theorem dX11_vote_0 : decode cX11_vote 0 = .ok (.aload_n 0, 1) := by decide +kernel
theorem dX11_vote_1 : decode cX11_vote 1 = .ok (.getfield 96, 3) := by decide +kernel
theorem dX11_vote_4 : decode cX11_vote 4 = .ok (.istore_n 1, 1) := by decide +kernel
theorem dX11_vote_5 : decode cX11_vote 5 = .ok (.aload_n 0, 1) := by decide +kernel
theorem dX11_vote_6 : decode cX11_vote 6 = .ok (.iconst 0, 1) := by decide +kernel
theorem dX11_vote_7 : decode cX11_vote 7 = .ok (.putfield 96, 3) := by decide +kernel
theorem dX11_vote_10 : decode cX11_vote 10 = .ok (.iload_n 1, 1) := by decide +kernel
theorem dX11_vote_11 : decode cX11_vote 11 = .ok (.i2l, 1) := by decide +kernel
theorem dX11_vote_12 : decode cX11_vote 12 = .ok (.lconst 1, 1) := by decide +kernel
theorem dX11_vote_13 : decode cX11_vote 13 = .ok (.ldc2_w 339, 3) := by decide +kernel
theorem dX11_vote_16 : decode cX11_vote 16 = .ok (.invokestatic 109, 3) := by decide +kernel
theorem dX11_vote_19 : decode cX11_vote 19 = .ok (.istore_n 2, 1) := by decide +kernel
theorem dX11_vote_20 : decode cX11_vote 20 = .ok (.iconst 0, 1) := by decide +kernel
theorem dX11_vote_21 : decode cX11_vote 21 = .ok (.istore_n 3, 1) := by decide +kernel
theorem dX11_vote_22 : decode cX11_vote 22 = .ok (.iload_n 3, 1) := by decide +kernel
theorem dX11_vote_23 : decode cX11_vote 23 = .ok (.iload_n 1, 1) := by decide +kernel
theorem dX11_vote_24 : decode cX11_vote 24 = .ok (.if_icmp .ge 24, 3) := by decide +kernel
theorem dX11_vote_27 : decode cX11_vote 27 = .ok (.iload_n 2, 1) := by decide +kernel
theorem dX11_vote_28 : decode cX11_vote 28 = .ok (.ifCond .eq 20, 3) := by decide +kernel
theorem dX11_vote_31 : decode cX11_vote 31 = .ok (.aload_n 0, 1) := by decide +kernel
theorem dX11_vote_32 : decode cX11_vote 32 = .ok (.aload_n 0, 1) := by decide +kernel
theorem dX11_vote_33 : decode cX11_vote 33 = .ok (.getfield 7, 3) := by decide +kernel
theorem dX11_vote_36 : decode cX11_vote 36 = .ok (.iload_n 3, 1) := by decide +kernel
theorem dX11_vote_37 : decode cX11_vote 37 = .ok (.iaload, 1) := by decide +kernel
theorem dX11_vote_38 : decode cX11_vote 38 = .ok (.invokevirtual 257, 3) := by decide +kernel
theorem dX11_vote_41 : decode cX11_vote 41 = .ok (.istore_n 2, 1) := by decide +kernel
theorem dX11_vote_42 : decode cX11_vote 42 = .ok (.iinc 3 1, 3) := by decide +kernel
theorem dX11_vote_45 : decode cX11_vote 45 = .ok (.goto (-23), 3) := by decide +kernel
theorem dX11_vote_48 : decode cX11_vote 48 = .ok (.iload_n 2, 1) := by decide +kernel
theorem dX11_vote_49 : decode cX11_vote 49 = .ok (.ifCond .ne 9, 3) := by decide +kernel
theorem dX11_vote_52 : decode cX11_vote 52 = .ok (.aload_n 0, 1) := by decide +kernel
theorem dX11_vote_53 : decode cX11_vote 53 = .ok (.iconst 1, 1) := by decide +kernel
theorem dX11_vote_54 : decode cX11_vote 54 = .ok (.invokevirtual 99, 3) := by decide +kernel
theorem dX11_vote_57 : decode cX11_vote 57 = .ok (.ireturn, 1) := by decide +kernel
theorem dX11_vote_58 : decode cX11_vote 58 = .ok (.iconst 0, 1) := by decide +kernel
theorem dX11_vote_59 : decode cX11_vote 59 = .ok (.istore_n 3, 1) := by decide +kernel
theorem dX11_vote_60 : decode cX11_vote 60 = .ok (.iload_n 3, 1) := by decide +kernel
theorem dX11_vote_61 : decode cX11_vote 61 = .ok (.iload_n 1, 1) := by decide +kernel
theorem dX11_vote_62 : decode cX11_vote 62 = .ok (.if_icmp .ge 21, 3) := by decide +kernel
theorem dX11_vote_65 : decode cX11_vote 65 = .ok (.aload_n 0, 1) := by decide +kernel
theorem dX11_vote_66 : decode cX11_vote 66 = .ok (.getfield 68, 3) := by decide +kernel
theorem dX11_vote_69 : decode cX11_vote 69 = .ok (.iload_n 3, 1) := by decide +kernel
theorem dX11_vote_70 : decode cX11_vote 70 = .ok (.aload_n 0, 1) := by decide +kernel
theorem dX11_vote_71 : decode cX11_vote 71 = .ok (.getfield 7, 3) := by decide +kernel
theorem dX11_vote_74 : decode cX11_vote 74 = .ok (.iload_n 3, 1) := by decide +kernel
theorem dX11_vote_75 : decode cX11_vote 75 = .ok (.iaload, 1) := by decide +kernel
theorem dX11_vote_76 : decode cX11_vote 76 = .ok (.iastore, 1) := by decide +kernel
theorem dX11_vote_77 : decode cX11_vote 77 = .ok (.iinc 3 1, 3) := by decide +kernel
theorem dX11_vote_80 : decode cX11_vote 80 = .ok (.goto (-20), 3) := by decide +kernel
theorem dX11_vote_83 : decode cX11_vote 83 = .ok (.aload_n 0, 1) := by decide +kernel
theorem dX11_vote_84 : decode cX11_vote 84 = .ok (.iload_n 1, 1) := by decide +kernel
theorem dX11_vote_85 : decode cX11_vote 85 = .ok (.putfield 202, 3) := by decide +kernel
theorem dX11_vote_88 : decode cX11_vote 88 = .ok (.iload_n 1, 1) := by decide +kernel
theorem dX11_vote_89 : decode cX11_vote 89 = .ok (.ireturn, 1) := by decide +kernel
theorem dX11_canVote_0 : decode cX11_canVote 0 = .ok (.iconst 0, 1) := by decide +kernel
theorem dX11_canVote_1 : decode cX11_canVote 1 = .ok (.istore_n 1, 1) := by decide +kernel
theorem dX11_canVote_2 : decode cX11_canVote 2 = .ok (.iload_n 1, 1) := by decide +kernel
theorem dX11_canVote_3 : decode cX11_canVote 3 = .ok (.aload_n 0, 1) := by decide +kernel
theorem dX11_canVote_4 : decode cX11_canVote 4 = .ok (.getfield 202, 3) := by decide +kernel
theorem dX11_canVote_7 : decode cX11_canVote 7 = .ok (.if_icmp .ge 24, 3) := by decide +kernel
theorem dX11_canVote_10 : decode cX11_canVote 10 = .ok (.aload_n 0, 1) := by decide +kernel
theorem dX11_canVote_11 : decode cX11_canVote 11 = .ok (.aload_n 0, 1) := by decide +kernel
theorem dX11_canVote_12 : decode cX11_canVote 12 = .ok (.getfield 68, 3) := by decide +kernel
theorem dX11_canVote_15 : decode cX11_canVote 15 = .ok (.iload_n 1, 1) := by decide +kernel
theorem dX11_canVote_16 : decode cX11_canVote 16 = .ok (.iaload, 1) := by decide +kernel
theorem dX11_canVote_17 : decode cX11_canVote 17 = .ok (.invokevirtual 257, 3) := by decide +kernel
theorem dX11_canVote_20 : decode cX11_canVote 20 = .ok (.ifCond .ne 5, 3) := by decide +kernel
theorem dX11_canVote_23 : decode cX11_canVote 23 = .ok (.iconst 0, 1) := by decide +kernel
theorem dX11_canVote_24 : decode cX11_canVote 24 = .ok (.ireturn, 1) := by decide +kernel
theorem dX11_canVote_25 : decode cX11_canVote 25 = .ok (.iinc 1 1, 3) := by decide +kernel
theorem dX11_canVote_28 : decode cX11_canVote 28 = .ok (.goto (-26), 3) := by decide +kernel
theorem dX11_canVote_31 : decode cX11_canVote 31 = .ok (.aload_n 0, 1) := by decide +kernel
theorem dX11_canVote_32 : decode cX11_canVote 32 = .ok (.getfield 202, 3) := by decide +kernel
theorem dX11_canVote_35 : decode cX11_canVote 35 = .ok (.ifCond .le 14, 3) := by decide +kernel
theorem dX11_canVote_38 : decode cX11_canVote 38 = .ok (.aload_n 0, 1) := by decide +kernel
theorem dX11_canVote_39 : decode cX11_canVote 39 = .ok (.invokevirtual 341, 3) := by decide +kernel
theorem dX11_canVote_42 : decode cX11_canVote 42 = .ok (.ifCond .eq 7, 3) := by decide +kernel
theorem dX11_canVote_45 : decode cX11_canVote 45 = .ok (.iconst 1, 1) := by decide +kernel
theorem dX11_canVote_46 : decode cX11_canVote 46 = .ok (.goto 4, 3) := by decide +kernel
theorem dX11_canVote_49 : decode cX11_canVote 49 = .ok (.iconst 0, 1) := by decide +kernel
theorem dX11_canVote_50 : decode cX11_canVote 50 = .ok (.ireturn, 1) := by decide +kernel
theorem dX11_farFromVotes_0 : decode cX11_farFromVotes 0 = .ok (.iconst 0, 1) := by decide +kernel
theorem dX11_farFromVotes_1 : decode cX11_farFromVotes 1 = .ok (.istore_n 2, 1) := by decide +kernel
theorem dX11_farFromVotes_2 : decode cX11_farFromVotes 2 = .ok (.iconst 0, 1) := by decide +kernel
theorem dX11_farFromVotes_3 : decode cX11_farFromVotes 3 = .ok (.istore_n 3, 1) := by decide +kernel
theorem dX11_farFromVotes_4 : decode cX11_farFromVotes 4 = .ok (.iload_n 3, 1) := by decide +kernel
theorem dX11_farFromVotes_5 : decode cX11_farFromVotes 5 = .ok (.aload_n 0, 1) := by decide +kernel
theorem dX11_farFromVotes_6 : decode cX11_farFromVotes 6 = .ok (.getfield 202, 3) := by decide +kernel
theorem dX11_farFromVotes_9 : decode cX11_farFromVotes 9 = .ok (.if_icmp .ge 23, 3) := by decide +kernel
theorem dX11_farFromVotes_12 : decode cX11_farFromVotes 12 = .ok (.iload_n 2, 1) := by decide +kernel
theorem dX11_farFromVotes_13 : decode cX11_farFromVotes 13 = .ok (.aload_n 0, 1) := by decide +kernel
theorem dX11_farFromVotes_14 : decode cX11_farFromVotes 14 = .ok (.iload_n 1, 1) := by decide +kernel
theorem dX11_farFromVotes_15 : decode cX11_farFromVotes 15 = .ok (.aload_n 0, 1) := by decide +kernel
theorem dX11_farFromVotes_16 : decode cX11_farFromVotes 16 = .ok (.getfield 68, 3) := by decide +kernel
theorem dX11_farFromVotes_19 : decode cX11_farFromVotes 19 = .ok (.iload_n 3, 1) := by decide +kernel
theorem dX11_farFromVotes_20 : decode cX11_farFromVotes 20 = .ok (.iaload, 1) := by decide +kernel
theorem dX11_farFromVotes_21 : decode cX11_farFromVotes 21 = .ok (.invokevirtual 214, 3) := by decide +kernel
theorem dX11_farFromVotes_24 : decode cX11_farFromVotes 24 = .ok (.iadd, 1) := by decide +kernel
theorem dX11_farFromVotes_25 : decode cX11_farFromVotes 25 = .ok (.istore_n 2, 1) := by decide +kernel
theorem dX11_farFromVotes_26 : decode cX11_farFromVotes 26 = .ok (.iinc 3 1, 3) := by decide +kernel
theorem dX11_farFromVotes_29 : decode cX11_farFromVotes 29 = .ok (.goto (-25), 3) := by decide +kernel
theorem dX11_farFromVotes_32 : decode cX11_farFromVotes 32 = .ok (.iload_n 2, 1) := by decide +kernel
theorem dX11_farFromVotes_33 : decode cX11_farFromVotes 33 = .ok (.ireturn, 1) := by decide +kernel
theorem dX11_majority_0 : decode cX11_majority 0 = .ok (.iconst 0, 1) := by decide +kernel
theorem dX11_majority_1 : decode cX11_majority 1 = .ok (.istore_n 1, 1) := by decide +kernel
theorem dX11_majority_2 : decode cX11_majority 2 = .ok (.iconst 0, 1) := by decide +kernel
theorem dX11_majority_3 : decode cX11_majority 3 = .ok (.istore_n 2, 1) := by decide +kernel
theorem dX11_majority_4 : decode cX11_majority 4 = .ok (.iload_n 2, 1) := by decide +kernel
theorem dX11_majority_5 : decode cX11_majority 5 = .ok (.aload_n 0, 1) := by decide +kernel
theorem dX11_majority_6 : decode cX11_majority 6 = .ok (.getfield 222, 3) := by decide +kernel
theorem dX11_majority_9 : decode cX11_majority 9 = .ok (.if_icmp .ge 64, 3) := by decide +kernel
theorem dX11_majority_12 : decode cX11_majority 12 = .ok (.iconst 0, 1) := by decide +kernel
theorem dX11_majority_13 : decode cX11_majority 13 = .ok (.istore_n 3, 1) := by decide +kernel
theorem dX11_majority_14 : decode cX11_majority 14 = .ok (.iconst 0, 1) := by decide +kernel
theorem dX11_majority_15 : decode cX11_majority 15 = .ok (.istore 4, 2) := by decide +kernel
theorem dX11_majority_17 : decode cX11_majority 17 = .ok (.iload 4, 2) := by decide +kernel
theorem dX11_majority_19 : decode cX11_majority 19 = .ok (.aload_n 0, 1) := by decide +kernel
theorem dX11_majority_20 : decode cX11_majority 20 = .ok (.getfield 202, 3) := by decide +kernel
theorem dX11_majority_23 : decode cX11_majority 23 = .ok (.if_icmp .ge 28, 3) := by decide +kernel
theorem dX11_majority_26 : decode cX11_majority 26 = .ok (.iload_n 3, 1) := by decide +kernel
theorem dX11_majority_27 : decode cX11_majority 27 = .ok (.aload_n 0, 1) := by decide +kernel
theorem dX11_majority_28 : decode cX11_majority 28 = .ok (.getfield 41, 3) := by decide +kernel
theorem dX11_majority_31 : decode cX11_majority 31 = .ok (.aload_n 0, 1) := by decide +kernel
theorem dX11_majority_32 : decode cX11_majority 32 = .ok (.getfield 68, 3) := by decide +kernel
theorem dX11_majority_35 : decode cX11_majority 35 = .ok (.iload 4, 2) := by decide +kernel
theorem dX11_majority_37 : decode cX11_majority 37 = .ok (.iaload, 1) := by decide +kernel
theorem dX11_majority_38 : decode cX11_majority 38 = .ok (.iaload, 1) := by decide +kernel
theorem dX11_majority_39 : decode cX11_majority 39 = .ok (.iload_n 2, 1) := by decide +kernel
theorem dX11_majority_40 : decode cX11_majority 40 = .ok (.ishr, 1) := by decide +kernel
theorem dX11_majority_41 : decode cX11_majority 41 = .ok (.iconst 1, 1) := by decide +kernel
theorem dX11_majority_42 : decode cX11_majority 42 = .ok (.iand, 1) := by decide +kernel
theorem dX11_majority_43 : decode cX11_majority 43 = .ok (.iadd, 1) := by decide +kernel
theorem dX11_majority_44 : decode cX11_majority 44 = .ok (.istore_n 3, 1) := by decide +kernel
theorem dX11_majority_45 : decode cX11_majority 45 = .ok (.iinc 4 1, 3) := by decide +kernel
theorem dX11_majority_48 : decode cX11_majority 48 = .ok (.goto (-31), 3) := by decide +kernel
theorem dX11_majority_51 : decode cX11_majority 51 = .ok (.iconst 2, 1) := by decide +kernel
theorem dX11_majority_52 : decode cX11_majority 52 = .ok (.iload_n 3, 1) := by decide +kernel
theorem dX11_majority_53 : decode cX11_majority 53 = .ok (.imul, 1) := by decide +kernel
theorem dX11_majority_54 : decode cX11_majority 54 = .ok (.aload_n 0, 1) := by decide +kernel
theorem dX11_majority_55 : decode cX11_majority 55 = .ok (.getfield 202, 3) := by decide +kernel
theorem dX11_majority_58 : decode cX11_majority 58 = .ok (.if_icmp .le 9, 3) := by decide +kernel
theorem dX11_majority_61 : decode cX11_majority 61 = .ok (.iload_n 1, 1) := by decide +kernel
theorem dX11_majority_62 : decode cX11_majority 62 = .ok (.iconst 1, 1) := by decide +kernel
theorem dX11_majority_63 : decode cX11_majority 63 = .ok (.iload_n 2, 1) := by decide +kernel
theorem dX11_majority_64 : decode cX11_majority 64 = .ok (.ishl, 1) := by decide +kernel
theorem dX11_majority_65 : decode cX11_majority 65 = .ok (.ior, 1) := by decide +kernel
theorem dX11_majority_66 : decode cX11_majority 66 = .ok (.istore_n 1, 1) := by decide +kernel
theorem dX11_majority_67 : decode cX11_majority 67 = .ok (.iinc 2 1, 3) := by decide +kernel
theorem dX11_majority_70 : decode cX11_majority 70 = .ok (.goto (-66), 3) := by decide +kernel
theorem dX11_majority_73 : decode cX11_majority 73 = .ok (.aload_n 0, 1) := by decide +kernel
theorem dX11_majority_74 : decode cX11_majority 74 = .ok (.iload_n 1, 1) := by decide +kernel
theorem dX11_majority_75 : decode cX11_majority 75 = .ok (.invokevirtual 308, 3) := by decide +kernel
theorem dX11_majority_78 : decode cX11_majority 78 = .ok (.ireturn, 1) := by decide +kernel
theorem dX11_winner_0 : decode cX11_winner 0 = .ok (.iload_n 1, 1) := by decide +kernel
theorem dX11_winner_1 : decode cX11_winner 1 = .ok (.i2l, 1) := by decide +kernel
theorem dX11_winner_2 : decode cX11_winner 2 = .ok (.lconst 0, 1) := by decide +kernel
theorem dX11_winner_3 : decode cX11_winner 3 = .ok (.ldc2_w 344, 3) := by decide +kernel
theorem dX11_winner_6 : decode cX11_winner 6 = .ok (.invokestatic 109, 3) := by decide +kernel
theorem dX11_winner_9 : decode cX11_winner 9 = .ok (.ifCond .eq 10, 3) := by decide +kernel
theorem dX11_winner_12 : decode cX11_winner 12 = .ok (.aload_n 0, 1) := by decide +kernel
theorem dX11_winner_13 : decode cX11_winner 13 = .ok (.invokevirtual 346, 3) := by decide +kernel
theorem dX11_winner_16 : decode cX11_winner 16 = .ok (.ifCond .ne 5, 3) := by decide +kernel
theorem dX11_winner_19 : decode cX11_winner 19 = .ok (.iconst (-1), 1) := by decide +kernel
theorem dX11_winner_20 : decode cX11_winner 20 = .ok (.ireturn, 1) := by decide +kernel
theorem dX11_winner_21 : decode cX11_winner 21 = .ok (.iload_n 1, 1) := by decide +kernel
theorem dX11_winner_22 : decode cX11_winner 22 = .ok (.iconst 2, 1) := by decide +kernel
theorem dX11_winner_23 : decode cX11_winner 23 = .ok (.if_icmp .ne 19, 3) := by decide +kernel
theorem dX11_winner_26 : decode cX11_winner 26 = .ok (.aload_n 0, 1) := by decide +kernel
theorem dX11_winner_27 : decode cX11_winner 27 = .ok (.invokevirtual 305, 3) := by decide +kernel
theorem dX11_winner_30 : decode cX11_winner 30 = .ok (.ifCond .eq 10, 3) := by decide +kernel
theorem dX11_winner_33 : decode cX11_winner 33 = .ok (.aload_n 0, 1) := by decide +kernel
theorem dX11_winner_34 : decode cX11_winner 34 = .ok (.invokevirtual 349, 3) := by decide +kernel
theorem dX11_winner_37 : decode cX11_winner 37 = .ok (.goto 4, 3) := by decide +kernel
theorem dX11_winner_40 : decode cX11_winner 40 = .ok (.iconst (-1), 1) := by decide +kernel
theorem dX11_winner_41 : decode cX11_winner 41 = .ok (.ireturn, 1) := by decide +kernel
theorem dX11_winner_42 : decode cX11_winner 42 = .ok (.iconst 0, 1) := by decide +kernel
theorem dX11_winner_43 : decode cX11_winner 43 = .ok (.istore_n 2, 1) := by decide +kernel
theorem dX11_winner_44 : decode cX11_winner 44 = .ok (.iconst 1, 1) := by decide +kernel
theorem dX11_winner_45 : decode cX11_winner 45 = .ok (.istore_n 3, 1) := by decide +kernel
theorem dX11_winner_46 : decode cX11_winner 46 = .ok (.iload_n 3, 1) := by decide +kernel
theorem dX11_winner_47 : decode cX11_winner 47 = .ok (.aload_n 0, 1) := by decide +kernel
theorem dX11_winner_48 : decode cX11_winner 48 = .ok (.getfield 23, 3) := by decide +kernel
theorem dX11_winner_51 : decode cX11_winner 51 = .ok (.iconst 0, 1) := by decide +kernel
theorem dX11_winner_52 : decode cX11_winner 52 = .ok (.iaload, 1) := by decide +kernel
theorem dX11_winner_53 : decode cX11_winner 53 = .ok (.if_icmp .ge 24, 3) := by decide +kernel
theorem dX11_winner_56 : decode cX11_winner 56 = .ok (.aload_n 0, 1) := by decide +kernel
theorem dX11_winner_57 : decode cX11_winner 57 = .ok (.iload_n 3, 1) := by decide +kernel
theorem dX11_winner_58 : decode cX11_winner 58 = .ok (.invokevirtual 352, 3) := by decide +kernel
theorem dX11_winner_61 : decode cX11_winner 61 = .ok (.aload_n 0, 1) := by decide +kernel
theorem dX11_winner_62 : decode cX11_winner 62 = .ok (.iload_n 2, 1) := by decide +kernel
theorem dX11_winner_63 : decode cX11_winner 63 = .ok (.invokevirtual 352, 3) := by decide +kernel
theorem dX11_winner_66 : decode cX11_winner 66 = .ok (.if_icmp .ge 5, 3) := by decide +kernel
theorem dX11_winner_69 : decode cX11_winner 69 = .ok (.iload_n 3, 1) := by decide +kernel
theorem dX11_winner_70 : decode cX11_winner 70 = .ok (.istore_n 2, 1) := by decide +kernel
theorem dX11_winner_71 : decode cX11_winner 71 = .ok (.iinc 3 1, 3) := by decide +kernel
theorem dX11_winner_74 : decode cX11_winner 74 = .ok (.goto (-28), 3) := by decide +kernel
theorem dX11_winner_77 : decode cX11_winner 77 = .ok (.iload_n 1, 1) := by decide +kernel
theorem dX11_winner_78 : decode cX11_winner 78 = .ok (.ifCond .ne 7, 3) := by decide +kernel
theorem dX11_winner_81 : decode cX11_winner 81 = .ok (.iload_n 2, 1) := by decide +kernel
theorem dX11_winner_82 : decode cX11_winner 82 = .ok (.goto 8, 3) := by decide +kernel
theorem dX11_winner_85 : decode cX11_winner 85 = .ok (.aload_n 0, 1) := by decide +kernel
theorem dX11_winner_86 : decode cX11_winner 86 = .ok (.iload_n 2, 1) := by decide +kernel
theorem dX11_winner_87 : decode cX11_winner 87 = .ok (.invokevirtual 352, 3) := by decide +kernel
theorem dX11_winner_90 : decode cX11_winner 90 = .ok (.ireturn, 1) := by decide +kernel
theorem dX11_isSet_0 : decode cX11_isSet 0 = .ok (.iload_n 1, 1) := by decide +kernel
theorem dX11_isSet_1 : decode cX11_isSet 1 = .ok (.ifCond .lt 25, 3) := by decide +kernel
theorem dX11_isSet_4 : decode cX11_isSet 4 = .ok (.iload_n 1, 1) := by decide +kernel
theorem dX11_isSet_5 : decode cX11_isSet 5 = .ok (.aload_n 0, 1) := by decide +kernel
theorem dX11_isSet_6 : decode cX11_isSet 6 = .ok (.invokevirtual 317, 3) := by decide +kernel
theorem dX11_isSet_9 : decode cX11_isSet 9 = .ok (.iconst (-1), 1) := by decide +kernel
theorem dX11_isSet_10 : decode cX11_isSet 10 = .ok (.ixor, 1) := by decide +kernel
theorem dX11_isSet_11 : decode cX11_isSet 11 = .ok (.iand, 1) := by decide +kernel
theorem dX11_isSet_12 : decode cX11_isSet 12 = .ok (.ifCond .ne 14, 3) := by decide +kernel
theorem dX11_isSet_15 : decode cX11_isSet 15 = .ok (.aload_n 0, 1) := by decide +kernel
theorem dX11_isSet_16 : decode cX11_isSet 16 = .ok (.invokevirtual 341, 3) := by decide +kernel
theorem dX11_isSet_19 : decode cX11_isSet 19 = .ok (.ifCond .eq 7, 3) := by decide +kernel
theorem dX11_isSet_22 : decode cX11_isSet 22 = .ok (.iconst 1, 1) := by decide +kernel
theorem dX11_isSet_23 : decode cX11_isSet 23 = .ok (.goto 4, 3) := by decide +kernel
theorem dX11_isSet_26 : decode cX11_isSet 26 = .ok (.iconst 0, 1) := by decide +kernel
theorem dX11_isSet_27 : decode cX11_isSet 27 = .ok (.ireturn, 1) := by decide +kernel
theorem dX11_isTrue_0 : decode cX11_isTrue 0 = .ok (.aload_n 0, 1) := by decide +kernel
theorem dX11_isTrue_1 : decode cX11_isTrue 1 = .ok (.getfield 23, 3) := by decide +kernel
theorem dX11_isTrue_4 : decode cX11_isTrue 4 = .ok (.iconst 0, 1) := by decide +kernel
theorem dX11_isTrue_5 : decode cX11_isTrue 5 = .ok (.iaload, 1) := by decide +kernel
theorem dX11_isTrue_6 : decode cX11_isTrue 6 = .ok (.istore_n 2, 1) := by decide +kernel
theorem dX11_isTrue_7 : decode cX11_isTrue 7 = .ok (.iconst 0, 1) := by decide +kernel
theorem dX11_isTrue_8 : decode cX11_isTrue 8 = .ok (.istore_n 3, 1) := by decide +kernel
theorem dX11_isTrue_9 : decode cX11_isTrue 9 = .ok (.iload_n 3, 1) := by decide +kernel
theorem dX11_isTrue_10 : decode cX11_isTrue 10 = .ok (.iload_n 2, 1) := by decide +kernel
theorem dX11_isTrue_11 : decode cX11_isTrue 11 = .ok (.if_icmp .ge 80, 3) := by decide +kernel
theorem dX11_isTrue_14 : decode cX11_isTrue 14 = .ok (.iconst 0, 1) := by decide +kernel
theorem dX11_isTrue_15 : decode cX11_isTrue 15 = .ok (.istore 4, 2) := by decide +kernel
theorem dX11_isTrue_17 : decode cX11_isTrue 17 = .ok (.iload 4, 2) := by decide +kernel
theorem dX11_isTrue_19 : decode cX11_isTrue 19 = .ok (.iload_n 2, 1) := by decide +kernel
theorem dX11_isTrue_20 : decode cX11_isTrue 20 = .ok (.if_icmp .ge 65, 3) := by decide +kernel
theorem dX11_isTrue_23 : decode cX11_isTrue 23 = .ok (.aload_n 0, 1) := by decide +kernel
theorem dX11_isTrue_24 : decode cX11_isTrue 24 = .ok (.getfield 71, 3) := by decide +kernel
theorem dX11_isTrue_27 : decode cX11_isTrue 27 = .ok (.bipush 24, 2) := by decide +kernel
theorem dX11_isTrue_29 : decode cX11_isTrue 29 = .ok (.iload_n 3, 1) := by decide +kernel
theorem dX11_isTrue_30 : decode cX11_isTrue 30 = .ok (.imul, 1) := by decide +kernel
theorem dX11_isTrue_31 : decode cX11_isTrue 31 = .ok (.iload 4, 2) := by decide +kernel
theorem dX11_isTrue_33 : decode cX11_isTrue 33 = .ok (.iadd, 1) := by decide +kernel
theorem dX11_isTrue_34 : decode cX11_isTrue 34 = .ok (.iload_n 3, 1) := by decide +kernel
theorem dX11_isTrue_35 : decode cX11_isTrue 35 = .ok (.iload 4, 2) := by decide +kernel
theorem dX11_isTrue_37 : decode cX11_isTrue 37 = .ok (.if_icmp .ne 7, 3) := by decide +kernel
theorem dX11_isTrue_40 : decode cX11_isTrue 40 = .ok (.iconst 0, 1) := by decide +kernel
theorem dX11_isTrue_41 : decode cX11_isTrue 41 = .ok (.goto 37, 3) := by decide +kernel
theorem dX11_isTrue_44 : decode cX11_isTrue 44 = .ok (.aload_n 0, 1) := by decide +kernel
theorem dX11_isTrue_45 : decode cX11_isTrue 45 = .ok (.iload_n 3, 1) := by decide +kernel
theorem dX11_isTrue_46 : decode cX11_isTrue 46 = .ok (.iload 4, 2) := by decide +kernel
theorem dX11_isTrue_48 : decode cX11_isTrue 48 = .ok (.invokevirtual 214, 3) := by decide +kernel
theorem dX11_isTrue_51 : decode cX11_isTrue 51 = .ok (.iconst 1, 1) := by decide +kernel
theorem dX11_isTrue_52 : decode cX11_isTrue 52 = .ok (.if_icmp .ne 24, 3) := by decide +kernel
theorem dX11_isTrue_55 : decode cX11_isTrue 55 = .ok (.iload_n 1, 1) := by decide +kernel
theorem dX11_isTrue_56 : decode cX11_isTrue 56 = .ok (.iload_n 3, 1) := by decide +kernel
theorem dX11_isTrue_57 : decode cX11_isTrue 57 = .ok (.invokestatic 281, 3) := by decide +kernel
theorem dX11_isTrue_60 : decode cX11_isTrue 60 = .ok (.ifCond .eq 16, 3) := by decide +kernel
theorem dX11_isTrue_63 : decode cX11_isTrue 63 = .ok (.iload_n 1, 1) := by decide +kernel
theorem dX11_isTrue_64 : decode cX11_isTrue 64 = .ok (.iload 4, 2) := by decide +kernel
theorem dX11_isTrue_66 : decode cX11_isTrue 66 = .ok (.invokestatic 281, 3) := by decide +kernel
theorem dX11_isTrue_69 : decode cX11_isTrue 69 = .ok (.ifCond .eq 7, 3) := by decide +kernel
theorem dX11_isTrue_72 : decode cX11_isTrue 72 = .ok (.iconst 1, 1) := by decide +kernel
theorem dX11_isTrue_73 : decode cX11_isTrue 73 = .ok (.goto 5, 3) := by decide +kernel
theorem dX11_isTrue_76 : decode cX11_isTrue 76 = .ok (.bipush 99, 2) := by decide +kernel
theorem dX11_isTrue_78 : decode cX11_isTrue 78 = .ok (.iastore, 1) := by decide +kernel
theorem dX11_isTrue_79 : decode cX11_isTrue 79 = .ok (.iinc 4 1, 3) := by decide +kernel
theorem dX11_isTrue_82 : decode cX11_isTrue 82 = .ok (.goto (-65), 3) := by decide +kernel
theorem dX11_isTrue_85 : decode cX11_isTrue 85 = .ok (.iinc 3 1, 3) := by decide +kernel
theorem dX11_isTrue_88 : decode cX11_isTrue 88 = .ok (.goto (-79), 3) := by decide +kernel
theorem dX11_isTrue_91 : decode cX11_isTrue 91 = .ok (.iconst 0, 1) := by decide +kernel
theorem dX11_isTrue_92 : decode cX11_isTrue 92 = .ok (.istore_n 3, 1) := by decide +kernel
theorem dX11_isTrue_93 : decode cX11_isTrue 93 = .ok (.iload_n 3, 1) := by decide +kernel
theorem dX11_isTrue_94 : decode cX11_isTrue 94 = .ok (.iload_n 2, 1) := by decide +kernel
theorem dX11_isTrue_95 : decode cX11_isTrue 95 = .ok (.if_icmp .ge 99, 3) := by decide +kernel
theorem dX11_isTrue_98 : decode cX11_isTrue 98 = .ok (.iconst 0, 1) := by decide +kernel
theorem dX11_isTrue_99 : decode cX11_isTrue 99 = .ok (.istore 4, 2) := by decide +kernel
theorem dX11_isTrue_101 : decode cX11_isTrue 101 = .ok (.iload 4, 2) := by decide +kernel
theorem dX11_isTrue_103 : decode cX11_isTrue 103 = .ok (.iload_n 2, 1) := by decide +kernel
theorem dX11_isTrue_104 : decode cX11_isTrue 104 = .ok (.if_icmp .ge 84, 3) := by decide +kernel
theorem dX11_isTrue_107 : decode cX11_isTrue 107 = .ok (.iconst 0, 1) := by decide +kernel
theorem dX11_isTrue_108 : decode cX11_isTrue 108 = .ok (.istore 5, 2) := by decide +kernel
theorem dX11_isTrue_110 : decode cX11_isTrue 110 = .ok (.iload 5, 2) := by decide +kernel
theorem dX11_isTrue_112 : decode cX11_isTrue 112 = .ok (.iload_n 2, 1) := by decide +kernel
theorem dX11_isTrue_113 : decode cX11_isTrue 113 = .ok (.if_icmp .ge 69, 3) := by decide +kernel
theorem dX11_isTrue_116 : decode cX11_isTrue 116 = .ok (.aload_n 0, 1) := by decide +kernel
theorem dX11_isTrue_117 : decode cX11_isTrue 117 = .ok (.getfield 71, 3) := by decide +kernel
theorem dX11_isTrue_120 : decode cX11_isTrue 120 = .ok (.bipush 24, 2) := by decide +kernel
theorem dX11_isTrue_122 : decode cX11_isTrue 122 = .ok (.iload 4, 2) := by decide +kernel
theorem dX11_isTrue_124 : decode cX11_isTrue 124 = .ok (.imul, 1) := by decide +kernel
theorem dX11_isTrue_125 : decode cX11_isTrue 125 = .ok (.iload_n 3, 1) := by decide +kernel
theorem dX11_isTrue_126 : decode cX11_isTrue 126 = .ok (.iadd, 1) := by decide +kernel
theorem dX11_isTrue_127 : decode cX11_isTrue 127 = .ok (.iaload, 1) := by decide +kernel
theorem dX11_isTrue_128 : decode cX11_isTrue 128 = .ok (.aload_n 0, 1) := by decide +kernel
theorem dX11_isTrue_129 : decode cX11_isTrue 129 = .ok (.getfield 71, 3) := by decide +kernel
theorem dX11_isTrue_132 : decode cX11_isTrue 132 = .ok (.bipush 24, 2) := by decide +kernel
theorem dX11_isTrue_134 : decode cX11_isTrue 134 = .ok (.iload_n 3, 1) := by decide +kernel
theorem dX11_isTrue_135 : decode cX11_isTrue 135 = .ok (.imul, 1) := by decide +kernel
theorem dX11_isTrue_136 : decode cX11_isTrue 136 = .ok (.iload 5, 2) := by decide +kernel
theorem dX11_isTrue_138 : decode cX11_isTrue 138 = .ok (.iadd, 1) := by decide +kernel
theorem dX11_isTrue_139 : decode cX11_isTrue 139 = .ok (.iaload, 1) := by decide +kernel
theorem dX11_isTrue_140 : decode cX11_isTrue 140 = .ok (.iadd, 1) := by decide +kernel
theorem dX11_isTrue_141 : decode cX11_isTrue 141 = .ok (.istore 6, 2) := by decide +kernel
theorem dX11_isTrue_143 : decode cX11_isTrue 143 = .ok (.iload 6, 2) := by decide +kernel
theorem dX11_isTrue_145 : decode cX11_isTrue 145 = .ok (.aload_n 0, 1) := by decide +kernel
theorem dX11_isTrue_146 : decode cX11_isTrue 146 = .ok (.getfield 71, 3) := by decide +kernel
theorem dX11_isTrue_149 : decode cX11_isTrue 149 = .ok (.bipush 24, 2) := by decide +kernel
theorem dX11_isTrue_151 : decode cX11_isTrue 151 = .ok (.iload 4, 2) := by decide +kernel
theorem dX11_isTrue_153 : decode cX11_isTrue 153 = .ok (.imul, 1) := by decide +kernel
theorem dX11_isTrue_154 : decode cX11_isTrue 154 = .ok (.iload 5, 2) := by decide +kernel
theorem dX11_isTrue_156 : decode cX11_isTrue 156 = .ok (.iadd, 1) := by decide +kernel
theorem dX11_isTrue_157 : decode cX11_isTrue 157 = .ok (.iaload, 1) := by decide +kernel
theorem dX11_isTrue_158 : decode cX11_isTrue 158 = .ok (.if_icmp .ge 18, 3) := by decide +kernel
theorem dX11_isTrue_161 : decode cX11_isTrue 161 = .ok (.aload_n 0, 1) := by decide +kernel
theorem dX11_isTrue_162 : decode cX11_isTrue 162 = .ok (.getfield 71, 3) := by decide +kernel
theorem dX11_isTrue_165 : decode cX11_isTrue 165 = .ok (.bipush 24, 2) := by decide +kernel
theorem dX11_isTrue_167 : decode cX11_isTrue 167 = .ok (.iload 4, 2) := by decide +kernel
theorem dX11_isTrue_169 : decode cX11_isTrue 169 = .ok (.imul, 1) := by decide +kernel
theorem dX11_isTrue_170 : decode cX11_isTrue 170 = .ok (.iload 5, 2) := by decide +kernel
theorem dX11_isTrue_172 : decode cX11_isTrue 172 = .ok (.iadd, 1) := by decide +kernel
theorem dX11_isTrue_173 : decode cX11_isTrue 173 = .ok (.iload 6, 2) := by decide +kernel
theorem dX11_isTrue_175 : decode cX11_isTrue 175 = .ok (.iastore, 1) := by decide +kernel
theorem dX11_isTrue_176 : decode cX11_isTrue 176 = .ok (.iinc 5 1, 3) := by decide +kernel
theorem dX11_isTrue_179 : decode cX11_isTrue 179 = .ok (.goto (-69), 3) := by decide +kernel
theorem dX11_isTrue_182 : decode cX11_isTrue 182 = .ok (.iinc 4 1, 3) := by decide +kernel
theorem dX11_isTrue_185 : decode cX11_isTrue 185 = .ok (.goto (-84), 3) := by decide +kernel
theorem dX11_isTrue_188 : decode cX11_isTrue 188 = .ok (.iinc 3 1, 3) := by decide +kernel
theorem dX11_isTrue_191 : decode cX11_isTrue 191 = .ok (.goto (-98), 3) := by decide +kernel
theorem dX11_isTrue_194 : decode cX11_isTrue 194 = .ok (.iconst 0, 1) := by decide +kernel
theorem dX11_isTrue_195 : decode cX11_isTrue 195 = .ok (.istore_n 3, 1) := by decide +kernel
theorem dX11_isTrue_196 : decode cX11_isTrue 196 = .ok (.iload_n 3, 1) := by decide +kernel
theorem dX11_isTrue_197 : decode cX11_isTrue 197 = .ok (.iload_n 2, 1) := by decide +kernel
theorem dX11_isTrue_198 : decode cX11_isTrue 198 = .ok (.if_icmp .ge 65, 3) := by decide +kernel
theorem dX11_isTrue_201 : decode cX11_isTrue 201 = .ok (.iconst 0, 1) := by decide +kernel
theorem dX11_isTrue_202 : decode cX11_isTrue 202 = .ok (.istore 4, 2) := by decide +kernel
theorem dX11_isTrue_204 : decode cX11_isTrue 204 = .ok (.iload 4, 2) := by decide +kernel
theorem dX11_isTrue_206 : decode cX11_isTrue 206 = .ok (.iload_n 2, 1) := by decide +kernel
theorem dX11_isTrue_207 : decode cX11_isTrue 207 = .ok (.if_icmp .ge 50, 3) := by decide +kernel
theorem dX11_isTrue_210 : decode cX11_isTrue 210 = .ok (.iload_n 1, 1) := by decide +kernel
theorem dX11_isTrue_211 : decode cX11_isTrue 211 = .ok (.iload_n 3, 1) := by decide +kernel
theorem dX11_isTrue_212 : decode cX11_isTrue 212 = .ok (.invokestatic 281, 3) := by decide +kernel
theorem dX11_isTrue_215 : decode cX11_isTrue 215 = .ok (.ifCond .eq 36, 3) := by decide +kernel
theorem dX11_isTrue_218 : decode cX11_isTrue 218 = .ok (.iload_n 1, 1) := by decide +kernel
theorem dX11_isTrue_219 : decode cX11_isTrue 219 = .ok (.iload 4, 2) := by decide +kernel
theorem dX11_isTrue_221 : decode cX11_isTrue 221 = .ok (.invokestatic 281, 3) := by decide +kernel
theorem dX11_isTrue_224 : decode cX11_isTrue 224 = .ok (.ifCond .eq 27, 3) := by decide +kernel
theorem dX11_isTrue_227 : decode cX11_isTrue 227 = .ok (.aload_n 0, 1) := by decide +kernel
theorem dX11_isTrue_228 : decode cX11_isTrue 228 = .ok (.getfield 71, 3) := by decide +kernel
theorem dX11_isTrue_231 : decode cX11_isTrue 231 = .ok (.bipush 24, 2) := by decide +kernel
theorem dX11_isTrue_233 : decode cX11_isTrue 233 = .ok (.iload_n 3, 1) := by decide +kernel
theorem dX11_isTrue_234 : decode cX11_isTrue 234 = .ok (.imul, 1) := by decide +kernel
theorem dX11_isTrue_235 : decode cX11_isTrue 235 = .ok (.iload 4, 2) := by decide +kernel
theorem dX11_isTrue_237 : decode cX11_isTrue 237 = .ok (.iadd, 1) := by decide +kernel
theorem dX11_isTrue_238 : decode cX11_isTrue 238 = .ok (.iaload, 1) := by decide +kernel
theorem dX11_isTrue_239 : decode cX11_isTrue 239 = .ok (.aload_n 0, 1) := by decide +kernel
theorem dX11_isTrue_240 : decode cX11_isTrue 240 = .ok (.iload_n 3, 1) := by decide +kernel
theorem dX11_isTrue_241 : decode cX11_isTrue 241 = .ok (.iload 4, 2) := by decide +kernel
theorem dX11_isTrue_243 : decode cX11_isTrue 243 = .ok (.invokevirtual 214, 3) := by decide +kernel
theorem dX11_isTrue_246 : decode cX11_isTrue 246 = .ok (.if_icmp .eq 5, 3) := by decide +kernel
theorem dX11_isTrue_249 : decode cX11_isTrue 249 = .ok (.iconst 0, 1) := by decide +kernel
theorem dX11_isTrue_250 : decode cX11_isTrue 250 = .ok (.ireturn, 1) := by decide +kernel
theorem dX11_isTrue_251 : decode cX11_isTrue 251 = .ok (.iinc 4 1, 3) := by decide +kernel
theorem dX11_isTrue_254 : decode cX11_isTrue 254 = .ok (.goto (-50), 3) := by decide +kernel
theorem dX11_isTrue_257 : decode cX11_isTrue 257 = .ok (.iinc 3 1, 3) := by decide +kernel
theorem dX11_isTrue_260 : decode cX11_isTrue 260 = .ok (.goto (-64), 3) := by decide +kernel
theorem dX11_isTrue_263 : decode cX11_isTrue 263 = .ok (.iconst 1, 1) := by decide +kernel
theorem dX11_isTrue_264 : decode cX11_isTrue 264 = .ok (.ireturn, 1) := by decide +kernel
theorem dX11_spread__0 : decode cX11_spread_ 0 = .ok (.iload_n 1, 1) := by decide +kernel
theorem dX11_spread__1 : decode cX11_spread_ 1 = .ok (.istore_n 2, 1) := by decide +kernel
theorem dX11_spread__2 : decode cX11_spread_ 2 = .ok (.iconst 0, 1) := by decide +kernel
theorem dX11_spread__3 : decode cX11_spread_ 3 = .ok (.istore_n 3, 1) := by decide +kernel
theorem dX11_spread__4 : decode cX11_spread_ 4 = .ok (.iload_n 3, 1) := by decide +kernel
theorem dX11_spread__5 : decode cX11_spread_ 5 = .ok (.aload_n 0, 1) := by decide +kernel
theorem dX11_spread__6 : decode cX11_spread_ 6 = .ok (.getfield 23, 3) := by decide +kernel
theorem dX11_spread__9 : decode cX11_spread_ 9 = .ok (.iconst 0, 1) := by decide +kernel
theorem dX11_spread__10 : decode cX11_spread_ 10 = .ok (.iaload, 1) := by decide +kernel
theorem dX11_spread__11 : decode cX11_spread_ 11 = .ok (.if_icmp .ge 58, 3) := by decide +kernel
theorem dX11_spread__14 : decode cX11_spread_ 14 = .ok (.iload_n 3, 1) := by decide +kernel
theorem dX11_spread__15 : decode cX11_spread_ 15 = .ok (.iconst 1, 1) := by decide +kernel
theorem dX11_spread__16 : decode cX11_spread_ 16 = .ok (.iadd, 1) := by decide +kernel
theorem dX11_spread__17 : decode cX11_spread_ 17 = .ok (.istore 4, 2) := by decide +kernel
theorem dX11_spread__19 : decode cX11_spread_ 19 = .ok (.iload 4, 2) := by decide +kernel
theorem dX11_spread__21 : decode cX11_spread_ 21 = .ok (.aload_n 0, 1) := by decide +kernel
theorem dX11_spread__22 : decode cX11_spread_ 22 = .ok (.getfield 23, 3) := by decide +kernel
theorem dX11_spread__25 : decode cX11_spread_ 25 = .ok (.iconst 0, 1) := by decide +kernel
theorem dX11_spread__26 : decode cX11_spread_ 26 = .ok (.iaload, 1) := by decide +kernel
theorem dX11_spread__27 : decode cX11_spread_ 27 = .ok (.if_icmp .ge 36, 3) := by decide +kernel
theorem dX11_spread__30 : decode cX11_spread_ 30 = .ok (.iload_n 1, 1) := by decide +kernel
theorem dX11_spread__31 : decode cX11_spread_ 31 = .ok (.iload_n 3, 1) := by decide +kernel
theorem dX11_spread__32 : decode cX11_spread_ 32 = .ok (.invokestatic 281, 3) := by decide +kernel
theorem dX11_spread__35 : decode cX11_spread_ 35 = .ok (.ifCond .eq 22, 3) := by decide +kernel
theorem dX11_spread__38 : decode cX11_spread_ 38 = .ok (.iload_n 1, 1) := by decide +kernel
theorem dX11_spread__39 : decode cX11_spread_ 39 = .ok (.iload 4, 2) := by decide +kernel
theorem dX11_spread__41 : decode cX11_spread_ 41 = .ok (.invokestatic 281, 3) := by decide +kernel
theorem dX11_spread__44 : decode cX11_spread_ 44 = .ok (.ifCond .eq 13, 3) := by decide +kernel
theorem dX11_spread__47 : decode cX11_spread_ 47 = .ok (.iload_n 2, 1) := by decide +kernel
theorem dX11_spread__48 : decode cX11_spread_ 48 = .ok (.aload_n 0, 1) := by decide +kernel
theorem dX11_spread__49 : decode cX11_spread_ 49 = .ok (.iload_n 3, 1) := by decide +kernel
theorem dX11_spread__50 : decode cX11_spread_ 50 = .ok (.iload 4, 2) := by decide +kernel
theorem dX11_spread__52 : decode cX11_spread_ 52 = .ok (.invokevirtual 273, 3) := by decide +kernel
theorem dX11_spread__55 : decode cX11_spread_ 55 = .ok (.ior, 1) := by decide +kernel
theorem dX11_spread__56 : decode cX11_spread_ 56 = .ok (.istore_n 2, 1) := by decide +kernel
theorem dX11_spread__57 : decode cX11_spread_ 57 = .ok (.iinc 4 1, 3) := by decide +kernel
theorem dX11_spread__60 : decode cX11_spread_ 60 = .ok (.goto (-41), 3) := by decide +kernel
theorem dX11_spread__63 : decode cX11_spread_ 63 = .ok (.iinc 3 1, 3) := by decide +kernel
theorem dX11_spread__66 : decode cX11_spread_ 66 = .ok (.goto (-62), 3) := by decide +kernel
theorem dX11_spread__69 : decode cX11_spread_ 69 = .ok (.iload_n 2, 1) := by decide +kernel
theorem dX11_spread__70 : decode cX11_spread_ 70 = .ok (.ireturn, 1) := by decide +kernel
theorem dX11_set_0 : decode cX11_set 0 = .ok (.aload_n 0, 1) := by decide +kernel
theorem dX11_set_1 : decode cX11_set 1 = .ok (.iload_n 1, 1) := by decide +kernel
theorem dX11_set_2 : decode cX11_set 2 = .ok (.invokevirtual 355, 3) := by decide +kernel
theorem dX11_set_5 : decode cX11_set 5 = .ok (.ifCond .eq 13, 3) := by decide +kernel
theorem dX11_set_8 : decode cX11_set 8 = .ok (.iload_n 2, 1) := by decide +kernel
theorem dX11_set_9 : decode cX11_set 9 = .ok (.i2l, 1) := by decide +kernel
theorem dX11_set_10 : decode cX11_set 10 = .ok (.lconst 0, 1) := by decide +kernel
theorem dX11_set_11 : decode cX11_set 11 = .ok (.lconst 1, 1) := by decide +kernel
theorem dX11_set_12 : decode cX11_set 12 = .ok (.invokestatic 109, 3) := by decide +kernel
theorem dX11_set_15 : decode cX11_set 15 = .ok (.ifCond .ne 5, 3) := by decide +kernel
theorem dX11_set_18 : decode cX11_set 18 = .ok (.iconst (-1), 1) := by decide +kernel
theorem dX11_set_19 : decode cX11_set 19 = .ok (.ireturn, 1) := by decide +kernel
theorem dX11_set_20 : decode cX11_set 20 = .ok (.iload_n 2, 1) := by decide +kernel
theorem dX11_set_21 : decode cX11_set 21 = .ok (.ifCond .ne 11, 3) := by decide +kernel
theorem dX11_set_24 : decode cX11_set 24 = .ok (.aload_n 0, 1) := by decide +kernel
theorem dX11_set_25 : decode cX11_set 25 = .ok (.iload_n 1, 1) := by decide +kernel
theorem dX11_set_26 : decode cX11_set 26 = .ok (.invokevirtual 358, 3) := by decide +kernel
theorem dX11_set_29 : decode cX11_set 29 = .ok (.goto 17, 3) := by decide +kernel
theorem dX11_set_32 : decode cX11_set 32 = .ok (.aload_n 0, 1) := by decide +kernel
theorem dX11_set_33 : decode cX11_set 33 = .ok (.iload_n 1, 1) := by decide +kernel
theorem dX11_set_34 : decode cX11_set 34 = .ok (.invokevirtual 361, 3) := by decide +kernel
theorem dX11_set_37 : decode cX11_set 37 = .ok (.iload_n 1, 1) := by decide +kernel
theorem dX11_set_38 : decode cX11_set 38 = .ok (.if_icmp .ne 7, 3) := by decide +kernel
theorem dX11_set_41 : decode cX11_set 41 = .ok (.iconst 1, 1) := by decide +kernel
theorem dX11_set_42 : decode cX11_set 42 = .ok (.goto 4, 3) := by decide +kernel
theorem dX11_set_45 : decode cX11_set 45 = .ok (.iconst 0, 1) := by decide +kernel
theorem dX11_set_46 : decode cX11_set 46 = .ok (.invokestatic 250, 3) := by decide +kernel
theorem dX11_set_49 : decode cX11_set 49 = .ok (.ireturn, 1) := by decide +kernel
theorem dX11_hull_0 : decode cX11_hull 0 = .ok (.aload_n 0, 1) := by decide +kernel
theorem dX11_hull_1 : decode cX11_hull 1 = .ok (.iload_n 1, 1) := by decide +kernel
theorem dX11_hull_2 : decode cX11_hull 2 = .ok (.invokevirtual 355, 3) := by decide +kernel
theorem dX11_hull_5 : decode cX11_hull 5 = .ok (.ifCond .ne 5, 3) := by decide +kernel
theorem dX11_hull_8 : decode cX11_hull 8 = .ok (.iconst (-1), 1) := by decide +kernel
theorem dX11_hull_9 : decode cX11_hull 9 = .ok (.ireturn, 1) := by decide +kernel
theorem dX11_hull_10 : decode cX11_hull 10 = .ok (.iload_n 1, 1) := by decide +kernel
theorem dX11_hull_11 : decode cX11_hull 11 = .ok (.istore_n 2, 1) := by decide +kernel
theorem dX11_hull_12 : decode cX11_hull 12 = .ok (.aload_n 0, 1) := by decide +kernel
theorem dX11_hull_13 : decode cX11_hull 13 = .ok (.iload_n 2, 1) := by decide +kernel
theorem dX11_hull_14 : decode cX11_hull 14 = .ok (.invokevirtual 361, 3) := by decide +kernel
theorem dX11_hull_17 : decode cX11_hull 17 = .ok (.iload_n 2, 1) := by decide +kernel
theorem dX11_hull_18 : decode cX11_hull 18 = .ok (.if_icmp .eq 12, 3) := by decide +kernel
theorem dX11_hull_21 : decode cX11_hull 21 = .ok (.aload_n 0, 1) := by decide +kernel
theorem dX11_hull_22 : decode cX11_hull 22 = .ok (.iload_n 2, 1) := by decide +kernel
theorem dX11_hull_23 : decode cX11_hull 23 = .ok (.invokevirtual 361, 3) := by decide +kernel
theorem dX11_hull_26 : decode cX11_hull 26 = .ok (.istore_n 2, 1) := by decide +kernel
theorem dX11_hull_27 : decode cX11_hull 27 = .ok (.goto (-15), 3) := by decide +kernel
theorem dX11_hull_30 : decode cX11_hull 30 = .ok (.iload_n 2, 1) := by decide +kernel
theorem dX11_hull_31 : decode cX11_hull 31 = .ok (.ireturn, 1) := by decide +kernel
theorem dX11_gate_0 : decode cX11_gate 0 = .ok (.aload_n 0, 1) := by decide +kernel
theorem dX11_gate_1 : decode cX11_gate 1 = .ok (.iload_n 2, 1) := by decide +kernel
theorem dX11_gate_2 : decode cX11_gate 2 = .ok (.invokevirtual 355, 3) := by decide +kernel
theorem dX11_gate_5 : decode cX11_gate 5 = .ok (.ifCond .eq 11, 3) := by decide +kernel
theorem dX11_gate_8 : decode cX11_gate 8 = .ok (.aload_n 0, 1) := by decide +kernel
theorem dX11_gate_9 : decode cX11_gate 9 = .ok (.iload_n 1, 1) := by decide +kernel
theorem dX11_gate_10 : decode cX11_gate 10 = .ok (.invokevirtual 257, 3) := by decide +kernel
theorem dX11_gate_13 : decode cX11_gate 13 = .ok (.ifCond .ne 5, 3) := by decide +kernel
theorem dX11_gate_16 : decode cX11_gate 16 = .ok (.iconst (-1), 1) := by decide +kernel
theorem dX11_gate_17 : decode cX11_gate 17 = .ok (.ireturn, 1) := by decide +kernel
theorem dX11_gate_18 : decode cX11_gate 18 = .ok (.iconst 0, 1) := by decide +kernel
theorem dX11_gate_19 : decode cX11_gate 19 = .ok (.istore_n 3, 1) := by decide +kernel
theorem dX11_gate_20 : decode cX11_gate 20 = .ok (.iload_n 3, 1) := by decide +kernel
theorem dX11_gate_21 : decode cX11_gate 21 = .ok (.aload_n 0, 1) := by decide +kernel
theorem dX11_gate_22 : decode cX11_gate 22 = .ok (.getfield 23, 3) := by decide +kernel
theorem dX11_gate_25 : decode cX11_gate 25 = .ok (.iconst 0, 1) := by decide +kernel
theorem dX11_gate_26 : decode cX11_gate 26 = .ok (.iaload, 1) := by decide +kernel
theorem dX11_gate_27 : decode cX11_gate 27 = .ok (.if_icmp .ge 78, 3) := by decide +kernel
theorem dX11_gate_30 : decode cX11_gate 30 = .ok (.iload_n 2, 1) := by decide +kernel
theorem dX11_gate_31 : decode cX11_gate 31 = .ok (.iload_n 3, 1) := by decide +kernel
theorem dX11_gate_32 : decode cX11_gate 32 = .ok (.invokestatic 281, 3) := by decide +kernel
theorem dX11_gate_35 : decode cX11_gate 35 = .ok (.istore 4, 2) := by decide +kernel
theorem dX11_gate_37 : decode cX11_gate 37 = .ok (.iconst 0, 1) := by decide +kernel
theorem dX11_gate_38 : decode cX11_gate 38 = .ok (.istore 5, 2) := by decide +kernel
theorem dX11_gate_40 : decode cX11_gate 40 = .ok (.iload 5, 2) := by decide +kernel
theorem dX11_gate_42 : decode cX11_gate 42 = .ok (.aload_n 0, 1) := by decide +kernel
theorem dX11_gate_43 : decode cX11_gate 43 = .ok (.getfield 23, 3) := by decide +kernel
theorem dX11_gate_46 : decode cX11_gate 46 = .ok (.iconst 0, 1) := by decide +kernel
theorem dX11_gate_47 : decode cX11_gate 47 = .ok (.iaload, 1) := by decide +kernel
theorem dX11_gate_48 : decode cX11_gate 48 = .ok (.if_icmp .ge 44, 3) := by decide +kernel
theorem dX11_gate_51 : decode cX11_gate 51 = .ok (.iload 4, 2) := by decide +kernel
theorem dX11_gate_53 : decode cX11_gate 53 = .ok (.ifCond .eq 39, 3) := by decide +kernel
theorem dX11_gate_56 : decode cX11_gate 56 = .ok (.iload_n 2, 1) := by decide +kernel
theorem dX11_gate_57 : decode cX11_gate 57 = .ok (.iload 5, 2) := by decide +kernel
theorem dX11_gate_59 : decode cX11_gate 59 = .ok (.invokestatic 281, 3) := by decide +kernel
theorem dX11_gate_62 : decode cX11_gate 62 = .ok (.ifCond .eq 17, 3) := by decide +kernel
theorem dX11_gate_65 : decode cX11_gate 65 = .ok (.aload_n 0, 1) := by decide +kernel
theorem dX11_gate_66 : decode cX11_gate 66 = .ok (.iload_n 1, 1) := by decide +kernel
theorem dX11_gate_67 : decode cX11_gate 67 = .ok (.iload 5, 2) := by decide +kernel
theorem dX11_gate_69 : decode cX11_gate 69 = .ok (.invokevirtual 273, 3) := by decide +kernel
theorem dX11_gate_72 : decode cX11_gate 72 = .ok (.iload_n 3, 1) := by decide +kernel
theorem dX11_gate_73 : decode cX11_gate 73 = .ok (.invokestatic 281, 3) := by decide +kernel
theorem dX11_gate_76 : decode cX11_gate 76 = .ok (.ifCond .eq 7, 3) := by decide +kernel
theorem dX11_gate_79 : decode cX11_gate 79 = .ok (.iconst 1, 1) := by decide +kernel
theorem dX11_gate_80 : decode cX11_gate 80 = .ok (.goto 4, 3) := by decide +kernel
theorem dX11_gate_83 : decode cX11_gate 83 = .ok (.iconst 0, 1) := by decide +kernel
theorem dX11_gate_84 : decode cX11_gate 84 = .ok (.istore 4, 2) := by decide +kernel
theorem dX11_gate_86 : decode cX11_gate 86 = .ok (.iinc 5 1, 3) := by decide +kernel
theorem dX11_gate_89 : decode cX11_gate 89 = .ok (.goto (-49), 3) := by decide +kernel
theorem dX11_gate_92 : decode cX11_gate 92 = .ok (.iload 4, 2) := by decide +kernel
theorem dX11_gate_94 : decode cX11_gate 94 = .ok (.ifCond .eq 5, 3) := by decide +kernel
theorem dX11_gate_97 : decode cX11_gate 97 = .ok (.iload_n 3, 1) := by decide +kernel
theorem dX11_gate_98 : decode cX11_gate 98 = .ok (.ireturn, 1) := by decide +kernel
theorem dX11_gate_99 : decode cX11_gate 99 = .ok (.iinc 3 1, 3) := by decide +kernel
theorem dX11_gate_102 : decode cX11_gate 102 = .ok (.goto (-82), 3) := by decide +kernel
theorem dX11_gate_105 : decode cX11_gate 105 = .ok (.iconst (-1), 1) := by decide +kernel
theorem dX11_gate_106 : decode cX11_gate 106 = .ok (.ireturn, 1) := by decide +kernel
theorem dX11_see_0 : decode cX11_see 0 = .ok (.aload_n 0, 1) := by decide +kernel
theorem dX11_see_1 : decode cX11_see 1 = .ok (.getfield 96, 3) := by decide +kernel
theorem dX11_see_4 : decode cX11_see 4 = .ok (.istore_n 1, 1) := by decide +kernel
theorem dX11_see_5 : decode cX11_see 5 = .ok (.aload_n 0, 1) := by decide +kernel
theorem dX11_see_6 : decode cX11_see 6 = .ok (.iconst 0, 1) := by decide +kernel
theorem dX11_see_7 : decode cX11_see 7 = .ok (.putfield 96, 3) := by decide +kernel
theorem dX11_see_10 : decode cX11_see 10 = .ok (.iload_n 1, 1) := by decide +kernel
theorem dX11_see_11 : decode cX11_see 11 = .ok (.ifCond .le 21, 3) := by decide +kernel
theorem dX11_see_14 : decode cX11_see 14 = .ok (.iload_n 1, 1) := by decide +kernel
theorem dX11_see_15 : decode cX11_see 15 = .ok (.iconst 2, 1) := by decide +kernel
theorem dX11_see_16 : decode cX11_see 16 = .ok (.irem, 1) := by decide +kernel
theorem dX11_see_17 : decode cX11_see 17 = .ok (.ifCond .ne 15, 3) := by decide +kernel
theorem dX11_see_20 : decode cX11_see 20 = .ok (.iload_n 1, 1) := by decide +kernel
theorem dX11_see_21 : decode cX11_see 21 = .ok (.iconst 2, 1) := by decide +kernel
theorem dX11_see_22 : decode cX11_see 22 = .ok (.idiv, 1) := by decide +kernel
theorem dX11_see_23 : decode cX11_see 23 = .ok (.bipush 12, 2) := by decide +kernel
theorem dX11_see_25 : decode cX11_see 25 = .ok (.if_icmp .gt 7, 3) := by decide +kernel
theorem dX11_see_28 : decode cX11_see 28 = .ok (.iconst 1, 1) := by decide +kernel
theorem dX11_see_29 : decode cX11_see 29 = .ok (.goto 4, 3) := by decide +kernel
theorem dX11_see_32 : decode cX11_see 32 = .ok (.iconst 0, 1) := by decide +kernel
theorem dX11_see_33 : decode cX11_see 33 = .ok (.istore_n 2, 1) := by decide +kernel
theorem dX11_see_34 : decode cX11_see 34 = .ok (.iconst 0, 1) := by decide +kernel
theorem dX11_see_35 : decode cX11_see 35 = .ok (.istore_n 3, 1) := by decide +kernel
theorem dX11_see_36 : decode cX11_see 36 = .ok (.iload_n 3, 1) := by decide +kernel
theorem dX11_see_37 : decode cX11_see 37 = .ok (.iload_n 1, 1) := by decide +kernel
theorem dX11_see_38 : decode cX11_see 38 = .ok (.if_icmp .ge 45, 3) := by decide +kernel
theorem dX11_see_41 : decode cX11_see 41 = .ok (.iload_n 2, 1) := by decide +kernel
theorem dX11_see_42 : decode cX11_see 42 = .ok (.ifCond .eq 41, 3) := by decide +kernel
theorem dX11_see_45 : decode cX11_see 45 = .ok (.aload_n 0, 1) := by decide +kernel
theorem dX11_see_46 : decode cX11_see 46 = .ok (.aload_n 0, 1) := by decide +kernel
theorem dX11_see_47 : decode cX11_see 47 = .ok (.getfield 7, 3) := by decide +kernel
theorem dX11_see_50 : decode cX11_see 50 = .ok (.iload_n 3, 1) := by decide +kernel
theorem dX11_see_51 : decode cX11_see 51 = .ok (.iaload, 1) := by decide +kernel
theorem dX11_see_52 : decode cX11_see 52 = .ok (.invokevirtual 257, 3) := by decide +kernel
theorem dX11_see_55 : decode cX11_see 55 = .ok (.ifCond .eq 20, 3) := by decide +kernel
theorem dX11_see_58 : decode cX11_see 58 = .ok (.aload_n 0, 1) := by decide +kernel
theorem dX11_see_59 : decode cX11_see 59 = .ok (.getfield 7, 3) := by decide +kernel
theorem dX11_see_62 : decode cX11_see 62 = .ok (.iload_n 3, 1) := by decide +kernel
theorem dX11_see_63 : decode cX11_see 63 = .ok (.iconst 1, 1) := by decide +kernel
theorem dX11_see_64 : decode cX11_see 64 = .ok (.iadd, 1) := by decide +kernel
theorem dX11_see_65 : decode cX11_see 65 = .ok (.iaload, 1) := by decide +kernel
theorem dX11_see_66 : decode cX11_see 66 = .ok (.bipush 23, 2) := by decide +kernel
theorem dX11_see_68 : decode cX11_see 68 = .ok (.if_icmp .gt 7, 3) := by decide +kernel
theorem dX11_see_71 : decode cX11_see 71 = .ok (.iconst 1, 1) := by decide +kernel
theorem dX11_see_72 : decode cX11_see 72 = .ok (.goto 4, 3) := by decide +kernel
theorem dX11_see_75 : decode cX11_see 75 = .ok (.iconst 0, 1) := by decide +kernel
theorem dX11_see_76 : decode cX11_see 76 = .ok (.istore_n 2, 1) := by decide +kernel
theorem dX11_see_77 : decode cX11_see 77 = .ok (.iinc 3 2, 3) := by decide +kernel
theorem dX11_see_80 : decode cX11_see 80 = .ok (.goto (-44), 3) := by decide +kernel
theorem dX11_see_83 : decode cX11_see 83 = .ok (.iload_n 2, 1) := by decide +kernel
theorem dX11_see_84 : decode cX11_see 84 = .ok (.ifCond .ne 9, 3) := by decide +kernel
theorem dX11_see_87 : decode cX11_see 87 = .ok (.aload_n 0, 1) := by decide +kernel
theorem dX11_see_88 : decode cX11_see 88 = .ok (.iconst 1, 1) := by decide +kernel
theorem dX11_see_89 : decode cX11_see 89 = .ok (.invokevirtual 99, 3) := by decide +kernel
theorem dX11_see_92 : decode cX11_see 92 = .ok (.ireturn, 1) := by decide +kernel
theorem dX11_see_93 : decode cX11_see 93 = .ok (.iconst 0, 1) := by decide +kernel
theorem dX11_see_94 : decode cX11_see 94 = .ok (.istore_n 3, 1) := by decide +kernel
theorem dX11_see_95 : decode cX11_see 95 = .ok (.iload_n 3, 1) := by decide +kernel
theorem dX11_see_96 : decode cX11_see 96 = .ok (.iload_n 1, 1) := by decide +kernel
theorem dX11_see_97 : decode cX11_see 97 = .ok (.if_icmp .ge 21, 3) := by decide +kernel
theorem dX11_see_100 : decode cX11_see 100 = .ok (.aload_n 0, 1) := by decide +kernel
theorem dX11_see_101 : decode cX11_see 101 = .ok (.getfield 74, 3) := by decide +kernel
theorem dX11_see_104 : decode cX11_see 104 = .ok (.iload_n 3, 1) := by decide +kernel
theorem dX11_see_105 : decode cX11_see 105 = .ok (.aload_n 0, 1) := by decide +kernel
theorem dX11_see_106 : decode cX11_see 106 = .ok (.getfield 7, 3) := by decide +kernel
theorem dX11_see_109 : decode cX11_see 109 = .ok (.iload_n 3, 1) := by decide +kernel
theorem dX11_see_110 : decode cX11_see 110 = .ok (.iaload, 1) := by decide +kernel
theorem dX11_see_111 : decode cX11_see 111 = .ok (.iastore, 1) := by decide +kernel
theorem dX11_see_112 : decode cX11_see 112 = .ok (.iinc 3 1, 3) := by decide +kernel
theorem dX11_see_115 : decode cX11_see 115 = .ok (.goto (-20), 3) := by decide +kernel
theorem dX11_see_118 : decode cX11_see 118 = .ok (.aload_n 0, 1) := by decide +kernel
theorem dX11_see_119 : decode cX11_see 119 = .ok (.iload_n 1, 1) := by decide +kernel
theorem dX11_see_120 : decode cX11_see 120 = .ok (.iconst 2, 1) := by decide +kernel
theorem dX11_see_121 : decode cX11_see 121 = .ok (.idiv, 1) := by decide +kernel
theorem dX11_see_122 : decode cX11_see 122 = .ok (.putfield 205, 3) := by decide +kernel
theorem dX11_see_125 : decode cX11_see 125 = .ok (.aload_n 0, 1) := by decide +kernel
theorem dX11_see_126 : decode cX11_see 126 = .ok (.getfield 205, 3) := by decide +kernel
theorem dX11_see_129 : decode cX11_see 129 = .ok (.ireturn, 1) := by decide +kernel
theorem dX11_fitting_0 : decode cX11_fitting 0 = .ok (.iconst 0, 1) := by decide +kernel
theorem dX11_fitting_1 : decode cX11_fitting 1 = .ok (.istore_n 1, 1) := by decide +kernel
theorem dX11_fitting_2 : decode cX11_fitting 2 = .ok (.iconst 0, 1) := by decide +kernel
theorem dX11_fitting_3 : decode cX11_fitting 3 = .ok (.istore_n 2, 1) := by decide +kernel
theorem dX11_fitting_4 : decode cX11_fitting 4 = .ok (.iload_n 2, 1) := by decide +kernel
theorem dX11_fitting_5 : decode cX11_fitting 5 = .ok (.aload_n 0, 1) := by decide +kernel
theorem dX11_fitting_6 : decode cX11_fitting 6 = .ok (.getfield 23, 3) := by decide +kernel
theorem dX11_fitting_9 : decode cX11_fitting 9 = .ok (.iconst 0, 1) := by decide +kernel
theorem dX11_fitting_10 : decode cX11_fitting 10 = .ok (.iaload, 1) := by decide +kernel
theorem dX11_fitting_11 : decode cX11_fitting 11 = .ok (.if_icmp .ge 76, 3) := by decide +kernel
theorem dX11_fitting_14 : decode cX11_fitting 14 = .ok (.iconst 1, 1) := by decide +kernel
theorem dX11_fitting_15 : decode cX11_fitting 15 = .ok (.istore_n 3, 1) := by decide +kernel
theorem dX11_fitting_16 : decode cX11_fitting 16 = .ok (.iconst 0, 1) := by decide +kernel
theorem dX11_fitting_17 : decode cX11_fitting 17 = .ok (.istore 4, 2) := by decide +kernel
theorem dX11_fitting_19 : decode cX11_fitting 19 = .ok (.iload 4, 2) := by decide +kernel
theorem dX11_fitting_21 : decode cX11_fitting 21 = .ok (.aload_n 0, 1) := by decide +kernel
theorem dX11_fitting_22 : decode cX11_fitting 22 = .ok (.getfield 205, 3) := by decide +kernel
theorem dX11_fitting_25 : decode cX11_fitting 25 = .ok (.if_icmp .ge 47, 3) := by decide +kernel
theorem dX11_fitting_28 : decode cX11_fitting 28 = .ok (.iload_n 3, 1) := by decide +kernel
theorem dX11_fitting_29 : decode cX11_fitting 29 = .ok (.ifCond .eq 35, 3) := by decide +kernel
theorem dX11_fitting_32 : decode cX11_fitting 32 = .ok (.aload_n 0, 1) := by decide +kernel
theorem dX11_fitting_33 : decode cX11_fitting 33 = .ok (.aload_n 0, 1) := by decide +kernel
theorem dX11_fitting_34 : decode cX11_fitting 34 = .ok (.getfield 74, 3) := by decide +kernel
theorem dX11_fitting_37 : decode cX11_fitting 37 = .ok (.iconst 2, 1) := by decide +kernel
theorem dX11_fitting_38 : decode cX11_fitting 38 = .ok (.iload 4, 2) := by decide +kernel
theorem dX11_fitting_40 : decode cX11_fitting 40 = .ok (.imul, 1) := by decide +kernel
theorem dX11_fitting_41 : decode cX11_fitting 41 = .ok (.iaload, 1) := by decide +kernel
theorem dX11_fitting_42 : decode cX11_fitting 42 = .ok (.iload_n 2, 1) := by decide +kernel
theorem dX11_fitting_43 : decode cX11_fitting 43 = .ok (.invokevirtual 214, 3) := by decide +kernel
theorem dX11_fitting_46 : decode cX11_fitting 46 = .ok (.aload_n 0, 1) := by decide +kernel
theorem dX11_fitting_47 : decode cX11_fitting 47 = .ok (.getfield 74, 3) := by decide +kernel
theorem dX11_fitting_50 : decode cX11_fitting 50 = .ok (.iconst 2, 1) := by decide +kernel
theorem dX11_fitting_51 : decode cX11_fitting 51 = .ok (.iload 4, 2) := by decide +kernel
theorem dX11_fitting_53 : decode cX11_fitting 53 = .ok (.imul, 1) := by decide +kernel
theorem dX11_fitting_54 : decode cX11_fitting 54 = .ok (.iconst 1, 1) := by decide +kernel
theorem dX11_fitting_55 : decode cX11_fitting 55 = .ok (.iadd, 1) := by decide +kernel
theorem dX11_fitting_56 : decode cX11_fitting 56 = .ok (.iaload, 1) := by decide +kernel
theorem dX11_fitting_57 : decode cX11_fitting 57 = .ok (.if_icmp .ne 7, 3) := by decide +kernel
theorem dX11_fitting_60 : decode cX11_fitting 60 = .ok (.iconst 1, 1) := by decide +kernel
theorem dX11_fitting_61 : decode cX11_fitting 61 = .ok (.goto 4, 3) := by decide +kernel
theorem dX11_fitting_64 : decode cX11_fitting 64 = .ok (.iconst 0, 1) := by decide +kernel
theorem dX11_fitting_65 : decode cX11_fitting 65 = .ok (.istore_n 3, 1) := by decide +kernel
theorem dX11_fitting_66 : decode cX11_fitting 66 = .ok (.iinc 4 1, 3) := by decide +kernel
theorem dX11_fitting_69 : decode cX11_fitting 69 = .ok (.goto (-50), 3) := by decide +kernel
theorem dX11_fitting_72 : decode cX11_fitting 72 = .ok (.iload_n 1, 1) := by decide +kernel
theorem dX11_fitting_73 : decode cX11_fitting 73 = .ok (.iload_n 3, 1) := by decide +kernel
theorem dX11_fitting_74 : decode cX11_fitting 74 = .ok (.invokestatic 250, 3) := by decide +kernel
theorem dX11_fitting_77 : decode cX11_fitting 77 = .ok (.iload_n 2, 1) := by decide +kernel
theorem dX11_fitting_78 : decode cX11_fitting 78 = .ok (.ishl, 1) := by decide +kernel
theorem dX11_fitting_79 : decode cX11_fitting 79 = .ok (.ior, 1) := by decide +kernel
theorem dX11_fitting_80 : decode cX11_fitting 80 = .ok (.istore_n 1, 1) := by decide +kernel
theorem dX11_fitting_81 : decode cX11_fitting 81 = .ok (.iinc 2 1, 3) := by decide +kernel
theorem dX11_fitting_84 : decode cX11_fitting 84 = .ok (.goto (-80), 3) := by decide +kernel
theorem dX11_fitting_87 : decode cX11_fitting 87 = .ok (.iload_n 1, 1) := by decide +kernel
theorem dX11_fitting_88 : decode cX11_fitting 88 = .ok (.ireturn, 1) := by decide +kernel
theorem dX11_canFit_0 : decode cX11_canFit 0 = .ok (.aload_n 0, 1) := by decide +kernel
theorem dX11_canFit_1 : decode cX11_canFit 1 = .ok (.invokevirtual 244, 3) := by decide +kernel
theorem dX11_canFit_4 : decode cX11_canFit 4 = .ok (.iconst 0, 1) := by decide +kernel
theorem dX11_canFit_5 : decode cX11_canFit 5 = .ok (.istore_n 1, 1) := by decide +kernel
theorem dX11_canFit_6 : decode cX11_canFit 6 = .ok (.iload_n 1, 1) := by decide +kernel
theorem dX11_canFit_7 : decode cX11_canFit 7 = .ok (.aload_n 0, 1) := by decide +kernel
theorem dX11_canFit_8 : decode cX11_canFit 8 = .ok (.getfield 205, 3) := by decide +kernel
theorem dX11_canFit_11 : decode cX11_canFit 11 = .ok (.if_icmp .ge 26, 3) := by decide +kernel
theorem dX11_canFit_14 : decode cX11_canFit 14 = .ok (.aload_n 0, 1) := by decide +kernel
theorem dX11_canFit_15 : decode cX11_canFit 15 = .ok (.aload_n 0, 1) := by decide +kernel
theorem dX11_canFit_16 : decode cX11_canFit 16 = .ok (.getfield 74, 3) := by decide +kernel
theorem dX11_canFit_19 : decode cX11_canFit 19 = .ok (.iconst 2, 1) := by decide +kernel
theorem dX11_canFit_20 : decode cX11_canFit 20 = .ok (.iload_n 1, 1) := by decide +kernel
theorem dX11_canFit_21 : decode cX11_canFit 21 = .ok (.imul, 1) := by decide +kernel
theorem dX11_canFit_22 : decode cX11_canFit 22 = .ok (.iaload, 1) := by decide +kernel
theorem dX11_canFit_23 : decode cX11_canFit 23 = .ok (.invokevirtual 257, 3) := by decide +kernel
theorem dX11_canFit_26 : decode cX11_canFit 26 = .ok (.ifCond .ne 5, 3) := by decide +kernel
theorem dX11_canFit_29 : decode cX11_canFit 29 = .ok (.iconst 0, 1) := by decide +kernel
theorem dX11_canFit_30 : decode cX11_canFit 30 = .ok (.ireturn, 1) := by decide +kernel
theorem dX11_canFit_31 : decode cX11_canFit 31 = .ok (.iinc 1 1, 3) := by decide +kernel
theorem dX11_canFit_34 : decode cX11_canFit 34 = .ok (.goto (-28), 3) := by decide +kernel
theorem dX11_canFit_37 : decode cX11_canFit 37 = .ok (.aload_n 0, 1) := by decide +kernel
theorem dX11_canFit_38 : decode cX11_canFit 38 = .ok (.getfield 205, 3) := by decide +kernel
theorem dX11_canFit_41 : decode cX11_canFit 41 = .ok (.ifCond .le 7, 3) := by decide +kernel
theorem dX11_canFit_44 : decode cX11_canFit 44 = .ok (.iconst 1, 1) := by decide +kernel
theorem dX11_canFit_45 : decode cX11_canFit 45 = .ok (.goto 4, 3) := by decide +kernel
theorem dX11_canFit_48 : decode cX11_canFit 48 = .ok (.iconst 0, 1) := by decide +kernel
theorem dX11_canFit_49 : decode cX11_canFit 49 = .ok (.ireturn, 1) := by decide +kernel
theorem dX11_fits_0 : decode cX11_fits 0 = .ok (.aload_n 0, 1) := by decide +kernel
theorem dX11_fits_1 : decode cX11_fits 1 = .ok (.invokevirtual 364, 3) := by decide +kernel
theorem dX11_fits_4 : decode cX11_fits 4 = .ok (.ifCond .eq 10, 3) := by decide +kernel
theorem dX11_fits_7 : decode cX11_fits 7 = .ok (.aload_n 0, 1) := by decide +kernel
theorem dX11_fits_8 : decode cX11_fits 8 = .ok (.invokevirtual 367, 3) := by decide +kernel
theorem dX11_fits_11 : decode cX11_fits 11 = .ok (.goto 4, 3) := by decide +kernel
theorem dX11_fits_14 : decode cX11_fits 14 = .ok (.iconst (-1), 1) := by decide +kernel
theorem dX11_fits_15 : decode cX11_fits 15 = .ok (.ireturn, 1) := by decide +kernel
theorem dX11_mostBy_0 : decode cX11_mostBy 0 = .ok (.iconst 0, 1) := by decide +kernel
theorem dX11_mostBy_1 : decode cX11_mostBy 1 = .ok (.istore_n 3, 1) := by decide +kernel
theorem dX11_mostBy_2 : decode cX11_mostBy 2 = .ok (.iconst 0, 1) := by decide +kernel
theorem dX11_mostBy_3 : decode cX11_mostBy 3 = .ok (.istore 4, 2) := by decide +kernel
theorem dX11_mostBy_5 : decode cX11_mostBy 5 = .ok (.iload 4, 2) := by decide +kernel
theorem dX11_mostBy_7 : decode cX11_mostBy 7 = .ok (.bipush 99, 2) := by decide +kernel
theorem dX11_mostBy_9 : decode cX11_mostBy 9 = .ok (.if_icmp .gt 75, 3) := by decide +kernel
theorem dX11_mostBy_12 : decode cX11_mostBy 12 = .ok (.iconst 0, 1) := by decide +kernel
theorem dX11_mostBy_13 : decode cX11_mostBy 13 = .ok (.istore 5, 2) := by decide +kernel
theorem dX11_mostBy_15 : decode cX11_mostBy 15 = .ok (.iconst 0, 1) := by decide +kernel
theorem dX11_mostBy_16 : decode cX11_mostBy 16 = .ok (.istore 6, 2) := by decide +kernel
theorem dX11_mostBy_18 : decode cX11_mostBy 18 = .ok (.iload 6, 2) := by decide +kernel
theorem dX11_mostBy_20 : decode cX11_mostBy 20 = .ok (.aload_n 0, 1) := by decide +kernel
theorem dX11_mostBy_21 : decode cX11_mostBy 21 = .ok (.getfield 23, 3) := by decide +kernel
theorem dX11_mostBy_24 : decode cX11_mostBy 24 = .ok (.iconst 0, 1) := by decide +kernel
theorem dX11_mostBy_25 : decode cX11_mostBy 25 = .ok (.iaload, 1) := by decide +kernel
theorem dX11_mostBy_26 : decode cX11_mostBy 26 = .ok (.if_icmp .ge 43, 3) := by decide +kernel
theorem dX11_mostBy_29 : decode cX11_mostBy 29 = .ok (.iload 5, 2) := by decide +kernel
theorem dX11_mostBy_31 : decode cX11_mostBy 31 = .ok (.iload_n 2, 1) := by decide +kernel
theorem dX11_mostBy_32 : decode cX11_mostBy 32 = .ok (.iload 6, 2) := by decide +kernel
theorem dX11_mostBy_34 : decode cX11_mostBy 34 = .ok (.invokestatic 281, 3) := by decide +kernel
theorem dX11_mostBy_37 : decode cX11_mostBy 37 = .ok (.ifCond .eq 19, 3) := by decide +kernel
theorem dX11_mostBy_40 : decode cX11_mostBy 40 = .ok (.aload_n 0, 1) := by decide +kernel
theorem dX11_mostBy_41 : decode cX11_mostBy 41 = .ok (.iload_n 1, 1) := by decide +kernel
theorem dX11_mostBy_42 : decode cX11_mostBy 42 = .ok (.iload 6, 2) := by decide +kernel
theorem dX11_mostBy_44 : decode cX11_mostBy 44 = .ok (.invokevirtual 214, 3) := by decide +kernel
theorem dX11_mostBy_47 : decode cX11_mostBy 47 = .ok (.iload 4, 2) := by decide +kernel
theorem dX11_mostBy_49 : decode cX11_mostBy 49 = .ok (.if_icmp .ne 7, 3) := by decide +kernel
theorem dX11_mostBy_52 : decode cX11_mostBy 52 = .ok (.iconst 1, 1) := by decide +kernel
theorem dX11_mostBy_53 : decode cX11_mostBy 53 = .ok (.goto 4, 3) := by decide +kernel
theorem dX11_mostBy_56 : decode cX11_mostBy 56 = .ok (.iconst 0, 1) := by decide +kernel
theorem dX11_mostBy_57 : decode cX11_mostBy 57 = .ok (.invokestatic 250, 3) := by decide +kernel
theorem dX11_mostBy_60 : decode cX11_mostBy 60 = .ok (.iadd, 1) := by decide +kernel
theorem dX11_mostBy_61 : decode cX11_mostBy 61 = .ok (.istore 5, 2) := by decide +kernel
theorem dX11_mostBy_63 : decode cX11_mostBy 63 = .ok (.iinc 6 1, 3) := by decide +kernel
theorem dX11_mostBy_66 : decode cX11_mostBy 66 = .ok (.goto (-48), 3) := by decide +kernel
theorem dX11_mostBy_69 : decode cX11_mostBy 69 = .ok (.iload 5, 2) := by decide +kernel
theorem dX11_mostBy_71 : decode cX11_mostBy 71 = .ok (.iload_n 3, 1) := by decide +kernel
theorem dX11_mostBy_72 : decode cX11_mostBy 72 = .ok (.if_icmp .le 6, 3) := by decide +kernel
theorem dX11_mostBy_75 : decode cX11_mostBy 75 = .ok (.iload 5, 2) := by decide +kernel
theorem dX11_mostBy_77 : decode cX11_mostBy 77 = .ok (.istore_n 3, 1) := by decide +kernel
theorem dX11_mostBy_78 : decode cX11_mostBy 78 = .ok (.iinc 4 1, 3) := by decide +kernel
theorem dX11_mostBy_81 : decode cX11_mostBy 81 = .ok (.goto (-76), 3) := by decide +kernel
theorem dX11_mostBy_84 : decode cX11_mostBy 84 = .ok (.iload_n 3, 1) := by decide +kernel
theorem dX11_mostBy_85 : decode cX11_mostBy 85 = .ok (.ireturn, 1) := by decide +kernel
theorem dX11_tells_0 : decode cX11_tells 0 = .ok (.aload_n 0, 1) := by decide +kernel
theorem dX11_tells_1 : decode cX11_tells 1 = .ok (.invokevirtual 364, 3) := by decide +kernel
theorem dX11_tells_4 : decode cX11_tells 4 = .ok (.ifCond .eq 13, 3) := by decide +kernel
theorem dX11_tells_7 : decode cX11_tells 7 = .ok (.iload_n 1, 1) := by decide +kernel
theorem dX11_tells_8 : decode cX11_tells 8 = .ok (.i2l, 1) := by decide +kernel
theorem dX11_tells_9 : decode cX11_tells 9 = .ok (.lconst 0, 1) := by decide +kernel
theorem dX11_tells_10 : decode cX11_tells 10 = .ok (.lconst 1, 1) := by decide +kernel
theorem dX11_tells_11 : decode cX11_tells 11 = .ok (.invokestatic 109, 3) := by decide +kernel
theorem dX11_tells_14 : decode cX11_tells 14 = .ok (.ifCond .ne 5, 3) := by decide +kernel
theorem dX11_tells_17 : decode cX11_tells 17 = .ok (.iconst (-1), 1) := by decide +kernel
theorem dX11_tells_18 : decode cX11_tells 18 = .ok (.ireturn, 1) := by decide +kernel
theorem dX11_tells_19 : decode cX11_tells 19 = .ok (.aload_n 0, 1) := by decide +kernel
theorem dX11_tells_20 : decode cX11_tells 20 = .ok (.invokevirtual 367, 3) := by decide +kernel
theorem dX11_tells_23 : decode cX11_tells 23 = .ok (.istore_n 2, 1) := by decide +kernel
theorem dX11_tells_24 : decode cX11_tells 24 = .ok (.iload_n 2, 1) := by decide +kernel
theorem dX11_tells_25 : decode cX11_tells 25 = .ok (.ifCond .ne 5, 3) := by decide +kernel
theorem dX11_tells_28 : decode cX11_tells 28 = .ok (.iconst (-1), 1) := by decide +kernel
theorem dX11_tells_29 : decode cX11_tells 29 = .ok (.ireturn, 1) := by decide +kernel
theorem dX11_tells_30 : decode cX11_tells 30 = .ok (.iconst 0, 1) := by decide +kernel
theorem dX11_tells_31 : decode cX11_tells 31 = .ok (.istore_n 3, 1) := by decide +kernel
theorem dX11_tells_32 : decode cX11_tells 32 = .ok (.iconst 1, 1) := by decide +kernel
theorem dX11_tells_33 : decode cX11_tells 33 = .ok (.istore 4, 2) := by decide +kernel
theorem dX11_tells_35 : decode cX11_tells 35 = .ok (.iload 4, 2) := by decide +kernel
theorem dX11_tells_37 : decode cX11_tells 37 = .ok (.aload_n 0, 1) := by decide +kernel
theorem dX11_tells_38 : decode cX11_tells 38 = .ok (.getfield 23, 3) := by decide +kernel
theorem dX11_tells_41 : decode cX11_tells 41 = .ok (.iconst 0, 1) := by decide +kernel
theorem dX11_tells_42 : decode cX11_tells 42 = .ok (.iaload, 1) := by decide +kernel
theorem dX11_tells_43 : decode cX11_tells 43 = .ok (.if_icmp .ge 28, 3) := by decide +kernel
theorem dX11_tells_46 : decode cX11_tells 46 = .ok (.aload_n 0, 1) := by decide +kernel
theorem dX11_tells_47 : decode cX11_tells 47 = .ok (.iload 4, 2) := by decide +kernel
theorem dX11_tells_49 : decode cX11_tells 49 = .ok (.iload_n 2, 1) := by decide +kernel
theorem dX11_tells_50 : decode cX11_tells 50 = .ok (.invokevirtual 370, 3) := by decide +kernel
theorem dX11_tells_53 : decode cX11_tells 53 = .ok (.aload_n 0, 1) := by decide +kernel
theorem dX11_tells_54 : decode cX11_tells 54 = .ok (.iload_n 3, 1) := by decide +kernel
theorem dX11_tells_55 : decode cX11_tells 55 = .ok (.iload_n 2, 1) := by decide +kernel
theorem dX11_tells_56 : decode cX11_tells 56 = .ok (.invokevirtual 370, 3) := by decide +kernel
theorem dX11_tells_59 : decode cX11_tells 59 = .ok (.if_icmp .ge 6, 3) := by decide +kernel
theorem dX11_tells_62 : decode cX11_tells 62 = .ok (.iload 4, 2) := by decide +kernel
theorem dX11_tells_64 : decode cX11_tells 64 = .ok (.istore_n 3, 1) := by decide +kernel
theorem dX11_tells_65 : decode cX11_tells 65 = .ok (.iinc 4 1, 3) := by decide +kernel
theorem dX11_tells_68 : decode cX11_tells 68 = .ok (.goto (-33), 3) := by decide +kernel
theorem dX11_tells_71 : decode cX11_tells 71 = .ok (.iload_n 1, 1) := by decide +kernel
theorem dX11_tells_72 : decode cX11_tells 72 = .ok (.ifCond .ne 7, 3) := by decide +kernel
theorem dX11_tells_75 : decode cX11_tells 75 = .ok (.iload_n 3, 1) := by decide +kernel
theorem dX11_tells_76 : decode cX11_tells 76 = .ok (.goto 9, 3) := by decide +kernel
theorem dX11_tells_79 : decode cX11_tells 79 = .ok (.aload_n 0, 1) := by decide +kernel
theorem dX11_tells_80 : decode cX11_tells 80 = .ok (.iload_n 3, 1) := by decide +kernel
theorem dX11_tells_81 : decode cX11_tells 81 = .ok (.iload_n 2, 1) := by decide +kernel
theorem dX11_tells_82 : decode cX11_tells 82 = .ok (.invokevirtual 370, 3) := by decide +kernel
theorem dX11_tells_85 : decode cX11_tells 85 = .ok (.ireturn, 1) := by decide +kernel
theorem dX11_keeps_0 : decode cX11_keeps 0 = .ok (.aload_n 0, 1) := by decide +kernel
theorem dX11_keeps_1 : decode cX11_keeps 1 = .ok (.aload_n 0, 1) := by decide +kernel
theorem dX11_keeps_2 : decode cX11_keeps 2 = .ok (.getfield 373, 3) := by decide +kernel
theorem dX11_keeps_5 : decode cX11_keeps 5 = .ok (.iconst 1, 1) := by decide +kernel
theorem dX11_keeps_6 : decode cX11_keeps 6 = .ok (.iadd, 1) := by decide +kernel
theorem dX11_keeps_7 : decode cX11_keeps 7 = .ok (.bipush 20, 2) := by decide +kernel
theorem dX11_keeps_9 : decode cX11_keeps 9 = .ok (.irem, 1) := by decide +kernel
theorem dX11_keeps_10 : decode cX11_keeps 10 = .ok (.putfield 373, 3) := by decide +kernel
theorem dX11_keeps_13 : decode cX11_keeps 13 = .ok (.iconst 0, 1) := by decide +kernel
theorem dX11_keeps_14 : decode cX11_keeps 14 = .ok (.istore_n 1, 1) := by decide +kernel
theorem dX11_keeps_15 : decode cX11_keeps 15 = .ok (.iload_n 1, 1) := by decide +kernel
theorem dX11_keeps_16 : decode cX11_keeps 16 = .ok (.sipush 206, 3) := by decide +kernel
theorem dX11_keeps_19 : decode cX11_keeps 19 = .ok (.if_icmp .ge 30, 3) := by decide +kernel
theorem dX11_keeps_22 : decode cX11_keeps 22 = .ok (.aload_n 0, 1) := by decide +kernel
theorem dX11_keeps_23 : decode cX11_keeps 23 = .ok (.getfield 77, 3) := by decide +kernel
theorem dX11_keeps_26 : decode cX11_keeps 26 = .ok (.sipush 206, 3) := by decide +kernel
theorem dX11_keeps_29 : decode cX11_keeps 29 = .ok (.aload_n 0, 1) := by decide +kernel
theorem dX11_keeps_30 : decode cX11_keeps 30 = .ok (.getfield 373, 3) := by decide +kernel
theorem dX11_keeps_33 : decode cX11_keeps 33 = .ok (.imul, 1) := by decide +kernel
theorem dX11_keeps_34 : decode cX11_keeps 34 = .ok (.iload_n 1, 1) := by decide +kernel
theorem dX11_keeps_35 : decode cX11_keeps 35 = .ok (.iadd, 1) := by decide +kernel
theorem dX11_keeps_36 : decode cX11_keeps 36 = .ok (.aload_n 0, 1) := by decide +kernel
theorem dX11_keeps_37 : decode cX11_keeps 37 = .ok (.getfield 23, 3) := by decide +kernel
theorem dX11_keeps_40 : decode cX11_keeps 40 = .ok (.iload_n 1, 1) := by decide +kernel
theorem dX11_keeps_41 : decode cX11_keeps 41 = .ok (.iaload, 1) := by decide +kernel
theorem dX11_keeps_42 : decode cX11_keeps 42 = .ok (.iastore, 1) := by decide +kernel
theorem dX11_keeps_43 : decode cX11_keeps 43 = .ok (.iinc 1 1, 3) := by decide +kernel
theorem dX11_keeps_46 : decode cX11_keeps 46 = .ok (.goto (-31), 3) := by decide +kernel
theorem dX11_keeps_49 : decode cX11_keeps 49 = .ok (.aload_n 0, 1) := by decide +kernel
theorem dX11_keeps_50 : decode cX11_keeps 50 = .ok (.getfield 199, 3) := by decide +kernel
theorem dX11_keeps_53 : decode cX11_keeps 53 = .ok (.bipush 20, 2) := by decide +kernel
theorem dX11_keeps_55 : decode cX11_keeps 55 = .ok (.if_icmp .ge 13, 3) := by decide +kernel
theorem dX11_keeps_58 : decode cX11_keeps 58 = .ok (.aload_n 0, 1) := by decide +kernel
theorem dX11_keeps_59 : decode cX11_keeps 59 = .ok (.dup, 1) := by decide +kernel
theorem dX11_keeps_60 : decode cX11_keeps 60 = .ok (.getfield 199, 3) := by decide +kernel
theorem dX11_keeps_63 : decode cX11_keeps 63 = .ok (.iconst 1, 1) := by decide +kernel
theorem dX11_keeps_64 : decode cX11_keeps 64 = .ok (.iadd, 1) := by decide +kernel
theorem dX11_keeps_65 : decode cX11_keeps 65 = .ok (.putfield 199, 3) := by decide +kernel
theorem dX11_keeps_68 : decode cX11_keeps 68 = .ok (.return_, 1) := by decide +kernel
theorem dX11_undo_0 : decode cX11_undo 0 = .ok (.aload_n 0, 1) := by decide +kernel
theorem dX11_undo_1 : decode cX11_undo 1 = .ok (.getfield 199, 3) := by decide +kernel
theorem dX11_undo_4 : decode cX11_undo 4 = .ok (.ifCond .ne 9, 3) := by decide +kernel
theorem dX11_undo_7 : decode cX11_undo 7 = .ok (.aload_n 0, 1) := by decide +kernel
theorem dX11_undo_8 : decode cX11_undo 8 = .ok (.iconst 4, 1) := by decide +kernel
theorem dX11_undo_9 : decode cX11_undo 9 = .ok (.invokevirtual 103, 3) := by decide +kernel
theorem dX11_undo_12 : decode cX11_undo 12 = .ok (.ireturn, 1) := by decide +kernel
theorem dX11_undo_13 : decode cX11_undo 13 = .ok (.iconst 0, 1) := by decide +kernel
theorem dX11_undo_14 : decode cX11_undo 14 = .ok (.istore_n 1, 1) := by decide +kernel
theorem dX11_undo_15 : decode cX11_undo 15 = .ok (.iload_n 1, 1) := by decide +kernel
theorem dX11_undo_16 : decode cX11_undo 16 = .ok (.sipush 206, 3) := by decide +kernel
theorem dX11_undo_19 : decode cX11_undo 19 = .ok (.if_icmp .ge 30, 3) := by decide +kernel
theorem dX11_undo_22 : decode cX11_undo 22 = .ok (.aload_n 0, 1) := by decide +kernel
theorem dX11_undo_23 : decode cX11_undo 23 = .ok (.getfield 23, 3) := by decide +kernel
theorem dX11_undo_26 : decode cX11_undo 26 = .ok (.iload_n 1, 1) := by decide +kernel
theorem dX11_undo_27 : decode cX11_undo 27 = .ok (.aload_n 0, 1) := by decide +kernel
theorem dX11_undo_28 : decode cX11_undo 28 = .ok (.getfield 77, 3) := by decide +kernel
theorem dX11_undo_31 : decode cX11_undo 31 = .ok (.sipush 206, 3) := by decide +kernel
theorem dX11_undo_34 : decode cX11_undo 34 = .ok (.aload_n 0, 1) := by decide +kernel
theorem dX11_undo_35 : decode cX11_undo 35 = .ok (.getfield 373, 3) := by decide +kernel
theorem dX11_undo_38 : decode cX11_undo 38 = .ok (.imul, 1) := by decide +kernel
theorem dX11_undo_39 : decode cX11_undo 39 = .ok (.iload_n 1, 1) := by decide +kernel
theorem dX11_undo_40 : decode cX11_undo 40 = .ok (.iadd, 1) := by decide +kernel
theorem dX11_undo_41 : decode cX11_undo 41 = .ok (.iaload, 1) := by decide +kernel
theorem dX11_undo_42 : decode cX11_undo 42 = .ok (.iastore, 1) := by decide +kernel
theorem dX11_undo_43 : decode cX11_undo 43 = .ok (.iinc 1 1, 3) := by decide +kernel
theorem dX11_undo_46 : decode cX11_undo 46 = .ok (.goto (-31), 3) := by decide +kernel
theorem dX11_undo_49 : decode cX11_undo 49 = .ok (.aload_n 0, 1) := by decide +kernel
theorem dX11_undo_50 : decode cX11_undo 50 = .ok (.aload_n 0, 1) := by decide +kernel
theorem dX11_undo_51 : decode cX11_undo 51 = .ok (.getfield 373, 3) := by decide +kernel
theorem dX11_undo_54 : decode cX11_undo 54 = .ok (.bipush 20, 2) := by decide +kernel
theorem dX11_undo_56 : decode cX11_undo 56 = .ok (.iadd, 1) := by decide +kernel
theorem dX11_undo_57 : decode cX11_undo 57 = .ok (.iconst 1, 1) := by decide +kernel
theorem dX11_undo_58 : decode cX11_undo 58 = .ok (.isub, 1) := by decide +kernel
theorem dX11_undo_59 : decode cX11_undo 59 = .ok (.bipush 20, 2) := by decide +kernel
theorem dX11_undo_61 : decode cX11_undo 61 = .ok (.irem, 1) := by decide +kernel
theorem dX11_undo_62 : decode cX11_undo 62 = .ok (.putfield 373, 3) := by decide +kernel
theorem dX11_undo_65 : decode cX11_undo 65 = .ok (.aload_n 0, 1) := by decide +kernel
theorem dX11_undo_66 : decode cX11_undo 66 = .ok (.dup, 1) := by decide +kernel
theorem dX11_undo_67 : decode cX11_undo 67 = .ok (.getfield 199, 3) := by decide +kernel
theorem dX11_undo_70 : decode cX11_undo 70 = .ok (.iconst 1, 1) := by decide +kernel
theorem dX11_undo_71 : decode cX11_undo 71 = .ok (.isub, 1) := by decide +kernel
theorem dX11_undo_72 : decode cX11_undo 72 = .ok (.putfield 199, 3) := by decide +kernel
theorem dX11_undo_75 : decode cX11_undo 75 = .ok (.aload_n 0, 1) := by decide +kernel
theorem dX11_undo_76 : decode cX11_undo 76 = .ok (.iconst 0, 1) := by decide +kernel
theorem dX11_undo_77 : decode cX11_undo 77 = .ok (.putfield 195, 3) := by decide +kernel
theorem dX11_undo_80 : decode cX11_undo 80 = .ok (.iconst 1, 1) := by decide +kernel
theorem dX11_undo_81 : decode cX11_undo 81 = .ok (.ireturn, 1) := by decide +kernel
theorem dX11_isNext_0 : decode cX11_isNext 0 = .ok (.iconst 0, 1) := by decide +kernel
theorem dX11_isNext_1 : decode cX11_isNext 1 = .ok (.istore_n 1, 1) := by decide +kernel
theorem dX11_isNext_2 : decode cX11_isNext 2 = .ok (.iload_n 1, 1) := by decide +kernel
theorem dX11_isNext_3 : decode cX11_isNext 3 = .ok (.sipush 206, 3) := by decide +kernel
theorem dX11_isNext_6 : decode cX11_isNext 6 = .ok (.if_icmp .ge 21, 3) := by decide +kernel
theorem dX11_isNext_9 : decode cX11_isNext 9 = .ok (.aload_n 0, 1) := by decide +kernel
theorem dX11_isNext_10 : decode cX11_isNext 10 = .ok (.getfield 23, 3) := by decide +kernel
theorem dX11_isNext_13 : decode cX11_isNext 13 = .ok (.iload_n 1, 1) := by decide +kernel
theorem dX11_isNext_14 : decode cX11_isNext 14 = .ok (.aload_n 0, 1) := by decide +kernel
theorem dX11_isNext_15 : decode cX11_isNext 15 = .ok (.getfield 26, 3) := by decide +kernel
theorem dX11_isNext_18 : decode cX11_isNext 18 = .ok (.iload_n 1, 1) := by decide +kernel
theorem dX11_isNext_19 : decode cX11_isNext 19 = .ok (.iaload, 1) := by decide +kernel
theorem dX11_isNext_20 : decode cX11_isNext 20 = .ok (.iastore, 1) := by decide +kernel
theorem dX11_isNext_21 : decode cX11_isNext 21 = .ok (.iinc 1 1, 3) := by decide +kernel
theorem dX11_isNext_24 : decode cX11_isNext 24 = .ok (.goto (-22), 3) := by decide +kernel
theorem dX11_isNext_27 : decode cX11_isNext 27 = .ok (.aload_n 0, 1) := by decide +kernel
theorem dX11_isNext_28 : decode cX11_isNext 28 = .ok (.iconst 0, 1) := by decide +kernel
theorem dX11_isNext_29 : decode cX11_isNext 29 = .ok (.putfield 195, 3) := by decide +kernel
theorem dX11_isNext_32 : decode cX11_isNext 32 = .ok (.return_, 1) := by decide +kernel
theorem dX11_canJoin_0 : decode cX11_canJoin 0 = .ok (.aload_n 0, 1) := by decide +kernel
theorem dX11_canJoin_1 : decode cX11_canJoin 1 = .ok (.iload_n 1, 1) := by decide +kernel
theorem dX11_canJoin_2 : decode cX11_canJoin 2 = .ok (.invokevirtual 257, 3) := by decide +kernel
theorem dX11_canJoin_5 : decode cX11_canJoin 5 = .ok (.ifCond .eq 44, 3) := by decide +kernel
theorem dX11_canJoin_8 : decode cX11_canJoin 8 = .ok (.aload_n 0, 1) := by decide +kernel
theorem dX11_canJoin_9 : decode cX11_canJoin 9 = .ok (.iload_n 2, 1) := by decide +kernel
theorem dX11_canJoin_10 : decode cX11_canJoin 10 = .ok (.invokevirtual 257, 3) := by decide +kernel
theorem dX11_canJoin_13 : decode cX11_canJoin 13 = .ok (.ifCond .eq 36, 3) := by decide +kernel
theorem dX11_canJoin_16 : decode cX11_canJoin 16 = .ok (.iload_n 1, 1) := by decide +kernel
theorem dX11_canJoin_17 : decode cX11_canJoin 17 = .ok (.iload_n 2, 1) := by decide +kernel
theorem dX11_canJoin_18 : decode cX11_canJoin 18 = .ok (.if_icmp .eq 31, 3) := by decide +kernel
theorem dX11_canJoin_21 : decode cX11_canJoin 21 = .ok (.aload_n 0, 1) := by decide +kernel
theorem dX11_canJoin_22 : decode cX11_canJoin 22 = .ok (.getfield 23, 3) := by decide +kernel
theorem dX11_canJoin_25 : decode cX11_canJoin 25 = .ok (.iconst 1, 1) := by decide +kernel
theorem dX11_canJoin_26 : decode cX11_canJoin 26 = .ok (.iaload, 1) := by decide +kernel
theorem dX11_canJoin_27 : decode cX11_canJoin 27 = .ok (.bipush 60, 2) := by decide +kernel
theorem dX11_canJoin_29 : decode cX11_canJoin 29 = .ok (.if_icmp .ge 20, 3) := by decide +kernel
theorem dX11_canJoin_32 : decode cX11_canJoin 32 = .ok (.aload_n 0, 1) := by decide +kernel
theorem dX11_canJoin_33 : decode cX11_canJoin 33 = .ok (.getfield 23, 3) := by decide +kernel
theorem dX11_canJoin_36 : decode cX11_canJoin 36 = .ok (.iload_n 1, 1) := by decide +kernel
theorem dX11_canJoin_37 : decode cX11_canJoin 37 = .ok (.iload_n 2, 1) := by decide +kernel
theorem dX11_canJoin_38 : decode cX11_canJoin 38 = .ok (.invokestatic 169, 3) := by decide +kernel
theorem dX11_canJoin_41 : decode cX11_canJoin 41 = .ok (.iconst (-1), 1) := by decide +kernel
theorem dX11_canJoin_42 : decode cX11_canJoin 42 = .ok (.if_icmp .ne 7, 3) := by decide +kernel
theorem dX11_canJoin_45 : decode cX11_canJoin 45 = .ok (.iconst 1, 1) := by decide +kernel
theorem dX11_canJoin_46 : decode cX11_canJoin 46 = .ok (.goto 4, 3) := by decide +kernel
theorem dX11_canJoin_49 : decode cX11_canJoin 49 = .ok (.iconst 0, 1) := by decide +kernel
theorem dX11_canJoin_50 : decode cX11_canJoin 50 = .ok (.ireturn, 1) := by decide +kernel
theorem dX11_joins_0 : decode cX11_joins 0 = .ok (.aload_n 0, 1) := by decide +kernel
theorem dX11_joins_1 : decode cX11_joins 1 = .ok (.getfield 23, 3) := by decide +kernel
theorem dX11_joins_4 : decode cX11_joins 4 = .ok (.iload_n 1, 1) := by decide +kernel
theorem dX11_joins_5 : decode cX11_joins 5 = .ok (.iload_n 2, 1) := by decide +kernel
theorem dX11_joins_6 : decode cX11_joins 6 = .ok (.iconst 1, 1) := by decide +kernel
theorem dX11_joins_7 : decode cX11_joins 7 = .ok (.invokestatic 173, 3) := by decide +kernel
theorem dX11_joins_10 : decode cX11_joins 10 = .ok (.aload_n 0, 1) := by decide +kernel
theorem dX11_joins_11 : decode cX11_joins 11 = .ok (.iconst 0, 1) := by decide +kernel
theorem dX11_joins_12 : decode cX11_joins 12 = .ok (.putfield 195, 3) := by decide +kernel
theorem dX11_joins_15 : decode cX11_joins 15 = .ok (.return_, 1) := by decide +kernel
theorem dX11_join_0 : decode cX11_join 0 = .ok (.aload_n 0, 1) := by decide +kernel
theorem dX11_join_1 : decode cX11_join 1 = .ok (.iload_n 1, 1) := by decide +kernel
theorem dX11_join_2 : decode cX11_join 2 = .ok (.iload_n 2, 1) := by decide +kernel
theorem dX11_join_3 : decode cX11_join 3 = .ok (.invokevirtual 376, 3) := by decide +kernel
theorem dX11_join_6 : decode cX11_join 6 = .ok (.ifCond .ne 9, 3) := by decide +kernel
theorem dX11_join_9 : decode cX11_join 9 = .ok (.aload_n 0, 1) := by decide +kernel
theorem dX11_join_10 : decode cX11_join 10 = .ok (.iconst 2, 1) := by decide +kernel
theorem dX11_join_11 : decode cX11_join 11 = .ok (.invokevirtual 99, 3) := by decide +kernel
theorem dX11_join_14 : decode cX11_join 14 = .ok (.ireturn, 1) := by decide +kernel
theorem dX11_join_15 : decode cX11_join 15 = .ok (.aload_n 0, 1) := by decide +kernel
theorem dX11_join_16 : decode cX11_join 16 = .ok (.invokevirtual 379, 3) := by decide +kernel
theorem dX11_join_19 : decode cX11_join 19 = .ok (.aload_n 0, 1) := by decide +kernel
theorem dX11_join_20 : decode cX11_join 20 = .ok (.iload_n 1, 1) := by decide +kernel
theorem dX11_join_21 : decode cX11_join 21 = .ok (.iload_n 2, 1) := by decide +kernel
theorem dX11_join_22 : decode cX11_join 22 = .ok (.invokevirtual 382, 3) := by decide +kernel
theorem dX11_join_25 : decode cX11_join 25 = .ok (.aload_n 0, 1) := by decide +kernel
theorem dX11_join_26 : decode cX11_join 26 = .ok (.getfield 23, 3) := by decide +kernel
theorem dX11_join_29 : decode cX11_join 29 = .ok (.iconst 1, 1) := by decide +kernel
theorem dX11_join_30 : decode cX11_join 30 = .ok (.iaload, 1) := by decide +kernel
theorem dX11_join_31 : decode cX11_join 31 = .ok (.iconst 1, 1) := by decide +kernel
theorem dX11_join_32 : decode cX11_join 32 = .ok (.isub, 1) := by decide +kernel
theorem dX11_join_33 : decode cX11_join 33 = .ok (.ireturn, 1) := by decide +kernel
theorem dX11_cuts_0 : decode cX11_cuts 0 = .ok (.bipush 26, 2) := by decide +kernel
theorem dX11_cuts_2 : decode cX11_cuts 2 = .ok (.iconst 2, 1) := by decide +kernel
theorem dX11_cuts_3 : decode cX11_cuts 3 = .ok (.iload_n 1, 1) := by decide +kernel
theorem dX11_cuts_4 : decode cX11_cuts 4 = .ok (.imul, 1) := by decide +kernel
theorem dX11_cuts_5 : decode cX11_cuts 5 = .ok (.iadd, 1) := by decide +kernel
theorem dX11_cuts_6 : decode cX11_cuts 6 = .ok (.istore_n 2, 1) := by decide +kernel
theorem dX11_cuts_7 : decode cX11_cuts 7 = .ok (.iload_n 2, 1) := by decide +kernel
theorem dX11_cuts_8 : decode cX11_cuts 8 = .ok (.bipush 26, 2) := by decide +kernel
theorem dX11_cuts_10 : decode cX11_cuts 10 = .ok (.iconst 2, 1) := by decide +kernel
theorem dX11_cuts_11 : decode cX11_cuts 11 = .ok (.aload_n 0, 1) := by decide +kernel
theorem dX11_cuts_12 : decode cX11_cuts 12 = .ok (.getfield 23, 3) := by decide +kernel
theorem dX11_cuts_15 : decode cX11_cuts 15 = .ok (.iconst 1, 1) := by decide +kernel
theorem dX11_cuts_16 : decode cX11_cuts 16 = .ok (.iaload, 1) := by decide +kernel
theorem dX11_cuts_17 : decode cX11_cuts 17 = .ok (.iconst 1, 1) := by decide +kernel
theorem dX11_cuts_18 : decode cX11_cuts 18 = .ok (.isub, 1) := by decide +kernel
theorem dX11_cuts_19 : decode cX11_cuts 19 = .ok (.imul, 1) := by decide +kernel
theorem dX11_cuts_20 : decode cX11_cuts 20 = .ok (.iadd, 1) := by decide +kernel
theorem dX11_cuts_21 : decode cX11_cuts 21 = .ok (.if_icmp .ge 23, 3) := by decide +kernel
theorem dX11_cuts_24 : decode cX11_cuts 24 = .ok (.aload_n 0, 1) := by decide +kernel
theorem dX11_cuts_25 : decode cX11_cuts 25 = .ok (.getfield 23, 3) := by decide +kernel
theorem dX11_cuts_28 : decode cX11_cuts 28 = .ok (.iload_n 2, 1) := by decide +kernel
theorem dX11_cuts_29 : decode cX11_cuts 29 = .ok (.aload_n 0, 1) := by decide +kernel
theorem dX11_cuts_30 : decode cX11_cuts 30 = .ok (.getfield 23, 3) := by decide +kernel
theorem dX11_cuts_33 : decode cX11_cuts 33 = .ok (.iload_n 2, 1) := by decide +kernel
theorem dX11_cuts_34 : decode cX11_cuts 34 = .ok (.iconst 2, 1) := by decide +kernel
theorem dX11_cuts_35 : decode cX11_cuts 35 = .ok (.iadd, 1) := by decide +kernel
theorem dX11_cuts_36 : decode cX11_cuts 36 = .ok (.iaload, 1) := by decide +kernel
theorem dX11_cuts_37 : decode cX11_cuts 37 = .ok (.iastore, 1) := by decide +kernel
theorem dX11_cuts_38 : decode cX11_cuts 38 = .ok (.iinc 2 1, 3) := by decide +kernel
theorem dX11_cuts_41 : decode cX11_cuts 41 = .ok (.goto (-34), 3) := by decide +kernel
theorem dX11_cuts_44 : decode cX11_cuts 44 = .ok (.iload_n 1, 1) := by decide +kernel
theorem dX11_cuts_45 : decode cX11_cuts 45 = .ok (.istore_n 2, 1) := by decide +kernel
theorem dX11_cuts_46 : decode cX11_cuts 46 = .ok (.iload_n 2, 1) := by decide +kernel
theorem dX11_cuts_47 : decode cX11_cuts 47 = .ok (.aload_n 0, 1) := by decide +kernel
theorem dX11_cuts_48 : decode cX11_cuts 48 = .ok (.getfield 23, 3) := by decide +kernel
theorem dX11_cuts_51 : decode cX11_cuts 51 = .ok (.iconst 1, 1) := by decide +kernel
theorem dX11_cuts_52 : decode cX11_cuts 52 = .ok (.iaload, 1) := by decide +kernel
theorem dX11_cuts_53 : decode cX11_cuts 53 = .ok (.iconst 1, 1) := by decide +kernel
theorem dX11_cuts_54 : decode cX11_cuts 54 = .ok (.isub, 1) := by decide +kernel
theorem dX11_cuts_55 : decode cX11_cuts 55 = .ok (.if_icmp .ge 31, 3) := by decide +kernel
theorem dX11_cuts_58 : decode cX11_cuts 58 = .ok (.aload_n 0, 1) := by decide +kernel
theorem dX11_cuts_59 : decode cX11_cuts 59 = .ok (.getfield 23, 3) := by decide +kernel
theorem dX11_cuts_62 : decode cX11_cuts 62 = .ok (.sipush 146, 3) := by decide +kernel
theorem dX11_cuts_65 : decode cX11_cuts 65 = .ok (.iload_n 2, 1) := by decide +kernel
theorem dX11_cuts_66 : decode cX11_cuts 66 = .ok (.iadd, 1) := by decide +kernel
theorem dX11_cuts_67 : decode cX11_cuts 67 = .ok (.aload_n 0, 1) := by decide +kernel
theorem dX11_cuts_68 : decode cX11_cuts 68 = .ok (.getfield 23, 3) := by decide +kernel
theorem dX11_cuts_71 : decode cX11_cuts 71 = .ok (.sipush 146, 3) := by decide +kernel
theorem dX11_cuts_74 : decode cX11_cuts 74 = .ok (.iload_n 2, 1) := by decide +kernel
theorem dX11_cuts_75 : decode cX11_cuts 75 = .ok (.iadd, 1) := by decide +kernel
theorem dX11_cuts_76 : decode cX11_cuts 76 = .ok (.iconst 1, 1) := by decide +kernel
theorem dX11_cuts_77 : decode cX11_cuts 77 = .ok (.iadd, 1) := by decide +kernel
theorem dX11_cuts_78 : decode cX11_cuts 78 = .ok (.iaload, 1) := by decide +kernel
theorem dX11_cuts_79 : decode cX11_cuts 79 = .ok (.iastore, 1) := by decide +kernel
theorem dX11_cuts_80 : decode cX11_cuts 80 = .ok (.iinc 2 1, 3) := by decide +kernel
theorem dX11_cuts_83 : decode cX11_cuts 83 = .ok (.goto (-37), 3) := by decide +kernel
theorem dX11_cuts_86 : decode cX11_cuts 86 = .ok (.aload_n 0, 1) := by decide +kernel
theorem dX11_cuts_87 : decode cX11_cuts 87 = .ok (.getfield 23, 3) := by decide +kernel
theorem dX11_cuts_90 : decode cX11_cuts 90 = .ok (.iconst 1, 1) := by decide +kernel
theorem dX11_cuts_91 : decode cX11_cuts 91 = .ok (.dup2, 1) := by decide +kernel
theorem dX11_cuts_92 : decode cX11_cuts 92 = .ok (.iaload, 1) := by decide +kernel
theorem dX11_cuts_93 : decode cX11_cuts 93 = .ok (.iconst 1, 1) := by decide +kernel
theorem dX11_cuts_94 : decode cX11_cuts 94 = .ok (.isub, 1) := by decide +kernel
theorem dX11_cuts_95 : decode cX11_cuts 95 = .ok (.iastore, 1) := by decide +kernel
theorem dX11_cuts_96 : decode cX11_cuts 96 = .ok (.aload_n 0, 1) := by decide +kernel
theorem dX11_cuts_97 : decode cX11_cuts 97 = .ok (.iconst 0, 1) := by decide +kernel
theorem dX11_cuts_98 : decode cX11_cuts 98 = .ok (.putfield 195, 3) := by decide +kernel
theorem dX11_cuts_101 : decode cX11_cuts 101 = .ok (.return_, 1) := by decide +kernel
theorem dX11_toll_0 : decode cX11_toll 0 = .ok (.aload_n 0, 1) := by decide +kernel
theorem dX11_toll_1 : decode cX11_toll 1 = .ok (.iload_n 1, 1) := by decide +kernel
theorem dX11_toll_2 : decode cX11_toll 2 = .ok (.invokevirtual 262, 3) := by decide +kernel
theorem dX11_toll_5 : decode cX11_toll 5 = .ok (.ifCond .eq 24, 3) := by decide +kernel
theorem dX11_toll_8 : decode cX11_toll 8 = .ok (.iload_n 2, 1) := by decide +kernel
theorem dX11_toll_9 : decode cX11_toll 9 = .ok (.i2l, 1) := by decide +kernel
theorem dX11_toll_10 : decode cX11_toll 10 = .ok (.lconst 1, 1) := by decide +kernel
theorem dX11_toll_11 : decode cX11_toll 11 = .ok (.ldc2_w 385, 3) := by decide +kernel
theorem dX11_toll_14 : decode cX11_toll 14 = .ok (.invokestatic 109, 3) := by decide +kernel
theorem dX11_toll_17 : decode cX11_toll 17 = .ok (.ifCond .eq 12, 3) := by decide +kernel
theorem dX11_toll_20 : decode cX11_toll 20 = .ok (.aload_n 0, 1) := by decide +kernel
theorem dX11_toll_21 : decode cX11_toll 21 = .ok (.iload_n 1, 1) := by decide +kernel
theorem dX11_toll_22 : decode cX11_toll 22 = .ok (.invokevirtual 254, 3) := by decide +kernel
theorem dX11_toll_25 : decode cX11_toll 25 = .ok (.iload_n 2, 1) := by decide +kernel
theorem dX11_toll_26 : decode cX11_toll 26 = .ok (.if_icmp .ne 9, 3) := by decide +kernel
theorem dX11_toll_29 : decode cX11_toll 29 = .ok (.aload_n 0, 1) := by decide +kernel
theorem dX11_toll_30 : decode cX11_toll 30 = .ok (.iconst 2, 1) := by decide +kernel
theorem dX11_toll_31 : decode cX11_toll 31 = .ok (.invokevirtual 103, 3) := by decide +kernel
theorem dX11_toll_34 : decode cX11_toll 34 = .ok (.ireturn, 1) := by decide +kernel
theorem dX11_toll_35 : decode cX11_toll 35 = .ok (.aload_n 0, 1) := by decide +kernel
theorem dX11_toll_36 : decode cX11_toll 36 = .ok (.invokevirtual 379, 3) := by decide +kernel
theorem dX11_toll_39 : decode cX11_toll 39 = .ok (.aload_n 0, 1) := by decide +kernel
theorem dX11_toll_40 : decode cX11_toll 40 = .ok (.getfield 23, 3) := by decide +kernel
theorem dX11_toll_43 : decode cX11_toll 43 = .ok (.sipush 146, 3) := by decide +kernel
theorem dX11_toll_46 : decode cX11_toll 46 = .ok (.iload_n 1, 1) := by decide +kernel
theorem dX11_toll_47 : decode cX11_toll 47 = .ok (.iadd, 1) := by decide +kernel
theorem dX11_toll_48 : decode cX11_toll 48 = .ok (.iload_n 2, 1) := by decide +kernel
theorem dX11_toll_49 : decode cX11_toll 49 = .ok (.iastore, 1) := by decide +kernel
theorem dX11_toll_50 : decode cX11_toll 50 = .ok (.iconst 1, 1) := by decide +kernel
theorem dX11_toll_51 : decode cX11_toll 51 = .ok (.ireturn, 1) := by decide +kernel
theorem dX11_cut_0 : decode cX11_cut 0 = .ok (.aload_n 0, 1) := by decide +kernel
theorem dX11_cut_1 : decode cX11_cut 1 = .ok (.iload_n 1, 1) := by decide +kernel
theorem dX11_cut_2 : decode cX11_cut 2 = .ok (.invokevirtual 262, 3) := by decide +kernel
theorem dX11_cut_5 : decode cX11_cut 5 = .ok (.ifCond .ne 9, 3) := by decide +kernel
theorem dX11_cut_8 : decode cX11_cut 8 = .ok (.aload_n 0, 1) := by decide +kernel
theorem dX11_cut_9 : decode cX11_cut 9 = .ok (.iconst 2, 1) := by decide +kernel
theorem dX11_cut_10 : decode cX11_cut 10 = .ok (.invokevirtual 103, 3) := by decide +kernel
theorem dX11_cut_13 : decode cX11_cut 13 = .ok (.ireturn, 1) := by decide +kernel
theorem dX11_cut_14 : decode cX11_cut 14 = .ok (.aload_n 0, 1) := by decide +kernel
theorem dX11_cut_15 : decode cX11_cut 15 = .ok (.invokevirtual 379, 3) := by decide +kernel
theorem dX11_cut_18 : decode cX11_cut 18 = .ok (.aload_n 0, 1) := by decide +kernel
theorem dX11_cut_19 : decode cX11_cut 19 = .ok (.iload_n 1, 1) := by decide +kernel
theorem dX11_cut_20 : decode cX11_cut 20 = .ok (.invokevirtual 387, 3) := by decide +kernel
theorem dX11_cut_23 : decode cX11_cut 23 = .ok (.iconst 1, 1) := by decide +kernel
theorem dX11_cut_24 : decode cX11_cut 24 = .ok (.ireturn, 1) := by decide +kernel
theorem dX11_canGrow_0 : decode cX11_canGrow 0 = .ok (.aload_n 0, 1) := by decide +kernel
theorem dX11_canGrow_1 : decode cX11_canGrow 1 = .ok (.iload_n 1, 1) := by decide +kernel
theorem dX11_canGrow_2 : decode cX11_canGrow 2 = .ok (.invokevirtual 257, 3) := by decide +kernel
theorem dX11_canGrow_5 : decode cX11_canGrow 5 = .ok (.ifCond .eq 29, 3) := by decide +kernel
theorem dX11_canGrow_8 : decode cX11_canGrow 8 = .ok (.aload_n 0, 1) := by decide +kernel
theorem dX11_canGrow_9 : decode cX11_canGrow 9 = .ok (.getfield 23, 3) := by decide +kernel
theorem dX11_canGrow_12 : decode cX11_canGrow 12 = .ok (.iconst 0, 1) := by decide +kernel
theorem dX11_canGrow_13 : decode cX11_canGrow 13 = .ok (.iaload, 1) := by decide +kernel
theorem dX11_canGrow_14 : decode cX11_canGrow 14 = .ok (.bipush 24, 2) := by decide +kernel
theorem dX11_canGrow_16 : decode cX11_canGrow 16 = .ok (.if_icmp .ge 18, 3) := by decide +kernel
theorem dX11_canGrow_19 : decode cX11_canGrow 19 = .ok (.aload_n 0, 1) := by decide +kernel
theorem dX11_canGrow_20 : decode cX11_canGrow 20 = .ok (.getfield 23, 3) := by decide +kernel
theorem dX11_canGrow_23 : decode cX11_canGrow 23 = .ok (.iconst 1, 1) := by decide +kernel
theorem dX11_canGrow_24 : decode cX11_canGrow 24 = .ok (.iaload, 1) := by decide +kernel
theorem dX11_canGrow_25 : decode cX11_canGrow 25 = .ok (.bipush 60, 2) := by decide +kernel
theorem dX11_canGrow_27 : decode cX11_canGrow 27 = .ok (.if_icmp .ge 7, 3) := by decide +kernel
theorem dX11_canGrow_30 : decode cX11_canGrow 30 = .ok (.iconst 1, 1) := by decide +kernel
theorem dX11_canGrow_31 : decode cX11_canGrow 31 = .ok (.goto 4, 3) := by decide +kernel
theorem dX11_canGrow_34 : decode cX11_canGrow 34 = .ok (.iconst 0, 1) := by decide +kernel
theorem dX11_canGrow_35 : decode cX11_canGrow 35 = .ok (.ireturn, 1) := by decide +kernel
theorem dX11_grows_0 : decode cX11_grows 0 = .ok (.aload_n 0, 1) := by decide +kernel
theorem dX11_grows_1 : decode cX11_grows 1 = .ok (.getfield 23, 3) := by decide +kernel
theorem dX11_grows_4 : decode cX11_grows 4 = .ok (.iconst 2, 1) := by decide +kernel
theorem dX11_grows_5 : decode cX11_grows 5 = .ok (.aload_n 0, 1) := by decide +kernel
theorem dX11_grows_6 : decode cX11_grows 6 = .ok (.getfield 23, 3) := by decide +kernel
theorem dX11_grows_9 : decode cX11_grows 9 = .ok (.iconst 0, 1) := by decide +kernel
theorem dX11_grows_10 : decode cX11_grows 10 = .ok (.iaload, 1) := by decide +kernel
theorem dX11_grows_11 : decode cX11_grows 11 = .ok (.iadd, 1) := by decide +kernel
theorem dX11_grows_12 : decode cX11_grows 12 = .ok (.iconst 0, 1) := by decide +kernel
theorem dX11_grows_13 : decode cX11_grows 13 = .ok (.iastore, 1) := by decide +kernel
theorem dX11_grows_14 : decode cX11_grows 14 = .ok (.aload_n 0, 1) := by decide +kernel
theorem dX11_grows_15 : decode cX11_grows 15 = .ok (.getfield 23, 3) := by decide +kernel
theorem dX11_grows_18 : decode cX11_grows 18 = .ok (.iconst 0, 1) := by decide +kernel
theorem dX11_grows_19 : decode cX11_grows 19 = .ok (.dup2, 1) := by decide +kernel
theorem dX11_grows_20 : decode cX11_grows 20 = .ok (.iaload, 1) := by decide +kernel
theorem dX11_grows_21 : decode cX11_grows 21 = .ok (.iconst 1, 1) := by decide +kernel
theorem dX11_grows_22 : decode cX11_grows 22 = .ok (.iadd, 1) := by decide +kernel
theorem dX11_grows_23 : decode cX11_grows 23 = .ok (.iastore, 1) := by decide +kernel
theorem dX11_grows_24 : decode cX11_grows 24 = .ok (.aload_n 0, 1) := by decide +kernel
theorem dX11_grows_25 : decode cX11_grows 25 = .ok (.iload_n 1, 1) := by decide +kernel
theorem dX11_grows_26 : decode cX11_grows 26 = .ok (.aload_n 0, 1) := by decide +kernel
theorem dX11_grows_27 : decode cX11_grows 27 = .ok (.getfield 23, 3) := by decide +kernel
theorem dX11_grows_30 : decode cX11_grows 30 = .ok (.iconst 0, 1) := by decide +kernel
theorem dX11_grows_31 : decode cX11_grows 31 = .ok (.iaload, 1) := by decide +kernel
theorem dX11_grows_32 : decode cX11_grows 32 = .ok (.iconst 1, 1) := by decide +kernel
theorem dX11_grows_33 : decode cX11_grows 33 = .ok (.isub, 1) := by decide +kernel
theorem dX11_grows_34 : decode cX11_grows 34 = .ok (.invokevirtual 382, 3) := by decide +kernel
theorem dX11_grows_37 : decode cX11_grows 37 = .ok (.return_, 1) := by decide +kernel
theorem dX11_grow_0 : decode cX11_grow 0 = .ok (.aload_n 0, 1) := by decide +kernel
theorem dX11_grow_1 : decode cX11_grow 1 = .ok (.iload_n 1, 1) := by decide +kernel
theorem dX11_grow_2 : decode cX11_grow 2 = .ok (.invokevirtual 390, 3) := by decide +kernel
theorem dX11_grow_5 : decode cX11_grow 5 = .ok (.ifCond .ne 9, 3) := by decide +kernel
theorem dX11_grow_8 : decode cX11_grow 8 = .ok (.aload_n 0, 1) := by decide +kernel
theorem dX11_grow_9 : decode cX11_grow 9 = .ok (.iconst 2, 1) := by decide +kernel
theorem dX11_grow_10 : decode cX11_grow 10 = .ok (.invokevirtual 99, 3) := by decide +kernel
theorem dX11_grow_13 : decode cX11_grow 13 = .ok (.ireturn, 1) := by decide +kernel
theorem dX11_grow_14 : decode cX11_grow 14 = .ok (.aload_n 0, 1) := by decide +kernel
theorem dX11_grow_15 : decode cX11_grow 15 = .ok (.invokevirtual 379, 3) := by decide +kernel
theorem dX11_grow_18 : decode cX11_grow 18 = .ok (.aload_n 0, 1) := by decide +kernel
theorem dX11_grow_19 : decode cX11_grow 19 = .ok (.iload_n 1, 1) := by decide +kernel
theorem dX11_grow_20 : decode cX11_grow 20 = .ok (.invokevirtual 393, 3) := by decide +kernel
theorem dX11_grow_23 : decode cX11_grow 23 = .ok (.aload_n 0, 1) := by decide +kernel
theorem dX11_grow_24 : decode cX11_grow 24 = .ok (.getfield 23, 3) := by decide +kernel
theorem dX11_grow_27 : decode cX11_grow 27 = .ok (.iconst 0, 1) := by decide +kernel
theorem dX11_grow_28 : decode cX11_grow 28 = .ok (.iaload, 1) := by decide +kernel
theorem dX11_grow_29 : decode cX11_grow 29 = .ok (.iconst 1, 1) := by decide +kernel
theorem dX11_grow_30 : decode cX11_grow 30 = .ok (.isub, 1) := by decide +kernel
theorem dX11_grow_31 : decode cX11_grow 31 = .ok (.ireturn, 1) := by decide +kernel
theorem dX11_turns_0 : decode cX11_turns 0 = .ok (.aload_n 0, 1) := by decide +kernel
theorem dX11_turns_1 : decode cX11_turns 1 = .ok (.getfield 26, 3) := by decide +kernel
theorem dX11_turns_4 : decode cX11_turns 4 = .ok (.iconst 0, 1) := by decide +kernel
theorem dX11_turns_5 : decode cX11_turns 5 = .ok (.iload_n 1, 1) := by decide +kernel
theorem dX11_turns_6 : decode cX11_turns 6 = .ok (.iastore, 1) := by decide +kernel
theorem dX11_turns_7 : decode cX11_turns 7 = .ok (.aload_n 0, 1) := by decide +kernel
theorem dX11_turns_8 : decode cX11_turns 8 = .ok (.getfield 26, 3) := by decide +kernel
theorem dX11_turns_11 : decode cX11_turns 11 = .ok (.iconst 1, 1) := by decide +kernel
theorem dX11_turns_12 : decode cX11_turns 12 = .ok (.iconst 0, 1) := by decide +kernel
theorem dX11_turns_13 : decode cX11_turns 13 = .ok (.iastore, 1) := by decide +kernel
theorem dX11_turns_14 : decode cX11_turns 14 = .ok (.iconst 0, 1) := by decide +kernel
theorem dX11_turns_15 : decode cX11_turns 15 = .ok (.istore_n 2, 1) := by decide +kernel
theorem dX11_turns_16 : decode cX11_turns 16 = .ok (.iload_n 2, 1) := by decide +kernel
theorem dX11_turns_17 : decode cX11_turns 17 = .ok (.bipush 24, 2) := by decide +kernel
theorem dX11_turns_19 : decode cX11_turns 19 = .ok (.if_icmp .ge 18, 3) := by decide +kernel
theorem dX11_turns_22 : decode cX11_turns 22 = .ok (.aload_n 0, 1) := by decide +kernel
theorem dX11_turns_23 : decode cX11_turns 23 = .ok (.getfield 26, 3) := by decide +kernel
theorem dX11_turns_26 : decode cX11_turns 26 = .ok (.iconst 2, 1) := by decide +kernel
theorem dX11_turns_27 : decode cX11_turns 27 = .ok (.iload_n 2, 1) := by decide +kernel
theorem dX11_turns_28 : decode cX11_turns 28 = .ok (.iadd, 1) := by decide +kernel
theorem dX11_turns_29 : decode cX11_turns 29 = .ok (.iconst 0, 1) := by decide +kernel
theorem dX11_turns_30 : decode cX11_turns 30 = .ok (.iastore, 1) := by decide +kernel
theorem dX11_turns_31 : decode cX11_turns 31 = .ok (.iinc 2 1, 3) := by decide +kernel
theorem dX11_turns_34 : decode cX11_turns 34 = .ok (.goto (-18), 3) := by decide +kernel
theorem dX11_turns_37 : decode cX11_turns 37 = .ok (.aload_n 0, 1) := by decide +kernel
theorem dX11_turns_38 : decode cX11_turns 38 = .ok (.getfield 23, 3) := by decide +kernel
theorem dX11_turns_41 : decode cX11_turns 41 = .ok (.iconst 0, 1) := by decide +kernel
theorem dX11_turns_42 : decode cX11_turns 42 = .ok (.iaload, 1) := by decide +kernel
theorem dX11_turns_43 : decode cX11_turns 43 = .ok (.iconst 1, 1) := by decide +kernel
theorem dX11_turns_44 : decode cX11_turns 44 = .ok (.isub, 1) := by decide +kernel
theorem dX11_turns_45 : decode cX11_turns 45 = .ok (.istore_n 2, 1) := by decide +kernel
theorem dX11_turns_46 : decode cX11_turns 46 = .ok (.iload_n 2, 1) := by decide +kernel
theorem dX11_turns_47 : decode cX11_turns 47 = .ok (.ifCond .lt 40, 3) := by decide +kernel
theorem dX11_turns_50 : decode cX11_turns 50 = .ok (.aload_n 0, 1) := by decide +kernel
theorem dX11_turns_51 : decode cX11_turns 51 = .ok (.getfield 80, 3) := by decide +kernel
theorem dX11_turns_54 : decode cX11_turns 54 = .ok (.iload_n 2, 1) := by decide +kernel
theorem dX11_turns_55 : decode cX11_turns 55 = .ok (.iaload, 1) := by decide +kernel
theorem dX11_turns_56 : decode cX11_turns 56 = .ok (.iconst (-1), 1) := by decide +kernel
theorem dX11_turns_57 : decode cX11_turns 57 = .ok (.if_icmp .eq 24, 3) := by decide +kernel
theorem dX11_turns_60 : decode cX11_turns 60 = .ok (.aload_n 0, 1) := by decide +kernel
theorem dX11_turns_61 : decode cX11_turns 61 = .ok (.getfield 26, 3) := by decide +kernel
theorem dX11_turns_64 : decode cX11_turns 64 = .ok (.iconst 2, 1) := by decide +kernel
theorem dX11_turns_65 : decode cX11_turns 65 = .ok (.aload_n 0, 1) := by decide +kernel
theorem dX11_turns_66 : decode cX11_turns 66 = .ok (.getfield 80, 3) := by decide +kernel
theorem dX11_turns_69 : decode cX11_turns 69 = .ok (.iload_n 2, 1) := by decide +kernel
theorem dX11_turns_70 : decode cX11_turns 70 = .ok (.iaload, 1) := by decide +kernel
theorem dX11_turns_71 : decode cX11_turns 71 = .ok (.iadd, 1) := by decide +kernel
theorem dX11_turns_72 : decode cX11_turns 72 = .ok (.aload_n 0, 1) := by decide +kernel
theorem dX11_turns_73 : decode cX11_turns 73 = .ok (.getfield 23, 3) := by decide +kernel
theorem dX11_turns_76 : decode cX11_turns 76 = .ok (.iconst 2, 1) := by decide +kernel
theorem dX11_turns_77 : decode cX11_turns 77 = .ok (.iload_n 2, 1) := by decide +kernel
theorem dX11_turns_78 : decode cX11_turns 78 = .ok (.iadd, 1) := by decide +kernel
theorem dX11_turns_79 : decode cX11_turns 79 = .ok (.iaload, 1) := by decide +kernel
theorem dX11_turns_80 : decode cX11_turns 80 = .ok (.iastore, 1) := by decide +kernel
theorem dX11_turns_81 : decode cX11_turns 81 = .ok (.iinc 2 (-1), 3) := by decide +kernel
theorem dX11_turns_84 : decode cX11_turns 84 = .ok (.goto (-38), 3) := by decide +kernel
theorem dX11_turns_87 : decode cX11_turns 87 = .ok (.iconst 0, 1) := by decide +kernel
theorem dX11_turns_88 : decode cX11_turns 88 = .ok (.istore_n 2, 1) := by decide +kernel
theorem dX11_turns_89 : decode cX11_turns 89 = .ok (.iload_n 2, 1) := by decide +kernel
theorem dX11_turns_90 : decode cX11_turns 90 = .ok (.aload_n 0, 1) := by decide +kernel
theorem dX11_turns_91 : decode cX11_turns 91 = .ok (.getfield 23, 3) := by decide +kernel
theorem dX11_turns_94 : decode cX11_turns 94 = .ok (.iconst 1, 1) := by decide +kernel
theorem dX11_turns_95 : decode cX11_turns 95 = .ok (.iaload, 1) := by decide +kernel
theorem dX11_turns_96 : decode cX11_turns 96 = .ok (.if_icmp .ge 78, 3) := by decide +kernel
theorem dX11_turns_99 : decode cX11_turns 99 = .ok (.aload_n 0, 1) := by decide +kernel
theorem dX11_turns_100 : decode cX11_turns 100 = .ok (.getfield 80, 3) := by decide +kernel
theorem dX11_turns_103 : decode cX11_turns 103 = .ok (.aload_n 0, 1) := by decide +kernel
theorem dX11_turns_104 : decode cX11_turns 104 = .ok (.iload_n 2, 1) := by decide +kernel
theorem dX11_turns_105 : decode cX11_turns 105 = .ok (.invokevirtual 208, 3) := by decide +kernel
theorem dX11_turns_108 : decode cX11_turns 108 = .ok (.iaload, 1) := by decide +kernel
theorem dX11_turns_109 : decode cX11_turns 109 = .ok (.istore_n 3, 1) := by decide +kernel
theorem dX11_turns_110 : decode cX11_turns 110 = .ok (.aload_n 0, 1) := by decide +kernel
theorem dX11_turns_111 : decode cX11_turns 111 = .ok (.getfield 80, 3) := by decide +kernel
theorem dX11_turns_114 : decode cX11_turns 114 = .ok (.aload_n 0, 1) := by decide +kernel
theorem dX11_turns_115 : decode cX11_turns 115 = .ok (.iload_n 2, 1) := by decide +kernel
theorem dX11_turns_116 : decode cX11_turns 116 = .ok (.invokevirtual 211, 3) := by decide +kernel
theorem dX11_turns_119 : decode cX11_turns 119 = .ok (.iaload, 1) := by decide +kernel
theorem dX11_turns_120 : decode cX11_turns 120 = .ok (.istore 4, 2) := by decide +kernel
theorem dX11_turns_122 : decode cX11_turns 122 = .ok (.iload_n 3, 1) := by decide +kernel
theorem dX11_turns_123 : decode cX11_turns 123 = .ok (.iconst (-1), 1) := by decide +kernel
theorem dX11_turns_124 : decode cX11_turns 124 = .ok (.if_icmp .eq 44, 3) := by decide +kernel
theorem dX11_turns_127 : decode cX11_turns 127 = .ok (.iload 4, 2) := by decide +kernel
theorem dX11_turns_129 : decode cX11_turns 129 = .ok (.iconst (-1), 1) := by decide +kernel
theorem dX11_turns_130 : decode cX11_turns 130 = .ok (.if_icmp .eq 38, 3) := by decide +kernel
theorem dX11_turns_133 : decode cX11_turns 133 = .ok (.iload_n 3, 1) := by decide +kernel
theorem dX11_turns_134 : decode cX11_turns 134 = .ok (.iload 4, 2) := by decide +kernel
theorem dX11_turns_136 : decode cX11_turns 136 = .ok (.if_icmp .eq 32, 3) := by decide +kernel
theorem dX11_turns_139 : decode cX11_turns 139 = .ok (.aload_n 0, 1) := by decide +kernel
theorem dX11_turns_140 : decode cX11_turns 140 = .ok (.getfield 26, 3) := by decide +kernel
theorem dX11_turns_143 : decode cX11_turns 143 = .ok (.iload_n 3, 1) := by decide +kernel
theorem dX11_turns_144 : decode cX11_turns 144 = .ok (.iload 4, 2) := by decide +kernel
theorem dX11_turns_146 : decode cX11_turns 146 = .ok (.invokestatic 169, 3) := by decide +kernel
theorem dX11_turns_149 : decode cX11_turns 149 = .ok (.iconst (-1), 1) := by decide +kernel
theorem dX11_turns_150 : decode cX11_turns 150 = .ok (.if_icmp .ne 18, 3) := by decide +kernel
theorem dX11_turns_153 : decode cX11_turns 153 = .ok (.aload_n 0, 1) := by decide +kernel
theorem dX11_turns_154 : decode cX11_turns 154 = .ok (.getfield 26, 3) := by decide +kernel
theorem dX11_turns_157 : decode cX11_turns 157 = .ok (.iload_n 3, 1) := by decide +kernel
theorem dX11_turns_158 : decode cX11_turns 158 = .ok (.iload 4, 2) := by decide +kernel
theorem dX11_turns_160 : decode cX11_turns 160 = .ok (.aload_n 0, 1) := by decide +kernel
theorem dX11_turns_161 : decode cX11_turns 161 = .ok (.iload_n 2, 1) := by decide +kernel
theorem dX11_turns_162 : decode cX11_turns 162 = .ok (.invokevirtual 254, 3) := by decide +kernel
theorem dX11_turns_165 : decode cX11_turns 165 = .ok (.invokestatic 173, 3) := by decide +kernel
theorem dX11_turns_168 : decode cX11_turns 168 = .ok (.iinc 2 1, 3) := by decide +kernel
theorem dX11_turns_171 : decode cX11_turns 171 = .ok (.goto (-82), 3) := by decide +kernel
theorem dX11_turns_174 : decode cX11_turns 174 = .ok (.aload_n 0, 1) := by decide +kernel
theorem dX11_turns_175 : decode cX11_turns 175 = .ok (.invokevirtual 396, 3) := by decide +kernel
theorem dX11_turns_178 : decode cX11_turns 178 = .ok (.return_, 1) := by decide +kernel
theorem dX11_drop_0 : decode cX11_drop 0 = .ok (.aload_n 0, 1) := by decide +kernel
theorem dX11_drop_1 : decode cX11_drop 1 = .ok (.iload_n 1, 1) := by decide +kernel
theorem dX11_drop_2 : decode cX11_drop 2 = .ok (.invokevirtual 257, 3) := by decide +kernel
theorem dX11_drop_5 : decode cX11_drop 5 = .ok (.ifCond .eq 13, 3) := by decide +kernel
theorem dX11_drop_8 : decode cX11_drop 8 = .ok (.aload_n 0, 1) := by decide +kernel
theorem dX11_drop_9 : decode cX11_drop 9 = .ok (.getfield 23, 3) := by decide +kernel
theorem dX11_drop_12 : decode cX11_drop 12 = .ok (.iconst 0, 1) := by decide +kernel
theorem dX11_drop_13 : decode cX11_drop 13 = .ok (.iaload, 1) := by decide +kernel
theorem dX11_drop_14 : decode cX11_drop 14 = .ok (.iconst 1, 1) := by decide +kernel
theorem dX11_drop_15 : decode cX11_drop 15 = .ok (.if_icmp .ne 9, 3) := by decide +kernel
theorem dX11_drop_18 : decode cX11_drop 18 = .ok (.aload_n 0, 1) := by decide +kernel
theorem dX11_drop_19 : decode cX11_drop 19 = .ok (.iconst 2, 1) := by decide +kernel
theorem dX11_drop_20 : decode cX11_drop 20 = .ok (.invokevirtual 103, 3) := by decide +kernel
theorem dX11_drop_23 : decode cX11_drop 23 = .ok (.ireturn, 1) := by decide +kernel
theorem dX11_drop_24 : decode cX11_drop 24 = .ok (.aload_n 0, 1) := by decide +kernel
theorem dX11_drop_25 : decode cX11_drop 25 = .ok (.invokevirtual 379, 3) := by decide +kernel
theorem dX11_drop_28 : decode cX11_drop 28 = .ok (.iconst 0, 1) := by decide +kernel
theorem dX11_drop_29 : decode cX11_drop 29 = .ok (.istore_n 2, 1) := by decide +kernel
theorem dX11_drop_30 : decode cX11_drop 30 = .ok (.iload_n 2, 1) := by decide +kernel
theorem dX11_drop_31 : decode cX11_drop 31 = .ok (.aload_n 0, 1) := by decide +kernel
theorem dX11_drop_32 : decode cX11_drop 32 = .ok (.getfield 23, 3) := by decide +kernel
theorem dX11_drop_35 : decode cX11_drop 35 = .ok (.iconst 0, 1) := by decide +kernel
theorem dX11_drop_36 : decode cX11_drop 36 = .ok (.iaload, 1) := by decide +kernel
theorem dX11_drop_37 : decode cX11_drop 37 = .ok (.if_icmp .ge 36, 3) := by decide +kernel
theorem dX11_drop_40 : decode cX11_drop 40 = .ok (.aload_n 0, 1) := by decide +kernel
theorem dX11_drop_41 : decode cX11_drop 41 = .ok (.getfield 80, 3) := by decide +kernel
theorem dX11_drop_44 : decode cX11_drop 44 = .ok (.iload_n 2, 1) := by decide +kernel
theorem dX11_drop_45 : decode cX11_drop 45 = .ok (.iload_n 2, 1) := by decide +kernel
theorem dX11_drop_46 : decode cX11_drop 46 = .ok (.iload_n 1, 1) := by decide +kernel
theorem dX11_drop_47 : decode cX11_drop 47 = .ok (.if_icmp .ne 7, 3) := by decide +kernel
theorem dX11_drop_50 : decode cX11_drop 50 = .ok (.iconst (-1), 1) := by decide +kernel
theorem dX11_drop_51 : decode cX11_drop 51 = .ok (.goto 15, 3) := by decide +kernel
theorem dX11_drop_54 : decode cX11_drop 54 = .ok (.iload_n 2, 1) := by decide +kernel
theorem dX11_drop_55 : decode cX11_drop 55 = .ok (.iload_n 1, 1) := by decide +kernel
theorem dX11_drop_56 : decode cX11_drop 56 = .ok (.if_icmp .le 9, 3) := by decide +kernel
theorem dX11_drop_59 : decode cX11_drop 59 = .ok (.iload_n 2, 1) := by decide +kernel
theorem dX11_drop_60 : decode cX11_drop 60 = .ok (.iconst 1, 1) := by decide +kernel
theorem dX11_drop_61 : decode cX11_drop 61 = .ok (.isub, 1) := by decide +kernel
theorem dX11_drop_62 : decode cX11_drop 62 = .ok (.goto 4, 3) := by decide +kernel
theorem dX11_drop_65 : decode cX11_drop 65 = .ok (.iload_n 2, 1) := by decide +kernel
theorem dX11_drop_66 : decode cX11_drop 66 = .ok (.iastore, 1) := by decide +kernel
theorem dX11_drop_67 : decode cX11_drop 67 = .ok (.iinc 2 1, 3) := by decide +kernel
theorem dX11_drop_70 : decode cX11_drop 70 = .ok (.goto (-40), 3) := by decide +kernel
theorem dX11_drop_73 : decode cX11_drop 73 = .ok (.aload_n 0, 1) := by decide +kernel
theorem dX11_drop_74 : decode cX11_drop 74 = .ok (.aload_n 0, 1) := by decide +kernel
theorem dX11_drop_75 : decode cX11_drop 75 = .ok (.getfield 23, 3) := by decide +kernel
theorem dX11_drop_78 : decode cX11_drop 78 = .ok (.iconst 0, 1) := by decide +kernel
theorem dX11_drop_79 : decode cX11_drop 79 = .ok (.iaload, 1) := by decide +kernel
theorem dX11_drop_80 : decode cX11_drop 80 = .ok (.iconst 1, 1) := by decide +kernel
theorem dX11_drop_81 : decode cX11_drop 81 = .ok (.isub, 1) := by decide +kernel
theorem dX11_drop_82 : decode cX11_drop 82 = .ok (.invokevirtual 399, 3) := by decide +kernel
theorem dX11_drop_85 : decode cX11_drop 85 = .ok (.iconst 1, 1) := by decide +kernel
theorem dX11_drop_86 : decode cX11_drop 86 = .ok (.ireturn, 1) := by decide +kernel
theorem dX11_presses_0 : decode cX11_presses 0 = .ok (.aload_n 0, 1) := by decide +kernel
theorem dX11_presses_1 : decode cX11_presses 1 = .ok (.getfield 23, 3) := by decide +kernel
theorem dX11_presses_4 : decode cX11_presses 4 = .ok (.iconst 0, 1) := by decide +kernel
theorem dX11_presses_5 : decode cX11_presses 5 = .ok (.iaload, 1) := by decide +kernel
theorem dX11_presses_6 : decode cX11_presses 6 = .ok (.istore_n 2, 1) := by decide +kernel
theorem dX11_presses_7 : decode cX11_presses 7 = .ok (.iconst 0, 1) := by decide +kernel
theorem dX11_presses_8 : decode cX11_presses 8 = .ok (.istore_n 3, 1) := by decide +kernel
theorem dX11_presses_9 : decode cX11_presses 9 = .ok (.iload_n 3, 1) := by decide +kernel
theorem dX11_presses_10 : decode cX11_presses 10 = .ok (.iload_n 2, 1) := by decide +kernel
theorem dX11_presses_11 : decode cX11_presses 11 = .ok (.if_icmp .ge 16, 3) := by decide +kernel
theorem dX11_presses_14 : decode cX11_presses 14 = .ok (.aload_n 0, 1) := by decide +kernel
theorem dX11_presses_15 : decode cX11_presses 15 = .ok (.getfield 83, 3) := by decide +kernel
theorem dX11_presses_18 : decode cX11_presses 18 = .ok (.iload_n 3, 1) := by decide +kernel
theorem dX11_presses_19 : decode cX11_presses 19 = .ok (.iload_n 3, 1) := by decide +kernel
theorem dX11_presses_20 : decode cX11_presses 20 = .ok (.iastore, 1) := by decide +kernel
theorem dX11_presses_21 : decode cX11_presses 21 = .ok (.iinc 3 1, 3) := by decide +kernel
theorem dX11_presses_24 : decode cX11_presses 24 = .ok (.goto (-15), 3) := by decide +kernel
theorem dX11_presses_27 : decode cX11_presses 27 = .ok (.iconst 1, 1) := by decide +kernel
theorem dX11_presses_28 : decode cX11_presses 28 = .ok (.istore_n 3, 1) := by decide +kernel
theorem dX11_presses_29 : decode cX11_presses 29 = .ok (.iload_n 3, 1) := by decide +kernel
theorem dX11_presses_30 : decode cX11_presses 30 = .ok (.ifCond .eq 142, 3) := by decide +kernel
theorem dX11_presses_33 : decode cX11_presses 33 = .ok (.iconst 0, 1) := by decide +kernel
theorem dX11_presses_34 : decode cX11_presses 34 = .ok (.istore_n 3, 1) := by decide +kernel
theorem dX11_presses_35 : decode cX11_presses 35 = .ok (.iconst 0, 1) := by decide +kernel
theorem dX11_presses_36 : decode cX11_presses 36 = .ok (.istore 4, 2) := by decide +kernel
theorem dX11_presses_38 : decode cX11_presses 38 = .ok (.iload 4, 2) := by decide +kernel
theorem dX11_presses_40 : decode cX11_presses 40 = .ok (.aload_n 0, 1) := by decide +kernel
theorem dX11_presses_41 : decode cX11_presses 41 = .ok (.getfield 23, 3) := by decide +kernel
theorem dX11_presses_44 : decode cX11_presses 44 = .ok (.iconst 1, 1) := by decide +kernel
theorem dX11_presses_45 : decode cX11_presses 45 = .ok (.iaload, 1) := by decide +kernel
theorem dX11_presses_46 : decode cX11_presses 46 = .ok (.if_icmp .ge 123, 3) := by decide +kernel
theorem dX11_presses_49 : decode cX11_presses 49 = .ok (.aload_n 0, 1) := by decide +kernel
theorem dX11_presses_50 : decode cX11_presses 50 = .ok (.getfield 32, 3) := by decide +kernel
theorem dX11_presses_53 : decode cX11_presses 53 = .ok (.iload 4, 2) := by decide +kernel
theorem dX11_presses_55 : decode cX11_presses 55 = .ok (.iaload, 1) := by decide +kernel
theorem dX11_presses_56 : decode cX11_presses 56 = .ok (.iload_n 1, 1) := by decide +kernel
theorem dX11_presses_57 : decode cX11_presses 57 = .ok (.if_icmp .ne 106, 3) := by decide +kernel
theorem dX11_presses_60 : decode cX11_presses 60 = .ok (.aload_n 0, 1) := by decide +kernel
theorem dX11_presses_61 : decode cX11_presses 61 = .ok (.getfield 83, 3) := by decide +kernel
theorem dX11_presses_64 : decode cX11_presses 64 = .ok (.aload_n 0, 1) := by decide +kernel
theorem dX11_presses_65 : decode cX11_presses 65 = .ok (.iload 4, 2) := by decide +kernel
theorem dX11_presses_67 : decode cX11_presses 67 = .ok (.invokevirtual 208, 3) := by decide +kernel
theorem dX11_presses_70 : decode cX11_presses 70 = .ok (.iaload, 1) := by decide +kernel
theorem dX11_presses_71 : decode cX11_presses 71 = .ok (.aload_n 0, 1) := by decide +kernel
theorem dX11_presses_72 : decode cX11_presses 72 = .ok (.getfield 83, 3) := by decide +kernel
theorem dX11_presses_75 : decode cX11_presses 75 = .ok (.aload_n 0, 1) := by decide +kernel
theorem dX11_presses_76 : decode cX11_presses 76 = .ok (.iload 4, 2) := by decide +kernel
theorem dX11_presses_78 : decode cX11_presses 78 = .ok (.invokevirtual 211, 3) := by decide +kernel
theorem dX11_presses_81 : decode cX11_presses 81 = .ok (.iaload, 1) := by decide +kernel
theorem dX11_presses_82 : decode cX11_presses 82 = .ok (.if_icmp .eq 81, 3) := by decide +kernel
theorem dX11_presses_85 : decode cX11_presses 85 = .ok (.aload_n 0, 1) := by decide +kernel
theorem dX11_presses_86 : decode cX11_presses 86 = .ok (.getfield 83, 3) := by decide +kernel
theorem dX11_presses_89 : decode cX11_presses 89 = .ok (.aload_n 0, 1) := by decide +kernel
theorem dX11_presses_90 : decode cX11_presses 90 = .ok (.iload 4, 2) := by decide +kernel
theorem dX11_presses_92 : decode cX11_presses 92 = .ok (.invokevirtual 208, 3) := by decide +kernel
theorem dX11_presses_95 : decode cX11_presses 95 = .ok (.iaload, 1) := by decide +kernel
theorem dX11_presses_96 : decode cX11_presses 96 = .ok (.istore 5, 2) := by decide +kernel
theorem dX11_presses_98 : decode cX11_presses 98 = .ok (.aload_n 0, 1) := by decide +kernel
theorem dX11_presses_99 : decode cX11_presses 99 = .ok (.getfield 83, 3) := by decide +kernel
theorem dX11_presses_102 : decode cX11_presses 102 = .ok (.aload_n 0, 1) := by decide +kernel
theorem dX11_presses_103 : decode cX11_presses 103 = .ok (.iload 4, 2) := by decide +kernel
theorem dX11_presses_105 : decode cX11_presses 105 = .ok (.invokevirtual 211, 3) := by decide +kernel
theorem dX11_presses_108 : decode cX11_presses 108 = .ok (.iaload, 1) := by decide +kernel
theorem dX11_presses_109 : decode cX11_presses 109 = .ok (.istore 6, 2) := by decide +kernel
theorem dX11_presses_111 : decode cX11_presses 111 = .ok (.aload_n 0, 1) := by decide +kernel
theorem dX11_presses_112 : decode cX11_presses 112 = .ok (.getfield 83, 3) := by decide +kernel
theorem dX11_presses_115 : decode cX11_presses 115 = .ok (.aload_n 0, 1) := by decide +kernel
theorem dX11_presses_116 : decode cX11_presses 116 = .ok (.iload 4, 2) := by decide +kernel
theorem dX11_presses_118 : decode cX11_presses 118 = .ok (.invokevirtual 208, 3) := by decide +kernel
theorem dX11_presses_121 : decode cX11_presses 121 = .ok (.iload 5, 2) := by decide +kernel
theorem dX11_presses_123 : decode cX11_presses 123 = .ok (.iload 6, 2) := by decide +kernel
theorem dX11_presses_125 : decode cX11_presses 125 = .ok (.if_icmp .ge 8, 3) := by decide +kernel
theorem dX11_presses_128 : decode cX11_presses 128 = .ok (.iload 5, 2) := by decide +kernel
theorem dX11_presses_130 : decode cX11_presses 130 = .ok (.goto 5, 3) := by decide +kernel
theorem dX11_presses_133 : decode cX11_presses 133 = .ok (.iload 6, 2) := by decide +kernel
theorem dX11_presses_135 : decode cX11_presses 135 = .ok (.iastore, 1) := by decide +kernel
theorem dX11_presses_136 : decode cX11_presses 136 = .ok (.aload_n 0, 1) := by decide +kernel
theorem dX11_presses_137 : decode cX11_presses 137 = .ok (.getfield 83, 3) := by decide +kernel
theorem dX11_presses_140 : decode cX11_presses 140 = .ok (.aload_n 0, 1) := by decide +kernel
theorem dX11_presses_141 : decode cX11_presses 141 = .ok (.iload 4, 2) := by decide +kernel
theorem dX11_presses_143 : decode cX11_presses 143 = .ok (.invokevirtual 211, 3) := by decide +kernel
theorem dX11_presses_146 : decode cX11_presses 146 = .ok (.iload 5, 2) := by decide +kernel
theorem dX11_presses_148 : decode cX11_presses 148 = .ok (.iload 6, 2) := by decide +kernel
theorem dX11_presses_150 : decode cX11_presses 150 = .ok (.if_icmp .ge 8, 3) := by decide +kernel
theorem dX11_presses_153 : decode cX11_presses 153 = .ok (.iload 5, 2) := by decide +kernel
theorem dX11_presses_155 : decode cX11_presses 155 = .ok (.goto 5, 3) := by decide +kernel
theorem dX11_presses_158 : decode cX11_presses 158 = .ok (.iload 6, 2) := by decide +kernel
theorem dX11_presses_160 : decode cX11_presses 160 = .ok (.iastore, 1) := by decide +kernel
theorem dX11_presses_161 : decode cX11_presses 161 = .ok (.iconst 1, 1) := by decide +kernel
theorem dX11_presses_162 : decode cX11_presses 162 = .ok (.istore_n 3, 1) := by decide +kernel
theorem dX11_presses_163 : decode cX11_presses 163 = .ok (.iinc 4 1, 3) := by decide +kernel
theorem dX11_presses_166 : decode cX11_presses 166 = .ok (.goto (-128), 3) := by decide +kernel
theorem dX11_presses_169 : decode cX11_presses 169 = .ok (.goto (-140), 3) := by decide +kernel
theorem dX11_presses_172 : decode cX11_presses 172 = .ok (.iconst 0, 1) := by decide +kernel
theorem dX11_presses_173 : decode cX11_presses 173 = .ok (.istore 4, 2) := by decide +kernel
theorem dX11_presses_175 : decode cX11_presses 175 = .ok (.iconst 0, 1) := by decide +kernel
theorem dX11_presses_176 : decode cX11_presses 176 = .ok (.istore 5, 2) := by decide +kernel
theorem dX11_presses_178 : decode cX11_presses 178 = .ok (.iload 5, 2) := by decide +kernel
theorem dX11_presses_180 : decode cX11_presses 180 = .ok (.iload_n 2, 1) := by decide +kernel
theorem dX11_presses_181 : decode cX11_presses 181 = .ok (.if_icmp .ge 70, 3) := by decide +kernel
theorem dX11_presses_184 : decode cX11_presses 184 = .ok (.aload_n 0, 1) := by decide +kernel
theorem dX11_presses_185 : decode cX11_presses 185 = .ok (.getfield 80, 3) := by decide +kernel
theorem dX11_presses_188 : decode cX11_presses 188 = .ok (.iload 5, 2) := by decide +kernel
theorem dX11_presses_190 : decode cX11_presses 190 = .ok (.aload_n 0, 1) := by decide +kernel
theorem dX11_presses_191 : decode cX11_presses 191 = .ok (.getfield 83, 3) := by decide +kernel
theorem dX11_presses_194 : decode cX11_presses 194 = .ok (.iload 5, 2) := by decide +kernel
theorem dX11_presses_196 : decode cX11_presses 196 = .ok (.iaload, 1) := by decide +kernel
theorem dX11_presses_197 : decode cX11_presses 197 = .ok (.iload 5, 2) := by decide +kernel
theorem dX11_presses_199 : decode cX11_presses 199 = .ok (.if_icmp .ne 8, 3) := by decide +kernel
theorem dX11_presses_202 : decode cX11_presses 202 = .ok (.iload 4, 2) := by decide +kernel
theorem dX11_presses_204 : decode cX11_presses 204 = .ok (.goto 15, 3) := by decide +kernel
theorem dX11_presses_207 : decode cX11_presses 207 = .ok (.aload_n 0, 1) := by decide +kernel
theorem dX11_presses_208 : decode cX11_presses 208 = .ok (.getfield 80, 3) := by decide +kernel
theorem dX11_presses_211 : decode cX11_presses 211 = .ok (.aload_n 0, 1) := by decide +kernel
theorem dX11_presses_212 : decode cX11_presses 212 = .ok (.getfield 83, 3) := by decide +kernel
theorem dX11_presses_215 : decode cX11_presses 215 = .ok (.iload 5, 2) := by decide +kernel
theorem dX11_presses_217 : decode cX11_presses 217 = .ok (.iaload, 1) := by decide +kernel
theorem dX11_presses_218 : decode cX11_presses 218 = .ok (.iaload, 1) := by decide +kernel
theorem dX11_presses_219 : decode cX11_presses 219 = .ok (.iastore, 1) := by decide +kernel
theorem dX11_presses_220 : decode cX11_presses 220 = .ok (.iload 4, 2) := by decide +kernel
theorem dX11_presses_222 : decode cX11_presses 222 = .ok (.aload_n 0, 1) := by decide +kernel
theorem dX11_presses_223 : decode cX11_presses 223 = .ok (.getfield 83, 3) := by decide +kernel
theorem dX11_presses_226 : decode cX11_presses 226 = .ok (.iload 5, 2) := by decide +kernel
theorem dX11_presses_228 : decode cX11_presses 228 = .ok (.iaload, 1) := by decide +kernel
theorem dX11_presses_229 : decode cX11_presses 229 = .ok (.iload 5, 2) := by decide +kernel
theorem dX11_presses_231 : decode cX11_presses 231 = .ok (.if_icmp .ne 7, 3) := by decide +kernel
theorem dX11_presses_234 : decode cX11_presses 234 = .ok (.iconst 1, 1) := by decide +kernel
theorem dX11_presses_235 : decode cX11_presses 235 = .ok (.goto 4, 3) := by decide +kernel
theorem dX11_presses_238 : decode cX11_presses 238 = .ok (.iconst 0, 1) := by decide +kernel
theorem dX11_presses_239 : decode cX11_presses 239 = .ok (.invokestatic 250, 3) := by decide +kernel
theorem dX11_presses_242 : decode cX11_presses 242 = .ok (.iadd, 1) := by decide +kernel
theorem dX11_presses_243 : decode cX11_presses 243 = .ok (.istore 4, 2) := by decide +kernel
theorem dX11_presses_245 : decode cX11_presses 245 = .ok (.iinc 5 1, 3) := by decide +kernel
theorem dX11_presses_248 : decode cX11_presses 248 = .ok (.goto (-70), 3) := by decide +kernel
theorem dX11_presses_251 : decode cX11_presses 251 = .ok (.aload_n 0, 1) := by decide +kernel
theorem dX11_presses_252 : decode cX11_presses 252 = .ok (.iload 4, 2) := by decide +kernel
theorem dX11_presses_254 : decode cX11_presses 254 = .ok (.invokevirtual 399, 3) := by decide +kernel
theorem dX11_presses_257 : decode cX11_presses 257 = .ok (.return_, 1) := by decide +kernel
theorem dX11_press_0 : decode cX11_press 0 = .ok (.aload_n 0, 1) := by decide +kernel
theorem dX11_press_1 : decode cX11_press 1 = .ok (.invokevirtual 244, 3) := by decide +kernel
theorem dX11_press_4 : decode cX11_press 4 = .ok (.iload_n 1, 1) := by decide +kernel
theorem dX11_press_5 : decode cX11_press 5 = .ok (.i2l, 1) := by decide +kernel
theorem dX11_press_6 : decode cX11_press 6 = .ok (.lconst 0, 1) := by decide +kernel
theorem dX11_press_7 : decode cX11_press 7 = .ok (.aload_n 0, 1) := by decide +kernel
theorem dX11_press_8 : decode cX11_press 8 = .ok (.getfield 222, 3) := by decide +kernel
theorem dX11_press_11 : decode cX11_press 11 = .ok (.iconst 1, 1) := by decide +kernel
theorem dX11_press_12 : decode cX11_press 12 = .ok (.isub, 1) := by decide +kernel
theorem dX11_press_13 : decode cX11_press 13 = .ok (.i2l, 1) := by decide +kernel
theorem dX11_press_14 : decode cX11_press 14 = .ok (.invokestatic 109, 3) := by decide +kernel
theorem dX11_press_17 : decode cX11_press 17 = .ok (.ifCond .ne 9, 3) := by decide +kernel
theorem dX11_press_20 : decode cX11_press 20 = .ok (.aload_n 0, 1) := by decide +kernel
theorem dX11_press_21 : decode cX11_press 21 = .ok (.iconst 3, 1) := by decide +kernel
theorem dX11_press_22 : decode cX11_press 22 = .ok (.invokevirtual 99, 3) := by decide +kernel
theorem dX11_press_25 : decode cX11_press 25 = .ok (.ireturn, 1) := by decide +kernel
theorem dX11_press_26 : decode cX11_press 26 = .ok (.aload_n 0, 1) := by decide +kernel
theorem dX11_press_27 : decode cX11_press 27 = .ok (.invokevirtual 379, 3) := by decide +kernel
theorem dX11_press_30 : decode cX11_press 30 = .ok (.aload_n 0, 1) := by decide +kernel
theorem dX11_press_31 : decode cX11_press 31 = .ok (.iload_n 1, 1) := by decide +kernel
theorem dX11_press_32 : decode cX11_press 32 = .ok (.invokevirtual 402, 3) := by decide +kernel
theorem dX11_press_35 : decode cX11_press 35 = .ok (.aload_n 0, 1) := by decide +kernel
theorem dX11_press_36 : decode cX11_press 36 = .ok (.getfield 23, 3) := by decide +kernel
theorem dX11_press_39 : decode cX11_press 39 = .ok (.iconst 0, 1) := by decide +kernel
theorem dX11_press_40 : decode cX11_press 40 = .ok (.iaload, 1) := by decide +kernel
theorem dX11_press_41 : decode cX11_press 41 = .ok (.ireturn, 1) := by decide +kernel
theorem dX11_linesIn_0 : decode cX11_linesIn 0 = .ok (.iconst 0, 1) := by decide +kernel
theorem dX11_linesIn_1 : decode cX11_linesIn 1 = .ok (.istore_n 2, 1) := by decide +kernel
theorem dX11_linesIn_2 : decode cX11_linesIn 2 = .ok (.iconst 0, 1) := by decide +kernel
theorem dX11_linesIn_3 : decode cX11_linesIn 3 = .ok (.istore_n 3, 1) := by decide +kernel
theorem dX11_linesIn_4 : decode cX11_linesIn 4 = .ok (.iload_n 3, 1) := by decide +kernel
theorem dX11_linesIn_5 : decode cX11_linesIn 5 = .ok (.aload_n 0, 1) := by decide +kernel
theorem dX11_linesIn_6 : decode cX11_linesIn 6 = .ok (.getfield 23, 3) := by decide +kernel
theorem dX11_linesIn_9 : decode cX11_linesIn 9 = .ok (.iconst 1, 1) := by decide +kernel
theorem dX11_linesIn_10 : decode cX11_linesIn 10 = .ok (.iaload, 1) := by decide +kernel
theorem dX11_linesIn_11 : decode cX11_linesIn 11 = .ok (.if_icmp .ge 44, 3) := by decide +kernel
theorem dX11_linesIn_14 : decode cX11_linesIn 14 = .ok (.iload_n 2, 1) := by decide +kernel
theorem dX11_linesIn_15 : decode cX11_linesIn 15 = .ok (.iload_n 1, 1) := by decide +kernel
theorem dX11_linesIn_16 : decode cX11_linesIn 16 = .ok (.aload_n 0, 1) := by decide +kernel
theorem dX11_linesIn_17 : decode cX11_linesIn 17 = .ok (.iload_n 3, 1) := by decide +kernel
theorem dX11_linesIn_18 : decode cX11_linesIn 18 = .ok (.invokevirtual 208, 3) := by decide +kernel
theorem dX11_linesIn_21 : decode cX11_linesIn 21 = .ok (.invokestatic 281, 3) := by decide +kernel
theorem dX11_linesIn_24 : decode cX11_linesIn 24 = .ok (.ifCond .eq 19, 3) := by decide +kernel
theorem dX11_linesIn_27 : decode cX11_linesIn 27 = .ok (.iload_n 1, 1) := by decide +kernel
theorem dX11_linesIn_28 : decode cX11_linesIn 28 = .ok (.aload_n 0, 1) := by decide +kernel
theorem dX11_linesIn_29 : decode cX11_linesIn 29 = .ok (.iload_n 3, 1) := by decide +kernel
theorem dX11_linesIn_30 : decode cX11_linesIn 30 = .ok (.invokevirtual 211, 3) := by decide +kernel
theorem dX11_linesIn_33 : decode cX11_linesIn 33 = .ok (.invokestatic 281, 3) := by decide +kernel
theorem dX11_linesIn_36 : decode cX11_linesIn 36 = .ok (.ifCond .eq 7, 3) := by decide +kernel
theorem dX11_linesIn_39 : decode cX11_linesIn 39 = .ok (.iconst 1, 1) := by decide +kernel
theorem dX11_linesIn_40 : decode cX11_linesIn 40 = .ok (.goto 4, 3) := by decide +kernel
theorem dX11_linesIn_43 : decode cX11_linesIn 43 = .ok (.iconst 0, 1) := by decide +kernel
theorem dX11_linesIn_44 : decode cX11_linesIn 44 = .ok (.invokestatic 250, 3) := by decide +kernel
theorem dX11_linesIn_47 : decode cX11_linesIn 47 = .ok (.iadd, 1) := by decide +kernel
theorem dX11_linesIn_48 : decode cX11_linesIn 48 = .ok (.istore_n 2, 1) := by decide +kernel
theorem dX11_linesIn_49 : decode cX11_linesIn 49 = .ok (.iinc 3 1, 3) := by decide +kernel
theorem dX11_linesIn_52 : decode cX11_linesIn 52 = .ok (.goto (-48), 3) := by decide +kernel
theorem dX11_linesIn_55 : decode cX11_linesIn 55 = .ok (.iload_n 2, 1) := by decide +kernel
theorem dX11_linesIn_56 : decode cX11_linesIn 56 = .ok (.ireturn, 1) := by decide +kernel
theorem dX11_areApart_0 : decode cX11_areApart 0 = .ok (.iconst 0, 1) := by decide +kernel
theorem dX11_areApart_1 : decode cX11_areApart 1 = .ok (.istore_n 3, 1) := by decide +kernel
theorem dX11_areApart_2 : decode cX11_areApart 2 = .ok (.iload_n 3, 1) := by decide +kernel
theorem dX11_areApart_3 : decode cX11_areApart 3 = .ok (.aload_n 0, 1) := by decide +kernel
theorem dX11_areApart_4 : decode cX11_areApart 4 = .ok (.getfield 23, 3) := by decide +kernel
theorem dX11_areApart_7 : decode cX11_areApart 7 = .ok (.iconst 1, 1) := by decide +kernel
theorem dX11_areApart_8 : decode cX11_areApart 8 = .ok (.iaload, 1) := by decide +kernel
theorem dX11_areApart_9 : decode cX11_areApart 9 = .ok (.if_icmp .ge 59, 3) := by decide +kernel
theorem dX11_areApart_12 : decode cX11_areApart 12 = .ok (.iload_n 1, 1) := by decide +kernel
theorem dX11_areApart_13 : decode cX11_areApart 13 = .ok (.aload_n 0, 1) := by decide +kernel
theorem dX11_areApart_14 : decode cX11_areApart 14 = .ok (.iload_n 3, 1) := by decide +kernel
theorem dX11_areApart_15 : decode cX11_areApart 15 = .ok (.invokevirtual 208, 3) := by decide +kernel
theorem dX11_areApart_18 : decode cX11_areApart 18 = .ok (.invokestatic 281, 3) := by decide +kernel
theorem dX11_areApart_21 : decode cX11_areApart 21 = .ok (.ifCond .eq 15, 3) := by decide +kernel
theorem dX11_areApart_24 : decode cX11_areApart 24 = .ok (.iload_n 2, 1) := by decide +kernel
theorem dX11_areApart_25 : decode cX11_areApart 25 = .ok (.aload_n 0, 1) := by decide +kernel
theorem dX11_areApart_26 : decode cX11_areApart 26 = .ok (.iload_n 3, 1) := by decide +kernel
theorem dX11_areApart_27 : decode cX11_areApart 27 = .ok (.invokevirtual 211, 3) := by decide +kernel
theorem dX11_areApart_30 : decode cX11_areApart 30 = .ok (.invokestatic 281, 3) := by decide +kernel
theorem dX11_areApart_33 : decode cX11_areApart 33 = .ok (.ifCond .ne 27, 3) := by decide +kernel
theorem dX11_areApart_36 : decode cX11_areApart 36 = .ok (.iload_n 2, 1) := by decide +kernel
theorem dX11_areApart_37 : decode cX11_areApart 37 = .ok (.aload_n 0, 1) := by decide +kernel
theorem dX11_areApart_38 : decode cX11_areApart 38 = .ok (.iload_n 3, 1) := by decide +kernel
theorem dX11_areApart_39 : decode cX11_areApart 39 = .ok (.invokevirtual 208, 3) := by decide +kernel
theorem dX11_areApart_42 : decode cX11_areApart 42 = .ok (.invokestatic 281, 3) := by decide +kernel
theorem dX11_areApart_45 : decode cX11_areApart 45 = .ok (.ifCond .eq 17, 3) := by decide +kernel
theorem dX11_areApart_48 : decode cX11_areApart 48 = .ok (.iload_n 1, 1) := by decide +kernel
theorem dX11_areApart_49 : decode cX11_areApart 49 = .ok (.aload_n 0, 1) := by decide +kernel
theorem dX11_areApart_50 : decode cX11_areApart 50 = .ok (.iload_n 3, 1) := by decide +kernel
theorem dX11_areApart_51 : decode cX11_areApart 51 = .ok (.invokevirtual 211, 3) := by decide +kernel
theorem dX11_areApart_54 : decode cX11_areApart 54 = .ok (.invokestatic 281, 3) := by decide +kernel
theorem dX11_areApart_57 : decode cX11_areApart 57 = .ok (.ifCond .eq 5, 3) := by decide +kernel
theorem dX11_areApart_60 : decode cX11_areApart 60 = .ok (.iconst 0, 1) := by decide +kernel
theorem dX11_areApart_61 : decode cX11_areApart 61 = .ok (.ireturn, 1) := by decide +kernel
theorem dX11_areApart_62 : decode cX11_areApart 62 = .ok (.iinc 3 1, 3) := by decide +kernel
theorem dX11_areApart_65 : decode cX11_areApart 65 = .ok (.goto (-63), 3) := by decide +kernel
theorem dX11_areApart_68 : decode cX11_areApart 68 = .ok (.iconst 1, 1) := by decide +kernel
theorem dX11_areApart_69 : decode cX11_areApart 69 = .ok (.ireturn, 1) := by decide +kernel
theorem dX11_canOpen_0 : decode cX11_canOpen 0 = .ok (.iload_n 1, 1) := by decide +kernel
theorem dX11_canOpen_1 : decode cX11_canOpen 1 = .ok (.iload_n 2, 1) := by decide +kernel
theorem dX11_canOpen_2 : decode cX11_canOpen 2 = .ok (.iand, 1) := by decide +kernel
theorem dX11_canOpen_3 : decode cX11_canOpen 3 = .ok (.istore_n 3, 1) := by decide +kernel
theorem dX11_canOpen_4 : decode cX11_canOpen 4 = .ok (.iload_n 1, 1) := by decide +kernel
theorem dX11_canOpen_5 : decode cX11_canOpen 5 = .ok (.ifCond .lt 38, 3) := by decide +kernel
theorem dX11_canOpen_8 : decode cX11_canOpen 8 = .ok (.iload_n 2, 1) := by decide +kernel
theorem dX11_canOpen_9 : decode cX11_canOpen 9 = .ok (.ifCond .lt 34, 3) := by decide +kernel
theorem dX11_canOpen_12 : decode cX11_canOpen 12 = .ok (.iload_n 1, 1) := by decide +kernel
theorem dX11_canOpen_13 : decode cX11_canOpen 13 = .ok (.iload_n 2, 1) := by decide +kernel
theorem dX11_canOpen_14 : decode cX11_canOpen 14 = .ok (.ior, 1) := by decide +kernel
theorem dX11_canOpen_15 : decode cX11_canOpen 15 = .ok (.aload_n 0, 1) := by decide +kernel
theorem dX11_canOpen_16 : decode cX11_canOpen 16 = .ok (.invokevirtual 317, 3) := by decide +kernel
theorem dX11_canOpen_19 : decode cX11_canOpen 19 = .ok (.if_icmp .ne 24, 3) := by decide +kernel
theorem dX11_canOpen_22 : decode cX11_canOpen 22 = .ok (.iload_n 3, 1) := by decide +kernel
theorem dX11_canOpen_23 : decode cX11_canOpen 23 = .ok (.ifCond .eq 20, 3) := by decide +kernel
theorem dX11_canOpen_26 : decode cX11_canOpen 26 = .ok (.aload_n 0, 1) := by decide +kernel
theorem dX11_canOpen_27 : decode cX11_canOpen 27 = .ok (.iload_n 1, 1) := by decide +kernel
theorem dX11_canOpen_28 : decode cX11_canOpen 28 = .ok (.iload_n 2, 1) := by decide +kernel
theorem dX11_canOpen_29 : decode cX11_canOpen 29 = .ok (.iconst (-1), 1) := by decide +kernel
theorem dX11_canOpen_30 : decode cX11_canOpen 30 = .ok (.ixor, 1) := by decide +kernel
theorem dX11_canOpen_31 : decode cX11_canOpen 31 = .ok (.iand, 1) := by decide +kernel
theorem dX11_canOpen_32 : decode cX11_canOpen 32 = .ok (.iload_n 2, 1) := by decide +kernel
theorem dX11_canOpen_33 : decode cX11_canOpen 33 = .ok (.iload_n 1, 1) := by decide +kernel
theorem dX11_canOpen_34 : decode cX11_canOpen 34 = .ok (.iconst (-1), 1) := by decide +kernel
theorem dX11_canOpen_35 : decode cX11_canOpen 35 = .ok (.ixor, 1) := by decide +kernel
theorem dX11_canOpen_36 : decode cX11_canOpen 36 = .ok (.iand, 1) := by decide +kernel
theorem dX11_canOpen_37 : decode cX11_canOpen 37 = .ok (.invokevirtual 405, 3) := by decide +kernel
theorem dX11_canOpen_40 : decode cX11_canOpen 40 = .ok (.ifCond .ne 5, 3) := by decide +kernel
theorem dX11_canOpen_43 : decode cX11_canOpen 43 = .ok (.iconst 0, 1) := by decide +kernel
theorem dX11_canOpen_44 : decode cX11_canOpen 44 = .ok (.ireturn, 1) := by decide +kernel
theorem dX11_canOpen_45 : decode cX11_canOpen 45 = .ok (.aload_n 0, 1) := by decide +kernel
theorem dX11_canOpen_46 : decode cX11_canOpen 46 = .ok (.getfield 23, 3) := by decide +kernel
theorem dX11_canOpen_49 : decode cX11_canOpen 49 = .ok (.iconst 0, 1) := by decide +kernel
theorem dX11_canOpen_50 : decode cX11_canOpen 50 = .ok (.iaload, 1) := by decide +kernel
theorem dX11_canOpen_51 : decode cX11_canOpen 51 = .ok (.iload_n 3, 1) := by decide +kernel
theorem dX11_canOpen_52 : decode cX11_canOpen 52 = .ok (.invokestatic 299, 3) := by decide +kernel
theorem dX11_canOpen_55 : decode cX11_canOpen 55 = .ok (.iadd, 1) := by decide +kernel
theorem dX11_canOpen_56 : decode cX11_canOpen 56 = .ok (.bipush 24, 2) := by decide +kernel
theorem dX11_canOpen_58 : decode cX11_canOpen 58 = .ok (.if_icmp .gt 29, 3) := by decide +kernel
theorem dX11_canOpen_61 : decode cX11_canOpen 61 = .ok (.aload_n 0, 1) := by decide +kernel
theorem dX11_canOpen_62 : decode cX11_canOpen 62 = .ok (.getfield 23, 3) := by decide +kernel
theorem dX11_canOpen_65 : decode cX11_canOpen 65 = .ok (.iconst 1, 1) := by decide +kernel
theorem dX11_canOpen_66 : decode cX11_canOpen 66 = .ok (.iaload, 1) := by decide +kernel
theorem dX11_canOpen_67 : decode cX11_canOpen 67 = .ok (.aload_n 0, 1) := by decide +kernel
theorem dX11_canOpen_68 : decode cX11_canOpen 68 = .ok (.iload_n 3, 1) := by decide +kernel
theorem dX11_canOpen_69 : decode cX11_canOpen 69 = .ok (.invokevirtual 408, 3) := by decide +kernel
theorem dX11_canOpen_72 : decode cX11_canOpen 72 = .ok (.iadd, 1) := by decide +kernel
theorem dX11_canOpen_73 : decode cX11_canOpen 73 = .ok (.iload_n 3, 1) := by decide +kernel
theorem dX11_canOpen_74 : decode cX11_canOpen 74 = .ok (.invokestatic 299, 3) := by decide +kernel
theorem dX11_canOpen_77 : decode cX11_canOpen 77 = .ok (.iadd, 1) := by decide +kernel
theorem dX11_canOpen_78 : decode cX11_canOpen 78 = .ok (.bipush 60, 2) := by decide +kernel
theorem dX11_canOpen_80 : decode cX11_canOpen 80 = .ok (.if_icmp .gt 7, 3) := by decide +kernel
theorem dX11_canOpen_83 : decode cX11_canOpen 83 = .ok (.iconst 1, 1) := by decide +kernel
theorem dX11_canOpen_84 : decode cX11_canOpen 84 = .ok (.goto 4, 3) := by decide +kernel
theorem dX11_canOpen_87 : decode cX11_canOpen 87 = .ok (.iconst 0, 1) := by decide +kernel
theorem dX11_canOpen_88 : decode cX11_canOpen 88 = .ok (.ireturn, 1) := by decide +kernel
theorem dX11_endOf_0 : decode cX11_endOf 0 = .ok (.iload_n 3, 1) := by decide +kernel
theorem dX11_endOf_1 : decode cX11_endOf 1 = .ok (.iload_n 1, 1) := by decide +kernel
theorem dX11_endOf_2 : decode cX11_endOf 2 = .ok (.invokestatic 281, 3) := by decide +kernel
theorem dX11_endOf_5 : decode cX11_endOf 5 = .ok (.ifCond .eq 21, 3) := by decide +kernel
theorem dX11_endOf_8 : decode cX11_endOf 8 = .ok (.iload 4, 2) := by decide +kernel
theorem dX11_endOf_10 : decode cX11_endOf 10 = .ok (.iload_n 2, 1) := by decide +kernel
theorem dX11_endOf_11 : decode cX11_endOf 11 = .ok (.invokestatic 281, 3) := by decide +kernel
theorem dX11_endOf_14 : decode cX11_endOf 14 = .ok (.ifCond .eq 12, 3) := by decide +kernel
theorem dX11_endOf_17 : decode cX11_endOf 17 = .ok (.aload_n 0, 1) := by decide +kernel
theorem dX11_endOf_18 : decode cX11_endOf 18 = .ok (.getfield 86, 3) := by decide +kernel
theorem dX11_endOf_21 : decode cX11_endOf 21 = .ok (.iload_n 1, 1) := by decide +kernel
theorem dX11_endOf_22 : decode cX11_endOf 22 = .ok (.iaload, 1) := by decide +kernel
theorem dX11_endOf_23 : decode cX11_endOf 23 = .ok (.goto 4, 3) := by decide +kernel
theorem dX11_endOf_26 : decode cX11_endOf 26 = .ok (.iload_n 1, 1) := by decide +kernel
theorem dX11_endOf_27 : decode cX11_endOf 27 = .ok (.ireturn, 1) := by decide +kernel
theorem dX11_opens_0 : decode cX11_opens 0 = .ok (.aload_n 0, 1) := by decide +kernel
theorem dX11_opens_1 : decode cX11_opens 1 = .ok (.getfield 23, 3) := by decide +kernel
theorem dX11_opens_4 : decode cX11_opens 4 = .ok (.iconst 0, 1) := by decide +kernel
theorem dX11_opens_5 : decode cX11_opens 5 = .ok (.iaload, 1) := by decide +kernel
theorem dX11_opens_6 : decode cX11_opens 6 = .ok (.istore_n 3, 1) := by decide +kernel
theorem dX11_opens_7 : decode cX11_opens 7 = .ok (.iconst 0, 1) := by decide +kernel
theorem dX11_opens_8 : decode cX11_opens 8 = .ok (.istore 4, 2) := by decide +kernel
theorem dX11_opens_10 : decode cX11_opens 10 = .ok (.iload 4, 2) := by decide +kernel
theorem dX11_opens_12 : decode cX11_opens 12 = .ok (.sipush 206, 3) := by decide +kernel
theorem dX11_opens_15 : decode cX11_opens 15 = .ok (.if_icmp .ge 23, 3) := by decide +kernel
theorem dX11_opens_18 : decode cX11_opens 18 = .ok (.aload_n 0, 1) := by decide +kernel
theorem dX11_opens_19 : decode cX11_opens 19 = .ok (.getfield 26, 3) := by decide +kernel
theorem dX11_opens_22 : decode cX11_opens 22 = .ok (.iload 4, 2) := by decide +kernel
theorem dX11_opens_24 : decode cX11_opens 24 = .ok (.aload_n 0, 1) := by decide +kernel
theorem dX11_opens_25 : decode cX11_opens 25 = .ok (.getfield 23, 3) := by decide +kernel
theorem dX11_opens_28 : decode cX11_opens 28 = .ok (.iload 4, 2) := by decide +kernel
theorem dX11_opens_30 : decode cX11_opens 30 = .ok (.iaload, 1) := by decide +kernel
theorem dX11_opens_31 : decode cX11_opens 31 = .ok (.iastore, 1) := by decide +kernel
theorem dX11_opens_32 : decode cX11_opens 32 = .ok (.iinc 4 1, 3) := by decide +kernel
theorem dX11_opens_35 : decode cX11_opens 35 = .ok (.goto (-25), 3) := by decide +kernel
theorem dX11_opens_38 : decode cX11_opens 38 = .ok (.iconst 0, 1) := by decide +kernel
theorem dX11_opens_39 : decode cX11_opens 39 = .ok (.istore 4, 2) := by decide +kernel
theorem dX11_opens_41 : decode cX11_opens 41 = .ok (.iload 4, 2) := by decide +kernel
theorem dX11_opens_43 : decode cX11_opens 43 = .ok (.aload_n 0, 1) := by decide +kernel
theorem dX11_opens_44 : decode cX11_opens 44 = .ok (.getfield 23, 3) := by decide +kernel
theorem dX11_opens_47 : decode cX11_opens 47 = .ok (.iconst 0, 1) := by decide +kernel
theorem dX11_opens_48 : decode cX11_opens 48 = .ok (.iaload, 1) := by decide +kernel
theorem dX11_opens_49 : decode cX11_opens 49 = .ok (.if_icmp .ge 38, 3) := by decide +kernel
theorem dX11_opens_52 : decode cX11_opens 52 = .ok (.iload_n 1, 1) := by decide +kernel
theorem dX11_opens_53 : decode cX11_opens 53 = .ok (.iload 4, 2) := by decide +kernel
theorem dX11_opens_55 : decode cX11_opens 55 = .ok (.invokestatic 281, 3) := by decide +kernel
theorem dX11_opens_58 : decode cX11_opens 58 = .ok (.ifCond .eq 23, 3) := by decide +kernel
theorem dX11_opens_61 : decode cX11_opens 61 = .ok (.aload_n 0, 1) := by decide +kernel
theorem dX11_opens_62 : decode cX11_opens 62 = .ok (.getfield 86, 3) := by decide +kernel
theorem dX11_opens_65 : decode cX11_opens 65 = .ok (.iload 4, 2) := by decide +kernel
theorem dX11_opens_67 : decode cX11_opens 67 = .ok (.iload_n 3, 1) := by decide +kernel
theorem dX11_opens_68 : decode cX11_opens 68 = .ok (.iastore, 1) := by decide +kernel
theorem dX11_opens_69 : decode cX11_opens 69 = .ok (.aload_n 0, 1) := by decide +kernel
theorem dX11_opens_70 : decode cX11_opens 70 = .ok (.getfield 26, 3) := by decide +kernel
theorem dX11_opens_73 : decode cX11_opens 73 = .ok (.iconst 2, 1) := by decide +kernel
theorem dX11_opens_74 : decode cX11_opens 74 = .ok (.iload_n 3, 1) := by decide +kernel
theorem dX11_opens_75 : decode cX11_opens 75 = .ok (.iadd, 1) := by decide +kernel
theorem dX11_opens_76 : decode cX11_opens 76 = .ok (.iconst 0, 1) := by decide +kernel
theorem dX11_opens_77 : decode cX11_opens 77 = .ok (.iastore, 1) := by decide +kernel
theorem dX11_opens_78 : decode cX11_opens 78 = .ok (.iinc 3 1, 3) := by decide +kernel
theorem dX11_opens_81 : decode cX11_opens 81 = .ok (.iinc 4 1, 3) := by decide +kernel
theorem dX11_opens_84 : decode cX11_opens 84 = .ok (.goto (-43), 3) := by decide +kernel
theorem dX11_opens_87 : decode cX11_opens 87 = .ok (.aload_n 0, 1) := by decide +kernel
theorem dX11_opens_88 : decode cX11_opens 88 = .ok (.getfield 26, 3) := by decide +kernel
theorem dX11_opens_91 : decode cX11_opens 91 = .ok (.iconst 0, 1) := by decide +kernel
theorem dX11_opens_92 : decode cX11_opens 92 = .ok (.iload_n 3, 1) := by decide +kernel
theorem dX11_opens_93 : decode cX11_opens 93 = .ok (.iastore, 1) := by decide +kernel
theorem dX11_opens_94 : decode cX11_opens 94 = .ok (.aload_n 0, 1) := by decide +kernel
theorem dX11_opens_95 : decode cX11_opens 95 = .ok (.getfield 26, 3) := by decide +kernel
theorem dX11_opens_98 : decode cX11_opens 98 = .ok (.iconst 1, 1) := by decide +kernel
theorem dX11_opens_99 : decode cX11_opens 99 = .ok (.iconst 0, 1) := by decide +kernel
theorem dX11_opens_100 : decode cX11_opens 100 = .ok (.iastore, 1) := by decide +kernel
theorem dX11_opens_101 : decode cX11_opens 101 = .ok (.iconst 0, 1) := by decide +kernel
theorem dX11_opens_102 : decode cX11_opens 102 = .ok (.istore 4, 2) := by decide +kernel
theorem dX11_opens_104 : decode cX11_opens 104 = .ok (.iload 4, 2) := by decide +kernel
theorem dX11_opens_106 : decode cX11_opens 106 = .ok (.aload_n 0, 1) := by decide +kernel
theorem dX11_opens_107 : decode cX11_opens 107 = .ok (.getfield 23, 3) := by decide +kernel
theorem dX11_opens_110 : decode cX11_opens 110 = .ok (.iconst 1, 1) := by decide +kernel
theorem dX11_opens_111 : decode cX11_opens 111 = .ok (.iaload, 1) := by decide +kernel
theorem dX11_opens_112 : decode cX11_opens 112 = .ok (.if_icmp .ge 58, 3) := by decide +kernel
theorem dX11_opens_115 : decode cX11_opens 115 = .ok (.aload_n 0, 1) := by decide +kernel
theorem dX11_opens_116 : decode cX11_opens 116 = .ok (.getfield 26, 3) := by decide +kernel
theorem dX11_opens_119 : decode cX11_opens 119 = .ok (.aload_n 0, 1) := by decide +kernel
theorem dX11_opens_120 : decode cX11_opens 120 = .ok (.aload_n 0, 1) := by decide +kernel
theorem dX11_opens_121 : decode cX11_opens 121 = .ok (.iload 4, 2) := by decide +kernel
theorem dX11_opens_123 : decode cX11_opens 123 = .ok (.invokevirtual 208, 3) := by decide +kernel
theorem dX11_opens_126 : decode cX11_opens 126 = .ok (.aload_n 0, 1) := by decide +kernel
theorem dX11_opens_127 : decode cX11_opens 127 = .ok (.iload 4, 2) := by decide +kernel
theorem dX11_opens_129 : decode cX11_opens 129 = .ok (.invokevirtual 211, 3) := by decide +kernel
theorem dX11_opens_132 : decode cX11_opens 132 = .ok (.iload_n 1, 1) := by decide +kernel
theorem dX11_opens_133 : decode cX11_opens 133 = .ok (.iload_n 2, 1) := by decide +kernel
theorem dX11_opens_134 : decode cX11_opens 134 = .ok (.invokevirtual 411, 3) := by decide +kernel
theorem dX11_opens_137 : decode cX11_opens 137 = .ok (.aload_n 0, 1) := by decide +kernel
theorem dX11_opens_138 : decode cX11_opens 138 = .ok (.aload_n 0, 1) := by decide +kernel
theorem dX11_opens_139 : decode cX11_opens 139 = .ok (.iload 4, 2) := by decide +kernel
theorem dX11_opens_141 : decode cX11_opens 141 = .ok (.invokevirtual 211, 3) := by decide +kernel
theorem dX11_opens_144 : decode cX11_opens 144 = .ok (.aload_n 0, 1) := by decide +kernel
theorem dX11_opens_145 : decode cX11_opens 145 = .ok (.iload 4, 2) := by decide +kernel
theorem dX11_opens_147 : decode cX11_opens 147 = .ok (.invokevirtual 208, 3) := by decide +kernel
theorem dX11_opens_150 : decode cX11_opens 150 = .ok (.iload_n 1, 1) := by decide +kernel
theorem dX11_opens_151 : decode cX11_opens 151 = .ok (.iload_n 2, 1) := by decide +kernel
theorem dX11_opens_152 : decode cX11_opens 152 = .ok (.invokevirtual 411, 3) := by decide +kernel
theorem dX11_opens_155 : decode cX11_opens 155 = .ok (.aload_n 0, 1) := by decide +kernel
theorem dX11_opens_156 : decode cX11_opens 156 = .ok (.iload 4, 2) := by decide +kernel
theorem dX11_opens_158 : decode cX11_opens 158 = .ok (.invokevirtual 254, 3) := by decide +kernel
theorem dX11_opens_161 : decode cX11_opens 161 = .ok (.invokestatic 173, 3) := by decide +kernel
theorem dX11_opens_164 : decode cX11_opens 164 = .ok (.iinc 4 1, 3) := by decide +kernel
theorem dX11_opens_167 : decode cX11_opens 167 = .ok (.goto (-63), 3) := by decide +kernel
theorem dX11_opens_170 : decode cX11_opens 170 = .ok (.iconst 0, 1) := by decide +kernel
theorem dX11_opens_171 : decode cX11_opens 171 = .ok (.istore 4, 2) := by decide +kernel
theorem dX11_opens_173 : decode cX11_opens 173 = .ok (.iload 4, 2) := by decide +kernel
theorem dX11_opens_175 : decode cX11_opens 175 = .ok (.aload_n 0, 1) := by decide +kernel
theorem dX11_opens_176 : decode cX11_opens 176 = .ok (.getfield 23, 3) := by decide +kernel
theorem dX11_opens_179 : decode cX11_opens 179 = .ok (.iconst 1, 1) := by decide +kernel
theorem dX11_opens_180 : decode cX11_opens 180 = .ok (.iaload, 1) := by decide +kernel
theorem dX11_opens_181 : decode cX11_opens 181 = .ok (.if_icmp .ge 70, 3) := by decide +kernel
theorem dX11_opens_184 : decode cX11_opens 184 = .ok (.iload_n 1, 1) := by decide +kernel
theorem dX11_opens_185 : decode cX11_opens 185 = .ok (.aload_n 0, 1) := by decide +kernel
theorem dX11_opens_186 : decode cX11_opens 186 = .ok (.iload 4, 2) := by decide +kernel
theorem dX11_opens_188 : decode cX11_opens 188 = .ok (.invokevirtual 208, 3) := by decide +kernel
theorem dX11_opens_191 : decode cX11_opens 191 = .ok (.invokestatic 281, 3) := by decide +kernel
theorem dX11_opens_194 : decode cX11_opens 194 = .ok (.ifCond .eq 51, 3) := by decide +kernel
theorem dX11_opens_197 : decode cX11_opens 197 = .ok (.iload_n 1, 1) := by decide +kernel
theorem dX11_opens_198 : decode cX11_opens 198 = .ok (.aload_n 0, 1) := by decide +kernel
theorem dX11_opens_199 : decode cX11_opens 199 = .ok (.iload 4, 2) := by decide +kernel
theorem dX11_opens_201 : decode cX11_opens 201 = .ok (.invokevirtual 211, 3) := by decide +kernel
theorem dX11_opens_204 : decode cX11_opens 204 = .ok (.invokestatic 281, 3) := by decide +kernel
theorem dX11_opens_207 : decode cX11_opens 207 = .ok (.ifCond .eq 38, 3) := by decide +kernel
theorem dX11_opens_210 : decode cX11_opens 210 = .ok (.aload_n 0, 1) := by decide +kernel
theorem dX11_opens_211 : decode cX11_opens 211 = .ok (.getfield 26, 3) := by decide +kernel
theorem dX11_opens_214 : decode cX11_opens 214 = .ok (.aload_n 0, 1) := by decide +kernel
theorem dX11_opens_215 : decode cX11_opens 215 = .ok (.getfield 86, 3) := by decide +kernel
theorem dX11_opens_218 : decode cX11_opens 218 = .ok (.aload_n 0, 1) := by decide +kernel
theorem dX11_opens_219 : decode cX11_opens 219 = .ok (.iload 4, 2) := by decide +kernel
theorem dX11_opens_221 : decode cX11_opens 221 = .ok (.invokevirtual 208, 3) := by decide +kernel
theorem dX11_opens_224 : decode cX11_opens 224 = .ok (.iaload, 1) := by decide +kernel
theorem dX11_opens_225 : decode cX11_opens 225 = .ok (.aload_n 0, 1) := by decide +kernel
theorem dX11_opens_226 : decode cX11_opens 226 = .ok (.getfield 86, 3) := by decide +kernel
theorem dX11_opens_229 : decode cX11_opens 229 = .ok (.aload_n 0, 1) := by decide +kernel
theorem dX11_opens_230 : decode cX11_opens 230 = .ok (.iload 4, 2) := by decide +kernel
theorem dX11_opens_232 : decode cX11_opens 232 = .ok (.invokevirtual 211, 3) := by decide +kernel
theorem dX11_opens_235 : decode cX11_opens 235 = .ok (.iaload, 1) := by decide +kernel
theorem dX11_opens_236 : decode cX11_opens 236 = .ok (.aload_n 0, 1) := by decide +kernel
theorem dX11_opens_237 : decode cX11_opens 237 = .ok (.iload 4, 2) := by decide +kernel
theorem dX11_opens_239 : decode cX11_opens 239 = .ok (.invokevirtual 254, 3) := by decide +kernel
theorem dX11_opens_242 : decode cX11_opens 242 = .ok (.invokestatic 173, 3) := by decide +kernel
theorem dX11_opens_245 : decode cX11_opens 245 = .ok (.iinc 4 1, 3) := by decide +kernel
theorem dX11_opens_248 : decode cX11_opens 248 = .ok (.goto (-75), 3) := by decide +kernel
theorem dX11_opens_251 : decode cX11_opens 251 = .ok (.iconst 0, 1) := by decide +kernel
theorem dX11_opens_252 : decode cX11_opens 252 = .ok (.istore 4, 2) := by decide +kernel
theorem dX11_opens_254 : decode cX11_opens 254 = .ok (.iload 4, 2) := by decide +kernel
theorem dX11_opens_256 : decode cX11_opens 256 = .ok (.aload_n 0, 1) := by decide +kernel
theorem dX11_opens_257 : decode cX11_opens 257 = .ok (.getfield 23, 3) := by decide +kernel
theorem dX11_opens_260 : decode cX11_opens 260 = .ok (.iconst 0, 1) := by decide +kernel
theorem dX11_opens_261 : decode cX11_opens 261 = .ok (.iaload, 1) := by decide +kernel
theorem dX11_opens_262 : decode cX11_opens 262 = .ok (.if_icmp .ge 35, 3) := by decide +kernel
theorem dX11_opens_265 : decode cX11_opens 265 = .ok (.iload_n 1, 1) := by decide +kernel
theorem dX11_opens_266 : decode cX11_opens 266 = .ok (.iload 4, 2) := by decide +kernel
theorem dX11_opens_268 : decode cX11_opens 268 = .ok (.invokestatic 281, 3) := by decide +kernel
theorem dX11_opens_271 : decode cX11_opens 271 = .ok (.ifCond .eq 20, 3) := by decide +kernel
theorem dX11_opens_274 : decode cX11_opens 274 = .ok (.aload_n 0, 1) := by decide +kernel
theorem dX11_opens_275 : decode cX11_opens 275 = .ok (.getfield 26, 3) := by decide +kernel
theorem dX11_opens_278 : decode cX11_opens 278 = .ok (.iload 4, 2) := by decide +kernel
theorem dX11_opens_280 : decode cX11_opens 280 = .ok (.aload_n 0, 1) := by decide +kernel
theorem dX11_opens_281 : decode cX11_opens 281 = .ok (.getfield 86, 3) := by decide +kernel
theorem dX11_opens_284 : decode cX11_opens 284 = .ok (.iload 4, 2) := by decide +kernel
theorem dX11_opens_286 : decode cX11_opens 286 = .ok (.iaload, 1) := by decide +kernel
theorem dX11_opens_287 : decode cX11_opens 287 = .ok (.iconst 1, 1) := by decide +kernel
theorem dX11_opens_288 : decode cX11_opens 288 = .ok (.invokestatic 173, 3) := by decide +kernel
theorem dX11_opens_291 : decode cX11_opens 291 = .ok (.iinc 4 1, 3) := by decide +kernel
theorem dX11_opens_294 : decode cX11_opens 294 = .ok (.goto (-40), 3) := by decide +kernel
theorem dX11_opens_297 : decode cX11_opens 297 = .ok (.aload_n 0, 1) := by decide +kernel
theorem dX11_opens_298 : decode cX11_opens 298 = .ok (.invokevirtual 396, 3) := by decide +kernel
theorem dX11_opens_301 : decode cX11_opens 301 = .ok (.return_, 1) := by decide +kernel
theorem dX11_open_0 : decode cX11_open 0 = .ok (.aload_n 0, 1) := by decide +kernel
theorem dX11_open_1 : decode cX11_open 1 = .ok (.iload_n 1, 1) := by decide +kernel
theorem dX11_open_2 : decode cX11_open 2 = .ok (.iload_n 2, 1) := by decide +kernel
theorem dX11_open_3 : decode cX11_open 3 = .ok (.invokevirtual 415, 3) := by decide +kernel
theorem dX11_open_6 : decode cX11_open 6 = .ok (.ifCond .ne 9, 3) := by decide +kernel
theorem dX11_open_9 : decode cX11_open 9 = .ok (.aload_n 0, 1) := by decide +kernel
theorem dX11_open_10 : decode cX11_open 10 = .ok (.iconst 3, 1) := by decide +kernel
theorem dX11_open_11 : decode cX11_open 11 = .ok (.invokevirtual 99, 3) := by decide +kernel
theorem dX11_open_14 : decode cX11_open 14 = .ok (.ireturn, 1) := by decide +kernel
theorem dX11_open_15 : decode cX11_open 15 = .ok (.aload_n 0, 1) := by decide +kernel
theorem dX11_open_16 : decode cX11_open 16 = .ok (.invokevirtual 379, 3) := by decide +kernel
theorem dX11_open_19 : decode cX11_open 19 = .ok (.aload_n 0, 1) := by decide +kernel
theorem dX11_open_20 : decode cX11_open 20 = .ok (.iload_n 1, 1) := by decide +kernel
theorem dX11_open_21 : decode cX11_open 21 = .ok (.iload_n 2, 1) := by decide +kernel
theorem dX11_open_22 : decode cX11_open 22 = .ok (.iand, 1) := by decide +kernel
theorem dX11_open_23 : decode cX11_open 23 = .ok (.iload_n 2, 1) := by decide +kernel
theorem dX11_open_24 : decode cX11_open 24 = .ok (.iload_n 1, 1) := by decide +kernel
theorem dX11_open_25 : decode cX11_open 25 = .ok (.iconst (-1), 1) := by decide +kernel
theorem dX11_open_26 : decode cX11_open 26 = .ok (.ixor, 1) := by decide +kernel
theorem dX11_open_27 : decode cX11_open 27 = .ok (.iand, 1) := by decide +kernel
theorem dX11_open_28 : decode cX11_open 28 = .ok (.invokevirtual 418, 3) := by decide +kernel
theorem dX11_open_31 : decode cX11_open 31 = .ok (.aload_n 0, 1) := by decide +kernel
theorem dX11_open_32 : decode cX11_open 32 = .ok (.getfield 23, 3) := by decide +kernel
theorem dX11_open_35 : decode cX11_open 35 = .ok (.iconst 0, 1) := by decide +kernel
theorem dX11_open_36 : decode cX11_open 36 = .ok (.iaload, 1) := by decide +kernel
theorem dX11_open_37 : decode cX11_open 37 = .ok (.ireturn, 1) := by decide +kernel
theorem dX11_seed_0 : decode cX11_seed 0 = .ok (.iload_n 1, 1) := by decide +kernel
theorem dX11_seed_1 : decode cX11_seed 1 = .ok (.ifCond .ge 9, 3) := by decide +kernel
theorem dX11_seed_4 : decode cX11_seed 4 = .ok (.aload_n 0, 1) := by decide +kernel
theorem dX11_seed_5 : decode cX11_seed 5 = .ok (.iconst 5, 1) := by decide +kernel
theorem dX11_seed_6 : decode cX11_seed 6 = .ok (.invokevirtual 103, 3) := by decide +kernel
theorem dX11_seed_9 : decode cX11_seed 9 = .ok (.ireturn, 1) := by decide +kernel
theorem dX11_seed_10 : decode cX11_seed 10 = .ok (.aload_n 0, 1) := by decide +kernel
theorem dX11_seed_11 : decode cX11_seed 11 = .ok (.iload_n 1, 1) := by decide +kernel
theorem dX11_seed_12 : decode cX11_seed 12 = .ok (.i2l, 1) := by decide +kernel
theorem dX11_seed_13 : decode cX11_seed 13 = .ok (.putfield 89, 3) := by decide +kernel
theorem dX11_seed_16 : decode cX11_seed 16 = .ok (.iconst 1, 1) := by decide +kernel
theorem dX11_seed_17 : decode cX11_seed 17 = .ok (.ireturn, 1) := by decide +kernel
theorem dX11_drawOf_0 : decode cX11_drawOf 0 = .ok (.aload_n 0, 1) := by decide +kernel
theorem dX11_drawOf_1 : decode cX11_drawOf 1 = .ok (.ldc2_w 421, 3) := by decide +kernel
theorem dX11_drawOf_4 : decode cX11_drawOf 4 = .ok (.aload_n 0, 1) := by decide +kernel
theorem dX11_drawOf_5 : decode cX11_drawOf 5 = .ok (.getfield 89, 3) := by decide +kernel
theorem dX11_drawOf_8 : decode cX11_drawOf 8 = .ok (.lmul, 1) := by decide +kernel
theorem dX11_drawOf_9 : decode cX11_drawOf 9 = .ok (.ldc2_w 423, 3) := by decide +kernel
theorem dX11_drawOf_12 : decode cX11_drawOf 12 = .ok (.ladd, 1) := by decide +kernel
theorem dX11_drawOf_13 : decode cX11_drawOf 13 = .ok (.ldc2_w 425, 3) := by decide +kernel
theorem dX11_drawOf_16 : decode cX11_drawOf 16 = .ok (.lrem, 1) := by decide +kernel
theorem dX11_drawOf_17 : decode cX11_drawOf 17 = .ok (.putfield 89, 3) := by decide +kernel
theorem dX11_drawOf_20 : decode cX11_drawOf 20 = .ok (.aload_n 0, 1) := by decide +kernel
theorem dX11_drawOf_21 : decode cX11_drawOf 21 = .ok (.getfield 89, 3) := by decide +kernel
theorem dX11_drawOf_24 : decode cX11_drawOf 24 = .ok (.ldc2_w 427, 3) := by decide +kernel
theorem dX11_drawOf_27 : decode cX11_drawOf 27 = .ok (.ldiv, 1) := by decide +kernel
theorem dX11_drawOf_28 : decode cX11_drawOf 28 = .ok (.iload_n 1, 1) := by decide +kernel
theorem dX11_drawOf_29 : decode cX11_drawOf 29 = .ok (.i2l, 1) := by decide +kernel
theorem dX11_drawOf_30 : decode cX11_drawOf 30 = .ok (.lrem, 1) := by decide +kernel
theorem dX11_drawOf_31 : decode cX11_drawOf 31 = .ok (.l2i, 1) := by decide +kernel
theorem dX11_drawOf_32 : decode cX11_drawOf 32 = .ok (.ireturn, 1) := by decide +kernel
theorem dX11_stirs_0 : decode cX11_stirs 0 = .ok (.aload_n 0, 1) := by decide +kernel
theorem dX11_stirs_1 : decode cX11_stirs 1 = .ok (.iconst 4, 1) := by decide +kernel
theorem dX11_stirs_2 : decode cX11_stirs 2 = .ok (.invokevirtual 429, 3) := by decide +kernel
theorem dX11_stirs_5 : decode cX11_stirs 5 = .ok (.istore_n 1, 1) := by decide +kernel
theorem dX11_stirs_6 : decode cX11_stirs 6 = .ok (.iload_n 1, 1) := by decide +kernel
theorem dX11_stirs_7 : decode cX11_stirs 7 = .ok (.iconst 3, 1) := by decide +kernel
theorem dX11_stirs_8 : decode cX11_stirs 8 = .ok (.if_icmp .ne 41, 3) := by decide +kernel
theorem dX11_stirs_11 : decode cX11_stirs 11 = .ok (.aload_n 0, 1) := by decide +kernel
theorem dX11_stirs_12 : decode cX11_stirs 12 = .ok (.invokevirtual 244, 3) := by decide +kernel
theorem dX11_stirs_15 : decode cX11_stirs 15 = .ok (.aload_n 0, 1) := by decide +kernel
theorem dX11_stirs_16 : decode cX11_stirs 16 = .ok (.aload_n 0, 1) := by decide +kernel
theorem dX11_stirs_17 : decode cX11_stirs 17 = .ok (.getfield 222, 3) := by decide +kernel
theorem dX11_stirs_20 : decode cX11_stirs 20 = .ok (.ifCond .le 10, 3) := by decide +kernel
theorem dX11_stirs_23 : decode cX11_stirs 23 = .ok (.aload_n 0, 1) := by decide +kernel
theorem dX11_stirs_24 : decode cX11_stirs 24 = .ok (.getfield 222, 3) := by decide +kernel
theorem dX11_stirs_27 : decode cX11_stirs 27 = .ok (.goto 4, 3) := by decide +kernel
theorem dX11_stirs_30 : decode cX11_stirs 30 = .ok (.iconst 1, 1) := by decide +kernel
theorem dX11_stirs_31 : decode cX11_stirs 31 = .ok (.invokevirtual 429, 3) := by decide +kernel
theorem dX11_stirs_34 : decode cX11_stirs 34 = .ok (.istore_n 2, 1) := by decide +kernel
theorem dX11_stirs_35 : decode cX11_stirs 35 = .ok (.iload_n 2, 1) := by decide +kernel
theorem dX11_stirs_36 : decode cX11_stirs 36 = .ok (.aload_n 0, 1) := by decide +kernel
theorem dX11_stirs_37 : decode cX11_stirs 37 = .ok (.getfield 222, 3) := by decide +kernel
theorem dX11_stirs_40 : decode cX11_stirs 40 = .ok (.if_icmp .ge 8, 3) := by decide +kernel
theorem dX11_stirs_43 : decode cX11_stirs 43 = .ok (.aload_n 0, 1) := by decide +kernel
theorem dX11_stirs_44 : decode cX11_stirs 44 = .ok (.iload_n 2, 1) := by decide +kernel
theorem dX11_stirs_45 : decode cX11_stirs 45 = .ok (.invokevirtual 402, 3) := by decide +kernel
theorem dX11_stirs_48 : decode cX11_stirs 48 = .ok (.return_, 1) := by decide +kernel
theorem dX11_stirs_49 : decode cX11_stirs 49 = .ok (.aload_n 0, 1) := by decide +kernel
theorem dX11_stirs_50 : decode cX11_stirs 50 = .ok (.aload_n 0, 1) := by decide +kernel
theorem dX11_stirs_51 : decode cX11_stirs 51 = .ok (.getfield 23, 3) := by decide +kernel
theorem dX11_stirs_54 : decode cX11_stirs 54 = .ok (.iconst 0, 1) := by decide +kernel
theorem dX11_stirs_55 : decode cX11_stirs 55 = .ok (.iaload, 1) := by decide +kernel
theorem dX11_stirs_56 : decode cX11_stirs 56 = .ok (.invokevirtual 429, 3) := by decide +kernel
theorem dX11_stirs_59 : decode cX11_stirs 59 = .ok (.istore_n 2, 1) := by decide +kernel
theorem dX11_stirs_60 : decode cX11_stirs 60 = .ok (.iload_n 1, 1) := by decide +kernel
theorem dX11_stirs_61 : decode cX11_stirs 61 = .ok (.iconst 2, 1) := by decide +kernel
theorem dX11_stirs_62 : decode cX11_stirs 62 = .ok (.if_icmp .ge 17, 3) := by decide +kernel
theorem dX11_stirs_65 : decode cX11_stirs 65 = .ok (.aload_n 0, 1) := by decide +kernel
theorem dX11_stirs_66 : decode cX11_stirs 66 = .ok (.iload_n 2, 1) := by decide +kernel
theorem dX11_stirs_67 : decode cX11_stirs 67 = .ok (.invokevirtual 390, 3) := by decide +kernel
theorem dX11_stirs_70 : decode cX11_stirs 70 = .ok (.ifCond .eq 8, 3) := by decide +kernel
theorem dX11_stirs_73 : decode cX11_stirs 73 = .ok (.aload_n 0, 1) := by decide +kernel
theorem dX11_stirs_74 : decode cX11_stirs 74 = .ok (.iload_n 2, 1) := by decide +kernel
theorem dX11_stirs_75 : decode cX11_stirs 75 = .ok (.invokevirtual 393, 3) := by decide +kernel
theorem dX11_stirs_78 : decode cX11_stirs 78 = .ok (.return_, 1) := by decide +kernel
theorem dX11_stirs_79 : decode cX11_stirs 79 = .ok (.aload_n 0, 1) := by decide +kernel
theorem dX11_stirs_80 : decode cX11_stirs 80 = .ok (.aload_n 0, 1) := by decide +kernel
theorem dX11_stirs_81 : decode cX11_stirs 81 = .ok (.getfield 23, 3) := by decide +kernel
theorem dX11_stirs_84 : decode cX11_stirs 84 = .ok (.iconst 0, 1) := by decide +kernel
theorem dX11_stirs_85 : decode cX11_stirs 85 = .ok (.iaload, 1) := by decide +kernel
theorem dX11_stirs_86 : decode cX11_stirs 86 = .ok (.invokevirtual 429, 3) := by decide +kernel
theorem dX11_stirs_89 : decode cX11_stirs 89 = .ok (.istore_n 3, 1) := by decide +kernel
theorem dX11_stirs_90 : decode cX11_stirs 90 = .ok (.iload_n 2, 1) := by decide +kernel
theorem dX11_stirs_91 : decode cX11_stirs 91 = .ok (.iload_n 3, 1) := by decide +kernel
theorem dX11_stirs_92 : decode cX11_stirs 92 = .ok (.if_icmp .ne 7, 3) := by decide +kernel
theorem dX11_stirs_95 : decode cX11_stirs 95 = .ok (.iconst (-1), 1) := by decide +kernel
theorem dX11_stirs_96 : decode cX11_stirs 96 = .ok (.goto 12, 3) := by decide +kernel
theorem dX11_stirs_99 : decode cX11_stirs 99 = .ok (.aload_n 0, 1) := by decide +kernel
theorem dX11_stirs_100 : decode cX11_stirs 100 = .ok (.getfield 23, 3) := by decide +kernel
theorem dX11_stirs_103 : decode cX11_stirs 103 = .ok (.iload_n 2, 1) := by decide +kernel
theorem dX11_stirs_104 : decode cX11_stirs 104 = .ok (.iload_n 3, 1) := by decide +kernel
theorem dX11_stirs_105 : decode cX11_stirs 105 = .ok (.invokestatic 169, 3) := by decide +kernel
theorem dX11_stirs_108 : decode cX11_stirs 108 = .ok (.istore 4, 2) := by decide +kernel
theorem dX11_stirs_110 : decode cX11_stirs 110 = .ok (.iload 4, 2) := by decide +kernel
theorem dX11_stirs_112 : decode cX11_stirs 112 = .ok (.iconst (-1), 1) := by decide +kernel
theorem dX11_stirs_113 : decode cX11_stirs 113 = .ok (.if_icmp .eq 12, 3) := by decide +kernel
theorem dX11_stirs_116 : decode cX11_stirs 116 = .ok (.aload_n 0, 1) := by decide +kernel
theorem dX11_stirs_117 : decode cX11_stirs 117 = .ok (.iload 4, 2) := by decide +kernel
theorem dX11_stirs_119 : decode cX11_stirs 119 = .ok (.invokevirtual 387, 3) := by decide +kernel
theorem dX11_stirs_122 : decode cX11_stirs 122 = .ok (.goto 18, 3) := by decide +kernel
theorem dX11_stirs_125 : decode cX11_stirs 125 = .ok (.aload_n 0, 1) := by decide +kernel
theorem dX11_stirs_126 : decode cX11_stirs 126 = .ok (.iload_n 2, 1) := by decide +kernel
theorem dX11_stirs_127 : decode cX11_stirs 127 = .ok (.iload_n 3, 1) := by decide +kernel
theorem dX11_stirs_128 : decode cX11_stirs 128 = .ok (.invokevirtual 376, 3) := by decide +kernel
theorem dX11_stirs_131 : decode cX11_stirs 131 = .ok (.ifCond .eq 9, 3) := by decide +kernel
theorem dX11_stirs_134 : decode cX11_stirs 134 = .ok (.aload_n 0, 1) := by decide +kernel
theorem dX11_stirs_135 : decode cX11_stirs 135 = .ok (.iload_n 2, 1) := by decide +kernel
theorem dX11_stirs_136 : decode cX11_stirs 136 = .ok (.iload_n 3, 1) := by decide +kernel
theorem dX11_stirs_137 : decode cX11_stirs 137 = .ok (.invokevirtual 382, 3) := by decide +kernel
theorem dX11_stirs_140 : decode cX11_stirs 140 = .ok (.return_, 1) := by decide +kernel
theorem dX11_chance_0 : decode cX11_chance 0 = .ok (.iload_n 1, 1) := by decide +kernel
theorem dX11_chance_1 : decode cX11_chance 1 = .ok (.i2l, 1) := by decide +kernel
theorem dX11_chance_2 : decode cX11_chance 2 = .ok (.lconst 1, 1) := by decide +kernel
theorem dX11_chance_3 : decode cX11_chance 3 = .ok (.ldc2_w 432, 3) := by decide +kernel
theorem dX11_chance_6 : decode cX11_chance 6 = .ok (.invokestatic 109, 3) := by decide +kernel
theorem dX11_chance_9 : decode cX11_chance 9 = .ok (.ifCond .eq 12, 3) := by decide +kernel
theorem dX11_chance_12 : decode cX11_chance 12 = .ok (.aload_n 0, 1) := by decide +kernel
theorem dX11_chance_13 : decode cX11_chance 13 = .ok (.getfield 23, 3) := by decide +kernel
theorem dX11_chance_16 : decode cX11_chance 16 = .ok (.iconst 0, 1) := by decide +kernel
theorem dX11_chance_17 : decode cX11_chance 17 = .ok (.iaload, 1) := by decide +kernel
theorem dX11_chance_18 : decode cX11_chance 18 = .ok (.ifCond .ne 9, 3) := by decide +kernel
theorem dX11_chance_21 : decode cX11_chance 21 = .ok (.aload_n 0, 1) := by decide +kernel
theorem dX11_chance_22 : decode cX11_chance 22 = .ok (.iconst 3, 1) := by decide +kernel
theorem dX11_chance_23 : decode cX11_chance 23 = .ok (.invokevirtual 99, 3) := by decide +kernel
theorem dX11_chance_26 : decode cX11_chance 26 = .ok (.ireturn, 1) := by decide +kernel
theorem dX11_chance_27 : decode cX11_chance 27 = .ok (.aload_n 0, 1) := by decide +kernel
theorem dX11_chance_28 : decode cX11_chance 28 = .ok (.invokevirtual 379, 3) := by decide +kernel
theorem dX11_chance_31 : decode cX11_chance 31 = .ok (.iconst 0, 1) := by decide +kernel
theorem dX11_chance_32 : decode cX11_chance 32 = .ok (.istore_n 2, 1) := by decide +kernel
theorem dX11_chance_33 : decode cX11_chance 33 = .ok (.iload_n 2, 1) := by decide +kernel
theorem dX11_chance_34 : decode cX11_chance 34 = .ok (.iload_n 1, 1) := by decide +kernel
theorem dX11_chance_35 : decode cX11_chance 35 = .ok (.if_icmp .ge 13, 3) := by decide +kernel
theorem dX11_chance_38 : decode cX11_chance 38 = .ok (.aload_n 0, 1) := by decide +kernel
theorem dX11_chance_39 : decode cX11_chance 39 = .ok (.invokevirtual 434, 3) := by decide +kernel
theorem dX11_chance_42 : decode cX11_chance 42 = .ok (.iinc 2 1, 3) := by decide +kernel
theorem dX11_chance_45 : decode cX11_chance 45 = .ok (.goto (-12), 3) := by decide +kernel
theorem dX11_chance_48 : decode cX11_chance 48 = .ok (.aload_n 0, 1) := by decide +kernel
theorem dX11_chance_49 : decode cX11_chance 49 = .ok (.getfield 23, 3) := by decide +kernel
theorem dX11_chance_52 : decode cX11_chance 52 = .ok (.iconst 0, 1) := by decide +kernel
theorem dX11_chance_53 : decode cX11_chance 53 = .ok (.iaload, 1) := by decide +kernel
theorem dX11_chance_54 : decode cX11_chance 54 = .ok (.ireturn, 1) := by decide +kernel
theorem dX11_last_0 : decode cX11_last 0 = .ok (.sipush 167, 3) := by decide +kernel
theorem dX11_last_3 : decode cX11_last 3 = .ok (.istore_n 2, 1) := by decide +kernel
theorem dX11_last_4 : decode cX11_last 4 = .ok (.iconst 0, 1) := by decide +kernel
theorem dX11_last_5 : decode cX11_last 5 = .ok (.istore_n 3, 1) := by decide +kernel
theorem dX11_last_6 : decode cX11_last 6 = .ok (.iload_n 3, 1) := by decide +kernel
theorem dX11_last_7 : decode cX11_last 7 = .ok (.iload_n 1, 1) := by decide +kernel
theorem dX11_last_8 : decode cX11_last 8 = .ok (.if_icmp .ge 21, 3) := by decide +kernel
theorem dX11_last_11 : decode cX11_last 11 = .ok (.iconst 3, 1) := by decide +kernel
theorem dX11_last_12 : decode cX11_last 12 = .ok (.iload_n 2, 1) := by decide +kernel
theorem dX11_last_13 : decode cX11_last 13 = .ok (.imul, 1) := by decide +kernel
theorem dX11_last_14 : decode cX11_last 14 = .ok (.aload_n 0, 1) := by decide +kernel
theorem dX11_last_15 : decode cX11_last 15 = .ok (.iload_n 3, 1) := by decide +kernel
theorem dX11_last_16 : decode cX11_last 16 = .ok (.iaload, 1) := by decide +kernel
theorem dX11_last_17 : decode cX11_last 17 = .ok (.iadd, 1) := by decide +kernel
theorem dX11_last_18 : decode cX11_last 18 = .ok (.sipush 251, 3) := by decide +kernel
theorem dX11_last_21 : decode cX11_last 21 = .ok (.irem, 1) := by decide +kernel
theorem dX11_last_22 : decode cX11_last 22 = .ok (.istore_n 2, 1) := by decide +kernel
theorem dX11_last_23 : decode cX11_last 23 = .ok (.iinc 3 1, 3) := by decide +kernel
theorem dX11_last_26 : decode cX11_last 26 = .ok (.goto (-20), 3) := by decide +kernel
theorem dX11_last_29 : decode cX11_last 29 = .ok (.iload_n 2, 1) := by decide +kernel
theorem dX11_last_30 : decode cX11_last 30 = .ok (.ireturn, 1) := by decide +kernel
theorem dX11_image_0 : decode cX11_image 0 = .ok (.aload_n 0, 1) := by decide +kernel
theorem dX11_image_1 : decode cX11_image 1 = .ok (.getfield 93, 3) := by decide +kernel
theorem dX11_image_4 : decode cX11_image 4 = .ok (.iconst 0, 1) := by decide +kernel
theorem dX11_image_5 : decode cX11_image 5 = .ok (.aload_n 0, 1) := by decide +kernel
theorem dX11_image_6 : decode cX11_image 6 = .ok (.getfield 23, 3) := by decide +kernel
theorem dX11_image_9 : decode cX11_image 9 = .ok (.iconst 0, 1) := by decide +kernel
theorem dX11_image_10 : decode cX11_image 10 = .ok (.iaload, 1) := by decide +kernel
theorem dX11_image_11 : decode cX11_image 11 = .ok (.iastore, 1) := by decide +kernel
theorem dX11_image_12 : decode cX11_image 12 = .ok (.aload_n 0, 1) := by decide +kernel
theorem dX11_image_13 : decode cX11_image 13 = .ok (.getfield 93, 3) := by decide +kernel
theorem dX11_image_16 : decode cX11_image 16 = .ok (.iconst 1, 1) := by decide +kernel
theorem dX11_image_17 : decode cX11_image 17 = .ok (.aload_n 0, 1) := by decide +kernel
theorem dX11_image_18 : decode cX11_image 18 = .ok (.getfield 23, 3) := by decide +kernel
theorem dX11_image_21 : decode cX11_image 21 = .ok (.iconst 1, 1) := by decide +kernel
theorem dX11_image_22 : decode cX11_image 22 = .ok (.iaload, 1) := by decide +kernel
theorem dX11_image_23 : decode cX11_image 23 = .ok (.iastore, 1) := by decide +kernel
theorem dX11_image_24 : decode cX11_image 24 = .ok (.iconst 0, 1) := by decide +kernel
theorem dX11_image_25 : decode cX11_image 25 = .ok (.istore_n 1, 1) := by decide +kernel
theorem dX11_image_26 : decode cX11_image 26 = .ok (.iload_n 1, 1) := by decide +kernel
theorem dX11_image_27 : decode cX11_image 27 = .ok (.iconst 2, 1) := by decide +kernel
theorem dX11_image_28 : decode cX11_image 28 = .ok (.aload_n 0, 1) := by decide +kernel
theorem dX11_image_29 : decode cX11_image 29 = .ok (.getfield 23, 3) := by decide +kernel
theorem dX11_image_32 : decode cX11_image 32 = .ok (.iconst 1, 1) := by decide +kernel
theorem dX11_image_33 : decode cX11_image 33 = .ok (.iaload, 1) := by decide +kernel
theorem dX11_image_34 : decode cX11_image 34 = .ok (.imul, 1) := by decide +kernel
theorem dX11_image_35 : decode cX11_image 35 = .ok (.if_icmp .ge 26, 3) := by decide +kernel
theorem dX11_image_38 : decode cX11_image 38 = .ok (.aload_n 0, 1) := by decide +kernel
theorem dX11_image_39 : decode cX11_image 39 = .ok (.getfield 93, 3) := by decide +kernel
theorem dX11_image_42 : decode cX11_image 42 = .ok (.iconst 2, 1) := by decide +kernel
theorem dX11_image_43 : decode cX11_image 43 = .ok (.iload_n 1, 1) := by decide +kernel
theorem dX11_image_44 : decode cX11_image 44 = .ok (.iadd, 1) := by decide +kernel
theorem dX11_image_45 : decode cX11_image 45 = .ok (.aload_n 0, 1) := by decide +kernel
theorem dX11_image_46 : decode cX11_image 46 = .ok (.getfield 23, 3) := by decide +kernel
theorem dX11_image_49 : decode cX11_image 49 = .ok (.bipush 26, 2) := by decide +kernel
theorem dX11_image_51 : decode cX11_image 51 = .ok (.iload_n 1, 1) := by decide +kernel
theorem dX11_image_52 : decode cX11_image 52 = .ok (.iadd, 1) := by decide +kernel
theorem dX11_image_53 : decode cX11_image 53 = .ok (.iaload, 1) := by decide +kernel
theorem dX11_image_54 : decode cX11_image 54 = .ok (.iastore, 1) := by decide +kernel
theorem dX11_image_55 : decode cX11_image 55 = .ok (.iinc 1 1, 3) := by decide +kernel
theorem dX11_image_58 : decode cX11_image 58 = .ok (.goto (-32), 3) := by decide +kernel
theorem dX11_image_61 : decode cX11_image 61 = .ok (.aload_n 0, 1) := by decide +kernel
theorem dX11_image_62 : decode cX11_image 62 = .ok (.iconst 2, 1) := by decide +kernel
theorem dX11_image_63 : decode cX11_image 63 = .ok (.iconst 2, 1) := by decide +kernel
theorem dX11_image_64 : decode cX11_image 64 = .ok (.aload_n 0, 1) := by decide +kernel
theorem dX11_image_65 : decode cX11_image 65 = .ok (.getfield 23, 3) := by decide +kernel
theorem dX11_image_68 : decode cX11_image 68 = .ok (.iconst 1, 1) := by decide +kernel
theorem dX11_image_69 : decode cX11_image 69 = .ok (.iaload, 1) := by decide +kernel
theorem dX11_image_70 : decode cX11_image 70 = .ok (.imul, 1) := by decide +kernel
theorem dX11_image_71 : decode cX11_image 71 = .ok (.iadd, 1) := by decide +kernel
theorem dX11_image_72 : decode cX11_image 72 = .ok (.putfield 437, 3) := by decide +kernel
theorem dX11_image_75 : decode cX11_image 75 = .ok (.aload_n 0, 1) := by decide +kernel
theorem dX11_image_76 : decode cX11_image 76 = .ok (.getfield 93, 3) := by decide +kernel
theorem dX11_image_79 : decode cX11_image 79 = .ok (.aload_n 0, 1) := by decide +kernel
theorem dX11_image_80 : decode cX11_image 80 = .ok (.getfield 437, 3) := by decide +kernel
theorem dX11_image_83 : decode cX11_image 83 = .ok (.aload_n 0, 1) := by decide +kernel
theorem dX11_image_84 : decode cX11_image 84 = .ok (.getfield 93, 3) := by decide +kernel
theorem dX11_image_87 : decode cX11_image 87 = .ok (.aload_n 0, 1) := by decide +kernel
theorem dX11_image_88 : decode cX11_image 88 = .ok (.getfield 437, 3) := by decide +kernel
theorem dX11_image_91 : decode cX11_image 91 = .ok (.invokestatic 440, 3) := by decide +kernel
theorem dX11_image_94 : decode cX11_image 94 = .ok (.iastore, 1) := by decide +kernel
theorem dX11_image_95 : decode cX11_image 95 = .ok (.aload_n 0, 1) := by decide +kernel
theorem dX11_image_96 : decode cX11_image 96 = .ok (.dup, 1) := by decide +kernel
theorem dX11_image_97 : decode cX11_image 97 = .ok (.getfield 437, 3) := by decide +kernel
theorem dX11_image_100 : decode cX11_image 100 = .ok (.iconst 1, 1) := by decide +kernel
theorem dX11_image_101 : decode cX11_image 101 = .ok (.iadd, 1) := by decide +kernel
theorem dX11_image_102 : decode cX11_image 102 = .ok (.putfield 437, 3) := by decide +kernel
theorem dX11_image_105 : decode cX11_image 105 = .ok (.aload_n 0, 1) := by decide +kernel
theorem dX11_image_106 : decode cX11_image 106 = .ok (.getfield 437, 3) := by decide +kernel
theorem dX11_image_109 : decode cX11_image 109 = .ok (.ireturn, 1) := by decide +kernel
theorem dX11_octet_0 : decode cX11_octet 0 = .ok (.iload_n 1, 1) := by decide +kernel
theorem dX11_octet_1 : decode cX11_octet 1 = .ok (.i2l, 1) := by decide +kernel
theorem dX11_octet_2 : decode cX11_octet 2 = .ok (.lconst 0, 1) := by decide +kernel
theorem dX11_octet_3 : decode cX11_octet 3 = .ok (.aload_n 0, 1) := by decide +kernel
theorem dX11_octet_4 : decode cX11_octet 4 = .ok (.getfield 437, 3) := by decide +kernel
theorem dX11_octet_7 : decode cX11_octet 7 = .ok (.iconst 1, 1) := by decide +kernel
theorem dX11_octet_8 : decode cX11_octet 8 = .ok (.isub, 1) := by decide +kernel
theorem dX11_octet_9 : decode cX11_octet 9 = .ok (.i2l, 1) := by decide +kernel
theorem dX11_octet_10 : decode cX11_octet 10 = .ok (.invokestatic 109, 3) := by decide +kernel
theorem dX11_octet_13 : decode cX11_octet 13 = .ok (.ifCond .eq 12, 3) := by decide +kernel
theorem dX11_octet_16 : decode cX11_octet 16 = .ok (.aload_n 0, 1) := by decide +kernel
theorem dX11_octet_17 : decode cX11_octet 17 = .ok (.getfield 93, 3) := by decide +kernel
theorem dX11_octet_20 : decode cX11_octet 20 = .ok (.iload_n 1, 1) := by decide +kernel
theorem dX11_octet_21 : decode cX11_octet 21 = .ok (.iaload, 1) := by decide +kernel
theorem dX11_octet_22 : decode cX11_octet 22 = .ok (.goto 4, 3) := by decide +kernel
theorem dX11_octet_25 : decode cX11_octet 25 = .ok (.iconst (-1), 1) := by decide +kernel
theorem dX11_octet_26 : decode cX11_octet 26 = .ok (.ireturn, 1) := by decide +kernel
theorem dX11_isImage_0 : decode cX11_isImage 0 = .ok (.iload_n 1, 1) := by decide +kernel
theorem dX11_isImage_1 : decode cX11_isImage 1 = .ok (.iconst 3, 1) := by decide +kernel
theorem dX11_isImage_2 : decode cX11_isImage 2 = .ok (.if_icmp .lt 66, 3) := by decide +kernel
theorem dX11_isImage_5 : decode cX11_isImage 5 = .ok (.aload_n 0, 1) := by decide +kernel
theorem dX11_isImage_6 : decode cX11_isImage 6 = .ok (.getfield 7, 3) := by decide +kernel
theorem dX11_isImage_9 : decode cX11_isImage 9 = .ok (.iconst 0, 1) := by decide +kernel
theorem dX11_isImage_10 : decode cX11_isImage 10 = .ok (.iaload, 1) := by decide +kernel
theorem dX11_isImage_11 : decode cX11_isImage 11 = .ok (.i2l, 1) := by decide +kernel
theorem dX11_isImage_12 : decode cX11_isImage 12 = .ok (.lconst 1, 1) := by decide +kernel
theorem dX11_isImage_13 : decode cX11_isImage 13 = .ok (.ldc2_w 443, 3) := by decide +kernel
theorem dX11_isImage_16 : decode cX11_isImage 16 = .ok (.invokestatic 109, 3) := by decide +kernel
theorem dX11_isImage_19 : decode cX11_isImage 19 = .ok (.ifCond .eq 49, 3) := by decide +kernel
theorem dX11_isImage_22 : decode cX11_isImage 22 = .ok (.aload_n 0, 1) := by decide +kernel
theorem dX11_isImage_23 : decode cX11_isImage 23 = .ok (.getfield 7, 3) := by decide +kernel
theorem dX11_isImage_26 : decode cX11_isImage 26 = .ok (.iconst 1, 1) := by decide +kernel
theorem dX11_isImage_27 : decode cX11_isImage 27 = .ok (.iaload, 1) := by decide +kernel
theorem dX11_isImage_28 : decode cX11_isImage 28 = .ok (.bipush 60, 2) := by decide +kernel
theorem dX11_isImage_30 : decode cX11_isImage 30 = .ok (.if_icmp .gt 38, 3) := by decide +kernel
theorem dX11_isImage_33 : decode cX11_isImage 33 = .ok (.iload_n 1, 1) := by decide +kernel
theorem dX11_isImage_34 : decode cX11_isImage 34 = .ok (.iconst 3, 1) := by decide +kernel
theorem dX11_isImage_35 : decode cX11_isImage 35 = .ok (.iconst 2, 1) := by decide +kernel
theorem dX11_isImage_36 : decode cX11_isImage 36 = .ok (.aload_n 0, 1) := by decide +kernel
theorem dX11_isImage_37 : decode cX11_isImage 37 = .ok (.getfield 7, 3) := by decide +kernel
theorem dX11_isImage_40 : decode cX11_isImage 40 = .ok (.iconst 1, 1) := by decide +kernel
theorem dX11_isImage_41 : decode cX11_isImage 41 = .ok (.iaload, 1) := by decide +kernel
theorem dX11_isImage_42 : decode cX11_isImage 42 = .ok (.imul, 1) := by decide +kernel
theorem dX11_isImage_43 : decode cX11_isImage 43 = .ok (.iadd, 1) := by decide +kernel
theorem dX11_isImage_44 : decode cX11_isImage 44 = .ok (.if_icmp .ne 24, 3) := by decide +kernel
theorem dX11_isImage_47 : decode cX11_isImage 47 = .ok (.aload_n 0, 1) := by decide +kernel
theorem dX11_isImage_48 : decode cX11_isImage 48 = .ok (.getfield 7, 3) := by decide +kernel
theorem dX11_isImage_51 : decode cX11_isImage 51 = .ok (.iload_n 1, 1) := by decide +kernel
theorem dX11_isImage_52 : decode cX11_isImage 52 = .ok (.iconst 1, 1) := by decide +kernel
theorem dX11_isImage_53 : decode cX11_isImage 53 = .ok (.isub, 1) := by decide +kernel
theorem dX11_isImage_54 : decode cX11_isImage 54 = .ok (.iaload, 1) := by decide +kernel
theorem dX11_isImage_55 : decode cX11_isImage 55 = .ok (.aload_n 0, 1) := by decide +kernel
theorem dX11_isImage_56 : decode cX11_isImage 56 = .ok (.getfield 7, 3) := by decide +kernel
theorem dX11_isImage_59 : decode cX11_isImage 59 = .ok (.iload_n 1, 1) := by decide +kernel
theorem dX11_isImage_60 : decode cX11_isImage 60 = .ok (.iconst 1, 1) := by decide +kernel
theorem dX11_isImage_61 : decode cX11_isImage 61 = .ok (.isub, 1) := by decide +kernel
theorem dX11_isImage_62 : decode cX11_isImage 62 = .ok (.invokestatic 440, 3) := by decide +kernel
theorem dX11_isImage_65 : decode cX11_isImage 65 = .ok (.if_icmp .eq 5, 3) := by decide +kernel
theorem dX11_isImage_68 : decode cX11_isImage 68 = .ok (.iconst 0, 1) := by decide +kernel
theorem dX11_isImage_69 : decode cX11_isImage 69 = .ok (.ireturn, 1) := by decide +kernel
theorem dX11_isImage_70 : decode cX11_isImage 70 = .ok (.iconst 0, 1) := by decide +kernel
theorem dX11_isImage_71 : decode cX11_isImage 71 = .ok (.istore_n 2, 1) := by decide +kernel
theorem dX11_isImage_72 : decode cX11_isImage 72 = .ok (.iload_n 2, 1) := by decide +kernel
theorem dX11_isImage_73 : decode cX11_isImage 73 = .ok (.sipush 206, 3) := by decide +kernel
theorem dX11_isImage_76 : decode cX11_isImage 76 = .ok (.if_icmp .ge 16, 3) := by decide +kernel
theorem dX11_isImage_79 : decode cX11_isImage 79 = .ok (.aload_n 0, 1) := by decide +kernel
theorem dX11_isImage_80 : decode cX11_isImage 80 = .ok (.getfield 26, 3) := by decide +kernel
theorem dX11_isImage_83 : decode cX11_isImage 83 = .ok (.iload_n 2, 1) := by decide +kernel
theorem dX11_isImage_84 : decode cX11_isImage 84 = .ok (.iconst 0, 1) := by decide +kernel
theorem dX11_isImage_85 : decode cX11_isImage 85 = .ok (.iastore, 1) := by decide +kernel
theorem dX11_isImage_86 : decode cX11_isImage 86 = .ok (.iinc 2 1, 3) := by decide +kernel
theorem dX11_isImage_89 : decode cX11_isImage 89 = .ok (.goto (-17), 3) := by decide +kernel
theorem dX11_isImage_92 : decode cX11_isImage 92 = .ok (.aload_n 0, 1) := by decide +kernel
theorem dX11_isImage_93 : decode cX11_isImage 93 = .ok (.getfield 26, 3) := by decide +kernel
theorem dX11_isImage_96 : decode cX11_isImage 96 = .ok (.iconst 0, 1) := by decide +kernel
theorem dX11_isImage_97 : decode cX11_isImage 97 = .ok (.aload_n 0, 1) := by decide +kernel
theorem dX11_isImage_98 : decode cX11_isImage 98 = .ok (.getfield 7, 3) := by decide +kernel
theorem dX11_isImage_101 : decode cX11_isImage 101 = .ok (.iconst 0, 1) := by decide +kernel
theorem dX11_isImage_102 : decode cX11_isImage 102 = .ok (.iaload, 1) := by decide +kernel
theorem dX11_isImage_103 : decode cX11_isImage 103 = .ok (.iastore, 1) := by decide +kernel
theorem dX11_isImage_104 : decode cX11_isImage 104 = .ok (.iconst 2, 1) := by decide +kernel
theorem dX11_isImage_105 : decode cX11_isImage 105 = .ok (.istore_n 2, 1) := by decide +kernel
theorem dX11_isImage_106 : decode cX11_isImage 106 = .ok (.iload_n 2, 1) := by decide +kernel
theorem dX11_isImage_107 : decode cX11_isImage 107 = .ok (.iload_n 1, 1) := by decide +kernel
theorem dX11_isImage_108 : decode cX11_isImage 108 = .ok (.iconst 1, 1) := by decide +kernel
theorem dX11_isImage_109 : decode cX11_isImage 109 = .ok (.isub, 1) := by decide +kernel
theorem dX11_isImage_110 : decode cX11_isImage 110 = .ok (.if_icmp .ge 92, 3) := by decide +kernel
theorem dX11_isImage_113 : decode cX11_isImage 113 = .ok (.aload_n 0, 1) := by decide +kernel
theorem dX11_isImage_114 : decode cX11_isImage 114 = .ok (.getfield 7, 3) := by decide +kernel
theorem dX11_isImage_117 : decode cX11_isImage 117 = .ok (.iload_n 2, 1) := by decide +kernel
theorem dX11_isImage_118 : decode cX11_isImage 118 = .ok (.iaload, 1) := by decide +kernel
theorem dX11_isImage_119 : decode cX11_isImage 119 = .ok (.aload_n 0, 1) := by decide +kernel
theorem dX11_isImage_120 : decode cX11_isImage 120 = .ok (.getfield 7, 3) := by decide +kernel
theorem dX11_isImage_123 : decode cX11_isImage 123 = .ok (.iload_n 2, 1) := by decide +kernel
theorem dX11_isImage_124 : decode cX11_isImage 124 = .ok (.iconst 1, 1) := by decide +kernel
theorem dX11_isImage_125 : decode cX11_isImage 125 = .ok (.iadd, 1) := by decide +kernel
theorem dX11_isImage_126 : decode cX11_isImage 126 = .ok (.iaload, 1) := by decide +kernel
theorem dX11_isImage_127 : decode cX11_isImage 127 = .ok (.if_icmp .ge 45, 3) := by decide +kernel
theorem dX11_isImage_130 : decode cX11_isImage 130 = .ok (.aload_n 0, 1) := by decide +kernel
theorem dX11_isImage_131 : decode cX11_isImage 131 = .ok (.getfield 7, 3) := by decide +kernel
theorem dX11_isImage_134 : decode cX11_isImage 134 = .ok (.iload_n 2, 1) := by decide +kernel
theorem dX11_isImage_135 : decode cX11_isImage 135 = .ok (.iconst 1, 1) := by decide +kernel
theorem dX11_isImage_136 : decode cX11_isImage 136 = .ok (.iadd, 1) := by decide +kernel
theorem dX11_isImage_137 : decode cX11_isImage 137 = .ok (.iaload, 1) := by decide +kernel
theorem dX11_isImage_138 : decode cX11_isImage 138 = .ok (.aload_n 0, 1) := by decide +kernel
theorem dX11_isImage_139 : decode cX11_isImage 139 = .ok (.getfield 7, 3) := by decide +kernel
theorem dX11_isImage_142 : decode cX11_isImage 142 = .ok (.iconst 0, 1) := by decide +kernel
theorem dX11_isImage_143 : decode cX11_isImage 143 = .ok (.iaload, 1) := by decide +kernel
theorem dX11_isImage_144 : decode cX11_isImage 144 = .ok (.if_icmp .ge 28, 3) := by decide +kernel
theorem dX11_isImage_147 : decode cX11_isImage 147 = .ok (.aload_n 0, 1) := by decide +kernel
theorem dX11_isImage_148 : decode cX11_isImage 148 = .ok (.getfield 26, 3) := by decide +kernel
theorem dX11_isImage_151 : decode cX11_isImage 151 = .ok (.aload_n 0, 1) := by decide +kernel
theorem dX11_isImage_152 : decode cX11_isImage 152 = .ok (.getfield 7, 3) := by decide +kernel
theorem dX11_isImage_155 : decode cX11_isImage 155 = .ok (.iload_n 2, 1) := by decide +kernel
theorem dX11_isImage_156 : decode cX11_isImage 156 = .ok (.iaload, 1) := by decide +kernel
theorem dX11_isImage_157 : decode cX11_isImage 157 = .ok (.aload_n 0, 1) := by decide +kernel
theorem dX11_isImage_158 : decode cX11_isImage 158 = .ok (.getfield 7, 3) := by decide +kernel
theorem dX11_isImage_161 : decode cX11_isImage 161 = .ok (.iload_n 2, 1) := by decide +kernel
theorem dX11_isImage_162 : decode cX11_isImage 162 = .ok (.iconst 1, 1) := by decide +kernel
theorem dX11_isImage_163 : decode cX11_isImage 163 = .ok (.iadd, 1) := by decide +kernel
theorem dX11_isImage_164 : decode cX11_isImage 164 = .ok (.iaload, 1) := by decide +kernel
theorem dX11_isImage_165 : decode cX11_isImage 165 = .ok (.invokestatic 169, 3) := by decide +kernel
theorem dX11_isImage_168 : decode cX11_isImage 168 = .ok (.iconst (-1), 1) := by decide +kernel
theorem dX11_isImage_169 : decode cX11_isImage 169 = .ok (.if_icmp .eq 5, 3) := by decide +kernel
theorem dX11_isImage_172 : decode cX11_isImage 172 = .ok (.iconst 0, 1) := by decide +kernel
theorem dX11_isImage_173 : decode cX11_isImage 173 = .ok (.ireturn, 1) := by decide +kernel
theorem dX11_isImage_174 : decode cX11_isImage 174 = .ok (.aload_n 0, 1) := by decide +kernel
theorem dX11_isImage_175 : decode cX11_isImage 175 = .ok (.getfield 26, 3) := by decide +kernel
theorem dX11_isImage_178 : decode cX11_isImage 178 = .ok (.aload_n 0, 1) := by decide +kernel
theorem dX11_isImage_179 : decode cX11_isImage 179 = .ok (.getfield 7, 3) := by decide +kernel
theorem dX11_isImage_182 : decode cX11_isImage 182 = .ok (.iload_n 2, 1) := by decide +kernel
theorem dX11_isImage_183 : decode cX11_isImage 183 = .ok (.iaload, 1) := by decide +kernel
theorem dX11_isImage_184 : decode cX11_isImage 184 = .ok (.aload_n 0, 1) := by decide +kernel
theorem dX11_isImage_185 : decode cX11_isImage 185 = .ok (.getfield 7, 3) := by decide +kernel
theorem dX11_isImage_188 : decode cX11_isImage 188 = .ok (.iload_n 2, 1) := by decide +kernel
theorem dX11_isImage_189 : decode cX11_isImage 189 = .ok (.iconst 1, 1) := by decide +kernel
theorem dX11_isImage_190 : decode cX11_isImage 190 = .ok (.iadd, 1) := by decide +kernel
theorem dX11_isImage_191 : decode cX11_isImage 191 = .ok (.iaload, 1) := by decide +kernel
theorem dX11_isImage_192 : decode cX11_isImage 192 = .ok (.iconst 1, 1) := by decide +kernel
theorem dX11_isImage_193 : decode cX11_isImage 193 = .ok (.invokestatic 173, 3) := by decide +kernel
theorem dX11_isImage_196 : decode cX11_isImage 196 = .ok (.iinc 2 2, 3) := by decide +kernel
theorem dX11_isImage_199 : decode cX11_isImage 199 = .ok (.goto (-93), 3) := by decide +kernel
theorem dX11_isImage_202 : decode cX11_isImage 202 = .ok (.iconst 1, 1) := by decide +kernel
theorem dX11_isImage_203 : decode cX11_isImage 203 = .ok (.ireturn, 1) := by decide +kernel
theorem dX11_on_0 : decode cX11_on 0 = .ok (.aload_n 0, 1) := by decide +kernel
theorem dX11_on_1 : decode cX11_on 1 = .ok (.getfield 96, 3) := by decide +kernel
theorem dX11_on_4 : decode cX11_on 4 = .ok (.istore_n 1, 1) := by decide +kernel
theorem dX11_on_5 : decode cX11_on 5 = .ok (.aload_n 0, 1) := by decide +kernel
theorem dX11_on_6 : decode cX11_on 6 = .ok (.iconst 0, 1) := by decide +kernel
theorem dX11_on_7 : decode cX11_on 7 = .ok (.putfield 96, 3) := by decide +kernel
theorem dX11_on_10 : decode cX11_on 10 = .ok (.aload_n 0, 1) := by decide +kernel
theorem dX11_on_11 : decode cX11_on 11 = .ok (.iload_n 1, 1) := by decide +kernel
theorem dX11_on_12 : decode cX11_on 12 = .ok (.invokevirtual 445, 3) := by decide +kernel
theorem dX11_on_15 : decode cX11_on 15 = .ok (.ifCond .ne 9, 3) := by decide +kernel
theorem dX11_on_18 : decode cX11_on 18 = .ok (.aload_n 0, 1) := by decide +kernel
theorem dX11_on_19 : decode cX11_on 19 = .ok (.iconst 5, 1) := by decide +kernel
theorem dX11_on_20 : decode cX11_on 20 = .ok (.invokevirtual 103, 3) := by decide +kernel
theorem dX11_on_23 : decode cX11_on 23 = .ok (.ireturn, 1) := by decide +kernel
theorem dX11_on_24 : decode cX11_on 24 = .ok (.aload_n 0, 1) := by decide +kernel
theorem dX11_on_25 : decode cX11_on 25 = .ok (.invokevirtual 396, 3) := by decide +kernel
theorem dX11_on_28 : decode cX11_on 28 = .ok (.aload_n 0, 1) := by decide +kernel
theorem dX11_on_29 : decode cX11_on 29 = .ok (.iconst 0, 1) := by decide +kernel
theorem dX11_on_30 : decode cX11_on 30 = .ok (.putfield 199, 3) := by decide +kernel
theorem dX11_on_33 : decode cX11_on 33 = .ok (.iconst 1, 1) := by decide +kernel
theorem dX11_on_34 : decode cX11_on 34 = .ok (.ireturn, 1) := by decide +kernel
