theorem dX10_init_0 : decode cX10_init 0 = .ok (.aload_n 0, 1) := by decide +kernel
theorem dX10_init_1 : decode cX10_init 1 = .ok (.invokespecial 1, 3) := by decide +kernel
theorem dX10_init_4 : decode cX10_init 4 = .ok (.aload_n 0, 1) := by decide +kernel
theorem dX10_init_5 : decode cX10_init 5 = .ok (.new 7, 3) := by decide +kernel
theorem dX10_init_8 : decode cX10_init 8 = .ok (.dup, 1) := by decide +kernel
theorem dX10_init_9 : decode cX10_init 9 = .ok (.invokespecial 9, 3) := by decide +kernel
theorem dX10_init_12 : decode cX10_init 12 = .ok (.putfield 10, 3) := by decide +kernel
theorem dX10_init_15 : decode cX10_init 15 = .ok (.aload_n 0, 1) := by decide +kernel
theorem dX10_init_16 : decode cX10_init 16 = .ok (.new 16, 3) := by decide +kernel
theorem dX10_init_19 : decode cX10_init 19 = .ok (.dup, 1) := by decide +kernel
theorem dX10_init_20 : decode cX10_init 20 = .ok (.invokespecial 18, 3) := by decide +kernel
theorem dX10_init_23 : decode cX10_init 23 = .ok (.putfield 19, 3) := by decide +kernel
theorem dX10_init_26 : decode cX10_init 26 = .ok (.aload_n 0, 1) := by decide +kernel
theorem dX10_init_27 : decode cX10_init 27 = .ok (.new 23, 3) := by decide +kernel
theorem dX10_init_30 : decode cX10_init 30 = .ok (.dup, 1) := by decide +kernel
theorem dX10_init_31 : decode cX10_init 31 = .ok (.invokespecial 25, 3) := by decide +kernel
theorem dX10_init_34 : decode cX10_init 34 = .ok (.putfield 26, 3) := by decide +kernel
theorem dX10_init_37 : decode cX10_init 37 = .ok (.aload_n 0, 1) := by decide +kernel
theorem dX10_init_38 : decode cX10_init 38 = .ok (.new 30, 3) := by decide +kernel
theorem dX10_init_41 : decode cX10_init 41 = .ok (.dup, 1) := by decide +kernel
theorem dX10_init_42 : decode cX10_init 42 = .ok (.invokespecial 32, 3) := by decide +kernel
theorem dX10_init_45 : decode cX10_init 45 = .ok (.putfield 33, 3) := by decide +kernel
theorem dX10_init_48 : decode cX10_init 48 = .ok (.aload_n 0, 1) := by decide +kernel
theorem dX10_init_49 : decode cX10_init 49 = .ok (.new 37, 3) := by decide +kernel
theorem dX10_init_52 : decode cX10_init 52 = .ok (.dup, 1) := by decide +kernel
theorem dX10_init_53 : decode cX10_init 53 = .ok (.invokespecial 39, 3) := by decide +kernel
theorem dX10_init_56 : decode cX10_init 56 = .ok (.putfield 40, 3) := by decide +kernel
theorem dX10_init_59 : decode cX10_init 59 = .ok (.aload_n 0, 1) := by decide +kernel
theorem dX10_init_60 : decode cX10_init 60 = .ok (.new 44, 3) := by decide +kernel
theorem dX10_init_63 : decode cX10_init 63 = .ok (.dup, 1) := by decide +kernel
theorem dX10_init_64 : decode cX10_init 64 = .ok (.invokespecial 46, 3) := by decide +kernel
theorem dX10_init_67 : decode cX10_init 67 = .ok (.putfield 47, 3) := by decide +kernel
theorem dX10_init_70 : decode cX10_init 70 = .ok (.aload_n 0, 1) := by decide +kernel
theorem dX10_init_71 : decode cX10_init 71 = .ok (.new 51, 3) := by decide +kernel
theorem dX10_init_74 : decode cX10_init 74 = .ok (.dup, 1) := by decide +kernel
theorem dX10_init_75 : decode cX10_init 75 = .ok (.invokespecial 53, 3) := by decide +kernel
theorem dX10_init_78 : decode cX10_init 78 = .ok (.putfield 54, 3) := by decide +kernel
theorem dX10_init_81 : decode cX10_init 81 = .ok (.aload_n 0, 1) := by decide +kernel
theorem dX10_init_82 : decode cX10_init 82 = .ok (.new 58, 3) := by decide +kernel
theorem dX10_init_85 : decode cX10_init 85 = .ok (.dup, 1) := by decide +kernel
theorem dX10_init_86 : decode cX10_init 86 = .ok (.invokespecial 60, 3) := by decide +kernel
theorem dX10_init_89 : decode cX10_init 89 = .ok (.putfield 61, 3) := by decide +kernel
theorem dX10_init_92 : decode cX10_init 92 = .ok (.aload_n 0, 1) := by decide +kernel
theorem dX10_init_93 : decode cX10_init 93 = .ok (.new 65, 3) := by decide +kernel
theorem dX10_init_96 : decode cX10_init 96 = .ok (.dup, 1) := by decide +kernel
theorem dX10_init_97 : decode cX10_init 97 = .ok (.invokespecial 67, 3) := by decide +kernel
theorem dX10_init_100 : decode cX10_init 100 = .ok (.putfield 68, 3) := by decide +kernel
theorem dX10_init_103 : decode cX10_init 103 = .ok (.aload_n 0, 1) := by decide +kernel
theorem dX10_init_104 : decode cX10_init 104 = .ok (.new 72, 3) := by decide +kernel
theorem dX10_init_107 : decode cX10_init 107 = .ok (.dup, 1) := by decide +kernel
theorem dX10_init_108 : decode cX10_init 108 = .ok (.invokespecial 74, 3) := by decide +kernel
theorem dX10_init_111 : decode cX10_init 111 = .ok (.putfield 75, 3) := by decide +kernel
theorem dX10_init_114 : decode cX10_init 114 = .ok (.aload_n 0, 1) := by decide +kernel
theorem dX10_init_115 : decode cX10_init 115 = .ok (.bipush 15, 2) := by decide +kernel
theorem dX10_init_117 : decode cX10_init 117 = .ok (.newarray .int, 2) := by decide +kernel
theorem dX10_init_119 : decode cX10_init 119 = .ok (.putfield 79, 3) := by decide +kernel
theorem dX10_init_122 : decode cX10_init 122 = .ok (.aload_n 0, 1) := by decide +kernel
theorem dX10_init_123 : decode cX10_init 123 = .ok (.bipush 12, 2) := by decide +kernel
theorem dX10_init_125 : decode cX10_init 125 = .ok (.newarray .int, 2) := by decide +kernel
theorem dX10_init_127 : decode cX10_init 127 = .ok (.putfield 83, 3) := by decide +kernel
theorem dX10_init_130 : decode cX10_init 130 = .ok (.aload_n 0, 1) := by decide +kernel
theorem dX10_init_131 : decode cX10_init 131 = .ok (.bipush 12, 2) := by decide +kernel
theorem dX10_init_133 : decode cX10_init 133 = .ok (.newarray .int, 2) := by decide +kernel
theorem dX10_init_135 : decode cX10_init 135 = .ok (.putfield 86, 3) := by decide +kernel
theorem dX10_init_138 : decode cX10_init 138 = .ok (.aload_n 0, 1) := by decide +kernel
theorem dX10_init_139 : decode cX10_init 139 = .ok (.bipush 25, 2) := by decide +kernel
theorem dX10_init_141 : decode cX10_init 141 = .ok (.newarray .int, 2) := by decide +kernel
theorem dX10_init_143 : decode cX10_init 143 = .ok (.putfield 89, 3) := by decide +kernel
theorem dX10_init_146 : decode cX10_init 146 = .ok (.aload_n 0, 1) := by decide +kernel
theorem dX10_init_147 : decode cX10_init 147 = .ok (.bipush 6, 2) := by decide +kernel
theorem dX10_init_149 : decode cX10_init 149 = .ok (.newarray .int, 2) := by decide +kernel
theorem dX10_init_151 : decode cX10_init 151 = .ok (.putfield 92, 3) := by decide +kernel
theorem dX10_init_154 : decode cX10_init 154 = .ok (.aload_n 0, 1) := by decide +kernel
theorem dX10_init_155 : decode cX10_init 155 = .ok (.iconst 0, 1) := by decide +kernel
theorem dX10_init_156 : decode cX10_init 156 = .ok (.putfield 95, 3) := by decide +kernel
theorem dX10_init_159 : decode cX10_init 159 = .ok (.aload_n 0, 1) := by decide +kernel
theorem dX10_init_160 : decode cX10_init 160 = .ok (.iconst 0, 1) := by decide +kernel
theorem dX10_init_161 : decode cX10_init 161 = .ok (.putfield 99, 3) := by decide +kernel
theorem dX10_init_164 : decode cX10_init 164 = .ok (.aload_n 0, 1) := by decide +kernel
theorem dX10_init_165 : decode cX10_init 165 = .ok (.iconst 1, 1) := by decide +kernel
theorem dX10_init_166 : decode cX10_init 166 = .ok (.putfield 102, 3) := by decide +kernel
theorem dX10_init_169 : decode cX10_init 169 = .ok (.return_, 1) := by decide +kernel
theorem dX10_feed_0 : decode cX10_feed 0 = .ok (.aload_n 0, 1) := by decide +kernel
theorem dX10_feed_1 : decode cX10_feed 1 = .ok (.getfield 10, 3) := by decide +kernel
theorem dX10_feed_4 : decode cX10_feed 4 = .ok (.getfield 105, 3) := by decide +kernel
theorem dX10_feed_7 : decode cX10_feed 7 = .ok (.bipush 20, 2) := by decide +kernel
theorem dX10_feed_9 : decode cX10_feed 9 = .ok (.iadd, 1) := by decide +kernel
theorem dX10_feed_10 : decode cX10_feed 10 = .ok (.sipush 800, 3) := by decide +kernel
theorem dX10_feed_13 : decode cX10_feed 13 = .ok (.if_icmp .le 9, 3) := by decide +kernel
theorem dX10_feed_16 : decode cX10_feed 16 = .ok (.aload_n 0, 1) := by decide +kernel
theorem dX10_feed_17 : decode cX10_feed 17 = .ok (.iconst 0, 1) := by decide +kernel
theorem dX10_feed_18 : decode cX10_feed 18 = .ok (.invokevirtual 108, 3) := by decide +kernel
theorem dX10_feed_21 : decode cX10_feed 21 = .ok (.ireturn, 1) := by decide +kernel
theorem dX10_feed_22 : decode cX10_feed 22 = .ok (.aload_n 0, 1) := by decide +kernel
theorem dX10_feed_23 : decode cX10_feed 23 = .ok (.getfield 10, 3) := by decide +kernel
theorem dX10_feed_26 : decode cX10_feed 26 = .ok (.iload_n 1, 1) := by decide +kernel
theorem dX10_feed_27 : decode cX10_feed 27 = .ok (.invokevirtual 112, 3) := by decide +kernel
theorem dX10_feed_30 : decode cX10_feed 30 = .ok (.aload_n 0, 1) := by decide +kernel
theorem dX10_feed_31 : decode cX10_feed 31 = .ok (.getfield 10, 3) := by decide +kernel
theorem dX10_feed_34 : decode cX10_feed 34 = .ok (.iload_n 2, 1) := by decide +kernel
theorem dX10_feed_35 : decode cX10_feed 35 = .ok (.invokevirtual 112, 3) := by decide +kernel
theorem dX10_feed_38 : decode cX10_feed 38 = .ok (.aload_n 0, 1) := by decide +kernel
theorem dX10_feed_39 : decode cX10_feed 39 = .ok (.getfield 10, 3) := by decide +kernel
theorem dX10_feed_42 : decode cX10_feed 42 = .ok (.iload_n 3, 1) := by decide +kernel
theorem dX10_feed_43 : decode cX10_feed 43 = .ok (.invokevirtual 112, 3) := by decide +kernel
theorem dX10_feed_46 : decode cX10_feed 46 = .ok (.aload_n 0, 1) := by decide +kernel
theorem dX10_feed_47 : decode cX10_feed 47 = .ok (.getfield 10, 3) := by decide +kernel
theorem dX10_feed_50 : decode cX10_feed 50 = .ok (.iload 4, 2) := by decide +kernel
theorem dX10_feed_52 : decode cX10_feed 52 = .ok (.invokevirtual 112, 3) := by decide +kernel
theorem dX10_feed_55 : decode cX10_feed 55 = .ok (.aload_n 0, 1) := by decide +kernel
theorem dX10_feed_56 : decode cX10_feed 56 = .ok (.getfield 10, 3) := by decide +kernel
theorem dX10_feed_59 : decode cX10_feed 59 = .ok (.iload 5, 2) := by decide +kernel
theorem dX10_feed_61 : decode cX10_feed 61 = .ok (.invokevirtual 112, 3) := by decide +kernel
theorem dX10_feed_64 : decode cX10_feed 64 = .ok (.aload_n 0, 1) := by decide +kernel
theorem dX10_feed_65 : decode cX10_feed 65 = .ok (.getfield 10, 3) := by decide +kernel
theorem dX10_feed_68 : decode cX10_feed 68 = .ok (.getfield 105, 3) := by decide +kernel
theorem dX10_feed_71 : decode cX10_feed 71 = .ok (.ireturn, 1) := by decide +kernel
theorem dX10_end_0 : decode cX10_end 0 = .ok (.iload_n 1, 1) := by decide +kernel
theorem dX10_end_1 : decode cX10_end 1 = .ok (.ifCond .lt 14, 3) := by decide +kernel
theorem dX10_end_4 : decode cX10_end 4 = .ok (.iload_n 1, 1) := by decide +kernel
theorem dX10_end_5 : decode cX10_end 5 = .ok (.aload_n 0, 1) := by decide +kernel
theorem dX10_end_6 : decode cX10_end 6 = .ok (.getfield 10, 3) := by decide +kernel
theorem dX10_end_9 : decode cX10_end 9 = .ok (.getfield 105, 3) := by decide +kernel
theorem dX10_end_12 : decode cX10_end 12 = .ok (.if_icmp .le 9, 3) := by decide +kernel
theorem dX10_end_15 : decode cX10_end 15 = .ok (.aload_n 0, 1) := by decide +kernel
theorem dX10_end_16 : decode cX10_end 16 = .ok (.iconst 0, 1) := by decide +kernel
theorem dX10_end_17 : decode cX10_end 17 = .ok (.invokevirtual 116, 3) := by decide +kernel
theorem dX10_end_20 : decode cX10_end 20 = .ok (.ireturn, 1) := by decide +kernel
theorem dX10_end_21 : decode cX10_end 21 = .ok (.aload_n 0, 1) := by decide +kernel
theorem dX10_end_22 : decode cX10_end 22 = .ok (.getfield 10, 3) := by decide +kernel
theorem dX10_end_25 : decode cX10_end 25 = .ok (.iload_n 1, 1) := by decide +kernel
theorem dX10_end_26 : decode cX10_end 26 = .ok (.putfield 105, 3) := by decide +kernel
theorem dX10_end_29 : decode cX10_end 29 = .ok (.iconst 1, 1) := by decide +kernel
theorem dX10_end_30 : decode cX10_end 30 = .ok (.ireturn, 1) := by decide +kernel
theorem dX10_net_0 : decode cX10_net 0 = .ok (.aload_n 0, 1) := by decide +kernel
theorem dX10_net_1 : decode cX10_net 1 = .ok (.getfield 19, 3) := by decide +kernel
theorem dX10_net_4 : decode cX10_net 4 = .ok (.aload_n 0, 1) := by decide +kernel
theorem dX10_net_5 : decode cX10_net 5 = .ok (.getfield 10, 3) := by decide +kernel
theorem dX10_net_8 : decode cX10_net 8 = .ok (.invokevirtual 120, 3) := by decide +kernel
theorem dX10_net_11 : decode cX10_net 11 = .ok (.aload_n 0, 1) := by decide +kernel
theorem dX10_net_12 : decode cX10_net 12 = .ok (.getfield 10, 3) := by decide +kernel
theorem dX10_net_15 : decode cX10_net 15 = .ok (.iconst 0, 1) := by decide +kernel
theorem dX10_net_16 : decode cX10_net 16 = .ok (.putfield 105, 3) := by decide +kernel
theorem dX10_net_19 : decode cX10_net 19 = .ok (.aload_n 0, 1) := by decide +kernel
theorem dX10_net_20 : decode cX10_net 20 = .ok (.getfield 19, 3) := by decide +kernel
theorem dX10_net_23 : decode cX10_net 23 = .ok (.getfield 124, 3) := by decide +kernel
theorem dX10_net_26 : decode cX10_net 26 = .ok (.ifCond .eq 9, 3) := by decide +kernel
theorem dX10_net_29 : decode cX10_net 29 = .ok (.aload_n 0, 1) := by decide +kernel
theorem dX10_net_30 : decode cX10_net 30 = .ok (.iconst 1, 1) := by decide +kernel
theorem dX10_net_31 : decode cX10_net 31 = .ok (.invokevirtual 108, 3) := by decide +kernel
theorem dX10_net_34 : decode cX10_net 34 = .ok (.ireturn, 1) := by decide +kernel
theorem dX10_net_35 : decode cX10_net 35 = .ok (.aload_n 0, 1) := by decide +kernel
theorem dX10_net_36 : decode cX10_net 36 = .ok (.getfield 26, 3) := by decide +kernel
theorem dX10_net_39 : decode cX10_net 39 = .ok (.aload_n 0, 1) := by decide +kernel
theorem dX10_net_40 : decode cX10_net 40 = .ok (.getfield 19, 3) := by decide +kernel
theorem dX10_net_43 : decode cX10_net 43 = .ok (.getfield 127, 3) := by decide +kernel
theorem dX10_net_46 : decode cX10_net 46 = .ok (.invokevirtual 130, 3) := by decide +kernel
theorem dX10_net_49 : decode cX10_net 49 = .ok (.aload_n 0, 1) := by decide +kernel
theorem dX10_net_50 : decode cX10_net 50 = .ok (.getfield 33, 3) := by decide +kernel
theorem dX10_net_53 : decode cX10_net 53 = .ok (.invokevirtual 134, 3) := by decide +kernel
theorem dX10_net_56 : decode cX10_net 56 = .ok (.aload_n 0, 1) := by decide +kernel
theorem dX10_net_57 : decode cX10_net 57 = .ok (.iconst 0, 1) := by decide +kernel
theorem dX10_net_58 : decode cX10_net 58 = .ok (.putfield 95, 3) := by decide +kernel
theorem dX10_net_61 : decode cX10_net 61 = .ok (.aload_n 0, 1) := by decide +kernel
theorem dX10_net_62 : decode cX10_net 62 = .ok (.iconst 0, 1) := by decide +kernel
theorem dX10_net_63 : decode cX10_net 63 = .ok (.putfield 99, 3) := by decide +kernel
theorem dX10_net_66 : decode cX10_net 66 = .ok (.aload_n 0, 1) := by decide +kernel
theorem dX10_net_67 : decode cX10_net 67 = .ok (.invokevirtual 137, 3) := by decide +kernel
theorem dX10_net_70 : decode cX10_net 70 = .ok (.aload_n 0, 1) := by decide +kernel
theorem dX10_net_71 : decode cX10_net 71 = .ok (.getfield 19, 3) := by decide +kernel
theorem dX10_net_74 : decode cX10_net 74 = .ok (.getfield 140, 3) := by decide +kernel
theorem dX10_net_77 : decode cX10_net 77 = .ok (.ireturn, 1) := by decide +kernel
theorem dX10_fault_0 : decode cX10_fault 0 = .ok (.iload_n 1, 1) := by decide +kernel
theorem dX10_fault_1 : decode cX10_fault 1 = .ok (.ifCond .ne 11, 3) := by decide +kernel
theorem dX10_fault_4 : decode cX10_fault 4 = .ok (.aload_n 0, 1) := by decide +kernel
theorem dX10_fault_5 : decode cX10_fault 5 = .ok (.getfield 19, 3) := by decide +kernel
theorem dX10_fault_8 : decode cX10_fault 8 = .ok (.getfield 124, 3) := by decide +kernel
theorem dX10_fault_11 : decode cX10_fault 11 = .ok (.ireturn, 1) := by decide +kernel
theorem dX10_fault_12 : decode cX10_fault 12 = .ok (.iload_n 1, 1) := by decide +kernel
theorem dX10_fault_13 : decode cX10_fault 13 = .ok (.iconst 1, 1) := by decide +kernel
theorem dX10_fault_14 : decode cX10_fault 14 = .ok (.if_icmp .ne 13, 3) := by decide +kernel
theorem dX10_fault_17 : decode cX10_fault 17 = .ok (.aload_n 0, 1) := by decide +kernel
theorem dX10_fault_18 : decode cX10_fault 18 = .ok (.getfield 19, 3) := by decide +kernel
theorem dX10_fault_21 : decode cX10_fault 21 = .ok (.getfield 143, 3) := by decide +kernel
theorem dX10_fault_24 : decode cX10_fault 24 = .ok (.goto 4, 3) := by decide +kernel
theorem dX10_fault_27 : decode cX10_fault 27 = .ok (.iconst (-1), 1) := by decide +kernel
theorem dX10_fault_28 : decode cX10_fault 28 = .ok (.ireturn, 1) := by decide +kernel
theorem dX10_has_0 : decode cX10_has 0 = .ok (.iload_n 1, 1) := by decide +kernel
theorem dX10_has_1 : decode cX10_has 1 = .ok (.tableswitch 117 0 7 #[47, 55, 63, 71, 76, 81, 89, 97], 47) := by decide +kernel
theorem dX10_has_48 : decode cX10_has 48 = .ok (.aload_n 0, 1) := by decide +kernel
theorem dX10_has_49 : decode cX10_has 49 = .ok (.getfield 26, 3) := by decide +kernel
theorem dX10_has_52 : decode cX10_has 52 = .ok (.getfield 146, 3) := by decide +kernel
theorem dX10_has_55 : decode cX10_has 55 = .ok (.ireturn, 1) := by decide +kernel
theorem dX10_has_56 : decode cX10_has 56 = .ok (.aload_n 0, 1) := by decide +kernel
theorem dX10_has_57 : decode cX10_has 57 = .ok (.getfield 26, 3) := by decide +kernel
theorem dX10_has_60 : decode cX10_has 60 = .ok (.getfield 149, 3) := by decide +kernel
theorem dX10_has_63 : decode cX10_has 63 = .ok (.ireturn, 1) := by decide +kernel
theorem dX10_has_64 : decode cX10_has 64 = .ok (.aload_n 0, 1) := by decide +kernel
theorem dX10_has_65 : decode cX10_has 65 = .ok (.invokevirtual 152, 3) := by decide +kernel
theorem dX10_has_68 : decode cX10_has 68 = .ok (.getfield 156, 3) := by decide +kernel
theorem dX10_has_71 : decode cX10_has 71 = .ok (.ireturn, 1) := by decide +kernel
theorem dX10_has_72 : decode cX10_has 72 = .ok (.aload_n 0, 1) := by decide +kernel
theorem dX10_has_73 : decode cX10_has 73 = .ok (.getfield 95, 3) := by decide +kernel
theorem dX10_has_76 : decode cX10_has 76 = .ok (.ireturn, 1) := by decide +kernel
theorem dX10_has_77 : decode cX10_has 77 = .ok (.aload_n 0, 1) := by decide +kernel
theorem dX10_has_78 : decode cX10_has 78 = .ok (.getfield 99, 3) := by decide +kernel
theorem dX10_has_81 : decode cX10_has 81 = .ok (.ireturn, 1) := by decide +kernel
theorem dX10_has_82 : decode cX10_has 82 = .ok (.aload_n 0, 1) := by decide +kernel
theorem dX10_has_83 : decode cX10_has 83 = .ok (.getfield 33, 3) := by decide +kernel
theorem dX10_has_86 : decode cX10_has 86 = .ok (.getfield 159, 3) := by decide +kernel
theorem dX10_has_89 : decode cX10_has 89 = .ok (.ireturn, 1) := by decide +kernel
theorem dX10_has_90 : decode cX10_has 90 = .ok (.aload_n 0, 1) := by decide +kernel
theorem dX10_has_91 : decode cX10_has 91 = .ok (.invokevirtual 160, 3) := by decide +kernel
theorem dX10_has_94 : decode cX10_has 94 = .ok (.getfield 164, 3) := by decide +kernel
theorem dX10_has_97 : decode cX10_has 97 = .ok (.ireturn, 1) := by decide +kernel
theorem dX10_has_98 : decode cX10_has 98 = .ok (.aload_n 0, 1) := by decide +kernel
theorem dX10_has_99 : decode cX10_has 99 = .ok (.invokevirtual 152, 3) := by decide +kernel
theorem dX10_has_102 : decode cX10_has 102 = .ok (.aload_n 0, 1) := by decide +kernel
theorem dX10_has_103 : decode cX10_has 103 = .ok (.getfield 26, 3) := by decide +kernel
theorem dX10_has_106 : decode cX10_has 106 = .ok (.invokevirtual 167, 3) := by decide +kernel
theorem dX10_has_109 : decode cX10_has 109 = .ok (.ifCond .eq 7, 3) := by decide +kernel
theorem dX10_has_112 : decode cX10_has 112 = .ok (.iconst 1, 1) := by decide +kernel
theorem dX10_has_113 : decode cX10_has 113 = .ok (.goto 4, 3) := by decide +kernel
theorem dX10_has_116 : decode cX10_has 116 = .ok (.iconst 0, 1) := by decide +kernel
theorem dX10_has_117 : decode cX10_has 117 = .ok (.ireturn, 1) := by decide +kernel
theorem dX10_has_118 : decode cX10_has 118 = .ok (.iconst (-1), 1) := by decide +kernel
theorem dX10_has_119 : decode cX10_has 119 = .ok (.ireturn, 1) := by decide +kernel
theorem dX10_letter_0 : decode cX10_letter 0 = .ok (.aload_n 0, 1) := by decide +kernel
theorem dX10_letter_1 : decode cX10_letter 1 = .ok (.getfield 26, 3) := by decide +kernel
theorem dX10_letter_4 : decode cX10_letter 4 = .ok (.iload_n 1, 1) := by decide +kernel
theorem dX10_letter_5 : decode cX10_letter 5 = .ok (.invokevirtual 171, 3) := by decide +kernel
theorem dX10_letter_8 : decode cX10_letter 8 = .ok (.ifCond .eq 12, 3) := by decide +kernel
theorem dX10_letter_11 : decode cX10_letter 11 = .ok (.iload_n 2, 1) := by decide +kernel
theorem dX10_letter_12 : decode cX10_letter 12 = .ok (.ifCond .lt 8, 3) := by decide +kernel
theorem dX10_letter_15 : decode cX10_letter 15 = .ok (.iload_n 2, 1) := by decide +kernel
theorem dX10_letter_16 : decode cX10_letter 16 = .ok (.iconst 4, 1) := by decide +kernel
theorem dX10_letter_17 : decode cX10_letter 17 = .ok (.if_icmp .lt 5, 3) := by decide +kernel
theorem dX10_letter_20 : decode cX10_letter 20 = .ok (.iconst (-1), 1) := by decide +kernel
theorem dX10_letter_21 : decode cX10_letter 21 = .ok (.ireturn, 1) := by decide +kernel
theorem dX10_letter_22 : decode cX10_letter 22 = .ok (.aload_n 0, 1) := by decide +kernel
theorem dX10_letter_23 : decode cX10_letter 23 = .ok (.getfield 26, 3) := by decide +kernel
theorem dX10_letter_26 : decode cX10_letter 26 = .ok (.getfield 174, 3) := by decide +kernel
theorem dX10_letter_29 : decode cX10_letter 29 = .ok (.iload_n 1, 1) := by decide +kernel
theorem dX10_letter_30 : decode cX10_letter 30 = .ok (.iaload, 1) := by decide +kernel
theorem dX10_letter_31 : decode cX10_letter 31 = .ok (.iload_n 2, 1) := by decide +kernel
theorem dX10_letter_32 : decode cX10_letter 32 = .ok (.invokestatic 177, 3) := by decide +kernel
theorem dX10_letter_35 : decode cX10_letter 35 = .ok (.ireturn, 1) := by decide +kernel
theorem dX10_named_0 : decode cX10_named 0 = .ok (.aload_n 0, 1) := by decide +kernel
theorem dX10_named_1 : decode cX10_named 1 = .ok (.getfield 19, 3) := by decide +kernel
theorem dX10_named_4 : decode cX10_named 4 = .ok (.aload_n 0, 1) := by decide +kernel
theorem dX10_named_5 : decode cX10_named 5 = .ok (.getfield 10, 3) := by decide +kernel
theorem dX10_named_8 : decode cX10_named 8 = .ok (.invokevirtual 181, 3) := by decide +kernel
theorem dX10_named_11 : decode cX10_named 11 = .ok (.istore_n 1, 1) := by decide +kernel
theorem dX10_named_12 : decode cX10_named 12 = .ok (.aload_n 0, 1) := by decide +kernel
theorem dX10_named_13 : decode cX10_named 13 = .ok (.getfield 10, 3) := by decide +kernel
theorem dX10_named_16 : decode cX10_named 16 = .ok (.iconst 0, 1) := by decide +kernel
theorem dX10_named_17 : decode cX10_named 17 = .ok (.putfield 105, 3) := by decide +kernel
theorem dX10_named_20 : decode cX10_named 20 = .ok (.aload_n 0, 1) := by decide +kernel
theorem dX10_named_21 : decode cX10_named 21 = .ok (.getfield 26, 3) := by decide +kernel
theorem dX10_named_24 : decode cX10_named 24 = .ok (.iload_n 1, 1) := by decide +kernel
theorem dX10_named_25 : decode cX10_named 25 = .ok (.invokevirtual 185, 3) := by decide +kernel
theorem dX10_named_28 : decode cX10_named 28 = .ok (.ireturn, 1) := by decide +kernel
theorem dX10_line_0 : decode cX10_line 0 = .ok (.aload_n 0, 1) := by decide +kernel
theorem dX10_line_1 : decode cX10_line 1 = .ok (.getfield 26, 3) := by decide +kernel
theorem dX10_line_4 : decode cX10_line 4 = .ok (.iload_n 1, 1) := by decide +kernel
theorem dX10_line_5 : decode cX10_line 5 = .ok (.invokevirtual 188, 3) := by decide +kernel
theorem dX10_line_8 : decode cX10_line 8 = .ok (.ifCond .ne 5, 3) := by decide +kernel
theorem dX10_line_11 : decode cX10_line 11 = .ok (.iconst (-1), 1) := by decide +kernel
theorem dX10_line_12 : decode cX10_line 12 = .ok (.ireturn, 1) := by decide +kernel
theorem dX10_line_13 : decode cX10_line 13 = .ok (.iload_n 2, 1) := by decide +kernel
theorem dX10_line_14 : decode cX10_line 14 = .ok (.tableswitch 70 0 3 #[30, 40, 50, 60], 30) := by decide +kernel
theorem dX10_line_44 : decode cX10_line 44 = .ok (.aload_n 0, 1) := by decide +kernel
theorem dX10_line_45 : decode cX10_line 45 = .ok (.getfield 26, 3) := by decide +kernel
theorem dX10_line_48 : decode cX10_line 48 = .ok (.getfield 191, 3) := by decide +kernel
theorem dX10_line_51 : decode cX10_line 51 = .ok (.iload_n 1, 1) := by decide +kernel
theorem dX10_line_52 : decode cX10_line 52 = .ok (.iaload, 1) := by decide +kernel
theorem dX10_line_53 : decode cX10_line 53 = .ok (.ireturn, 1) := by decide +kernel
theorem dX10_line_54 : decode cX10_line 54 = .ok (.aload_n 0, 1) := by decide +kernel
theorem dX10_line_55 : decode cX10_line 55 = .ok (.getfield 26, 3) := by decide +kernel
theorem dX10_line_58 : decode cX10_line 58 = .ok (.getfield 194, 3) := by decide +kernel
theorem dX10_line_61 : decode cX10_line 61 = .ok (.iload_n 1, 1) := by decide +kernel
theorem dX10_line_62 : decode cX10_line 62 = .ok (.iaload, 1) := by decide +kernel
theorem dX10_line_63 : decode cX10_line 63 = .ok (.ireturn, 1) := by decide +kernel
theorem dX10_line_64 : decode cX10_line 64 = .ok (.aload_n 0, 1) := by decide +kernel
theorem dX10_line_65 : decode cX10_line 65 = .ok (.invokevirtual 152, 3) := by decide +kernel
theorem dX10_line_68 : decode cX10_line 68 = .ok (.getfield 197, 3) := by decide +kernel
theorem dX10_line_71 : decode cX10_line 71 = .ok (.iload_n 1, 1) := by decide +kernel
theorem dX10_line_72 : decode cX10_line 72 = .ok (.iaload, 1) := by decide +kernel
theorem dX10_line_73 : decode cX10_line 73 = .ok (.ireturn, 1) := by decide +kernel
theorem dX10_line_74 : decode cX10_line 74 = .ok (.aload_n 0, 1) := by decide +kernel
theorem dX10_line_75 : decode cX10_line 75 = .ok (.getfield 26, 3) := by decide +kernel
theorem dX10_line_78 : decode cX10_line 78 = .ok (.getfield 200, 3) := by decide +kernel
theorem dX10_line_81 : decode cX10_line 81 = .ok (.iload_n 1, 1) := by decide +kernel
theorem dX10_line_82 : decode cX10_line 82 = .ok (.iaload, 1) := by decide +kernel
theorem dX10_line_83 : decode cX10_line 83 = .ok (.ireturn, 1) := by decide +kernel
theorem dX10_line_84 : decode cX10_line 84 = .ok (.iconst (-1), 1) := by decide +kernel
theorem dX10_line_85 : decode cX10_line 85 = .ok (.ireturn, 1) := by decide +kernel
theorem dX10_degree_0 : decode cX10_degree 0 = .ok (.aload_n 0, 1) := by decide +kernel
theorem dX10_degree_1 : decode cX10_degree 1 = .ok (.getfield 26, 3) := by decide +kernel
theorem dX10_degree_4 : decode cX10_degree 4 = .ok (.iload_n 1, 1) := by decide +kernel
theorem dX10_degree_5 : decode cX10_degree 5 = .ok (.invokevirtual 171, 3) := by decide +kernel
theorem dX10_degree_8 : decode cX10_degree 8 = .ok (.ifCond .ne 5, 3) := by decide +kernel
theorem dX10_degree_11 : decode cX10_degree 11 = .ok (.iconst (-1), 1) := by decide +kernel
theorem dX10_degree_12 : decode cX10_degree 12 = .ok (.ireturn, 1) := by decide +kernel
theorem dX10_degree_13 : decode cX10_degree 13 = .ok (.aload_n 0, 1) := by decide +kernel
theorem dX10_degree_14 : decode cX10_degree 14 = .ok (.invokevirtual 203, 3) := by decide +kernel
theorem dX10_degree_17 : decode cX10_degree 17 = .ok (.getfield 207, 3) := by decide +kernel
theorem dX10_degree_20 : decode cX10_degree 20 = .ok (.iload_n 1, 1) := by decide +kernel
theorem dX10_degree_21 : decode cX10_degree 21 = .ok (.iaload, 1) := by decide +kernel
theorem dX10_degree_22 : decode cX10_degree 22 = .ok (.invokestatic 210, 3) := by decide +kernel
theorem dX10_degree_25 : decode cX10_degree 25 = .ok (.ireturn, 1) := by decide +kernel
theorem dX10_far_0 : decode cX10_far 0 = .ok (.aload_n 0, 1) := by decide +kernel
theorem dX10_far_1 : decode cX10_far 1 = .ok (.iload_n 1, 1) := by decide +kernel
theorem dX10_far_2 : decode cX10_far 2 = .ok (.iload_n 2, 1) := by decide +kernel
theorem dX10_far_3 : decode cX10_far 3 = .ok (.invokevirtual 215, 3) := by decide +kernel
theorem dX10_far_6 : decode cX10_far 6 = .ok (.ifCond .ne 5, 3) := by decide +kernel
theorem dX10_far_9 : decode cX10_far 9 = .ok (.iconst (-1), 1) := by decide +kernel
theorem dX10_far_10 : decode cX10_far 10 = .ok (.ireturn, 1) := by decide +kernel
theorem dX10_far_11 : decode cX10_far 11 = .ok (.aload_n 0, 1) := by decide +kernel
theorem dX10_far_12 : decode cX10_far 12 = .ok (.invokevirtual 203, 3) := by decide +kernel
theorem dX10_far_15 : decode cX10_far 15 = .ok (.getfield 219, 3) := by decide +kernel
theorem dX10_far_18 : decode cX10_far 18 = .ok (.iload_n 1, 1) := by decide +kernel
theorem dX10_far_19 : decode cX10_far 19 = .ok (.aaload, 1) := by decide +kernel
theorem dX10_far_20 : decode cX10_far 20 = .ok (.iload_n 2, 1) := by decide +kernel
theorem dX10_far_21 : decode cX10_far 21 = .ok (.iaload, 1) := by decide +kernel
theorem dX10_far_22 : decode cX10_far 22 = .ok (.ireturn, 1) := by decide +kernel
theorem dX10_ways_0 : decode cX10_ways 0 = .ok (.aload_n 0, 1) := by decide +kernel
theorem dX10_ways_1 : decode cX10_ways 1 = .ok (.iload_n 1, 1) := by decide +kernel
theorem dX10_ways_2 : decode cX10_ways 2 = .ok (.iload_n 2, 1) := by decide +kernel
theorem dX10_ways_3 : decode cX10_ways 3 = .ok (.invokevirtual 215, 3) := by decide +kernel
theorem dX10_ways_6 : decode cX10_ways 6 = .ok (.ifCond .ne 5, 3) := by decide +kernel
theorem dX10_ways_9 : decode cX10_ways 9 = .ok (.iconst (-1), 1) := by decide +kernel
theorem dX10_ways_10 : decode cX10_ways 10 = .ok (.ireturn, 1) := by decide +kernel
theorem dX10_ways_11 : decode cX10_ways 11 = .ok (.aload_n 0, 1) := by decide +kernel
theorem dX10_ways_12 : decode cX10_ways 12 = .ok (.invokevirtual 203, 3) := by decide +kernel
theorem dX10_ways_15 : decode cX10_ways 15 = .ok (.iload_n 1, 1) := by decide +kernel
theorem dX10_ways_16 : decode cX10_ways 16 = .ok (.iload_n 2, 1) := by decide +kernel
theorem dX10_ways_17 : decode cX10_ways 17 = .ok (.invokevirtual 223, 3) := by decide +kernel
theorem dX10_ways_20 : decode cX10_ways 20 = .ok (.ireturn, 1) := by decide +kernel
theorem dX10_between_0 : decode cX10_between 0 = .ok (.aload_n 0, 1) := by decide +kernel
theorem dX10_between_1 : decode cX10_between 1 = .ok (.iload_n 1, 1) := by decide +kernel
theorem dX10_between_2 : decode cX10_between 2 = .ok (.iload_n 2, 1) := by decide +kernel
theorem dX10_between_3 : decode cX10_between 3 = .ok (.invokevirtual 215, 3) := by decide +kernel
theorem dX10_between_6 : decode cX10_between 6 = .ok (.ifCond .ne 5, 3) := by decide +kernel
theorem dX10_between_9 : decode cX10_between 9 = .ok (.iconst (-1), 1) := by decide +kernel
theorem dX10_between_10 : decode cX10_between 10 = .ok (.ireturn, 1) := by decide +kernel
theorem dX10_between_11 : decode cX10_between 11 = .ok (.aload_n 0, 1) := by decide +kernel
theorem dX10_between_12 : decode cX10_between 12 = .ok (.invokevirtual 203, 3) := by decide +kernel
theorem dX10_between_15 : decode cX10_between 15 = .ok (.iload_n 1, 1) := by decide +kernel
theorem dX10_between_16 : decode cX10_between 16 = .ok (.iload_n 2, 1) := by decide +kernel
theorem dX10_between_17 : decode cX10_between 17 = .ok (.invokevirtual 226, 3) := by decide +kernel
theorem dX10_between_20 : decode cX10_between 20 = .ok (.ireturn, 1) := by decide +kernel
theorem dX10_reach_0 : decode cX10_reach 0 = .ok (.aload_n 0, 1) := by decide +kernel
theorem dX10_reach_1 : decode cX10_reach 1 = .ok (.getfield 26, 3) := by decide +kernel
theorem dX10_reach_4 : decode cX10_reach 4 = .ok (.iload_n 1, 1) := by decide +kernel
theorem dX10_reach_5 : decode cX10_reach 5 = .ok (.invokevirtual 171, 3) := by decide +kernel
theorem dX10_reach_8 : decode cX10_reach 8 = .ok (.ifCond .ne 5, 3) := by decide +kernel
theorem dX10_reach_11 : decode cX10_reach 11 = .ok (.iconst (-1), 1) := by decide +kernel
theorem dX10_reach_12 : decode cX10_reach 12 = .ok (.ireturn, 1) := by decide +kernel
theorem dX10_reach_13 : decode cX10_reach 13 = .ok (.aload_n 0, 1) := by decide +kernel
theorem dX10_reach_14 : decode cX10_reach 14 = .ok (.invokevirtual 203, 3) := by decide +kernel
theorem dX10_reach_17 : decode cX10_reach 17 = .ok (.iload_n 1, 1) := by decide +kernel
theorem dX10_reach_18 : decode cX10_reach 18 = .ok (.invokevirtual 229, 3) := by decide +kernel
theorem dX10_reach_21 : decode cX10_reach 21 = .ok (.ireturn, 1) := by decide +kernel
theorem dX10_price_0 : decode cX10_price 0 = .ok (.iload_n 3, 1) := by decide +kernel
theorem dX10_price_1 : decode cX10_price 1 = .ok (.ifCond .lt 32, 3) := by decide +kernel
theorem dX10_price_4 : decode cX10_price 4 = .ok (.iload_n 3, 1) := by decide +kernel
theorem dX10_price_5 : decode cX10_price 5 = .ok (.iconst 1, 1) := by decide +kernel
theorem dX10_price_6 : decode cX10_price 6 = .ok (.if_icmp .gt 27, 3) := by decide +kernel
theorem dX10_price_9 : decode cX10_price 9 = .ok (.aload_n 0, 1) := by decide +kernel
theorem dX10_price_10 : decode cX10_price 10 = .ok (.iload_n 1, 1) := by decide +kernel
theorem dX10_price_11 : decode cX10_price 11 = .ok (.iload_n 2, 1) := by decide +kernel
theorem dX10_price_12 : decode cX10_price 12 = .ok (.invokevirtual 215, 3) := by decide +kernel
theorem dX10_price_15 : decode cX10_price 15 = .ok (.ifCond .eq 18, 3) := by decide +kernel
theorem dX10_price_18 : decode cX10_price 18 = .ok (.aload_n 0, 1) := by decide +kernel
theorem dX10_price_19 : decode cX10_price 19 = .ok (.invokevirtual 203, 3) := by decide +kernel
theorem dX10_price_22 : decode cX10_price 22 = .ok (.getfield 219, 3) := by decide +kernel
theorem dX10_price_25 : decode cX10_price 25 = .ok (.iload_n 1, 1) := by decide +kernel
theorem dX10_price_26 : decode cX10_price 26 = .ok (.aaload, 1) := by decide +kernel
theorem dX10_price_27 : decode cX10_price 27 = .ok (.iload_n 2, 1) := by decide +kernel
theorem dX10_price_28 : decode cX10_price 28 = .ok (.iaload, 1) := by decide +kernel
theorem dX10_price_29 : decode cX10_price 29 = .ok (.iconst (-1), 1) := by decide +kernel
theorem dX10_price_30 : decode cX10_price 30 = .ok (.if_icmp .ne 5, 3) := by decide +kernel
theorem dX10_price_33 : decode cX10_price 33 = .ok (.iconst (-1), 1) := by decide +kernel
theorem dX10_price_34 : decode cX10_price 34 = .ok (.ireturn, 1) := by decide +kernel
theorem dX10_price_35 : decode cX10_price 35 = .ok (.aload_n 0, 1) := by decide +kernel
theorem dX10_price_36 : decode cX10_price 36 = .ok (.getfield 61, 3) := by decide +kernel
theorem dX10_price_39 : decode cX10_price 39 = .ok (.aload_n 0, 1) := by decide +kernel
theorem dX10_price_40 : decode cX10_price 40 = .ok (.getfield 26, 3) := by decide +kernel
theorem dX10_price_43 : decode cX10_price 43 = .ok (.iload_n 2, 1) := by decide +kernel
theorem dX10_price_44 : decode cX10_price 44 = .ok (.iload_n 3, 1) := by decide +kernel
theorem dX10_price_45 : decode cX10_price 45 = .ok (.iconst 1, 1) := by decide +kernel
theorem dX10_price_46 : decode cX10_price 46 = .ok (.if_icmp .ne 7, 3) := by decide +kernel
theorem dX10_price_49 : decode cX10_price 49 = .ok (.iconst 1, 1) := by decide +kernel
theorem dX10_price_50 : decode cX10_price 50 = .ok (.goto 4, 3) := by decide +kernel
theorem dX10_price_53 : decode cX10_price 53 = .ok (.iconst 0, 1) := by decide +kernel
theorem dX10_price_54 : decode cX10_price 54 = .ok (.invokevirtual 232, 3) := by decide +kernel
theorem dX10_price_57 : decode cX10_price 57 = .ok (.aload_n 0, 1) := by decide +kernel
theorem dX10_price_58 : decode cX10_price 58 = .ok (.getfield 61, 3) := by decide +kernel
theorem dX10_price_61 : decode cX10_price 61 = .ok (.getfield 236, 3) := by decide +kernel
theorem dX10_price_64 : decode cX10_price 64 = .ok (.iload_n 1, 1) := by decide +kernel
theorem dX10_price_65 : decode cX10_price 65 = .ok (.iaload, 1) := by decide +kernel
theorem dX10_price_66 : decode cX10_price 66 = .ok (.ireturn, 1) := by decide +kernel
theorem dX10_road_0 : decode cX10_road 0 = .ok (.iload_n 3, 1) := by decide +kernel
theorem dX10_road_1 : decode cX10_road 1 = .ok (.iconst (-1), 1) := by decide +kernel
theorem dX10_road_2 : decode cX10_road 2 = .ok (.if_icmp .lt 33, 3) := by decide +kernel
theorem dX10_road_5 : decode cX10_road 5 = .ok (.iload_n 3, 1) := by decide +kernel
theorem dX10_road_6 : decode cX10_road 6 = .ok (.bipush 24, 2) := by decide +kernel
theorem dX10_road_8 : decode cX10_road 8 = .ok (.if_icmp .ge 27, 3) := by decide +kernel
theorem dX10_road_11 : decode cX10_road 11 = .ok (.aload_n 0, 1) := by decide +kernel
theorem dX10_road_12 : decode cX10_road 12 = .ok (.iload_n 1, 1) := by decide +kernel
theorem dX10_road_13 : decode cX10_road 13 = .ok (.iload_n 2, 1) := by decide +kernel
theorem dX10_road_14 : decode cX10_road 14 = .ok (.invokevirtual 215, 3) := by decide +kernel
theorem dX10_road_17 : decode cX10_road 17 = .ok (.ifCond .eq 18, 3) := by decide +kernel
theorem dX10_road_20 : decode cX10_road 20 = .ok (.aload_n 0, 1) := by decide +kernel
theorem dX10_road_21 : decode cX10_road 21 = .ok (.invokevirtual 203, 3) := by decide +kernel
theorem dX10_road_24 : decode cX10_road 24 = .ok (.getfield 219, 3) := by decide +kernel
theorem dX10_road_27 : decode cX10_road 27 = .ok (.iload_n 1, 1) := by decide +kernel
theorem dX10_road_28 : decode cX10_road 28 = .ok (.aaload, 1) := by decide +kernel
theorem dX10_road_29 : decode cX10_road 29 = .ok (.iload_n 2, 1) := by decide +kernel
theorem dX10_road_30 : decode cX10_road 30 = .ok (.iaload, 1) := by decide +kernel
theorem dX10_road_31 : decode cX10_road 31 = .ok (.iconst (-1), 1) := by decide +kernel
theorem dX10_road_32 : decode cX10_road 32 = .ok (.if_icmp .ne 5, 3) := by decide +kernel
theorem dX10_road_35 : decode cX10_road 35 = .ok (.iconst (-1), 1) := by decide +kernel
theorem dX10_road_36 : decode cX10_road 36 = .ok (.ireturn, 1) := by decide +kernel
theorem dX10_road_37 : decode cX10_road 37 = .ok (.aload_n 0, 1) := by decide +kernel
theorem dX10_road_38 : decode cX10_road 38 = .ok (.getfield 61, 3) := by decide +kernel
theorem dX10_road_41 : decode cX10_road 41 = .ok (.aload_n 0, 1) := by decide +kernel
theorem dX10_road_42 : decode cX10_road 42 = .ok (.getfield 26, 3) := by decide +kernel
theorem dX10_road_45 : decode cX10_road 45 = .ok (.iload_n 2, 1) := by decide +kernel
theorem dX10_road_46 : decode cX10_road 46 = .ok (.iconst 0, 1) := by decide +kernel
theorem dX10_road_47 : decode cX10_road 47 = .ok (.invokevirtual 232, 3) := by decide +kernel
theorem dX10_road_50 : decode cX10_road 50 = .ok (.aload_n 0, 1) := by decide +kernel
theorem dX10_road_51 : decode cX10_road 51 = .ok (.getfield 61, 3) := by decide +kernel
theorem dX10_road_54 : decode cX10_road 54 = .ok (.aload_n 0, 1) := by decide +kernel
theorem dX10_road_55 : decode cX10_road 55 = .ok (.getfield 26, 3) := by decide +kernel
theorem dX10_road_58 : decode cX10_road 58 = .ok (.iload_n 1, 1) := by decide +kernel
theorem dX10_road_59 : decode cX10_road 59 = .ok (.iload_n 2, 1) := by decide +kernel
theorem dX10_road_60 : decode cX10_road 60 = .ok (.invokevirtual 239, 3) := by decide +kernel
theorem dX10_road_63 : decode cX10_road 63 = .ok (.iload_n 3, 1) := by decide +kernel
theorem dX10_road_64 : decode cX10_road 64 = .ok (.iconst (-1), 1) := by decide +kernel
theorem dX10_road_65 : decode cX10_road 65 = .ok (.if_icmp .ne 11, 3) := by decide +kernel
theorem dX10_road_68 : decode cX10_road 68 = .ok (.aload_n 0, 1) := by decide +kernel
theorem dX10_road_69 : decode cX10_road 69 = .ok (.getfield 61, 3) := by decide +kernel
theorem dX10_road_72 : decode cX10_road 72 = .ok (.getfield 243, 3) := by decide +kernel
theorem dX10_road_75 : decode cX10_road 75 = .ok (.ireturn, 1) := by decide +kernel
theorem dX10_road_76 : decode cX10_road 76 = .ok (.iload_n 3, 1) := by decide +kernel
theorem dX10_road_77 : decode cX10_road 77 = .ok (.aload_n 0, 1) := by decide +kernel
theorem dX10_road_78 : decode cX10_road 78 = .ok (.getfield 61, 3) := by decide +kernel
theorem dX10_road_81 : decode cX10_road 81 = .ok (.getfield 243, 3) := by decide +kernel
theorem dX10_road_84 : decode cX10_road 84 = .ok (.if_icmp .ge 15, 3) := by decide +kernel
theorem dX10_road_87 : decode cX10_road 87 = .ok (.aload_n 0, 1) := by decide +kernel
theorem dX10_road_88 : decode cX10_road 88 = .ok (.getfield 61, 3) := by decide +kernel
theorem dX10_road_91 : decode cX10_road 91 = .ok (.getfield 244, 3) := by decide +kernel
theorem dX10_road_94 : decode cX10_road 94 = .ok (.iload_n 3, 1) := by decide +kernel
theorem dX10_road_95 : decode cX10_road 95 = .ok (.iaload, 1) := by decide +kernel
theorem dX10_road_96 : decode cX10_road 96 = .ok (.goto 4, 3) := by decide +kernel
theorem dX10_road_99 : decode cX10_road 99 = .ok (.iconst (-1), 1) := by decide +kernel
theorem dX10_road_100 : decode cX10_road 100 = .ok (.ireturn, 1) := by decide +kernel
theorem dX10_spread_0 : decode cX10_spread 0 = .ok (.aload_n 0, 1) := by decide +kernel
theorem dX10_spread_1 : decode cX10_spread 1 = .ok (.invokevirtual 203, 3) := by decide +kernel
theorem dX10_spread_4 : decode cX10_spread 4 = .ok (.invokevirtual 247, 3) := by decide +kernel
theorem dX10_spread_7 : decode cX10_spread 7 = .ok (.ireturn, 1) := by decide +kernel
theorem dX10_alike_0 : decode cX10_alike 0 = .ok (.aload_n 0, 1) := by decide +kernel
theorem dX10_alike_1 : decode cX10_alike 1 = .ok (.getfield 26, 3) := by decide +kernel
theorem dX10_alike_4 : decode cX10_alike 4 = .ok (.iload_n 1, 1) := by decide +kernel
theorem dX10_alike_5 : decode cX10_alike 5 = .ok (.invokevirtual 188, 3) := by decide +kernel
theorem dX10_alike_8 : decode cX10_alike 8 = .ok (.ifCond .eq 14, 3) := by decide +kernel
theorem dX10_alike_11 : decode cX10_alike 11 = .ok (.aload_n 0, 1) := by decide +kernel
theorem dX10_alike_12 : decode cX10_alike 12 = .ok (.getfield 26, 3) := by decide +kernel
theorem dX10_alike_15 : decode cX10_alike 15 = .ok (.iload_n 2, 1) := by decide +kernel
theorem dX10_alike_16 : decode cX10_alike 16 = .ok (.invokevirtual 188, 3) := by decide +kernel
theorem dX10_alike_19 : decode cX10_alike 19 = .ok (.ifCond .ne 5, 3) := by decide +kernel
theorem dX10_alike_22 : decode cX10_alike 22 = .ok (.iconst (-1), 1) := by decide +kernel
theorem dX10_alike_23 : decode cX10_alike 23 = .ok (.ireturn, 1) := by decide +kernel
theorem dX10_alike_24 : decode cX10_alike 24 = .ok (.aload_n 0, 1) := by decide +kernel
theorem dX10_alike_25 : decode cX10_alike 25 = .ok (.invokevirtual 203, 3) := by decide +kernel
theorem dX10_alike_28 : decode cX10_alike 28 = .ok (.aload_n 0, 1) := by decide +kernel
theorem dX10_alike_29 : decode cX10_alike 29 = .ok (.getfield 26, 3) := by decide +kernel
theorem dX10_alike_32 : decode cX10_alike 32 = .ok (.iload_n 1, 1) := by decide +kernel
theorem dX10_alike_33 : decode cX10_alike 33 = .ok (.iload_n 2, 1) := by decide +kernel
theorem dX10_alike_34 : decode cX10_alike 34 = .ok (.invokevirtual 251, 3) := by decide +kernel
theorem dX10_alike_37 : decode cX10_alike 37 = .ok (.ifCond .eq 7, 3) := by decide +kernel
theorem dX10_alike_40 : decode cX10_alike 40 = .ok (.iconst 1, 1) := by decide +kernel
theorem dX10_alike_41 : decode cX10_alike 41 = .ok (.goto 4, 3) := by decide +kernel
theorem dX10_alike_44 : decode cX10_alike 44 = .ok (.iconst 0, 1) := by decide +kernel
theorem dX10_alike_45 : decode cX10_alike 45 = .ok (.ireturn, 1) := by decide +kernel
theorem dX10_sort_0 : decode cX10_sort 0 = .ok (.aload_n 0, 1) := by decide +kernel
theorem dX10_sort_1 : decode cX10_sort 1 = .ok (.iload_n 1, 1) := by decide +kernel
theorem dX10_sort_2 : decode cX10_sort 2 = .ok (.invokevirtual 255, 3) := by decide +kernel
theorem dX10_sort_5 : decode cX10_sort 5 = .ok (.ifCond .ne 5, 3) := by decide +kernel
theorem dX10_sort_8 : decode cX10_sort 8 = .ok (.iconst (-1), 1) := by decide +kernel
theorem dX10_sort_9 : decode cX10_sort 9 = .ok (.ireturn, 1) := by decide +kernel
theorem dX10_sort_10 : decode cX10_sort 10 = .ok (.iload_n 2, 1) := by decide +kernel
theorem dX10_sort_11 : decode cX10_sort 11 = .ok (.tableswitch 92 0 3 #[29, 39, 49, 70], 29) := by decide +kernel
theorem dX10_sort_40 : decode cX10_sort 40 = .ok (.aload_n 0, 1) := by decide +kernel
theorem dX10_sort_41 : decode cX10_sort 41 = .ok (.getfield 47, 3) := by decide +kernel
theorem dX10_sort_44 : decode cX10_sort 44 = .ok (.getfield 258, 3) := by decide +kernel
theorem dX10_sort_47 : decode cX10_sort 47 = .ok (.iload_n 1, 1) := by decide +kernel
theorem dX10_sort_48 : decode cX10_sort 48 = .ok (.iaload, 1) := by decide +kernel
theorem dX10_sort_49 : decode cX10_sort 49 = .ok (.ireturn, 1) := by decide +kernel
theorem dX10_sort_50 : decode cX10_sort 50 = .ok (.aload_n 0, 1) := by decide +kernel
theorem dX10_sort_51 : decode cX10_sort 51 = .ok (.getfield 47, 3) := by decide +kernel
theorem dX10_sort_54 : decode cX10_sort 54 = .ok (.getfield 261, 3) := by decide +kernel
theorem dX10_sort_57 : decode cX10_sort 57 = .ok (.iload_n 1, 1) := by decide +kernel
theorem dX10_sort_58 : decode cX10_sort 58 = .ok (.iaload, 1) := by decide +kernel
theorem dX10_sort_59 : decode cX10_sort 59 = .ok (.ireturn, 1) := by decide +kernel
theorem dX10_sort_60 : decode cX10_sort 60 = .ok (.aload_n 0, 1) := by decide +kernel
theorem dX10_sort_61 : decode cX10_sort 61 = .ok (.iload_n 1, 1) := by decide +kernel
theorem dX10_sort_62 : decode cX10_sort 62 = .ok (.invokevirtual 264, 3) := by decide +kernel
theorem dX10_sort_65 : decode cX10_sort 65 = .ok (.ifCond .eq 14, 3) := by decide +kernel
theorem dX10_sort_68 : decode cX10_sort 68 = .ok (.aload_n 0, 1) := by decide +kernel
theorem dX10_sort_69 : decode cX10_sort 69 = .ok (.getfield 54, 3) := by decide +kernel
theorem dX10_sort_72 : decode cX10_sort 72 = .ok (.iload_n 1, 1) := by decide +kernel
theorem dX10_sort_73 : decode cX10_sort 73 = .ok (.invokevirtual 267, 3) := by decide +kernel
theorem dX10_sort_76 : decode cX10_sort 76 = .ok (.goto 4, 3) := by decide +kernel
theorem dX10_sort_79 : decode cX10_sort 79 = .ok (.iconst (-1), 1) := by decide +kernel
theorem dX10_sort_80 : decode cX10_sort 80 = .ok (.ireturn, 1) := by decide +kernel
theorem dX10_sort_81 : decode cX10_sort 81 = .ok (.aload_n 0, 1) := by decide +kernel
theorem dX10_sort_82 : decode cX10_sort 82 = .ok (.iload_n 1, 1) := by decide +kernel
theorem dX10_sort_83 : decode cX10_sort 83 = .ok (.invokevirtual 264, 3) := by decide +kernel
theorem dX10_sort_86 : decode cX10_sort 86 = .ok (.ifCond .eq 15, 3) := by decide +kernel
theorem dX10_sort_89 : decode cX10_sort 89 = .ok (.aload_n 0, 1) := by decide +kernel
theorem dX10_sort_90 : decode cX10_sort 90 = .ok (.getfield 54, 3) := by decide +kernel
theorem dX10_sort_93 : decode cX10_sort 93 = .ok (.getfield 270, 3) := by decide +kernel
theorem dX10_sort_96 : decode cX10_sort 96 = .ok (.iload_n 1, 1) := by decide +kernel
theorem dX10_sort_97 : decode cX10_sort 97 = .ok (.iaload, 1) := by decide +kernel
theorem dX10_sort_98 : decode cX10_sort 98 = .ok (.goto 4, 3) := by decide +kernel
theorem dX10_sort_101 : decode cX10_sort 101 = .ok (.iconst (-1), 1) := by decide +kernel
theorem dX10_sort_102 : decode cX10_sort 102 = .ok (.ireturn, 1) := by decide +kernel
theorem dX10_sort_103 : decode cX10_sort 103 = .ok (.iconst (-1), 1) := by decide +kernel
theorem dX10_sort_104 : decode cX10_sort 104 = .ok (.ireturn, 1) := by decide +kernel
theorem dX10_shows_0 : decode cX10_shows 0 = .ok (.aload_n 0, 1) := by decide +kernel
theorem dX10_shows_1 : decode cX10_shows 1 = .ok (.invokevirtual 160, 3) := by decide +kernel
theorem dX10_shows_4 : decode cX10_shows 4 = .ok (.getfield 164, 3) := by decide +kernel
theorem dX10_shows_7 : decode cX10_shows 7 = .ok (.ifCond .ne 5, 3) := by decide +kernel
theorem dX10_shows_10 : decode cX10_shows 10 = .ok (.iconst (-1), 1) := by decide +kernel
theorem dX10_shows_11 : decode cX10_shows 11 = .ok (.ireturn, 1) := by decide +kernel
theorem dX10_shows_12 : decode cX10_shows 12 = .ok (.iload_n 1, 1) := by decide +kernel
theorem dX10_shows_13 : decode cX10_shows 13 = .ok (.ifCond .ne 11, 3) := by decide +kernel
theorem dX10_shows_16 : decode cX10_shows 16 = .ok (.aload_n 0, 1) := by decide +kernel
theorem dX10_shows_17 : decode cX10_shows 17 = .ok (.getfield 54, 3) := by decide +kernel
theorem dX10_shows_20 : decode cX10_shows 20 = .ok (.getfield 273, 3) := by decide +kernel
theorem dX10_shows_23 : decode cX10_shows 23 = .ok (.ireturn, 1) := by decide +kernel
theorem dX10_shows_24 : decode cX10_shows 24 = .ok (.iload_n 1, 1) := by decide +kernel
theorem dX10_shows_25 : decode cX10_shows 25 = .ok (.iconst 1, 1) := by decide +kernel
theorem dX10_shows_26 : decode cX10_shows 26 = .ok (.if_icmp .ne 13, 3) := by decide +kernel
theorem dX10_shows_29 : decode cX10_shows 29 = .ok (.aload_n 0, 1) := by decide +kernel
theorem dX10_shows_30 : decode cX10_shows 30 = .ok (.getfield 54, 3) := by decide +kernel
theorem dX10_shows_33 : decode cX10_shows 33 = .ok (.getfield 276, 3) := by decide +kernel
theorem dX10_shows_36 : decode cX10_shows 36 = .ok (.goto 4, 3) := by decide +kernel
theorem dX10_shows_39 : decode cX10_shows 39 = .ok (.iconst (-1), 1) := by decide +kernel
theorem dX10_shows_40 : decode cX10_shows 40 = .ok (.ireturn, 1) := by decide +kernel
theorem dX10_sides_0 : decode cX10_sides 0 = .ok (.aload_n 0, 1) := by decide +kernel
theorem dX10_sides_1 : decode cX10_sides 1 = .ok (.invokevirtual 160, 3) := by decide +kernel
theorem dX10_sides_4 : decode cX10_sides 4 = .ok (.getfield 279, 3) := by decide +kernel
theorem dX10_sides_7 : decode cX10_sides 7 = .ok (.ifCond .eq 14, 3) := by decide +kernel
theorem dX10_sides_10 : decode cX10_sides 10 = .ok (.aload_n 0, 1) := by decide +kernel
theorem dX10_sides_11 : decode cX10_sides 11 = .ok (.getfield 26, 3) := by decide +kernel
theorem dX10_sides_14 : decode cX10_sides 14 = .ok (.iload_n 1, 1) := by decide +kernel
theorem dX10_sides_15 : decode cX10_sides 15 = .ok (.invokevirtual 171, 3) := by decide +kernel
theorem dX10_sides_18 : decode cX10_sides 18 = .ok (.ifCond .ne 5, 3) := by decide +kernel
theorem dX10_sides_21 : decode cX10_sides 21 = .ok (.iconst (-1), 1) := by decide +kernel
theorem dX10_sides_22 : decode cX10_sides 22 = .ok (.ireturn, 1) := by decide +kernel
theorem dX10_sides_23 : decode cX10_sides 23 = .ok (.aload_n 0, 1) := by decide +kernel
theorem dX10_sides_24 : decode cX10_sides 24 = .ok (.getfield 54, 3) := by decide +kernel
theorem dX10_sides_27 : decode cX10_sides 27 = .ok (.getfield 283, 3) := by decide +kernel
theorem dX10_sides_30 : decode cX10_sides 30 = .ok (.iload_n 1, 1) := by decide +kernel
theorem dX10_sides_31 : decode cX10_sides 31 = .ok (.iaload, 1) := by decide +kernel
theorem dX10_sides_32 : decode cX10_sides 32 = .ok (.ireturn, 1) := by decide +kernel
theorem dX10_at_0 : decode cX10_at 0 = .ok (.aload_n 0, 1) := by decide +kernel
theorem dX10_at_1 : decode cX10_at 1 = .ok (.invokevirtual 160, 3) := by decide +kernel
theorem dX10_at_4 : decode cX10_at 4 = .ok (.getfield 279, 3) := by decide +kernel
theorem dX10_at_7 : decode cX10_at 7 = .ok (.ifCond .eq 14, 3) := by decide +kernel
theorem dX10_at_10 : decode cX10_at 10 = .ok (.aload_n 0, 1) := by decide +kernel
theorem dX10_at_11 : decode cX10_at 11 = .ok (.getfield 54, 3) := by decide +kernel
theorem dX10_at_14 : decode cX10_at 14 = .ok (.iload_n 1, 1) := by decide +kernel
theorem dX10_at_15 : decode cX10_at 15 = .ok (.invokevirtual 286, 3) := by decide +kernel
theorem dX10_at_18 : decode cX10_at 18 = .ok (.goto 4, 3) := by decide +kernel
theorem dX10_at_21 : decode cX10_at 21 = .ok (.iconst (-1), 1) := by decide +kernel
theorem dX10_at_22 : decode cX10_at 22 = .ok (.ireturn, 1) := by decide +kernel
theorem dX10_cross_0 : decode cX10_cross 0 = .ok (.iload_n 1, 1) := by decide +kernel
theorem dX10_cross_1 : decode cX10_cross 1 = .ok (.iload_n 2, 1) := by decide +kernel
theorem dX10_cross_2 : decode cX10_cross 2 = .ok (.if_icmp .eq 19, 3) := by decide +kernel
theorem dX10_cross_5 : decode cX10_cross 5 = .ok (.aload_n 0, 1) := by decide +kernel
theorem dX10_cross_6 : decode cX10_cross 6 = .ok (.iload_n 1, 1) := by decide +kernel
theorem dX10_cross_7 : decode cX10_cross 7 = .ok (.invokevirtual 264, 3) := by decide +kernel
theorem dX10_cross_10 : decode cX10_cross 10 = .ok (.ifCond .eq 11, 3) := by decide +kernel
theorem dX10_cross_13 : decode cX10_cross 13 = .ok (.aload_n 0, 1) := by decide +kernel
theorem dX10_cross_14 : decode cX10_cross 14 = .ok (.iload_n 2, 1) := by decide +kernel
theorem dX10_cross_15 : decode cX10_cross 15 = .ok (.invokevirtual 264, 3) := by decide +kernel
theorem dX10_cross_18 : decode cX10_cross 18 = .ok (.ifCond .ne 5, 3) := by decide +kernel
theorem dX10_cross_21 : decode cX10_cross 21 = .ok (.iconst (-1), 1) := by decide +kernel
theorem dX10_cross_22 : decode cX10_cross 22 = .ok (.ireturn, 1) := by decide +kernel
theorem dX10_cross_23 : decode cX10_cross 23 = .ok (.aload_n 0, 1) := by decide +kernel
theorem dX10_cross_24 : decode cX10_cross 24 = .ok (.getfield 54, 3) := by decide +kernel
theorem dX10_cross_27 : decode cX10_cross 27 = .ok (.iload_n 1, 1) := by decide +kernel
theorem dX10_cross_28 : decode cX10_cross 28 = .ok (.iload_n 2, 1) := by decide +kernel
theorem dX10_cross_29 : decode cX10_cross 29 = .ok (.invokevirtual 289, 3) := by decide +kernel
theorem dX10_cross_32 : decode cX10_cross 32 = .ok (.ireturn, 1) := by decide +kernel
theorem dX10_fit_0 : decode cX10_fit 0 = .ok (.iload_n 1, 1) := by decide +kernel
theorem dX10_fit_1 : decode cX10_fit 1 = .ok (.iload_n 2, 1) := by decide +kernel
theorem dX10_fit_2 : decode cX10_fit 2 = .ok (.if_icmp .eq 19, 3) := by decide +kernel
theorem dX10_fit_5 : decode cX10_fit 5 = .ok (.aload_n 0, 1) := by decide +kernel
theorem dX10_fit_6 : decode cX10_fit 6 = .ok (.iload_n 1, 1) := by decide +kernel
theorem dX10_fit_7 : decode cX10_fit 7 = .ok (.invokevirtual 292, 3) := by decide +kernel
theorem dX10_fit_10 : decode cX10_fit 10 = .ok (.ifCond .eq 11, 3) := by decide +kernel
theorem dX10_fit_13 : decode cX10_fit 13 = .ok (.aload_n 0, 1) := by decide +kernel
theorem dX10_fit_14 : decode cX10_fit 14 = .ok (.iload_n 2, 1) := by decide +kernel
theorem dX10_fit_15 : decode cX10_fit 15 = .ok (.invokevirtual 292, 3) := by decide +kernel
theorem dX10_fit_18 : decode cX10_fit 18 = .ok (.ifCond .ne 5, 3) := by decide +kernel
theorem dX10_fit_21 : decode cX10_fit 21 = .ok (.iconst (-1), 1) := by decide +kernel
theorem dX10_fit_22 : decode cX10_fit 22 = .ok (.ireturn, 1) := by decide +kernel
theorem dX10_fit_23 : decode cX10_fit 23 = .ok (.aload_n 0, 1) := by decide +kernel
theorem dX10_fit_24 : decode cX10_fit 24 = .ok (.getfield 54, 3) := by decide +kernel
theorem dX10_fit_27 : decode cX10_fit 27 = .ok (.iload_n 1, 1) := by decide +kernel
theorem dX10_fit_28 : decode cX10_fit 28 = .ok (.iload_n 2, 1) := by decide +kernel
theorem dX10_fit_29 : decode cX10_fit 29 = .ok (.invokevirtual 295, 3) := by decide +kernel
theorem dX10_fit_32 : decode cX10_fit 32 = .ok (.ifCond .eq 7, 3) := by decide +kernel
theorem dX10_fit_35 : decode cX10_fit 35 = .ok (.iconst 1, 1) := by decide +kernel
theorem dX10_fit_36 : decode cX10_fit 36 = .ok (.goto 4, 3) := by decide +kernel
theorem dX10_fit_39 : decode cX10_fit 39 = .ok (.iconst 0, 1) := by decide +kernel
theorem dX10_fit_40 : decode cX10_fit 40 = .ok (.ireturn, 1) := by decide +kernel
theorem dX10_cubes_0 : decode cX10_cubes 0 = .ok (.iload_n 1, 1) := by decide +kernel
theorem dX10_cubes_1 : decode cX10_cubes 1 = .ok (.ifCond .lt 13, 3) := by decide +kernel
theorem dX10_cubes_4 : decode cX10_cubes 4 = .ok (.aload_n 0, 1) := by decide +kernel
theorem dX10_cubes_5 : decode cX10_cubes 5 = .ok (.invokevirtual 160, 3) := by decide +kernel
theorem dX10_cubes_8 : decode cX10_cubes 8 = .ok (.getfield 279, 3) := by decide +kernel
theorem dX10_cubes_11 : decode cX10_cubes 11 = .ok (.ifCond .ne 5, 3) := by decide +kernel
theorem dX10_cubes_14 : decode cX10_cubes 14 = .ok (.iconst (-1), 1) := by decide +kernel
theorem dX10_cubes_15 : decode cX10_cubes 15 = .ok (.ireturn, 1) := by decide +kernel
theorem dX10_cubes_16 : decode cX10_cubes 16 = .ok (.aload_n 0, 1) := by decide +kernel
theorem dX10_cubes_17 : decode cX10_cubes 17 = .ok (.getfield 54, 3) := by decide +kernel
theorem dX10_cubes_20 : decode cX10_cubes 20 = .ok (.iload_n 1, 1) := by decide +kernel
theorem dX10_cubes_21 : decode cX10_cubes 21 = .ok (.invokevirtual 298, 3) := by decide +kernel
theorem dX10_cubes_24 : decode cX10_cubes 24 = .ok (.ireturn, 1) := by decide +kernel
theorem dX10_most_0 : decode cX10_most 0 = .ok (.iload_n 1, 1) := by decide +kernel
theorem dX10_most_1 : decode cX10_most 1 = .ok (.ifCond .lt 18, 3) := by decide +kernel
theorem dX10_most_4 : decode cX10_most 4 = .ok (.iload_n 1, 1) := by decide +kernel
theorem dX10_most_5 : decode cX10_most 5 = .ok (.iconst 1, 1) := by decide +kernel
theorem dX10_most_6 : decode cX10_most 6 = .ok (.if_icmp .gt 13, 3) := by decide +kernel
theorem dX10_most_9 : decode cX10_most 9 = .ok (.aload_n 0, 1) := by decide +kernel
theorem dX10_most_10 : decode cX10_most 10 = .ok (.invokevirtual 160, 3) := by decide +kernel
theorem dX10_most_13 : decode cX10_most 13 = .ok (.getfield 279, 3) := by decide +kernel
theorem dX10_most_16 : decode cX10_most 16 = .ok (.ifCond .ne 5, 3) := by decide +kernel
theorem dX10_most_19 : decode cX10_most 19 = .ok (.iconst (-1), 1) := by decide +kernel
theorem dX10_most_20 : decode cX10_most 20 = .ok (.ireturn, 1) := by decide +kernel
theorem dX10_most_21 : decode cX10_most 21 = .ok (.aload_n 0, 1) := by decide +kernel
theorem dX10_most_22 : decode cX10_most 22 = .ok (.getfield 68, 3) := by decide +kernel
theorem dX10_most_25 : decode cX10_most 25 = .ok (.aload_n 0, 1) := by decide +kernel
theorem dX10_most_26 : decode cX10_most 26 = .ok (.getfield 54, 3) := by decide +kernel
theorem dX10_most_29 : decode cX10_most 29 = .ok (.invokevirtual 301, 3) := by decide +kernel
theorem dX10_most_32 : decode cX10_most 32 = .ok (.iload_n 1, 1) := by decide +kernel
theorem dX10_most_33 : decode cX10_most 33 = .ok (.ifCond .ne 13, 3) := by decide +kernel
theorem dX10_most_36 : decode cX10_most 36 = .ok (.aload_n 0, 1) := by decide +kernel
theorem dX10_most_37 : decode cX10_most 37 = .ok (.getfield 68, 3) := by decide +kernel
theorem dX10_most_40 : decode cX10_most 40 = .ok (.getfield 305, 3) := by decide +kernel
theorem dX10_most_43 : decode cX10_most 43 = .ok (.goto 10, 3) := by decide +kernel
theorem dX10_most_46 : decode cX10_most 46 = .ok (.aload_n 0, 1) := by decide +kernel
theorem dX10_most_47 : decode cX10_most 47 = .ok (.getfield 68, 3) := by decide +kernel
theorem dX10_most_50 : decode cX10_most 50 = .ok (.getfield 308, 3) := by decide +kernel
theorem dX10_most_53 : decode cX10_most 53 = .ok (.ireturn, 1) := by decide +kernel
theorem dX10_opposite_0 : decode cX10_opposite 0 = .ok (.aload_n 0, 1) := by decide +kernel
theorem dX10_opposite_1 : decode cX10_opposite 1 = .ok (.invokevirtual 160, 3) := by decide +kernel
theorem dX10_opposite_4 : decode cX10_opposite 4 = .ok (.getfield 279, 3) := by decide +kernel
theorem dX10_opposite_7 : decode cX10_opposite 7 = .ok (.ifCond .eq 14, 3) := by decide +kernel
theorem dX10_opposite_10 : decode cX10_opposite 10 = .ok (.aload_n 0, 1) := by decide +kernel
theorem dX10_opposite_11 : decode cX10_opposite 11 = .ok (.getfield 26, 3) := by decide +kernel
theorem dX10_opposite_14 : decode cX10_opposite 14 = .ok (.iload_n 1, 1) := by decide +kernel
theorem dX10_opposite_15 : decode cX10_opposite 15 = .ok (.invokevirtual 171, 3) := by decide +kernel
theorem dX10_opposite_18 : decode cX10_opposite 18 = .ok (.ifCond .ne 5, 3) := by decide +kernel
theorem dX10_opposite_21 : decode cX10_opposite 21 = .ok (.iconst (-1), 1) := by decide +kernel
theorem dX10_opposite_22 : decode cX10_opposite 22 = .ok (.ireturn, 1) := by decide +kernel
theorem dX10_opposite_23 : decode cX10_opposite 23 = .ok (.aload_n 0, 1) := by decide +kernel
theorem dX10_opposite_24 : decode cX10_opposite 24 = .ok (.getfield 54, 3) := by decide +kernel
theorem dX10_opposite_27 : decode cX10_opposite 27 = .ok (.aload_n 0, 1) := by decide +kernel
theorem dX10_opposite_28 : decode cX10_opposite 28 = .ok (.getfield 54, 3) := by decide +kernel
theorem dX10_opposite_31 : decode cX10_opposite 31 = .ok (.getfield 283, 3) := by decide +kernel
theorem dX10_opposite_34 : decode cX10_opposite 34 = .ok (.iload_n 1, 1) := by decide +kernel
theorem dX10_opposite_35 : decode cX10_opposite 35 = .ok (.iaload, 1) := by decide +kernel
theorem dX10_opposite_36 : decode cX10_opposite 36 = .ok (.aload_n 0, 1) := by decide +kernel
theorem dX10_opposite_37 : decode cX10_opposite 37 = .ok (.getfield 54, 3) := by decide +kernel
theorem dX10_opposite_40 : decode cX10_opposite 40 = .ok (.getfield 311, 3) := by decide +kernel
theorem dX10_opposite_43 : decode cX10_opposite 43 = .ok (.invokestatic 314, 3) := by decide +kernel
theorem dX10_opposite_46 : decode cX10_opposite 46 = .ok (.ixor, 1) := by decide +kernel
theorem dX10_opposite_47 : decode cX10_opposite 47 = .ok (.invokevirtual 286, 3) := by decide +kernel
theorem dX10_opposite_50 : decode cX10_opposite 50 = .ok (.ireturn, 1) := by decide +kernel
theorem dX10_even_0 : decode cX10_even 0 = .ok (.iload_n 1, 1) := by decide +kernel
theorem dX10_even_1 : decode cX10_even 1 = .ok (.ifCond .lt 28, 3) := by decide +kernel
theorem dX10_even_4 : decode cX10_even 4 = .ok (.iload_n 1, 1) := by decide +kernel
theorem dX10_even_5 : decode cX10_even 5 = .ok (.iconst 1, 1) := by decide +kernel
theorem dX10_even_6 : decode cX10_even 6 = .ok (.if_icmp .gt 23, 3) := by decide +kernel
theorem dX10_even_9 : decode cX10_even 9 = .ok (.aload_n 0, 1) := by decide +kernel
theorem dX10_even_10 : decode cX10_even 10 = .ok (.invokevirtual 160, 3) := by decide +kernel
theorem dX10_even_13 : decode cX10_even 13 = .ok (.getfield 279, 3) := by decide +kernel
theorem dX10_even_16 : decode cX10_even 16 = .ok (.ifCond .eq 13, 3) := by decide +kernel
theorem dX10_even_19 : decode cX10_even 19 = .ok (.aload_n 0, 1) := by decide +kernel
theorem dX10_even_20 : decode cX10_even 20 = .ok (.getfield 54, 3) := by decide +kernel
theorem dX10_even_23 : decode cX10_even 23 = .ok (.getfield 311, 3) := by decide +kernel
theorem dX10_even_26 : decode cX10_even 26 = .ok (.ifCond .ne 5, 3) := by decide +kernel
theorem dX10_even_29 : decode cX10_even 29 = .ok (.iconst (-1), 1) := by decide +kernel
theorem dX10_even_30 : decode cX10_even 30 = .ok (.ireturn, 1) := by decide +kernel
theorem dX10_even_31 : decode cX10_even 31 = .ok (.iconst 0, 1) := by decide +kernel
theorem dX10_even_32 : decode cX10_even 32 = .ok (.istore_n 2, 1) := by decide +kernel
theorem dX10_even_33 : decode cX10_even 33 = .ok (.iconst 1, 1) := by decide +kernel
theorem dX10_even_34 : decode cX10_even 34 = .ok (.istore_n 3, 1) := by decide +kernel
theorem dX10_even_35 : decode cX10_even 35 = .ok (.iload_n 3, 1) := by decide +kernel
theorem dX10_even_36 : decode cX10_even 36 = .ok (.aload_n 0, 1) := by decide +kernel
theorem dX10_even_37 : decode cX10_even 37 = .ok (.getfield 54, 3) := by decide +kernel
theorem dX10_even_40 : decode cX10_even 40 = .ok (.getfield 311, 3) := by decide +kernel
theorem dX10_even_43 : decode cX10_even 43 = .ok (.if_icmp .ge 30, 3) := by decide +kernel
theorem dX10_even_46 : decode cX10_even 46 = .ok (.aload_n 0, 1) := by decide +kernel
theorem dX10_even_47 : decode cX10_even 47 = .ok (.getfield 54, 3) := by decide +kernel
theorem dX10_even_50 : decode cX10_even 50 = .ok (.iload_n 3, 1) := by decide +kernel
theorem dX10_even_51 : decode cX10_even 51 = .ok (.invokevirtual 267, 3) := by decide +kernel
theorem dX10_even_54 : decode cX10_even 54 = .ok (.aload_n 0, 1) := by decide +kernel
theorem dX10_even_55 : decode cX10_even 55 = .ok (.getfield 54, 3) := by decide +kernel
theorem dX10_even_58 : decode cX10_even 58 = .ok (.iload_n 2, 1) := by decide +kernel
theorem dX10_even_59 : decode cX10_even 59 = .ok (.invokevirtual 267, 3) := by decide +kernel
theorem dX10_even_62 : decode cX10_even 62 = .ok (.if_icmp .le 5, 3) := by decide +kernel
theorem dX10_even_65 : decode cX10_even 65 = .ok (.iload_n 3, 1) := by decide +kernel
theorem dX10_even_66 : decode cX10_even 66 = .ok (.istore_n 2, 1) := by decide +kernel
theorem dX10_even_67 : decode cX10_even 67 = .ok (.iinc 3 1, 3) := by decide +kernel
theorem dX10_even_70 : decode cX10_even 70 = .ok (.goto (-35), 3) := by decide +kernel
theorem dX10_even_73 : decode cX10_even 73 = .ok (.iload_n 1, 1) := by decide +kernel
theorem dX10_even_74 : decode cX10_even 74 = .ok (.ifCond .ne 7, 3) := by decide +kernel
theorem dX10_even_77 : decode cX10_even 77 = .ok (.iload_n 2, 1) := by decide +kernel
theorem dX10_even_78 : decode cX10_even 78 = .ok (.goto 11, 3) := by decide +kernel
theorem dX10_even_81 : decode cX10_even 81 = .ok (.aload_n 0, 1) := by decide +kernel
theorem dX10_even_82 : decode cX10_even 82 = .ok (.getfield 54, 3) := by decide +kernel
theorem dX10_even_85 : decode cX10_even 85 = .ok (.iload_n 2, 1) := by decide +kernel
theorem dX10_even_86 : decode cX10_even 86 = .ok (.invokevirtual 267, 3) := by decide +kernel
theorem dX10_even_89 : decode cX10_even 89 = .ok (.ireturn, 1) := by decide +kernel
theorem dX10_few_0 : decode cX10_few 0 = .ok (.aload_n 0, 1) := by decide +kernel
theorem dX10_few_1 : decode cX10_few 1 = .ok (.invokevirtual 160, 3) := by decide +kernel
theorem dX10_few_4 : decode cX10_few 4 = .ok (.getfield 279, 3) := by decide +kernel
theorem dX10_few_7 : decode cX10_few 7 = .ok (.ifCond .eq 15, 3) := by decide +kernel
theorem dX10_few_10 : decode cX10_few 10 = .ok (.aload_n 0, 1) := by decide +kernel
theorem dX10_few_11 : decode cX10_few 11 = .ok (.getfield 54, 3) := by decide +kernel
theorem dX10_few_14 : decode cX10_few 14 = .ok (.getfield 311, 3) := by decide +kernel
theorem dX10_few_17 : decode cX10_few 17 = .ok (.bipush 8, 2) := by decide +kernel
theorem dX10_few_19 : decode cX10_few 19 = .ok (.if_icmp .le 5, 3) := by decide +kernel
theorem dX10_few_22 : decode cX10_few 22 = .ok (.iconst (-1), 1) := by decide +kernel
theorem dX10_few_23 : decode cX10_few 23 = .ok (.ireturn, 1) := by decide +kernel
theorem dX10_few_24 : decode cX10_few 24 = .ok (.aload_n 0, 1) := by decide +kernel
theorem dX10_few_25 : decode cX10_few 25 = .ok (.getfield 68, 3) := by decide +kernel
theorem dX10_few_28 : decode cX10_few 28 = .ok (.aload_n 0, 1) := by decide +kernel
theorem dX10_few_29 : decode cX10_few 29 = .ok (.getfield 54, 3) := by decide +kernel
theorem dX10_few_32 : decode cX10_few 32 = .ok (.invokevirtual 317, 3) := by decide +kernel
theorem dX10_few_35 : decode cX10_few 35 = .ok (.aload_n 0, 1) := by decide +kernel
theorem dX10_few_36 : decode cX10_few 36 = .ok (.getfield 54, 3) := by decide +kernel
theorem dX10_few_39 : decode cX10_few 39 = .ok (.getfield 311, 3) := by decide +kernel
theorem dX10_few_42 : decode cX10_few 42 = .ok (.aload_n 0, 1) := by decide +kernel
theorem dX10_few_43 : decode cX10_few 43 = .ok (.getfield 68, 3) := by decide +kernel
theorem dX10_few_46 : decode cX10_few 46 = .ok (.getfield 305, 3) := by decide +kernel
theorem dX10_few_49 : decode cX10_few 49 = .ok (.isub, 1) := by decide +kernel
theorem dX10_few_50 : decode cX10_few 50 = .ok (.ireturn, 1) := by decide +kernel
theorem dX10_median_0 : decode cX10_median 0 = .ok (.aload_n 0, 1) := by decide +kernel
theorem dX10_median_1 : decode cX10_median 1 = .ok (.iload_n 1, 1) := by decide +kernel
theorem dX10_median_2 : decode cX10_median 2 = .ok (.iload_n 2, 1) := by decide +kernel
theorem dX10_median_3 : decode cX10_median 3 = .ok (.invokevirtual 215, 3) := by decide +kernel
theorem dX10_median_6 : decode cX10_median 6 = .ok (.ifCond .eq 14, 3) := by decide +kernel
theorem dX10_median_9 : decode cX10_median 9 = .ok (.aload_n 0, 1) := by decide +kernel
theorem dX10_median_10 : decode cX10_median 10 = .ok (.getfield 26, 3) := by decide +kernel
theorem dX10_median_13 : decode cX10_median 13 = .ok (.iload_n 3, 1) := by decide +kernel
theorem dX10_median_14 : decode cX10_median 14 = .ok (.invokevirtual 171, 3) := by decide +kernel
theorem dX10_median_17 : decode cX10_median 17 = .ok (.ifCond .ne 5, 3) := by decide +kernel
theorem dX10_median_20 : decode cX10_median 20 = .ok (.iconst (-1), 1) := by decide +kernel
theorem dX10_median_21 : decode cX10_median 21 = .ok (.ireturn, 1) := by decide +kernel
theorem dX10_median_22 : decode cX10_median 22 = .ok (.aload_n 0, 1) := by decide +kernel
theorem dX10_median_23 : decode cX10_median 23 = .ok (.invokevirtual 203, 3) := by decide +kernel
theorem dX10_median_26 : decode cX10_median 26 = .ok (.iload_n 1, 1) := by decide +kernel
theorem dX10_median_27 : decode cX10_median 27 = .ok (.iload_n 2, 1) := by decide +kernel
theorem dX10_median_28 : decode cX10_median 28 = .ok (.invokevirtual 226, 3) := by decide +kernel
theorem dX10_median_31 : decode cX10_median 31 = .ok (.aload_n 0, 1) := by decide +kernel
theorem dX10_median_32 : decode cX10_median 32 = .ok (.getfield 40, 3) := by decide +kernel
theorem dX10_median_35 : decode cX10_median 35 = .ok (.iload_n 2, 1) := by decide +kernel
theorem dX10_median_36 : decode cX10_median 36 = .ok (.iload_n 3, 1) := by decide +kernel
theorem dX10_median_37 : decode cX10_median 37 = .ok (.invokevirtual 226, 3) := by decide +kernel
theorem dX10_median_40 : decode cX10_median 40 = .ok (.iand, 1) := by decide +kernel
theorem dX10_median_41 : decode cX10_median 41 = .ok (.aload_n 0, 1) := by decide +kernel
theorem dX10_median_42 : decode cX10_median 42 = .ok (.getfield 40, 3) := by decide +kernel
theorem dX10_median_45 : decode cX10_median 45 = .ok (.iload_n 1, 1) := by decide +kernel
theorem dX10_median_46 : decode cX10_median 46 = .ok (.iload_n 3, 1) := by decide +kernel
theorem dX10_median_47 : decode cX10_median 47 = .ok (.invokevirtual 226, 3) := by decide +kernel
theorem dX10_median_50 : decode cX10_median 50 = .ok (.iand, 1) := by decide +kernel
theorem dX10_median_51 : decode cX10_median 51 = .ok (.ireturn, 1) := by decide +kernel
theorem dX10_medians_0 : decode cX10_medians 0 = .ok (.iload_n 1, 1) := by decide +kernel
theorem dX10_medians_1 : decode cX10_medians 1 = .ok (.ifCond .lt 8, 3) := by decide +kernel
theorem dX10_medians_4 : decode cX10_medians 4 = .ok (.iload_n 1, 1) := by decide +kernel
theorem dX10_medians_5 : decode cX10_medians 5 = .ok (.iconst 3, 1) := by decide +kernel
theorem dX10_medians_6 : decode cX10_medians 6 = .ok (.if_icmp .le 5, 3) := by decide +kernel
theorem dX10_medians_9 : decode cX10_medians 9 = .ok (.iconst (-1), 1) := by decide +kernel
theorem dX10_medians_10 : decode cX10_medians 10 = .ok (.ireturn, 1) := by decide +kernel
theorem dX10_medians_11 : decode cX10_medians 11 = .ok (.aload_n 0, 1) := by decide +kernel
theorem dX10_medians_12 : decode cX10_medians 12 = .ok (.invokevirtual 203, 3) := by decide +kernel
theorem dX10_medians_15 : decode cX10_medians 15 = .ok (.invokevirtual 320, 3) := by decide +kernel
theorem dX10_medians_18 : decode cX10_medians 18 = .ok (.istore_n 2, 1) := by decide +kernel
theorem dX10_medians_19 : decode cX10_medians 19 = .ok (.iload_n 1, 1) := by decide +kernel
theorem dX10_medians_20 : decode cX10_medians 20 = .ok (.ifCond .ne 14, 3) := by decide +kernel
theorem dX10_medians_23 : decode cX10_medians 23 = .ok (.iload_n 2, 1) := by decide +kernel
theorem dX10_medians_24 : decode cX10_medians 24 = .ok (.iconst (-1), 1) := by decide +kernel
theorem dX10_medians_25 : decode cX10_medians 25 = .ok (.if_icmp .ne 7, 3) := by decide +kernel
theorem dX10_medians_28 : decode cX10_medians 28 = .ok (.iconst 1, 1) := by decide +kernel
theorem dX10_medians_29 : decode cX10_medians 29 = .ok (.goto 4, 3) := by decide +kernel
theorem dX10_medians_32 : decode cX10_medians 32 = .ok (.iconst 0, 1) := by decide +kernel
theorem dX10_medians_33 : decode cX10_medians 33 = .ok (.ireturn, 1) := by decide +kernel
theorem dX10_medians_34 : decode cX10_medians 34 = .ok (.iload_n 2, 1) := by decide +kernel
theorem dX10_medians_35 : decode cX10_medians 35 = .ok (.iconst (-1), 1) := by decide +kernel
theorem dX10_medians_36 : decode cX10_medians 36 = .ok (.if_icmp .ne 5, 3) := by decide +kernel
theorem dX10_medians_39 : decode cX10_medians 39 = .ok (.iconst (-1), 1) := by decide +kernel
theorem dX10_medians_40 : decode cX10_medians 40 = .ok (.ireturn, 1) := by decide +kernel
theorem dX10_medians_41 : decode cX10_medians 41 = .ok (.iload_n 2, 1) := by decide +kernel
theorem dX10_medians_42 : decode cX10_medians 42 = .ok (.bipush 8, 2) := by decide +kernel
theorem dX10_medians_44 : decode cX10_medians 44 = .ok (.iconst 3, 1) := by decide +kernel
theorem dX10_medians_45 : decode cX10_medians 45 = .ok (.iload_n 1, 1) := by decide +kernel
theorem dX10_medians_46 : decode cX10_medians 46 = .ok (.isub, 1) := by decide +kernel
theorem dX10_medians_47 : decode cX10_medians 47 = .ok (.imul, 1) := by decide +kernel
theorem dX10_medians_48 : decode cX10_medians 48 = .ok (.ishr, 1) := by decide +kernel
theorem dX10_medians_49 : decode cX10_medians 49 = .ok (.sipush 255, 3) := by decide +kernel
theorem dX10_medians_52 : decode cX10_medians 52 = .ok (.iand, 1) := by decide +kernel
theorem dX10_medians_53 : decode cX10_medians 53 = .ok (.ireturn, 1) := by decide +kernel
theorem dX10_vote_0 : decode cX10_vote 0 = .ok (.aload_n 0, 1) := by decide +kernel
theorem dX10_vote_1 : decode cX10_vote 1 = .ok (.getfield 10, 3) := by decide +kernel
theorem dX10_vote_4 : decode cX10_vote 4 = .ok (.getfield 105, 3) := by decide +kernel
theorem dX10_vote_7 : decode cX10_vote 7 = .ok (.istore_n 1, 1) := by decide +kernel
theorem dX10_vote_8 : decode cX10_vote 8 = .ok (.aload_n 0, 1) := by decide +kernel
theorem dX10_vote_9 : decode cX10_vote 9 = .ok (.getfield 10, 3) := by decide +kernel
theorem dX10_vote_12 : decode cX10_vote 12 = .ok (.iconst 0, 1) := by decide +kernel
theorem dX10_vote_13 : decode cX10_vote 13 = .ok (.putfield 105, 3) := by decide +kernel
theorem dX10_vote_16 : decode cX10_vote 16 = .ok (.iload_n 1, 1) := by decide +kernel
theorem dX10_vote_17 : decode cX10_vote 17 = .ok (.iconst 1, 1) := by decide +kernel
theorem dX10_vote_18 : decode cX10_vote 18 = .ok (.if_icmp .lt 13, 3) := by decide +kernel
theorem dX10_vote_21 : decode cX10_vote 21 = .ok (.iload_n 1, 1) := by decide +kernel
theorem dX10_vote_22 : decode cX10_vote 22 = .ok (.bipush 15, 2) := by decide +kernel
theorem dX10_vote_24 : decode cX10_vote 24 = .ok (.if_icmp .gt 7, 3) := by decide +kernel
theorem dX10_vote_27 : decode cX10_vote 27 = .ok (.iconst 1, 1) := by decide +kernel
theorem dX10_vote_28 : decode cX10_vote 28 = .ok (.goto 4, 3) := by decide +kernel
theorem dX10_vote_31 : decode cX10_vote 31 = .ok (.iconst 0, 1) := by decide +kernel
theorem dX10_vote_32 : decode cX10_vote 32 = .ok (.istore_n 2, 1) := by decide +kernel
theorem dX10_vote_33 : decode cX10_vote 33 = .ok (.iconst 0, 1) := by decide +kernel
theorem dX10_vote_34 : decode cX10_vote 34 = .ok (.istore_n 3, 1) := by decide +kernel
theorem dX10_vote_35 : decode cX10_vote 35 = .ok (.iload_n 2, 1) := by decide +kernel
theorem dX10_vote_36 : decode cX10_vote 36 = .ok (.ifCond .eq 31, 3) := by decide +kernel
theorem dX10_vote_39 : decode cX10_vote 39 = .ok (.iload_n 3, 1) := by decide +kernel
theorem dX10_vote_40 : decode cX10_vote 40 = .ok (.iload_n 1, 1) := by decide +kernel
theorem dX10_vote_41 : decode cX10_vote 41 = .ok (.if_icmp .ge 26, 3) := by decide +kernel
theorem dX10_vote_44 : decode cX10_vote 44 = .ok (.aload_n 0, 1) := by decide +kernel
theorem dX10_vote_45 : decode cX10_vote 45 = .ok (.getfield 26, 3) := by decide +kernel
theorem dX10_vote_48 : decode cX10_vote 48 = .ok (.aload_n 0, 1) := by decide +kernel
theorem dX10_vote_49 : decode cX10_vote 49 = .ok (.getfield 10, 3) := by decide +kernel
theorem dX10_vote_52 : decode cX10_vote 52 = .ok (.getfield 323, 3) := by decide +kernel
theorem dX10_vote_55 : decode cX10_vote 55 = .ok (.iload_n 3, 1) := by decide +kernel
theorem dX10_vote_56 : decode cX10_vote 56 = .ok (.iaload, 1) := by decide +kernel
theorem dX10_vote_57 : decode cX10_vote 57 = .ok (.invokevirtual 171, 3) := by decide +kernel
theorem dX10_vote_60 : decode cX10_vote 60 = .ok (.istore_n 2, 1) := by decide +kernel
theorem dX10_vote_61 : decode cX10_vote 61 = .ok (.iinc 3 1, 3) := by decide +kernel
theorem dX10_vote_64 : decode cX10_vote 64 = .ok (.goto (-29), 3) := by decide +kernel
theorem dX10_vote_67 : decode cX10_vote 67 = .ok (.iload_n 2, 1) := by decide +kernel
theorem dX10_vote_68 : decode cX10_vote 68 = .ok (.ifCond .ne 9, 3) := by decide +kernel
theorem dX10_vote_71 : decode cX10_vote 71 = .ok (.aload_n 0, 1) := by decide +kernel
theorem dX10_vote_72 : decode cX10_vote 72 = .ok (.iconst 1, 1) := by decide +kernel
theorem dX10_vote_73 : decode cX10_vote 73 = .ok (.invokevirtual 108, 3) := by decide +kernel
theorem dX10_vote_76 : decode cX10_vote 76 = .ok (.ireturn, 1) := by decide +kernel
theorem dX10_vote_77 : decode cX10_vote 77 = .ok (.iconst 0, 1) := by decide +kernel
theorem dX10_vote_78 : decode cX10_vote 78 = .ok (.istore_n 3, 1) := by decide +kernel
theorem dX10_vote_79 : decode cX10_vote 79 = .ok (.iload_n 3, 1) := by decide +kernel
theorem dX10_vote_80 : decode cX10_vote 80 = .ok (.iload_n 1, 1) := by decide +kernel
theorem dX10_vote_81 : decode cX10_vote 81 = .ok (.if_icmp .ge 24, 3) := by decide +kernel
theorem dX10_vote_84 : decode cX10_vote 84 = .ok (.aload_n 0, 1) := by decide +kernel
theorem dX10_vote_85 : decode cX10_vote 85 = .ok (.getfield 79, 3) := by decide +kernel
theorem dX10_vote_88 : decode cX10_vote 88 = .ok (.iload_n 3, 1) := by decide +kernel
theorem dX10_vote_89 : decode cX10_vote 89 = .ok (.aload_n 0, 1) := by decide +kernel
theorem dX10_vote_90 : decode cX10_vote 90 = .ok (.getfield 10, 3) := by decide +kernel
theorem dX10_vote_93 : decode cX10_vote 93 = .ok (.getfield 323, 3) := by decide +kernel
theorem dX10_vote_96 : decode cX10_vote 96 = .ok (.iload_n 3, 1) := by decide +kernel
theorem dX10_vote_97 : decode cX10_vote 97 = .ok (.iaload, 1) := by decide +kernel
theorem dX10_vote_98 : decode cX10_vote 98 = .ok (.iastore, 1) := by decide +kernel
theorem dX10_vote_99 : decode cX10_vote 99 = .ok (.iinc 3 1, 3) := by decide +kernel
theorem dX10_vote_102 : decode cX10_vote 102 = .ok (.goto (-23), 3) := by decide +kernel
theorem dX10_vote_105 : decode cX10_vote 105 = .ok (.aload_n 0, 1) := by decide +kernel
theorem dX10_vote_106 : decode cX10_vote 106 = .ok (.iload_n 1, 1) := by decide +kernel
theorem dX10_vote_107 : decode cX10_vote 107 = .ok (.putfield 95, 3) := by decide +kernel
theorem dX10_vote_110 : decode cX10_vote 110 = .ok (.aload_n 0, 1) := by decide +kernel
theorem dX10_vote_111 : decode cX10_vote 111 = .ok (.getfield 95, 3) := by decide +kernel
theorem dX10_vote_114 : decode cX10_vote 114 = .ok (.ireturn, 1) := by decide +kernel
theorem dX10_winner_0 : decode cX10_winner 0 = .ok (.iload_n 1, 1) := by decide +kernel
theorem dX10_winner_1 : decode cX10_winner 1 = .ok (.ifCond .lt 40, 3) := by decide +kernel
theorem dX10_winner_4 : decode cX10_winner 4 = .ok (.iload_n 1, 1) := by decide +kernel
theorem dX10_winner_5 : decode cX10_winner 5 = .ok (.iconst 2, 1) := by decide +kernel
theorem dX10_winner_6 : decode cX10_winner 6 = .ok (.if_icmp .gt 35, 3) := by decide +kernel
theorem dX10_winner_9 : decode cX10_winner 9 = .ok (.aload_n 0, 1) := by decide +kernel
theorem dX10_winner_10 : decode cX10_winner 10 = .ok (.getfield 95, 3) := by decide +kernel
theorem dX10_winner_13 : decode cX10_winner 13 = .ok (.ifCond .eq 28, 3) := by decide +kernel
theorem dX10_winner_16 : decode cX10_winner 16 = .ok (.aload_n 0, 1) := by decide +kernel
theorem dX10_winner_17 : decode cX10_winner 17 = .ok (.invokevirtual 203, 3) := by decide +kernel
theorem dX10_winner_20 : decode cX10_winner 20 = .ok (.getfield 326, 3) := by decide +kernel
theorem dX10_winner_23 : decode cX10_winner 23 = .ok (.ifCond .eq 18, 3) := by decide +kernel
theorem dX10_winner_26 : decode cX10_winner 26 = .ok (.aload_n 0, 1) := by decide +kernel
theorem dX10_winner_27 : decode cX10_winner 27 = .ok (.aload_n 0, 1) := by decide +kernel
theorem dX10_winner_28 : decode cX10_winner 28 = .ok (.getfield 79, 3) := by decide +kernel
theorem dX10_winner_31 : decode cX10_winner 31 = .ok (.aload_n 0, 1) := by decide +kernel
theorem dX10_winner_32 : decode cX10_winner 32 = .ok (.getfield 95, 3) := by decide +kernel
theorem dX10_winner_35 : decode cX10_winner 35 = .ok (.invokevirtual 329, 3) := by decide +kernel
theorem dX10_winner_38 : decode cX10_winner 38 = .ok (.ifCond .ne 5, 3) := by decide +kernel
theorem dX10_winner_41 : decode cX10_winner 41 = .ok (.iconst (-1), 1) := by decide +kernel
theorem dX10_winner_42 : decode cX10_winner 42 = .ok (.ireturn, 1) := by decide +kernel
theorem dX10_winner_43 : decode cX10_winner 43 = .ok (.iload_n 1, 1) := by decide +kernel
theorem dX10_winner_44 : decode cX10_winner 44 = .ok (.iconst 2, 1) := by decide +kernel
theorem dX10_winner_45 : decode cX10_winner 45 = .ok (.if_icmp .ne 29, 3) := by decide +kernel
theorem dX10_winner_48 : decode cX10_winner 48 = .ok (.aload_n 0, 1) := by decide +kernel
theorem dX10_winner_49 : decode cX10_winner 49 = .ok (.invokevirtual 160, 3) := by decide +kernel
theorem dX10_winner_52 : decode cX10_winner 52 = .ok (.getfield 279, 3) := by decide +kernel
theorem dX10_winner_55 : decode cX10_winner 55 = .ok (.ifCond .eq 17, 3) := by decide +kernel
theorem dX10_winner_58 : decode cX10_winner 58 = .ok (.aload_n 0, 1) := by decide +kernel
theorem dX10_winner_59 : decode cX10_winner 59 = .ok (.getfield 54, 3) := by decide +kernel
theorem dX10_winner_62 : decode cX10_winner 62 = .ok (.aload_n 0, 1) := by decide +kernel
theorem dX10_winner_63 : decode cX10_winner 63 = .ok (.invokevirtual 333, 3) := by decide +kernel
theorem dX10_winner_66 : decode cX10_winner 66 = .ok (.invokevirtual 286, 3) := by decide +kernel
theorem dX10_winner_69 : decode cX10_winner 69 = .ok (.goto 4, 3) := by decide +kernel
theorem dX10_winner_72 : decode cX10_winner 72 = .ok (.iconst (-1), 1) := by decide +kernel
theorem dX10_winner_73 : decode cX10_winner 73 = .ok (.ireturn, 1) := by decide +kernel
theorem dX10_winner_74 : decode cX10_winner 74 = .ok (.iconst 0, 1) := by decide +kernel
theorem dX10_winner_75 : decode cX10_winner 75 = .ok (.istore_n 2, 1) := by decide +kernel
theorem dX10_winner_76 : decode cX10_winner 76 = .ok (.iconst 1, 1) := by decide +kernel
theorem dX10_winner_77 : decode cX10_winner 77 = .ok (.istore_n 3, 1) := by decide +kernel
theorem dX10_winner_78 : decode cX10_winner 78 = .ok (.iload_n 3, 1) := by decide +kernel
theorem dX10_winner_79 : decode cX10_winner 79 = .ok (.aload_n 0, 1) := by decide +kernel
theorem dX10_winner_80 : decode cX10_winner 80 = .ok (.getfield 26, 3) := by decide +kernel
theorem dX10_winner_83 : decode cX10_winner 83 = .ok (.getfield 146, 3) := by decide +kernel
theorem dX10_winner_86 : decode cX10_winner 86 = .ok (.if_icmp .ge 24, 3) := by decide +kernel
theorem dX10_winner_89 : decode cX10_winner 89 = .ok (.aload_n 0, 1) := by decide +kernel
theorem dX10_winner_90 : decode cX10_winner 90 = .ok (.iload_n 3, 1) := by decide +kernel
theorem dX10_winner_91 : decode cX10_winner 91 = .ok (.invokevirtual 336, 3) := by decide +kernel
theorem dX10_winner_94 : decode cX10_winner 94 = .ok (.aload_n 0, 1) := by decide +kernel
theorem dX10_winner_95 : decode cX10_winner 95 = .ok (.iload_n 2, 1) := by decide +kernel
theorem dX10_winner_96 : decode cX10_winner 96 = .ok (.invokevirtual 336, 3) := by decide +kernel
theorem dX10_winner_99 : decode cX10_winner 99 = .ok (.if_icmp .ge 5, 3) := by decide +kernel
theorem dX10_winner_102 : decode cX10_winner 102 = .ok (.iload_n 3, 1) := by decide +kernel
theorem dX10_winner_103 : decode cX10_winner 103 = .ok (.istore_n 2, 1) := by decide +kernel
theorem dX10_winner_104 : decode cX10_winner 104 = .ok (.iinc 3 1, 3) := by decide +kernel
theorem dX10_winner_107 : decode cX10_winner 107 = .ok (.goto (-29), 3) := by decide +kernel
theorem dX10_winner_110 : decode cX10_winner 110 = .ok (.iload_n 1, 1) := by decide +kernel
theorem dX10_winner_111 : decode cX10_winner 111 = .ok (.ifCond .ne 7, 3) := by decide +kernel
theorem dX10_winner_114 : decode cX10_winner 114 = .ok (.iload_n 2, 1) := by decide +kernel
theorem dX10_winner_115 : decode cX10_winner 115 = .ok (.goto 8, 3) := by decide +kernel
theorem dX10_winner_118 : decode cX10_winner 118 = .ok (.aload_n 0, 1) := by decide +kernel
theorem dX10_winner_119 : decode cX10_winner 119 = .ok (.iload_n 2, 1) := by decide +kernel
theorem dX10_winner_120 : decode cX10_winner 120 = .ok (.invokevirtual 336, 3) := by decide +kernel
theorem dX10_winner_123 : decode cX10_winner 123 = .ok (.ireturn, 1) := by decide +kernel
theorem dX10_set_0 : decode cX10_set 0 = .ok (.iload_n 2, 1) := by decide +kernel
theorem dX10_set_1 : decode cX10_set 1 = .ok (.ifCond .lt 16, 3) := by decide +kernel
theorem dX10_set_4 : decode cX10_set 4 = .ok (.iload_n 2, 1) := by decide +kernel
theorem dX10_set_5 : decode cX10_set 5 = .ok (.iconst 1, 1) := by decide +kernel
theorem dX10_set_6 : decode cX10_set 6 = .ok (.if_icmp .gt 11, 3) := by decide +kernel
theorem dX10_set_9 : decode cX10_set 9 = .ok (.aload_n 0, 1) := by decide +kernel
theorem dX10_set_10 : decode cX10_set 10 = .ok (.iload_n 1, 1) := by decide +kernel
theorem dX10_set_11 : decode cX10_set 11 = .ok (.invokevirtual 339, 3) := by decide +kernel
theorem dX10_set_14 : decode cX10_set 14 = .ok (.ifCond .ne 5, 3) := by decide +kernel
theorem dX10_set_17 : decode cX10_set 17 = .ok (.iconst (-1), 1) := by decide +kernel
theorem dX10_set_18 : decode cX10_set 18 = .ok (.ireturn, 1) := by decide +kernel
theorem dX10_set_19 : decode cX10_set 19 = .ok (.iload_n 2, 1) := by decide +kernel
theorem dX10_set_20 : decode cX10_set 20 = .ok (.ifCond .ne 14, 3) := by decide +kernel
theorem dX10_set_23 : decode cX10_set 23 = .ok (.aload_n 0, 1) := by decide +kernel
theorem dX10_set_24 : decode cX10_set 24 = .ok (.getfield 40, 3) := by decide +kernel
theorem dX10_set_27 : decode cX10_set 27 = .ok (.iload_n 1, 1) := by decide +kernel
theorem dX10_set_28 : decode cX10_set 28 = .ok (.invokevirtual 342, 3) := by decide +kernel
theorem dX10_set_31 : decode cX10_set 31 = .ok (.goto 20, 3) := by decide +kernel
theorem dX10_set_34 : decode cX10_set 34 = .ok (.aload_n 0, 1) := by decide +kernel
theorem dX10_set_35 : decode cX10_set 35 = .ok (.getfield 40, 3) := by decide +kernel
theorem dX10_set_38 : decode cX10_set 38 = .ok (.iload_n 1, 1) := by decide +kernel
theorem dX10_set_39 : decode cX10_set 39 = .ok (.invokevirtual 345, 3) := by decide +kernel
theorem dX10_set_42 : decode cX10_set 42 = .ok (.iload_n 1, 1) := by decide +kernel
theorem dX10_set_43 : decode cX10_set 43 = .ok (.if_icmp .ne 7, 3) := by decide +kernel
theorem dX10_set_46 : decode cX10_set 46 = .ok (.iconst 1, 1) := by decide +kernel
theorem dX10_set_47 : decode cX10_set 47 = .ok (.goto 4, 3) := by decide +kernel
theorem dX10_set_50 : decode cX10_set 50 = .ok (.iconst 0, 1) := by decide +kernel
theorem dX10_set_51 : decode cX10_set 51 = .ok (.istore_n 3, 1) := by decide +kernel
theorem dX10_set_52 : decode cX10_set 52 = .ok (.iload_n 3, 1) := by decide +kernel
theorem dX10_set_53 : decode cX10_set 53 = .ok (.ifCond .eq 7, 3) := by decide +kernel
theorem dX10_set_56 : decode cX10_set 56 = .ok (.iconst 1, 1) := by decide +kernel
theorem dX10_set_57 : decode cX10_set 57 = .ok (.goto 4, 3) := by decide +kernel
theorem dX10_set_60 : decode cX10_set 60 = .ok (.iconst 0, 1) := by decide +kernel
theorem dX10_set_61 : decode cX10_set 61 = .ok (.ireturn, 1) := by decide +kernel
theorem dX10_hull_0 : decode cX10_hull 0 = .ok (.aload_n 0, 1) := by decide +kernel
theorem dX10_hull_1 : decode cX10_hull 1 = .ok (.iload_n 1, 1) := by decide +kernel
theorem dX10_hull_2 : decode cX10_hull 2 = .ok (.invokevirtual 339, 3) := by decide +kernel
theorem dX10_hull_5 : decode cX10_hull 5 = .ok (.ifCond .eq 14, 3) := by decide +kernel
theorem dX10_hull_8 : decode cX10_hull 8 = .ok (.aload_n 0, 1) := by decide +kernel
theorem dX10_hull_9 : decode cX10_hull 9 = .ok (.getfield 40, 3) := by decide +kernel
theorem dX10_hull_12 : decode cX10_hull 12 = .ok (.iload_n 1, 1) := by decide +kernel
theorem dX10_hull_13 : decode cX10_hull 13 = .ok (.invokevirtual 348, 3) := by decide +kernel
theorem dX10_hull_16 : decode cX10_hull 16 = .ok (.goto 4, 3) := by decide +kernel
theorem dX10_hull_19 : decode cX10_hull 19 = .ok (.iconst (-1), 1) := by decide +kernel
theorem dX10_hull_20 : decode cX10_hull 20 = .ok (.ireturn, 1) := by decide +kernel
theorem dX10_gate_0 : decode cX10_gate 0 = .ok (.aload_n 0, 1) := by decide +kernel
theorem dX10_gate_1 : decode cX10_gate 1 = .ok (.getfield 26, 3) := by decide +kernel
theorem dX10_gate_4 : decode cX10_gate 4 = .ok (.iload_n 1, 1) := by decide +kernel
theorem dX10_gate_5 : decode cX10_gate 5 = .ok (.invokevirtual 171, 3) := by decide +kernel
theorem dX10_gate_8 : decode cX10_gate 8 = .ok (.ifCond .eq 11, 3) := by decide +kernel
theorem dX10_gate_11 : decode cX10_gate 11 = .ok (.aload_n 0, 1) := by decide +kernel
theorem dX10_gate_12 : decode cX10_gate 12 = .ok (.iload_n 2, 1) := by decide +kernel
theorem dX10_gate_13 : decode cX10_gate 13 = .ok (.invokevirtual 339, 3) := by decide +kernel
theorem dX10_gate_16 : decode cX10_gate 16 = .ok (.ifCond .ne 5, 3) := by decide +kernel
theorem dX10_gate_19 : decode cX10_gate 19 = .ok (.iconst (-1), 1) := by decide +kernel
theorem dX10_gate_20 : decode cX10_gate 20 = .ok (.ireturn, 1) := by decide +kernel
theorem dX10_gate_21 : decode cX10_gate 21 = .ok (.aload_n 0, 1) := by decide +kernel
theorem dX10_gate_22 : decode cX10_gate 22 = .ok (.getfield 40, 3) := by decide +kernel
theorem dX10_gate_25 : decode cX10_gate 25 = .ok (.iload_n 1, 1) := by decide +kernel
theorem dX10_gate_26 : decode cX10_gate 26 = .ok (.iload_n 2, 1) := by decide +kernel
theorem dX10_gate_27 : decode cX10_gate 27 = .ok (.invokevirtual 351, 3) := by decide +kernel
theorem dX10_gate_30 : decode cX10_gate 30 = .ok (.ireturn, 1) := by decide +kernel
theorem dX10_see_0 : decode cX10_see 0 = .ok (.aload_n 0, 1) := by decide +kernel
theorem dX10_see_1 : decode cX10_see 1 = .ok (.getfield 10, 3) := by decide +kernel
theorem dX10_see_4 : decode cX10_see 4 = .ok (.getfield 105, 3) := by decide +kernel
theorem dX10_see_7 : decode cX10_see 7 = .ok (.istore_n 1, 1) := by decide +kernel
theorem dX10_see_8 : decode cX10_see 8 = .ok (.aload_n 0, 1) := by decide +kernel
theorem dX10_see_9 : decode cX10_see 9 = .ok (.getfield 10, 3) := by decide +kernel
theorem dX10_see_12 : decode cX10_see 12 = .ok (.iconst 0, 1) := by decide +kernel
theorem dX10_see_13 : decode cX10_see 13 = .ok (.putfield 105, 3) := by decide +kernel
theorem dX10_see_16 : decode cX10_see 16 = .ok (.iload_n 1, 1) := by decide +kernel
theorem dX10_see_17 : decode cX10_see 17 = .ok (.iconst 2, 1) := by decide +kernel
theorem dX10_see_18 : decode cX10_see 18 = .ok (.if_icmp .lt 19, 3) := by decide +kernel
theorem dX10_see_21 : decode cX10_see 21 = .ok (.iload_n 1, 1) := by decide +kernel
theorem dX10_see_22 : decode cX10_see 22 = .ok (.bipush 24, 2) := by decide +kernel
theorem dX10_see_24 : decode cX10_see 24 = .ok (.if_icmp .gt 13, 3) := by decide +kernel
theorem dX10_see_27 : decode cX10_see 27 = .ok (.iload_n 1, 1) := by decide +kernel
theorem dX10_see_28 : decode cX10_see 28 = .ok (.iconst 2, 1) := by decide +kernel
theorem dX10_see_29 : decode cX10_see 29 = .ok (.irem, 1) := by decide +kernel
theorem dX10_see_30 : decode cX10_see 30 = .ok (.ifCond .ne 7, 3) := by decide +kernel
theorem dX10_see_33 : decode cX10_see 33 = .ok (.iconst 1, 1) := by decide +kernel
theorem dX10_see_34 : decode cX10_see 34 = .ok (.goto 4, 3) := by decide +kernel
theorem dX10_see_37 : decode cX10_see 37 = .ok (.iconst 0, 1) := by decide +kernel
theorem dX10_see_38 : decode cX10_see 38 = .ok (.istore_n 2, 1) := by decide +kernel
theorem dX10_see_39 : decode cX10_see 39 = .ok (.iconst 0, 1) := by decide +kernel
theorem dX10_see_40 : decode cX10_see 40 = .ok (.istore_n 3, 1) := by decide +kernel
theorem dX10_see_41 : decode cX10_see 41 = .ok (.iload_n 2, 1) := by decide +kernel
theorem dX10_see_42 : decode cX10_see 42 = .ok (.ifCond .eq 57, 3) := by decide +kernel
theorem dX10_see_45 : decode cX10_see 45 = .ok (.iload_n 3, 1) := by decide +kernel
theorem dX10_see_46 : decode cX10_see 46 = .ok (.iconst 1, 1) := by decide +kernel
theorem dX10_see_47 : decode cX10_see 47 = .ok (.iadd, 1) := by decide +kernel
theorem dX10_see_48 : decode cX10_see 48 = .ok (.iload_n 1, 1) := by decide +kernel
theorem dX10_see_49 : decode cX10_see 49 = .ok (.if_icmp .ge 50, 3) := by decide +kernel
theorem dX10_see_52 : decode cX10_see 52 = .ok (.aload_n 0, 1) := by decide +kernel
theorem dX10_see_53 : decode cX10_see 53 = .ok (.getfield 26, 3) := by decide +kernel
theorem dX10_see_56 : decode cX10_see 56 = .ok (.aload_n 0, 1) := by decide +kernel
theorem dX10_see_57 : decode cX10_see 57 = .ok (.getfield 10, 3) := by decide +kernel
theorem dX10_see_60 : decode cX10_see 60 = .ok (.getfield 323, 3) := by decide +kernel
theorem dX10_see_63 : decode cX10_see 63 = .ok (.iload_n 3, 1) := by decide +kernel
theorem dX10_see_64 : decode cX10_see 64 = .ok (.iaload, 1) := by decide +kernel
theorem dX10_see_65 : decode cX10_see 65 = .ok (.invokevirtual 171, 3) := by decide +kernel
theorem dX10_see_68 : decode cX10_see 68 = .ok (.ifCond .eq 23, 3) := by decide +kernel
theorem dX10_see_71 : decode cX10_see 71 = .ok (.aload_n 0, 1) := by decide +kernel
theorem dX10_see_72 : decode cX10_see 72 = .ok (.getfield 10, 3) := by decide +kernel
theorem dX10_see_75 : decode cX10_see 75 = .ok (.getfield 323, 3) := by decide +kernel
theorem dX10_see_78 : decode cX10_see 78 = .ok (.iload_n 3, 1) := by decide +kernel
theorem dX10_see_79 : decode cX10_see 79 = .ok (.iconst 1, 1) := by decide +kernel
theorem dX10_see_80 : decode cX10_see 80 = .ok (.iadd, 1) := by decide +kernel
theorem dX10_see_81 : decode cX10_see 81 = .ok (.iaload, 1) := by decide +kernel
theorem dX10_see_82 : decode cX10_see 82 = .ok (.bipush 23, 2) := by decide +kernel
theorem dX10_see_84 : decode cX10_see 84 = .ok (.if_icmp .gt 7, 3) := by decide +kernel
theorem dX10_see_87 : decode cX10_see 87 = .ok (.iconst 1, 1) := by decide +kernel
theorem dX10_see_88 : decode cX10_see 88 = .ok (.goto 4, 3) := by decide +kernel
theorem dX10_see_91 : decode cX10_see 91 = .ok (.iconst 0, 1) := by decide +kernel
theorem dX10_see_92 : decode cX10_see 92 = .ok (.istore_n 2, 1) := by decide +kernel
theorem dX10_see_93 : decode cX10_see 93 = .ok (.iinc 3 2, 3) := by decide +kernel
theorem dX10_see_96 : decode cX10_see 96 = .ok (.goto (-55), 3) := by decide +kernel
theorem dX10_see_99 : decode cX10_see 99 = .ok (.iload_n 2, 1) := by decide +kernel
theorem dX10_see_100 : decode cX10_see 100 = .ok (.ifCond .ne 9, 3) := by decide +kernel
theorem dX10_see_103 : decode cX10_see 103 = .ok (.aload_n 0, 1) := by decide +kernel
theorem dX10_see_104 : decode cX10_see 104 = .ok (.iconst 1, 1) := by decide +kernel
theorem dX10_see_105 : decode cX10_see 105 = .ok (.invokevirtual 108, 3) := by decide +kernel
theorem dX10_see_108 : decode cX10_see 108 = .ok (.ireturn, 1) := by decide +kernel
theorem dX10_see_109 : decode cX10_see 109 = .ok (.aload_n 0, 1) := by decide +kernel
theorem dX10_see_110 : decode cX10_see 110 = .ok (.iload_n 1, 1) := by decide +kernel
theorem dX10_see_111 : decode cX10_see 111 = .ok (.iconst 2, 1) := by decide +kernel
theorem dX10_see_112 : decode cX10_see 112 = .ok (.idiv, 1) := by decide +kernel
theorem dX10_see_113 : decode cX10_see 113 = .ok (.putfield 99, 3) := by decide +kernel
theorem dX10_see_116 : decode cX10_see 116 = .ok (.iconst 0, 1) := by decide +kernel
theorem dX10_see_117 : decode cX10_see 117 = .ok (.istore_n 3, 1) := by decide +kernel
theorem dX10_see_118 : decode cX10_see 118 = .ok (.iload_n 3, 1) := by decide +kernel
theorem dX10_see_119 : decode cX10_see 119 = .ok (.aload_n 0, 1) := by decide +kernel
theorem dX10_see_120 : decode cX10_see 120 = .ok (.getfield 99, 3) := by decide +kernel
theorem dX10_see_123 : decode cX10_see 123 = .ok (.if_icmp .ge 45, 3) := by decide +kernel
theorem dX10_see_126 : decode cX10_see 126 = .ok (.aload_n 0, 1) := by decide +kernel
theorem dX10_see_127 : decode cX10_see 127 = .ok (.getfield 83, 3) := by decide +kernel
theorem dX10_see_130 : decode cX10_see 130 = .ok (.iload_n 3, 1) := by decide +kernel
theorem dX10_see_131 : decode cX10_see 131 = .ok (.aload_n 0, 1) := by decide +kernel
theorem dX10_see_132 : decode cX10_see 132 = .ok (.getfield 10, 3) := by decide +kernel
theorem dX10_see_135 : decode cX10_see 135 = .ok (.getfield 323, 3) := by decide +kernel
theorem dX10_see_138 : decode cX10_see 138 = .ok (.iconst 2, 1) := by decide +kernel
theorem dX10_see_139 : decode cX10_see 139 = .ok (.iload_n 3, 1) := by decide +kernel
theorem dX10_see_140 : decode cX10_see 140 = .ok (.imul, 1) := by decide +kernel
theorem dX10_see_141 : decode cX10_see 141 = .ok (.iaload, 1) := by decide +kernel
theorem dX10_see_142 : decode cX10_see 142 = .ok (.iastore, 1) := by decide +kernel
theorem dX10_see_143 : decode cX10_see 143 = .ok (.aload_n 0, 1) := by decide +kernel
theorem dX10_see_144 : decode cX10_see 144 = .ok (.getfield 86, 3) := by decide +kernel
theorem dX10_see_147 : decode cX10_see 147 = .ok (.iload_n 3, 1) := by decide +kernel
theorem dX10_see_148 : decode cX10_see 148 = .ok (.aload_n 0, 1) := by decide +kernel
theorem dX10_see_149 : decode cX10_see 149 = .ok (.getfield 10, 3) := by decide +kernel
theorem dX10_see_152 : decode cX10_see 152 = .ok (.getfield 323, 3) := by decide +kernel
theorem dX10_see_155 : decode cX10_see 155 = .ok (.iconst 2, 1) := by decide +kernel
theorem dX10_see_156 : decode cX10_see 156 = .ok (.iload_n 3, 1) := by decide +kernel
theorem dX10_see_157 : decode cX10_see 157 = .ok (.imul, 1) := by decide +kernel
theorem dX10_see_158 : decode cX10_see 158 = .ok (.iconst 1, 1) := by decide +kernel
theorem dX10_see_159 : decode cX10_see 159 = .ok (.iadd, 1) := by decide +kernel
theorem dX10_see_160 : decode cX10_see 160 = .ok (.iaload, 1) := by decide +kernel
theorem dX10_see_161 : decode cX10_see 161 = .ok (.iastore, 1) := by decide +kernel
theorem dX10_see_162 : decode cX10_see 162 = .ok (.iinc 3 1, 3) := by decide +kernel
theorem dX10_see_165 : decode cX10_see 165 = .ok (.goto (-47), 3) := by decide +kernel
theorem dX10_see_168 : decode cX10_see 168 = .ok (.aload_n 0, 1) := by decide +kernel
theorem dX10_see_169 : decode cX10_see 169 = .ok (.getfield 99, 3) := by decide +kernel
theorem dX10_see_172 : decode cX10_see 172 = .ok (.ireturn, 1) := by decide +kernel
theorem dX10_fits_0 : decode cX10_fits 0 = .ok (.aload_n 0, 1) := by decide +kernel
theorem dX10_fits_1 : decode cX10_fits 1 = .ok (.getfield 99, 3) := by decide +kernel
theorem dX10_fits_4 : decode cX10_fits 4 = .ok (.ifCond .eq 18, 3) := by decide +kernel
theorem dX10_fits_7 : decode cX10_fits 7 = .ok (.aload_n 0, 1) := by decide +kernel
theorem dX10_fits_8 : decode cX10_fits 8 = .ok (.aload_n 0, 1) := by decide +kernel
theorem dX10_fits_9 : decode cX10_fits 9 = .ok (.getfield 83, 3) := by decide +kernel
theorem dX10_fits_12 : decode cX10_fits 12 = .ok (.aload_n 0, 1) := by decide +kernel
theorem dX10_fits_13 : decode cX10_fits 13 = .ok (.getfield 99, 3) := by decide +kernel
theorem dX10_fits_16 : decode cX10_fits 16 = .ok (.invokevirtual 329, 3) := by decide +kernel
theorem dX10_fits_19 : decode cX10_fits 19 = .ok (.ifCond .ne 5, 3) := by decide +kernel
theorem dX10_fits_22 : decode cX10_fits 22 = .ok (.iconst (-1), 1) := by decide +kernel
theorem dX10_fits_23 : decode cX10_fits 23 = .ok (.ireturn, 1) := by decide +kernel
theorem dX10_fits_24 : decode cX10_fits 24 = .ok (.aload_n 0, 1) := by decide +kernel
theorem dX10_fits_25 : decode cX10_fits 25 = .ok (.invokevirtual 203, 3) := by decide +kernel
theorem dX10_fits_28 : decode cX10_fits 28 = .ok (.pop, 1) := by decide +kernel
theorem dX10_fits_29 : decode cX10_fits 29 = .ok (.iconst 0, 1) := by decide +kernel
theorem dX10_fits_30 : decode cX10_fits 30 = .ok (.istore_n 1, 1) := by decide +kernel
theorem dX10_fits_31 : decode cX10_fits 31 = .ok (.iconst 0, 1) := by decide +kernel
theorem dX10_fits_32 : decode cX10_fits 32 = .ok (.istore_n 2, 1) := by decide +kernel
theorem dX10_fits_33 : decode cX10_fits 33 = .ok (.iload_n 2, 1) := by decide +kernel
theorem dX10_fits_34 : decode cX10_fits 34 = .ok (.aload_n 0, 1) := by decide +kernel
theorem dX10_fits_35 : decode cX10_fits 35 = .ok (.getfield 26, 3) := by decide +kernel
theorem dX10_fits_38 : decode cX10_fits 38 = .ok (.getfield 146, 3) := by decide +kernel
theorem dX10_fits_41 : decode cX10_fits 41 = .ok (.if_icmp .ge 23, 3) := by decide +kernel
theorem dX10_fits_44 : decode cX10_fits 44 = .ok (.aload_n 0, 1) := by decide +kernel
theorem dX10_fits_45 : decode cX10_fits 45 = .ok (.iload_n 2, 1) := by decide +kernel
theorem dX10_fits_46 : decode cX10_fits 46 = .ok (.invokevirtual 354, 3) := by decide +kernel
theorem dX10_fits_49 : decode cX10_fits 49 = .ok (.ifCond .eq 9, 3) := by decide +kernel
theorem dX10_fits_52 : decode cX10_fits 52 = .ok (.iload_n 1, 1) := by decide +kernel
theorem dX10_fits_53 : decode cX10_fits 53 = .ok (.iconst 1, 1) := by decide +kernel
theorem dX10_fits_54 : decode cX10_fits 54 = .ok (.iload_n 2, 1) := by decide +kernel
theorem dX10_fits_55 : decode cX10_fits 55 = .ok (.ishl, 1) := by decide +kernel
theorem dX10_fits_56 : decode cX10_fits 56 = .ok (.ior, 1) := by decide +kernel
theorem dX10_fits_57 : decode cX10_fits 57 = .ok (.istore_n 1, 1) := by decide +kernel
theorem dX10_fits_58 : decode cX10_fits 58 = .ok (.iinc 2 1, 3) := by decide +kernel
theorem dX10_fits_61 : decode cX10_fits 61 = .ok (.goto (-28), 3) := by decide +kernel
theorem dX10_fits_64 : decode cX10_fits 64 = .ok (.iload_n 1, 1) := by decide +kernel
theorem dX10_fits_65 : decode cX10_fits 65 = .ok (.ireturn, 1) := by decide +kernel
theorem dX10_tells_0 : decode cX10_tells 0 = .ok (.iload_n 1, 1) := by decide +kernel
theorem dX10_tells_1 : decode cX10_tells 1 = .ok (.ifCond .lt 8, 3) := by decide +kernel
theorem dX10_tells_4 : decode cX10_tells 4 = .ok (.iload_n 1, 1) := by decide +kernel
theorem dX10_tells_5 : decode cX10_tells 5 = .ok (.iconst 1, 1) := by decide +kernel
theorem dX10_tells_6 : decode cX10_tells 6 = .ok (.if_icmp .le 7, 3) := by decide +kernel
theorem dX10_tells_9 : decode cX10_tells 9 = .ok (.iconst (-1), 1) := by decide +kernel
theorem dX10_tells_10 : decode cX10_tells 10 = .ok (.goto 7, 3) := by decide +kernel
theorem dX10_tells_13 : decode cX10_tells 13 = .ok (.aload_n 0, 1) := by decide +kernel
theorem dX10_tells_14 : decode cX10_tells 14 = .ok (.invokevirtual 357, 3) := by decide +kernel
theorem dX10_tells_17 : decode cX10_tells 17 = .ok (.istore_n 2, 1) := by decide +kernel
theorem dX10_tells_18 : decode cX10_tells 18 = .ok (.iload_n 2, 1) := by decide +kernel
theorem dX10_tells_19 : decode cX10_tells 19 = .ok (.iconst (-1), 1) := by decide +kernel
theorem dX10_tells_20 : decode cX10_tells 20 = .ok (.if_icmp .eq 7, 3) := by decide +kernel
theorem dX10_tells_23 : decode cX10_tells 23 = .ok (.iload_n 2, 1) := by decide +kernel
theorem dX10_tells_24 : decode cX10_tells 24 = .ok (.ifCond .ne 5, 3) := by decide +kernel
theorem dX10_tells_27 : decode cX10_tells 27 = .ok (.iconst (-1), 1) := by decide +kernel
theorem dX10_tells_28 : decode cX10_tells 28 = .ok (.ireturn, 1) := by decide +kernel
theorem dX10_tells_29 : decode cX10_tells 29 = .ok (.iconst 0, 1) := by decide +kernel
theorem dX10_tells_30 : decode cX10_tells 30 = .ok (.istore_n 3, 1) := by decide +kernel
theorem dX10_tells_31 : decode cX10_tells 31 = .ok (.aload_n 0, 1) := by decide +kernel
theorem dX10_tells_32 : decode cX10_tells 32 = .ok (.iconst 0, 1) := by decide +kernel
theorem dX10_tells_33 : decode cX10_tells 33 = .ok (.iload_n 2, 1) := by decide +kernel
theorem dX10_tells_34 : decode cX10_tells 34 = .ok (.invokevirtual 360, 3) := by decide +kernel
theorem dX10_tells_37 : decode cX10_tells 37 = .ok (.istore 4, 2) := by decide +kernel
theorem dX10_tells_39 : decode cX10_tells 39 = .ok (.iconst 1, 1) := by decide +kernel
theorem dX10_tells_40 : decode cX10_tells 40 = .ok (.istore 5, 2) := by decide +kernel
theorem dX10_tells_42 : decode cX10_tells 42 = .ok (.iload 5, 2) := by decide +kernel
theorem dX10_tells_44 : decode cX10_tells 44 = .ok (.aload_n 0, 1) := by decide +kernel
theorem dX10_tells_45 : decode cX10_tells 45 = .ok (.getfield 26, 3) := by decide +kernel
theorem dX10_tells_48 : decode cX10_tells 48 = .ok (.getfield 146, 3) := by decide +kernel
theorem dX10_tells_51 : decode cX10_tells 51 = .ok (.if_icmp .ge 32, 3) := by decide +kernel
theorem dX10_tells_54 : decode cX10_tells 54 = .ok (.aload_n 0, 1) := by decide +kernel
theorem dX10_tells_55 : decode cX10_tells 55 = .ok (.iload 5, 2) := by decide +kernel
theorem dX10_tells_57 : decode cX10_tells 57 = .ok (.iload_n 2, 1) := by decide +kernel
theorem dX10_tells_58 : decode cX10_tells 58 = .ok (.invokevirtual 360, 3) := by decide +kernel
theorem dX10_tells_61 : decode cX10_tells 61 = .ok (.istore 6, 2) := by decide +kernel
theorem dX10_tells_63 : decode cX10_tells 63 = .ok (.iload 6, 2) := by decide +kernel
theorem dX10_tells_65 : decode cX10_tells 65 = .ok (.iload 4, 2) := by decide +kernel
theorem dX10_tells_67 : decode cX10_tells 67 = .ok (.if_icmp .ge 10, 3) := by decide +kernel
theorem dX10_tells_70 : decode cX10_tells 70 = .ok (.iload 5, 2) := by decide +kernel
theorem dX10_tells_72 : decode cX10_tells 72 = .ok (.istore_n 3, 1) := by decide +kernel
theorem dX10_tells_73 : decode cX10_tells 73 = .ok (.iload 6, 2) := by decide +kernel
theorem dX10_tells_75 : decode cX10_tells 75 = .ok (.istore 4, 2) := by decide +kernel
theorem dX10_tells_77 : decode cX10_tells 77 = .ok (.iinc 5 1, 3) := by decide +kernel
theorem dX10_tells_80 : decode cX10_tells 80 = .ok (.goto (-38), 3) := by decide +kernel
theorem dX10_tells_83 : decode cX10_tells 83 = .ok (.iload_n 1, 1) := by decide +kernel
theorem dX10_tells_84 : decode cX10_tells 84 = .ok (.ifCond .ne 7, 3) := by decide +kernel
theorem dX10_tells_87 : decode cX10_tells 87 = .ok (.iload_n 3, 1) := by decide +kernel
theorem dX10_tells_88 : decode cX10_tells 88 = .ok (.goto 5, 3) := by decide +kernel
theorem dX10_tells_91 : decode cX10_tells 91 = .ok (.iload 4, 2) := by decide +kernel
theorem dX10_tells_93 : decode cX10_tells 93 = .ok (.ireturn, 1) := by decide +kernel
theorem dX10_join_0 : decode cX10_join 0 = .ok (.aload_n 0, 1) := by decide +kernel
theorem dX10_join_1 : decode cX10_join 1 = .ok (.getfield 26, 3) := by decide +kernel
theorem dX10_join_4 : decode cX10_join 4 = .ok (.iload_n 1, 1) := by decide +kernel
theorem dX10_join_5 : decode cX10_join 5 = .ok (.iload_n 2, 1) := by decide +kernel
theorem dX10_join_6 : decode cX10_join 6 = .ok (.invokevirtual 363, 3) := by decide +kernel
theorem dX10_join_9 : decode cX10_join 9 = .ok (.ifCond .ne 9, 3) := by decide +kernel
theorem dX10_join_12 : decode cX10_join 12 = .ok (.aload_n 0, 1) := by decide +kernel
theorem dX10_join_13 : decode cX10_join 13 = .ok (.iconst 2, 1) := by decide +kernel
theorem dX10_join_14 : decode cX10_join 14 = .ok (.invokevirtual 108, 3) := by decide +kernel
theorem dX10_join_17 : decode cX10_join 17 = .ok (.ireturn, 1) := by decide +kernel
theorem dX10_join_18 : decode cX10_join 18 = .ok (.aload_n 0, 1) := by decide +kernel
theorem dX10_join_19 : decode cX10_join 19 = .ok (.getfield 33, 3) := by decide +kernel
theorem dX10_join_22 : decode cX10_join 22 = .ok (.aload_n 0, 1) := by decide +kernel
theorem dX10_join_23 : decode cX10_join 23 = .ok (.getfield 26, 3) := by decide +kernel
theorem dX10_join_26 : decode cX10_join 26 = .ok (.invokevirtual 366, 3) := by decide +kernel
theorem dX10_join_29 : decode cX10_join 29 = .ok (.aload_n 0, 1) := by decide +kernel
theorem dX10_join_30 : decode cX10_join 30 = .ok (.getfield 26, 3) := by decide +kernel
theorem dX10_join_33 : decode cX10_join 33 = .ok (.iload_n 1, 1) := by decide +kernel
theorem dX10_join_34 : decode cX10_join 34 = .ok (.iload_n 2, 1) := by decide +kernel
theorem dX10_join_35 : decode cX10_join 35 = .ok (.iconst 1, 1) := by decide +kernel
theorem dX10_join_36 : decode cX10_join 36 = .ok (.invokevirtual 369, 3) := by decide +kernel
theorem dX10_join_39 : decode cX10_join 39 = .ok (.aload_n 0, 1) := by decide +kernel
theorem dX10_join_40 : decode cX10_join 40 = .ok (.invokevirtual 137, 3) := by decide +kernel
theorem dX10_join_43 : decode cX10_join 43 = .ok (.aload_n 0, 1) := by decide +kernel
theorem dX10_join_44 : decode cX10_join 44 = .ok (.getfield 26, 3) := by decide +kernel
theorem dX10_join_47 : decode cX10_join 47 = .ok (.getfield 149, 3) := by decide +kernel
theorem dX10_join_50 : decode cX10_join 50 = .ok (.iconst 1, 1) := by decide +kernel
theorem dX10_join_51 : decode cX10_join 51 = .ok (.isub, 1) := by decide +kernel
theorem dX10_join_52 : decode cX10_join 52 = .ok (.ireturn, 1) := by decide +kernel
theorem dX10_cut_0 : decode cX10_cut 0 = .ok (.aload_n 0, 1) := by decide +kernel
theorem dX10_cut_1 : decode cX10_cut 1 = .ok (.getfield 26, 3) := by decide +kernel
theorem dX10_cut_4 : decode cX10_cut 4 = .ok (.iload_n 1, 1) := by decide +kernel
theorem dX10_cut_5 : decode cX10_cut 5 = .ok (.invokevirtual 188, 3) := by decide +kernel
theorem dX10_cut_8 : decode cX10_cut 8 = .ok (.ifCond .ne 9, 3) := by decide +kernel
theorem dX10_cut_11 : decode cX10_cut 11 = .ok (.aload_n 0, 1) := by decide +kernel
theorem dX10_cut_12 : decode cX10_cut 12 = .ok (.iconst 2, 1) := by decide +kernel
theorem dX10_cut_13 : decode cX10_cut 13 = .ok (.invokevirtual 116, 3) := by decide +kernel
theorem dX10_cut_16 : decode cX10_cut 16 = .ok (.ireturn, 1) := by decide +kernel
theorem dX10_cut_17 : decode cX10_cut 17 = .ok (.aload_n 0, 1) := by decide +kernel
theorem dX10_cut_18 : decode cX10_cut 18 = .ok (.getfield 33, 3) := by decide +kernel
theorem dX10_cut_21 : decode cX10_cut 21 = .ok (.aload_n 0, 1) := by decide +kernel
theorem dX10_cut_22 : decode cX10_cut 22 = .ok (.getfield 26, 3) := by decide +kernel
theorem dX10_cut_25 : decode cX10_cut 25 = .ok (.invokevirtual 366, 3) := by decide +kernel
theorem dX10_cut_28 : decode cX10_cut 28 = .ok (.aload_n 0, 1) := by decide +kernel
theorem dX10_cut_29 : decode cX10_cut 29 = .ok (.getfield 26, 3) := by decide +kernel
theorem dX10_cut_32 : decode cX10_cut 32 = .ok (.iload_n 1, 1) := by decide +kernel
theorem dX10_cut_33 : decode cX10_cut 33 = .ok (.invokevirtual 373, 3) := by decide +kernel
theorem dX10_cut_36 : decode cX10_cut 36 = .ok (.aload_n 0, 1) := by decide +kernel
theorem dX10_cut_37 : decode cX10_cut 37 = .ok (.invokevirtual 137, 3) := by decide +kernel
theorem dX10_cut_40 : decode cX10_cut 40 = .ok (.iconst 1, 1) := by decide +kernel
theorem dX10_cut_41 : decode cX10_cut 41 = .ok (.ireturn, 1) := by decide +kernel
theorem dX10_toll_0 : decode cX10_toll 0 = .ok (.aload_n 0, 1) := by decide +kernel
theorem dX10_toll_1 : decode cX10_toll 1 = .ok (.getfield 26, 3) := by decide +kernel
theorem dX10_toll_4 : decode cX10_toll 4 = .ok (.iload_n 1, 1) := by decide +kernel
theorem dX10_toll_5 : decode cX10_toll 5 = .ok (.invokevirtual 188, 3) := by decide +kernel
theorem dX10_toll_8 : decode cX10_toll 8 = .ok (.ifCond .eq 27, 3) := by decide +kernel
theorem dX10_toll_11 : decode cX10_toll 11 = .ok (.iload_n 2, 1) := by decide +kernel
theorem dX10_toll_12 : decode cX10_toll 12 = .ok (.iconst 1, 1) := by decide +kernel
theorem dX10_toll_13 : decode cX10_toll 13 = .ok (.if_icmp .lt 22, 3) := by decide +kernel
theorem dX10_toll_16 : decode cX10_toll 16 = .ok (.iload_n 2, 1) := by decide +kernel
theorem dX10_toll_17 : decode cX10_toll 17 = .ok (.bipush 9, 2) := by decide +kernel
theorem dX10_toll_19 : decode cX10_toll 19 = .ok (.if_icmp .gt 16, 3) := by decide +kernel
theorem dX10_toll_22 : decode cX10_toll 22 = .ok (.aload_n 0, 1) := by decide +kernel
theorem dX10_toll_23 : decode cX10_toll 23 = .ok (.getfield 26, 3) := by decide +kernel
theorem dX10_toll_26 : decode cX10_toll 26 = .ok (.getfield 200, 3) := by decide +kernel
theorem dX10_toll_29 : decode cX10_toll 29 = .ok (.iload_n 1, 1) := by decide +kernel
theorem dX10_toll_30 : decode cX10_toll 30 = .ok (.iaload, 1) := by decide +kernel
theorem dX10_toll_31 : decode cX10_toll 31 = .ok (.iload_n 2, 1) := by decide +kernel
theorem dX10_toll_32 : decode cX10_toll 32 = .ok (.if_icmp .ne 9, 3) := by decide +kernel
theorem dX10_toll_35 : decode cX10_toll 35 = .ok (.aload_n 0, 1) := by decide +kernel
theorem dX10_toll_36 : decode cX10_toll 36 = .ok (.iconst 2, 1) := by decide +kernel
theorem dX10_toll_37 : decode cX10_toll 37 = .ok (.invokevirtual 116, 3) := by decide +kernel
theorem dX10_toll_40 : decode cX10_toll 40 = .ok (.ireturn, 1) := by decide +kernel
theorem dX10_toll_41 : decode cX10_toll 41 = .ok (.aload_n 0, 1) := by decide +kernel
theorem dX10_toll_42 : decode cX10_toll 42 = .ok (.getfield 33, 3) := by decide +kernel
theorem dX10_toll_45 : decode cX10_toll 45 = .ok (.aload_n 0, 1) := by decide +kernel
theorem dX10_toll_46 : decode cX10_toll 46 = .ok (.getfield 26, 3) := by decide +kernel
theorem dX10_toll_49 : decode cX10_toll 49 = .ok (.invokevirtual 366, 3) := by decide +kernel
theorem dX10_toll_52 : decode cX10_toll 52 = .ok (.aload_n 0, 1) := by decide +kernel
theorem dX10_toll_53 : decode cX10_toll 53 = .ok (.getfield 26, 3) := by decide +kernel
theorem dX10_toll_56 : decode cX10_toll 56 = .ok (.getfield 200, 3) := by decide +kernel
theorem dX10_toll_59 : decode cX10_toll 59 = .ok (.iload_n 1, 1) := by decide +kernel
theorem dX10_toll_60 : decode cX10_toll 60 = .ok (.iload_n 2, 1) := by decide +kernel
theorem dX10_toll_61 : decode cX10_toll 61 = .ok (.iastore, 1) := by decide +kernel
theorem dX10_toll_62 : decode cX10_toll 62 = .ok (.iconst 1, 1) := by decide +kernel
theorem dX10_toll_63 : decode cX10_toll 63 = .ok (.ireturn, 1) := by decide +kernel
theorem dX10_grow_0 : decode cX10_grow 0 = .ok (.aload_n 0, 1) := by decide +kernel
theorem dX10_grow_1 : decode cX10_grow 1 = .ok (.getfield 26, 3) := by decide +kernel
theorem dX10_grow_4 : decode cX10_grow 4 = .ok (.iload_n 1, 1) := by decide +kernel
theorem dX10_grow_5 : decode cX10_grow 5 = .ok (.invokevirtual 376, 3) := by decide +kernel
theorem dX10_grow_8 : decode cX10_grow 8 = .ok (.ifCond .ne 9, 3) := by decide +kernel
theorem dX10_grow_11 : decode cX10_grow 11 = .ok (.aload_n 0, 1) := by decide +kernel
theorem dX10_grow_12 : decode cX10_grow 12 = .ok (.iconst 2, 1) := by decide +kernel
theorem dX10_grow_13 : decode cX10_grow 13 = .ok (.invokevirtual 108, 3) := by decide +kernel
theorem dX10_grow_16 : decode cX10_grow 16 = .ok (.ireturn, 1) := by decide +kernel
theorem dX10_grow_17 : decode cX10_grow 17 = .ok (.aload_n 0, 1) := by decide +kernel
theorem dX10_grow_18 : decode cX10_grow 18 = .ok (.getfield 33, 3) := by decide +kernel
theorem dX10_grow_21 : decode cX10_grow 21 = .ok (.aload_n 0, 1) := by decide +kernel
theorem dX10_grow_22 : decode cX10_grow 22 = .ok (.getfield 26, 3) := by decide +kernel
theorem dX10_grow_25 : decode cX10_grow 25 = .ok (.invokevirtual 366, 3) := by decide +kernel
theorem dX10_grow_28 : decode cX10_grow 28 = .ok (.aload_n 0, 1) := by decide +kernel
theorem dX10_grow_29 : decode cX10_grow 29 = .ok (.getfield 26, 3) := by decide +kernel
theorem dX10_grow_32 : decode cX10_grow 32 = .ok (.iload_n 1, 1) := by decide +kernel
theorem dX10_grow_33 : decode cX10_grow 33 = .ok (.invokevirtual 379, 3) := by decide +kernel
theorem dX10_grow_36 : decode cX10_grow 36 = .ok (.aload_n 0, 1) := by decide +kernel
theorem dX10_grow_37 : decode cX10_grow 37 = .ok (.invokevirtual 137, 3) := by decide +kernel
theorem dX10_grow_40 : decode cX10_grow 40 = .ok (.aload_n 0, 1) := by decide +kernel
theorem dX10_grow_41 : decode cX10_grow 41 = .ok (.getfield 26, 3) := by decide +kernel
theorem dX10_grow_44 : decode cX10_grow 44 = .ok (.getfield 146, 3) := by decide +kernel
theorem dX10_grow_47 : decode cX10_grow 47 = .ok (.iconst 1, 1) := by decide +kernel
theorem dX10_grow_48 : decode cX10_grow 48 = .ok (.isub, 1) := by decide +kernel
theorem dX10_grow_49 : decode cX10_grow 49 = .ok (.ireturn, 1) := by decide +kernel
theorem dX10_drop_0 : decode cX10_drop 0 = .ok (.aload_n 0, 1) := by decide +kernel
theorem dX10_drop_1 : decode cX10_drop 1 = .ok (.getfield 26, 3) := by decide +kernel
theorem dX10_drop_4 : decode cX10_drop 4 = .ok (.iload_n 1, 1) := by decide +kernel
theorem dX10_drop_5 : decode cX10_drop 5 = .ok (.invokevirtual 171, 3) := by decide +kernel
theorem dX10_drop_8 : decode cX10_drop 8 = .ok (.ifCond .eq 14, 3) := by decide +kernel
theorem dX10_drop_11 : decode cX10_drop 11 = .ok (.aload_n 0, 1) := by decide +kernel
theorem dX10_drop_12 : decode cX10_drop 12 = .ok (.getfield 26, 3) := by decide +kernel
theorem dX10_drop_15 : decode cX10_drop 15 = .ok (.getfield 146, 3) := by decide +kernel
theorem dX10_drop_18 : decode cX10_drop 18 = .ok (.iconst 1, 1) := by decide +kernel
theorem dX10_drop_19 : decode cX10_drop 19 = .ok (.if_icmp .ne 9, 3) := by decide +kernel
theorem dX10_drop_22 : decode cX10_drop 22 = .ok (.aload_n 0, 1) := by decide +kernel
theorem dX10_drop_23 : decode cX10_drop 23 = .ok (.iconst 2, 1) := by decide +kernel
theorem dX10_drop_24 : decode cX10_drop 24 = .ok (.invokevirtual 116, 3) := by decide +kernel
theorem dX10_drop_27 : decode cX10_drop 27 = .ok (.ireturn, 1) := by decide +kernel
theorem dX10_drop_28 : decode cX10_drop 28 = .ok (.aload_n 0, 1) := by decide +kernel
theorem dX10_drop_29 : decode cX10_drop 29 = .ok (.getfield 33, 3) := by decide +kernel
theorem dX10_drop_32 : decode cX10_drop 32 = .ok (.aload_n 0, 1) := by decide +kernel
theorem dX10_drop_33 : decode cX10_drop 33 = .ok (.getfield 26, 3) := by decide +kernel
theorem dX10_drop_36 : decode cX10_drop 36 = .ok (.invokevirtual 366, 3) := by decide +kernel
theorem dX10_drop_39 : decode cX10_drop 39 = .ok (.aload_n 0, 1) := by decide +kernel
theorem dX10_drop_40 : decode cX10_drop 40 = .ok (.getfield 26, 3) := by decide +kernel
theorem dX10_drop_43 : decode cX10_drop 43 = .ok (.iload_n 1, 1) := by decide +kernel
theorem dX10_drop_44 : decode cX10_drop 44 = .ok (.invokevirtual 382, 3) := by decide +kernel
theorem dX10_drop_47 : decode cX10_drop 47 = .ok (.aload_n 0, 1) := by decide +kernel
theorem dX10_drop_48 : decode cX10_drop 48 = .ok (.invokevirtual 137, 3) := by decide +kernel
theorem dX10_drop_51 : decode cX10_drop 51 = .ok (.iconst 1, 1) := by decide +kernel
theorem dX10_drop_52 : decode cX10_drop 52 = .ok (.ireturn, 1) := by decide +kernel
theorem dX10_press_0 : decode cX10_press 0 = .ok (.aload_n 0, 1) := by decide +kernel
theorem dX10_press_1 : decode cX10_press 1 = .ok (.iload_n 1, 1) := by decide +kernel
theorem dX10_press_2 : decode cX10_press 2 = .ok (.invokevirtual 255, 3) := by decide +kernel
theorem dX10_press_5 : decode cX10_press 5 = .ok (.ifCond .ne 9, 3) := by decide +kernel
theorem dX10_press_8 : decode cX10_press 8 = .ok (.aload_n 0, 1) := by decide +kernel
theorem dX10_press_9 : decode cX10_press 9 = .ok (.iconst 3, 1) := by decide +kernel
theorem dX10_press_10 : decode cX10_press 10 = .ok (.invokevirtual 108, 3) := by decide +kernel
theorem dX10_press_13 : decode cX10_press 13 = .ok (.ireturn, 1) := by decide +kernel
theorem dX10_press_14 : decode cX10_press 14 = .ok (.aload_n 0, 1) := by decide +kernel
theorem dX10_press_15 : decode cX10_press 15 = .ok (.getfield 33, 3) := by decide +kernel
theorem dX10_press_18 : decode cX10_press 18 = .ok (.aload_n 0, 1) := by decide +kernel
theorem dX10_press_19 : decode cX10_press 19 = .ok (.getfield 26, 3) := by decide +kernel
theorem dX10_press_22 : decode cX10_press 22 = .ok (.invokevirtual 366, 3) := by decide +kernel
theorem dX10_press_25 : decode cX10_press 25 = .ok (.aload_n 0, 1) := by decide +kernel
theorem dX10_press_26 : decode cX10_press 26 = .ok (.iload_n 1, 1) := by decide +kernel
theorem dX10_press_27 : decode cX10_press 27 = .ok (.invokevirtual 385, 3) := by decide +kernel
theorem dX10_press_30 : decode cX10_press 30 = .ok (.aload_n 0, 1) := by decide +kernel
theorem dX10_press_31 : decode cX10_press 31 = .ok (.getfield 26, 3) := by decide +kernel
theorem dX10_press_34 : decode cX10_press 34 = .ok (.getfield 146, 3) := by decide +kernel
theorem dX10_press_37 : decode cX10_press 37 = .ok (.ireturn, 1) := by decide +kernel
theorem dX10_open_0 : decode cX10_open 0 = .ok (.aload_n 0, 1) := by decide +kernel
theorem dX10_open_1 : decode cX10_open 1 = .ok (.getfield 26, 3) := by decide +kernel
theorem dX10_open_4 : decode cX10_open 4 = .ok (.iload_n 1, 1) := by decide +kernel
theorem dX10_open_5 : decode cX10_open 5 = .ok (.iload_n 2, 1) := by decide +kernel
theorem dX10_open_6 : decode cX10_open 6 = .ok (.invokevirtual 388, 3) := by decide +kernel
theorem dX10_open_9 : decode cX10_open 9 = .ok (.ifCond .ne 9, 3) := by decide +kernel
theorem dX10_open_12 : decode cX10_open 12 = .ok (.aload_n 0, 1) := by decide +kernel
theorem dX10_open_13 : decode cX10_open 13 = .ok (.iconst 3, 1) := by decide +kernel
theorem dX10_open_14 : decode cX10_open 14 = .ok (.invokevirtual 108, 3) := by decide +kernel
theorem dX10_open_17 : decode cX10_open 17 = .ok (.ireturn, 1) := by decide +kernel
theorem dX10_open_18 : decode cX10_open 18 = .ok (.aload_n 0, 1) := by decide +kernel
theorem dX10_open_19 : decode cX10_open 19 = .ok (.getfield 33, 3) := by decide +kernel
theorem dX10_open_22 : decode cX10_open 22 = .ok (.aload_n 0, 1) := by decide +kernel
theorem dX10_open_23 : decode cX10_open 23 = .ok (.getfield 26, 3) := by decide +kernel
theorem dX10_open_26 : decode cX10_open 26 = .ok (.invokevirtual 366, 3) := by decide +kernel
theorem dX10_open_29 : decode cX10_open 29 = .ok (.aload_n 0, 1) := by decide +kernel
theorem dX10_open_30 : decode cX10_open 30 = .ok (.getfield 26, 3) := by decide +kernel
theorem dX10_open_33 : decode cX10_open 33 = .ok (.iload_n 1, 1) := by decide +kernel
theorem dX10_open_34 : decode cX10_open 34 = .ok (.iload_n 2, 1) := by decide +kernel
theorem dX10_open_35 : decode cX10_open 35 = .ok (.invokevirtual 391, 3) := by decide +kernel
theorem dX10_open_38 : decode cX10_open 38 = .ok (.aload_n 0, 1) := by decide +kernel
theorem dX10_open_39 : decode cX10_open 39 = .ok (.invokevirtual 137, 3) := by decide +kernel
theorem dX10_open_42 : decode cX10_open 42 = .ok (.aload_n 0, 1) := by decide +kernel
theorem dX10_open_43 : decode cX10_open 43 = .ok (.getfield 26, 3) := by decide +kernel
theorem dX10_open_46 : decode cX10_open 46 = .ok (.getfield 146, 3) := by decide +kernel
theorem dX10_open_49 : decode cX10_open 49 = .ok (.ireturn, 1) := by decide +kernel
theorem dX10_chance_0 : decode cX10_chance 0 = .ok (.iload_n 1, 1) := by decide +kernel
theorem dX10_chance_1 : decode cX10_chance 1 = .ok (.iconst 1, 1) := by decide +kernel
theorem dX10_chance_2 : decode cX10_chance 2 = .ok (.if_icmp .lt 19, 3) := by decide +kernel
theorem dX10_chance_5 : decode cX10_chance 5 = .ok (.iload_n 1, 1) := by decide +kernel
theorem dX10_chance_6 : decode cX10_chance 6 = .ok (.bipush 40, 2) := by decide +kernel
theorem dX10_chance_8 : decode cX10_chance 8 = .ok (.if_icmp .gt 13, 3) := by decide +kernel
theorem dX10_chance_11 : decode cX10_chance 11 = .ok (.aload_n 0, 1) := by decide +kernel
theorem dX10_chance_12 : decode cX10_chance 12 = .ok (.getfield 26, 3) := by decide +kernel
theorem dX10_chance_15 : decode cX10_chance 15 = .ok (.getfield 146, 3) := by decide +kernel
theorem dX10_chance_18 : decode cX10_chance 18 = .ok (.ifCond .ne 9, 3) := by decide +kernel
theorem dX10_chance_21 : decode cX10_chance 21 = .ok (.aload_n 0, 1) := by decide +kernel
theorem dX10_chance_22 : decode cX10_chance 22 = .ok (.iconst 3, 1) := by decide +kernel
theorem dX10_chance_23 : decode cX10_chance 23 = .ok (.invokevirtual 108, 3) := by decide +kernel
theorem dX10_chance_26 : decode cX10_chance 26 = .ok (.ireturn, 1) := by decide +kernel
theorem dX10_chance_27 : decode cX10_chance 27 = .ok (.aload_n 0, 1) := by decide +kernel
theorem dX10_chance_28 : decode cX10_chance 28 = .ok (.getfield 33, 3) := by decide +kernel
theorem dX10_chance_31 : decode cX10_chance 31 = .ok (.aload_n 0, 1) := by decide +kernel
theorem dX10_chance_32 : decode cX10_chance 32 = .ok (.getfield 26, 3) := by decide +kernel
theorem dX10_chance_35 : decode cX10_chance 35 = .ok (.invokevirtual 366, 3) := by decide +kernel
theorem dX10_chance_38 : decode cX10_chance 38 = .ok (.iconst 0, 1) := by decide +kernel
theorem dX10_chance_39 : decode cX10_chance 39 = .ok (.istore_n 2, 1) := by decide +kernel
theorem dX10_chance_40 : decode cX10_chance 40 = .ok (.iload_n 2, 1) := by decide +kernel
theorem dX10_chance_41 : decode cX10_chance 41 = .ok (.iload_n 1, 1) := by decide +kernel
theorem dX10_chance_42 : decode cX10_chance 42 = .ok (.if_icmp .ge 13, 3) := by decide +kernel
theorem dX10_chance_45 : decode cX10_chance 45 = .ok (.aload_n 0, 1) := by decide +kernel
theorem dX10_chance_46 : decode cX10_chance 46 = .ok (.invokevirtual 395, 3) := by decide +kernel
theorem dX10_chance_49 : decode cX10_chance 49 = .ok (.iinc 2 1, 3) := by decide +kernel
theorem dX10_chance_52 : decode cX10_chance 52 = .ok (.goto (-12), 3) := by decide +kernel
theorem dX10_chance_55 : decode cX10_chance 55 = .ok (.aload_n 0, 1) := by decide +kernel
theorem dX10_chance_56 : decode cX10_chance 56 = .ok (.getfield 26, 3) := by decide +kernel
theorem dX10_chance_59 : decode cX10_chance 59 = .ok (.getfield 146, 3) := by decide +kernel
theorem dX10_chance_62 : decode cX10_chance 62 = .ok (.ireturn, 1) := by decide +kernel
theorem dX10_undo_0 : decode cX10_undo 0 = .ok (.aload_n 0, 1) := by decide +kernel
theorem dX10_undo_1 : decode cX10_undo 1 = .ok (.getfield 33, 3) := by decide +kernel
theorem dX10_undo_4 : decode cX10_undo 4 = .ok (.getfield 159, 3) := by decide +kernel
theorem dX10_undo_7 : decode cX10_undo 7 = .ok (.ifCond .ne 9, 3) := by decide +kernel
theorem dX10_undo_10 : decode cX10_undo 10 = .ok (.aload_n 0, 1) := by decide +kernel
theorem dX10_undo_11 : decode cX10_undo 11 = .ok (.iconst 4, 1) := by decide +kernel
theorem dX10_undo_12 : decode cX10_undo 12 = .ok (.invokevirtual 116, 3) := by decide +kernel
theorem dX10_undo_15 : decode cX10_undo 15 = .ok (.ireturn, 1) := by decide +kernel
theorem dX10_undo_16 : decode cX10_undo 16 = .ok (.aload_n 0, 1) := by decide +kernel
theorem dX10_undo_17 : decode cX10_undo 17 = .ok (.getfield 33, 3) := by decide +kernel
theorem dX10_undo_20 : decode cX10_undo 20 = .ok (.aload_n 0, 1) := by decide +kernel
theorem dX10_undo_21 : decode cX10_undo 21 = .ok (.getfield 26, 3) := by decide +kernel
theorem dX10_undo_24 : decode cX10_undo 24 = .ok (.invokevirtual 398, 3) := by decide +kernel
theorem dX10_undo_27 : decode cX10_undo 27 = .ok (.aload_n 0, 1) := by decide +kernel
theorem dX10_undo_28 : decode cX10_undo 28 = .ok (.invokevirtual 137, 3) := by decide +kernel
theorem dX10_undo_31 : decode cX10_undo 31 = .ok (.iconst 1, 1) := by decide +kernel
theorem dX10_undo_32 : decode cX10_undo 32 = .ok (.ireturn, 1) := by decide +kernel
theorem dX10_seed_0 : decode cX10_seed 0 = .ok (.iload_n 1, 1) := by decide +kernel
theorem dX10_seed_1 : decode cX10_seed 1 = .ok (.ifCond .ge 9, 3) := by decide +kernel
theorem dX10_seed_4 : decode cX10_seed 4 = .ok (.aload_n 0, 1) := by decide +kernel
theorem dX10_seed_5 : decode cX10_seed 5 = .ok (.iconst 5, 1) := by decide +kernel
theorem dX10_seed_6 : decode cX10_seed 6 = .ok (.invokevirtual 116, 3) := by decide +kernel
theorem dX10_seed_9 : decode cX10_seed 9 = .ok (.ireturn, 1) := by decide +kernel
theorem dX10_seed_10 : decode cX10_seed 10 = .ok (.aload_n 0, 1) := by decide +kernel
theorem dX10_seed_11 : decode cX10_seed 11 = .ok (.iload_n 1, 1) := by decide +kernel
theorem dX10_seed_12 : decode cX10_seed 12 = .ok (.putfield 102, 3) := by decide +kernel
theorem dX10_seed_15 : decode cX10_seed 15 = .ok (.iconst 1, 1) := by decide +kernel
theorem dX10_seed_16 : decode cX10_seed 16 = .ok (.ireturn, 1) := by decide +kernel
theorem dX10_image_0 : decode cX10_image 0 = .ok (.aload_n 0, 1) := by decide +kernel
theorem dX10_image_1 : decode cX10_image 1 = .ok (.getfield 75, 3) := by decide +kernel
theorem dX10_image_4 : decode cX10_image 4 = .ok (.aload_n 0, 1) := by decide +kernel
theorem dX10_image_5 : decode cX10_image 5 = .ok (.getfield 26, 3) := by decide +kernel
theorem dX10_image_8 : decode cX10_image 8 = .ok (.invokevirtual 401, 3) := by decide +kernel
theorem dX10_image_11 : decode cX10_image 11 = .ok (.aload_n 0, 1) := by decide +kernel
theorem dX10_image_12 : decode cX10_image 12 = .ok (.getfield 75, 3) := by decide +kernel
theorem dX10_image_15 : decode cX10_image 15 = .ok (.getfield 404, 3) := by decide +kernel
theorem dX10_image_18 : decode cX10_image 18 = .ok (.ireturn, 1) := by decide +kernel
theorem dX10_octet_0 : decode cX10_octet 0 = .ok (.iload_n 1, 1) := by decide +kernel
theorem dX10_octet_1 : decode cX10_octet 1 = .ok (.ifCond .lt 26, 3) := by decide +kernel
theorem dX10_octet_4 : decode cX10_octet 4 = .ok (.iload_n 1, 1) := by decide +kernel
theorem dX10_octet_5 : decode cX10_octet 5 = .ok (.aload_n 0, 1) := by decide +kernel
theorem dX10_octet_6 : decode cX10_octet 6 = .ok (.getfield 75, 3) := by decide +kernel
theorem dX10_octet_9 : decode cX10_octet 9 = .ok (.getfield 404, 3) := by decide +kernel
theorem dX10_octet_12 : decode cX10_octet 12 = .ok (.if_icmp .ge 15, 3) := by decide +kernel
theorem dX10_octet_15 : decode cX10_octet 15 = .ok (.aload_n 0, 1) := by decide +kernel
theorem dX10_octet_16 : decode cX10_octet 16 = .ok (.getfield 75, 3) := by decide +kernel
theorem dX10_octet_19 : decode cX10_octet 19 = .ok (.getfield 405, 3) := by decide +kernel
theorem dX10_octet_22 : decode cX10_octet 22 = .ok (.iload_n 1, 1) := by decide +kernel
theorem dX10_octet_23 : decode cX10_octet 23 = .ok (.iaload, 1) := by decide +kernel
theorem dX10_octet_24 : decode cX10_octet 24 = .ok (.goto 4, 3) := by decide +kernel
theorem dX10_octet_27 : decode cX10_octet 27 = .ok (.iconst (-1), 1) := by decide +kernel
theorem dX10_octet_28 : decode cX10_octet 28 = .ok (.ireturn, 1) := by decide +kernel
theorem dX10_on_0 : decode cX10_on 0 = .ok (.aload_n 0, 1) := by decide +kernel
theorem dX10_on_1 : decode cX10_on 1 = .ok (.getfield 75, 3) := by decide +kernel
theorem dX10_on_4 : decode cX10_on 4 = .ok (.aload_n 0, 1) := by decide +kernel
theorem dX10_on_5 : decode cX10_on 5 = .ok (.getfield 10, 3) := by decide +kernel
theorem dX10_on_8 : decode cX10_on 8 = .ok (.invokevirtual 406, 3) := by decide +kernel
theorem dX10_on_11 : decode cX10_on 11 = .ok (.istore_n 1, 1) := by decide +kernel
theorem dX10_on_12 : decode cX10_on 12 = .ok (.aload_n 0, 1) := by decide +kernel
theorem dX10_on_13 : decode cX10_on 13 = .ok (.getfield 10, 3) := by decide +kernel
theorem dX10_on_16 : decode cX10_on 16 = .ok (.iconst 0, 1) := by decide +kernel
theorem dX10_on_17 : decode cX10_on 17 = .ok (.putfield 105, 3) := by decide +kernel
theorem dX10_on_20 : decode cX10_on 20 = .ok (.iload_n 1, 1) := by decide +kernel
theorem dX10_on_21 : decode cX10_on 21 = .ok (.ifCond .ne 9, 3) := by decide +kernel
theorem dX10_on_24 : decode cX10_on 24 = .ok (.aload_n 0, 1) := by decide +kernel
theorem dX10_on_25 : decode cX10_on 25 = .ok (.iconst 5, 1) := by decide +kernel
theorem dX10_on_26 : decode cX10_on 26 = .ok (.invokevirtual 116, 3) := by decide +kernel
theorem dX10_on_29 : decode cX10_on 29 = .ok (.ireturn, 1) := by decide +kernel
theorem dX10_on_30 : decode cX10_on 30 = .ok (.aload_n 0, 1) := by decide +kernel
theorem dX10_on_31 : decode cX10_on 31 = .ok (.getfield 26, 3) := by decide +kernel
theorem dX10_on_34 : decode cX10_on 34 = .ok (.aload_n 0, 1) := by decide +kernel
theorem dX10_on_35 : decode cX10_on 35 = .ok (.getfield 75, 3) := by decide +kernel
theorem dX10_on_38 : decode cX10_on 38 = .ok (.getfield 410, 3) := by decide +kernel
theorem dX10_on_41 : decode cX10_on 41 = .ok (.invokevirtual 130, 3) := by decide +kernel
theorem dX10_on_44 : decode cX10_on 44 = .ok (.aload_n 0, 1) := by decide +kernel
theorem dX10_on_45 : decode cX10_on 45 = .ok (.getfield 33, 3) := by decide +kernel
theorem dX10_on_48 : decode cX10_on 48 = .ok (.invokevirtual 134, 3) := by decide +kernel
theorem dX10_on_51 : decode cX10_on 51 = .ok (.aload_n 0, 1) := by decide +kernel
theorem dX10_on_52 : decode cX10_on 52 = .ok (.invokevirtual 137, 3) := by decide +kernel
theorem dX10_on_55 : decode cX10_on 55 = .ok (.iconst 1, 1) := by decide +kernel
theorem dX10_on_56 : decode cX10_on 56 = .ok (.ireturn, 1) := by decide +kernel
theorem dX10_status_0 : decode cX10_status 0 = .ok (.iload_n 1, 1) := by decide +kernel
theorem dX10_status_1 : decode cX10_status 1 = .ok (.ifCond .lt 18, 3) := by decide +kernel
theorem dX10_status_4 : decode cX10_status 4 = .ok (.iload_n 1, 1) := by decide +kernel
theorem dX10_status_5 : decode cX10_status 5 = .ok (.bipush 6, 2) := by decide +kernel
theorem dX10_status_7 : decode cX10_status 7 = .ok (.if_icmp .ge 12, 3) := by decide +kernel
theorem dX10_status_10 : decode cX10_status 10 = .ok (.aload_n 0, 1) := by decide +kernel
theorem dX10_status_11 : decode cX10_status 11 = .ok (.getfield 92, 3) := by decide +kernel
theorem dX10_status_14 : decode cX10_status 14 = .ok (.iload_n 1, 1) := by decide +kernel
theorem dX10_status_15 : decode cX10_status 15 = .ok (.iaload, 1) := by decide +kernel
theorem dX10_status_16 : decode cX10_status 16 = .ok (.goto 4, 3) := by decide +kernel
theorem dX10_status_19 : decode cX10_status 19 = .ok (.iconst (-1), 1) := by decide +kernel
theorem dX10_status_20 : decode cX10_status 20 = .ok (.ireturn, 1) := by decide +kernel
theorem dX10_refuse_0 : decode cX10_refuse 0 = .ok (.aload_n 0, 1) := by decide +kernel
theorem dX10_refuse_1 : decode cX10_refuse 1 = .ok (.getfield 92, 3) := by decide +kernel
theorem dX10_refuse_4 : decode cX10_refuse 4 = .ok (.iload_n 1, 1) := by decide +kernel
theorem dX10_refuse_5 : decode cX10_refuse 5 = .ok (.dup2, 1) := by decide +kernel
theorem dX10_refuse_6 : decode cX10_refuse 6 = .ok (.iaload, 1) := by decide +kernel
theorem dX10_refuse_7 : decode cX10_refuse 7 = .ok (.iconst 1, 1) := by decide +kernel
theorem dX10_refuse_8 : decode cX10_refuse 8 = .ok (.iadd, 1) := by decide +kernel
theorem dX10_refuse_9 : decode cX10_refuse 9 = .ok (.iastore, 1) := by decide +kernel
theorem dX10_refuse_10 : decode cX10_refuse 10 = .ok (.iconst (-1), 1) := by decide +kernel
theorem dX10_refuse_11 : decode cX10_refuse 11 = .ok (.ireturn, 1) := by decide +kernel
theorem dX10_deny_0 : decode cX10_deny 0 = .ok (.aload_n 0, 1) := by decide +kernel
theorem dX10_deny_1 : decode cX10_deny 1 = .ok (.getfield 92, 3) := by decide +kernel
theorem dX10_deny_4 : decode cX10_deny 4 = .ok (.iload_n 1, 1) := by decide +kernel
theorem dX10_deny_5 : decode cX10_deny 5 = .ok (.dup2, 1) := by decide +kernel
theorem dX10_deny_6 : decode cX10_deny 6 = .ok (.iaload, 1) := by decide +kernel
theorem dX10_deny_7 : decode cX10_deny 7 = .ok (.iconst 1, 1) := by decide +kernel
theorem dX10_deny_8 : decode cX10_deny 8 = .ok (.iadd, 1) := by decide +kernel
theorem dX10_deny_9 : decode cX10_deny 9 = .ok (.iastore, 1) := by decide +kernel
theorem dX10_deny_10 : decode cX10_deny 10 = .ok (.iconst 0, 1) := by decide +kernel
theorem dX10_deny_11 : decode cX10_deny 11 = .ok (.ireturn, 1) := by decide +kernel
theorem dX10_changed_0 : decode cX10_changed 0 = .ok (.aload_n 0, 1) := by decide +kernel
theorem dX10_changed_1 : decode cX10_changed 1 = .ok (.getfield 40, 3) := by decide +kernel
theorem dX10_changed_4 : decode cX10_changed 4 = .ok (.iconst 0, 1) := by decide +kernel
theorem dX10_changed_5 : decode cX10_changed 5 = .ok (.putfield 411, 3) := by decide +kernel
theorem dX10_changed_8 : decode cX10_changed 8 = .ok (.aload_n 0, 1) := by decide +kernel
theorem dX10_changed_9 : decode cX10_changed 9 = .ok (.getfield 47, 3) := by decide +kernel
theorem dX10_changed_12 : decode cX10_changed 12 = .ok (.iconst 0, 1) := by decide +kernel
theorem dX10_changed_13 : decode cX10_changed 13 = .ok (.putfield 414, 3) := by decide +kernel
theorem dX10_changed_16 : decode cX10_changed 16 = .ok (.aload_n 0, 1) := by decide +kernel
theorem dX10_changed_17 : decode cX10_changed 17 = .ok (.getfield 54, 3) := by decide +kernel
theorem dX10_changed_20 : decode cX10_changed 20 = .ok (.iconst 0, 1) := by decide +kernel
theorem dX10_changed_21 : decode cX10_changed 21 = .ok (.putfield 415, 3) := by decide +kernel
theorem dX10_changed_24 : decode cX10_changed 24 = .ok (.return_, 1) := by decide +kernel
theorem dX10_measured_0 : decode cX10_measured 0 = .ok (.aload_n 0, 1) := by decide +kernel
theorem dX10_measured_1 : decode cX10_measured 1 = .ok (.getfield 40, 3) := by decide +kernel
theorem dX10_measured_4 : decode cX10_measured 4 = .ok (.getfield 411, 3) := by decide +kernel
theorem dX10_measured_7 : decode cX10_measured 7 = .ok (.ifCond .ne 14, 3) := by decide +kernel
theorem dX10_measured_10 : decode cX10_measured 10 = .ok (.aload_n 0, 1) := by decide +kernel
theorem dX10_measured_11 : decode cX10_measured 11 = .ok (.getfield 40, 3) := by decide +kernel
theorem dX10_measured_14 : decode cX10_measured 14 = .ok (.aload_n 0, 1) := by decide +kernel
theorem dX10_measured_15 : decode cX10_measured 15 = .ok (.getfield 26, 3) := by decide +kernel
theorem dX10_measured_18 : decode cX10_measured 18 = .ok (.invokevirtual 416, 3) := by decide +kernel
theorem dX10_measured_21 : decode cX10_measured 21 = .ok (.aload_n 0, 1) := by decide +kernel
theorem dX10_measured_22 : decode cX10_measured 22 = .ok (.getfield 40, 3) := by decide +kernel
theorem dX10_measured_25 : decode cX10_measured 25 = .ok (.areturn, 1) := by decide +kernel
theorem dX10_sorted_0 : decode cX10_sorted 0 = .ok (.aload_n 0, 1) := by decide +kernel
theorem dX10_sorted_1 : decode cX10_sorted 1 = .ok (.invokevirtual 203, 3) := by decide +kernel
theorem dX10_sorted_4 : decode cX10_sorted 4 = .ok (.pop, 1) := by decide +kernel
theorem dX10_sorted_5 : decode cX10_sorted 5 = .ok (.aload_n 0, 1) := by decide +kernel
theorem dX10_sorted_6 : decode cX10_sorted 6 = .ok (.getfield 47, 3) := by decide +kernel
theorem dX10_sorted_9 : decode cX10_sorted 9 = .ok (.getfield 414, 3) := by decide +kernel
theorem dX10_sorted_12 : decode cX10_sorted 12 = .ok (.ifCond .ne 18, 3) := by decide +kernel
theorem dX10_sorted_15 : decode cX10_sorted 15 = .ok (.aload_n 0, 1) := by decide +kernel
theorem dX10_sorted_16 : decode cX10_sorted 16 = .ok (.getfield 47, 3) := by decide +kernel
theorem dX10_sorted_19 : decode cX10_sorted 19 = .ok (.aload_n 0, 1) := by decide +kernel
theorem dX10_sorted_20 : decode cX10_sorted 20 = .ok (.getfield 26, 3) := by decide +kernel
theorem dX10_sorted_23 : decode cX10_sorted 23 = .ok (.aload_n 0, 1) := by decide +kernel
theorem dX10_sorted_24 : decode cX10_sorted 24 = .ok (.getfield 40, 3) := by decide +kernel
theorem dX10_sorted_27 : decode cX10_sorted 27 = .ok (.invokevirtual 419, 3) := by decide +kernel
theorem dX10_sorted_30 : decode cX10_sorted 30 = .ok (.aload_n 0, 1) := by decide +kernel
theorem dX10_sorted_31 : decode cX10_sorted 31 = .ok (.getfield 47, 3) := by decide +kernel
theorem dX10_sorted_34 : decode cX10_sorted 34 = .ok (.areturn, 1) := by decide +kernel
theorem dX10_seated_0 : decode cX10_seated 0 = .ok (.aload_n 0, 1) := by decide +kernel
theorem dX10_seated_1 : decode cX10_seated 1 = .ok (.invokevirtual 203, 3) := by decide +kernel
theorem dX10_seated_4 : decode cX10_seated 4 = .ok (.pop, 1) := by decide +kernel
theorem dX10_seated_5 : decode cX10_seated 5 = .ok (.aload_n 0, 1) := by decide +kernel
theorem dX10_seated_6 : decode cX10_seated 6 = .ok (.getfield 47, 3) := by decide +kernel
theorem dX10_seated_9 : decode cX10_seated 9 = .ok (.getfield 414, 3) := by decide +kernel
theorem dX10_seated_12 : decode cX10_seated 12 = .ok (.ifCond .ne 18, 3) := by decide +kernel
theorem dX10_seated_15 : decode cX10_seated 15 = .ok (.aload_n 0, 1) := by decide +kernel
theorem dX10_seated_16 : decode cX10_seated 16 = .ok (.getfield 47, 3) := by decide +kernel
theorem dX10_seated_19 : decode cX10_seated 19 = .ok (.aload_n 0, 1) := by decide +kernel
theorem dX10_seated_20 : decode cX10_seated 20 = .ok (.getfield 26, 3) := by decide +kernel
theorem dX10_seated_23 : decode cX10_seated 23 = .ok (.aload_n 0, 1) := by decide +kernel
theorem dX10_seated_24 : decode cX10_seated 24 = .ok (.getfield 40, 3) := by decide +kernel
theorem dX10_seated_27 : decode cX10_seated 27 = .ok (.invokevirtual 419, 3) := by decide +kernel
theorem dX10_seated_30 : decode cX10_seated 30 = .ok (.aload_n 0, 1) := by decide +kernel
theorem dX10_seated_31 : decode cX10_seated 31 = .ok (.getfield 54, 3) := by decide +kernel
theorem dX10_seated_34 : decode cX10_seated 34 = .ok (.getfield 415, 3) := by decide +kernel
theorem dX10_seated_37 : decode cX10_seated 37 = .ok (.ifCond .ne 22, 3) := by decide +kernel
theorem dX10_seated_40 : decode cX10_seated 40 = .ok (.aload_n 0, 1) := by decide +kernel
theorem dX10_seated_41 : decode cX10_seated 41 = .ok (.getfield 54, 3) := by decide +kernel
theorem dX10_seated_44 : decode cX10_seated 44 = .ok (.aload_n 0, 1) := by decide +kernel
theorem dX10_seated_45 : decode cX10_seated 45 = .ok (.getfield 26, 3) := by decide +kernel
theorem dX10_seated_48 : decode cX10_seated 48 = .ok (.aload_n 0, 1) := by decide +kernel
theorem dX10_seated_49 : decode cX10_seated 49 = .ok (.getfield 40, 3) := by decide +kernel
theorem dX10_seated_52 : decode cX10_seated 52 = .ok (.aload_n 0, 1) := by decide +kernel
theorem dX10_seated_53 : decode cX10_seated 53 = .ok (.getfield 47, 3) := by decide +kernel
theorem dX10_seated_56 : decode cX10_seated 56 = .ok (.invokevirtual 423, 3) := by decide +kernel
theorem dX10_seated_59 : decode cX10_seated 59 = .ok (.aload_n 0, 1) := by decide +kernel
theorem dX10_seated_60 : decode cX10_seated 60 = .ok (.getfield 54, 3) := by decide +kernel
theorem dX10_seated_63 : decode cX10_seated 63 = .ok (.areturn, 1) := by decide +kernel
theorem dX10_areNodes_0 : decode cX10_areNodes 0 = .ok (.aload_n 0, 1) := by decide +kernel
theorem dX10_areNodes_1 : decode cX10_areNodes 1 = .ok (.getfield 26, 3) := by decide +kernel
theorem dX10_areNodes_4 : decode cX10_areNodes 4 = .ok (.iload_n 1, 1) := by decide +kernel
theorem dX10_areNodes_5 : decode cX10_areNodes 5 = .ok (.invokevirtual 171, 3) := by decide +kernel
theorem dX10_areNodes_8 : decode cX10_areNodes 8 = .ok (.ifCond .eq 18, 3) := by decide +kernel
theorem dX10_areNodes_11 : decode cX10_areNodes 11 = .ok (.aload_n 0, 1) := by decide +kernel
theorem dX10_areNodes_12 : decode cX10_areNodes 12 = .ok (.getfield 26, 3) := by decide +kernel
theorem dX10_areNodes_15 : decode cX10_areNodes 15 = .ok (.iload_n 2, 1) := by decide +kernel
theorem dX10_areNodes_16 : decode cX10_areNodes 16 = .ok (.invokevirtual 171, 3) := by decide +kernel
theorem dX10_areNodes_19 : decode cX10_areNodes 19 = .ok (.ifCond .eq 7, 3) := by decide +kernel
theorem dX10_areNodes_22 : decode cX10_areNodes 22 = .ok (.iconst 1, 1) := by decide +kernel
theorem dX10_areNodes_23 : decode cX10_areNodes 23 = .ok (.goto 4, 3) := by decide +kernel
theorem dX10_areNodes_26 : decode cX10_areNodes 26 = .ok (.iconst 0, 1) := by decide +kernel
theorem dX10_areNodes_27 : decode cX10_areNodes 27 = .ok (.ireturn, 1) := by decide +kernel
theorem dX10_areNodesStill_0 : decode cX10_areNodesStill 0 = .ok (.iconst 0, 1) := by decide +kernel
theorem dX10_areNodesStill_1 : decode cX10_areNodesStill 1 = .ok (.istore_n 3, 1) := by decide +kernel
theorem dX10_areNodesStill_2 : decode cX10_areNodesStill 2 = .ok (.iload_n 3, 1) := by decide +kernel
theorem dX10_areNodesStill_3 : decode cX10_areNodesStill 3 = .ok (.iload_n 2, 1) := by decide +kernel
theorem dX10_areNodesStill_4 : decode cX10_areNodesStill 4 = .ok (.if_icmp .ge 30, 3) := by decide +kernel
theorem dX10_areNodesStill_7 : decode cX10_areNodesStill 7 = .ok (.iload_n 3, 1) := by decide +kernel
theorem dX10_areNodesStill_8 : decode cX10_areNodesStill 8 = .ok (.aload_n 1, 1) := by decide +kernel
theorem dX10_areNodesStill_9 : decode cX10_areNodesStill 9 = .ok (.arraylength, 1) := by decide +kernel
theorem dX10_areNodesStill_10 : decode cX10_areNodesStill 10 = .ok (.if_icmp .ge 24, 3) := by decide +kernel
theorem dX10_areNodesStill_13 : decode cX10_areNodesStill 13 = .ok (.aload_n 0, 1) := by decide +kernel
theorem dX10_areNodesStill_14 : decode cX10_areNodesStill 14 = .ok (.getfield 26, 3) := by decide +kernel
theorem dX10_areNodesStill_17 : decode cX10_areNodesStill 17 = .ok (.aload_n 1, 1) := by decide +kernel
theorem dX10_areNodesStill_18 : decode cX10_areNodesStill 18 = .ok (.iload_n 3, 1) := by decide +kernel
theorem dX10_areNodesStill_19 : decode cX10_areNodesStill 19 = .ok (.iaload, 1) := by decide +kernel
theorem dX10_areNodesStill_20 : decode cX10_areNodesStill 20 = .ok (.invokevirtual 171, 3) := by decide +kernel
theorem dX10_areNodesStill_23 : decode cX10_areNodesStill 23 = .ok (.ifCond .ne 5, 3) := by decide +kernel
theorem dX10_areNodesStill_26 : decode cX10_areNodesStill 26 = .ok (.iconst 0, 1) := by decide +kernel
theorem dX10_areNodesStill_27 : decode cX10_areNodesStill 27 = .ok (.ireturn, 1) := by decide +kernel
theorem dX10_areNodesStill_28 : decode cX10_areNodesStill 28 = .ok (.iinc 3 1, 3) := by decide +kernel
theorem dX10_areNodesStill_31 : decode cX10_areNodesStill 31 = .ok (.goto (-29), 3) := by decide +kernel
theorem dX10_areNodesStill_34 : decode cX10_areNodesStill 34 = .ok (.iconst 1, 1) := by decide +kernel
theorem dX10_areNodesStill_35 : decode cX10_areNodesStill 35 = .ok (.ireturn, 1) := by decide +kernel
theorem dX10_isKind_0 : decode cX10_isKind 0 = .ok (.iload_n 1, 1) := by decide +kernel
theorem dX10_isKind_1 : decode cX10_isKind 1 = .ok (.ifCond .lt 18, 3) := by decide +kernel
theorem dX10_isKind_4 : decode cX10_isKind 4 = .ok (.iload_n 1, 1) := by decide +kernel
theorem dX10_isKind_5 : decode cX10_isKind 5 = .ok (.aload_n 0, 1) := by decide +kernel
theorem dX10_isKind_6 : decode cX10_isKind 6 = .ok (.invokevirtual 152, 3) := by decide +kernel
theorem dX10_isKind_9 : decode cX10_isKind 9 = .ok (.getfield 156, 3) := by decide +kernel
theorem dX10_isKind_12 : decode cX10_isKind 12 = .ok (.if_icmp .ge 7, 3) := by decide +kernel
theorem dX10_isKind_15 : decode cX10_isKind 15 = .ok (.iconst 1, 1) := by decide +kernel
theorem dX10_isKind_16 : decode cX10_isKind 16 = .ok (.goto 4, 3) := by decide +kernel
theorem dX10_isKind_19 : decode cX10_isKind 19 = .ok (.iconst 0, 1) := by decide +kernel
theorem dX10_isKind_20 : decode cX10_isKind 20 = .ok (.ireturn, 1) := by decide +kernel
theorem dX10_isDirection_0 : decode cX10_isDirection 0 = .ok (.aload_n 0, 1) := by decide +kernel
theorem dX10_isDirection_1 : decode cX10_isDirection 1 = .ok (.invokevirtual 160, 3) := by decide +kernel
theorem dX10_isDirection_4 : decode cX10_isDirection 4 = .ok (.getfield 279, 3) := by decide +kernel
theorem dX10_isDirection_7 : decode cX10_isDirection 7 = .ok (.ifCond .eq 22, 3) := by decide +kernel
theorem dX10_isDirection_10 : decode cX10_isDirection 10 = .ok (.iload_n 1, 1) := by decide +kernel
theorem dX10_isDirection_11 : decode cX10_isDirection 11 = .ok (.ifCond .lt 18, 3) := by decide +kernel
theorem dX10_isDirection_14 : decode cX10_isDirection 14 = .ok (.iload_n 1, 1) := by decide +kernel
theorem dX10_isDirection_15 : decode cX10_isDirection 15 = .ok (.aload_n 0, 1) := by decide +kernel
theorem dX10_isDirection_16 : decode cX10_isDirection 16 = .ok (.getfield 54, 3) := by decide +kernel
theorem dX10_isDirection_19 : decode cX10_isDirection 19 = .ok (.getfield 311, 3) := by decide +kernel
theorem dX10_isDirection_22 : decode cX10_isDirection 22 = .ok (.if_icmp .ge 7, 3) := by decide +kernel
theorem dX10_isDirection_25 : decode cX10_isDirection 25 = .ok (.iconst 1, 1) := by decide +kernel
theorem dX10_isDirection_26 : decode cX10_isDirection 26 = .ok (.goto 4, 3) := by decide +kernel
theorem dX10_isDirection_29 : decode cX10_isDirection 29 = .ok (.iconst 0, 1) := by decide +kernel
theorem dX10_isDirection_30 : decode cX10_isDirection 30 = .ok (.ireturn, 1) := by decide +kernel
theorem dX10_isHalf_0 : decode cX10_isHalf 0 = .ok (.aload_n 0, 1) := by decide +kernel
theorem dX10_isHalf_1 : decode cX10_isHalf 1 = .ok (.invokevirtual 160, 3) := by decide +kernel
theorem dX10_isHalf_4 : decode cX10_isHalf 4 = .ok (.getfield 279, 3) := by decide +kernel
theorem dX10_isHalf_7 : decode cX10_isHalf 7 = .ok (.ifCond .eq 24, 3) := by decide +kernel
theorem dX10_isHalf_10 : decode cX10_isHalf 10 = .ok (.iload_n 1, 1) := by decide +kernel
theorem dX10_isHalf_11 : decode cX10_isHalf 11 = .ok (.ifCond .lt 20, 3) := by decide +kernel
theorem dX10_isHalf_14 : decode cX10_isHalf 14 = .ok (.iload_n 1, 1) := by decide +kernel
theorem dX10_isHalf_15 : decode cX10_isHalf 15 = .ok (.iconst 2, 1) := by decide +kernel
theorem dX10_isHalf_16 : decode cX10_isHalf 16 = .ok (.aload_n 0, 1) := by decide +kernel
theorem dX10_isHalf_17 : decode cX10_isHalf 17 = .ok (.getfield 54, 3) := by decide +kernel
theorem dX10_isHalf_20 : decode cX10_isHalf 20 = .ok (.getfield 311, 3) := by decide +kernel
theorem dX10_isHalf_23 : decode cX10_isHalf 23 = .ok (.imul, 1) := by decide +kernel
theorem dX10_isHalf_24 : decode cX10_isHalf 24 = .ok (.if_icmp .ge 7, 3) := by decide +kernel
theorem dX10_isHalf_27 : decode cX10_isHalf 27 = .ok (.iconst 1, 1) := by decide +kernel
theorem dX10_isHalf_28 : decode cX10_isHalf 28 = .ok (.goto 4, 3) := by decide +kernel
theorem dX10_isHalf_31 : decode cX10_isHalf 31 = .ok (.iconst 0, 1) := by decide +kernel
theorem dX10_isHalf_32 : decode cX10_isHalf 32 = .ok (.ireturn, 1) := by decide +kernel
theorem dX10_isSet_0 : decode cX10_isSet 0 = .ok (.aload_n 0, 1) := by decide +kernel
theorem dX10_isSet_1 : decode cX10_isSet 1 = .ok (.getfield 26, 3) := by decide +kernel
theorem dX10_isSet_4 : decode cX10_isSet 4 = .ok (.getfield 146, 3) := by decide +kernel
theorem dX10_isSet_7 : decode cX10_isSet 7 = .ok (.ifCond .le 34, 3) := by decide +kernel
theorem dX10_isSet_10 : decode cX10_isSet 10 = .ok (.aload_n 0, 1) := by decide +kernel
theorem dX10_isSet_11 : decode cX10_isSet 11 = .ok (.invokevirtual 203, 3) := by decide +kernel
theorem dX10_isSet_14 : decode cX10_isSet 14 = .ok (.getfield 326, 3) := by decide +kernel
theorem dX10_isSet_17 : decode cX10_isSet 17 = .ok (.ifCond .eq 24, 3) := by decide +kernel
theorem dX10_isSet_20 : decode cX10_isSet 20 = .ok (.iload_n 1, 1) := by decide +kernel
theorem dX10_isSet_21 : decode cX10_isSet 21 = .ok (.aload_n 0, 1) := by decide +kernel
theorem dX10_isSet_22 : decode cX10_isSet 22 = .ok (.getfield 26, 3) := by decide +kernel
theorem dX10_isSet_25 : decode cX10_isSet 25 = .ok (.getfield 146, 3) := by decide +kernel
theorem dX10_isSet_28 : decode cX10_isSet 28 = .ok (.invokestatic 314, 3) := by decide +kernel
theorem dX10_isSet_31 : decode cX10_isSet 31 = .ok (.iconst (-1), 1) := by decide +kernel
theorem dX10_isSet_32 : decode cX10_isSet 32 = .ok (.ixor, 1) := by decide +kernel
theorem dX10_isSet_33 : decode cX10_isSet 33 = .ok (.iand, 1) := by decide +kernel
theorem dX10_isSet_34 : decode cX10_isSet 34 = .ok (.ifCond .ne 7, 3) := by decide +kernel
theorem dX10_isSet_37 : decode cX10_isSet 37 = .ok (.iconst 1, 1) := by decide +kernel
theorem dX10_isSet_38 : decode cX10_isSet 38 = .ok (.goto 4, 3) := by decide +kernel
theorem dX10_isSet_41 : decode cX10_isSet 41 = .ok (.iconst 0, 1) := by decide +kernel
theorem dX10_isSet_42 : decode cX10_isSet 42 = .ok (.ireturn, 1) := by decide +kernel
theorem dX10_farFromVotes_0 : decode cX10_farFromVotes 0 = .ok (.iconst 0, 1) := by decide +kernel
theorem dX10_farFromVotes_1 : decode cX10_farFromVotes 1 = .ok (.istore_n 2, 1) := by decide +kernel
theorem dX10_farFromVotes_2 : decode cX10_farFromVotes 2 = .ok (.iconst 0, 1) := by decide +kernel
theorem dX10_farFromVotes_3 : decode cX10_farFromVotes 3 = .ok (.istore_n 3, 1) := by decide +kernel
theorem dX10_farFromVotes_4 : decode cX10_farFromVotes 4 = .ok (.iload_n 3, 1) := by decide +kernel
theorem dX10_farFromVotes_5 : decode cX10_farFromVotes 5 = .ok (.aload_n 0, 1) := by decide +kernel
theorem dX10_farFromVotes_6 : decode cX10_farFromVotes 6 = .ok (.getfield 95, 3) := by decide +kernel
theorem dX10_farFromVotes_9 : decode cX10_farFromVotes 9 = .ok (.if_icmp .ge 28, 3) := by decide +kernel
theorem dX10_farFromVotes_12 : decode cX10_farFromVotes 12 = .ok (.iload_n 2, 1) := by decide +kernel
theorem dX10_farFromVotes_13 : decode cX10_farFromVotes 13 = .ok (.aload_n 0, 1) := by decide +kernel
theorem dX10_farFromVotes_14 : decode cX10_farFromVotes 14 = .ok (.getfield 40, 3) := by decide +kernel
theorem dX10_farFromVotes_17 : decode cX10_farFromVotes 17 = .ok (.getfield 219, 3) := by decide +kernel
theorem dX10_farFromVotes_20 : decode cX10_farFromVotes 20 = .ok (.iload_n 1, 1) := by decide +kernel
theorem dX10_farFromVotes_21 : decode cX10_farFromVotes 21 = .ok (.aaload, 1) := by decide +kernel
theorem dX10_farFromVotes_22 : decode cX10_farFromVotes 22 = .ok (.aload_n 0, 1) := by decide +kernel
theorem dX10_farFromVotes_23 : decode cX10_farFromVotes 23 = .ok (.getfield 79, 3) := by decide +kernel
theorem dX10_farFromVotes_26 : decode cX10_farFromVotes 26 = .ok (.iload_n 3, 1) := by decide +kernel
theorem dX10_farFromVotes_27 : decode cX10_farFromVotes 27 = .ok (.iaload, 1) := by decide +kernel
theorem dX10_farFromVotes_28 : decode cX10_farFromVotes 28 = .ok (.iaload, 1) := by decide +kernel
theorem dX10_farFromVotes_29 : decode cX10_farFromVotes 29 = .ok (.iadd, 1) := by decide +kernel
theorem dX10_farFromVotes_30 : decode cX10_farFromVotes 30 = .ok (.istore_n 2, 1) := by decide +kernel
theorem dX10_farFromVotes_31 : decode cX10_farFromVotes 31 = .ok (.iinc 3 1, 3) := by decide +kernel
theorem dX10_farFromVotes_34 : decode cX10_farFromVotes 34 = .ok (.goto (-30), 3) := by decide +kernel
theorem dX10_farFromVotes_37 : decode cX10_farFromVotes 37 = .ok (.iload_n 2, 1) := by decide +kernel
theorem dX10_farFromVotes_38 : decode cX10_farFromVotes 38 = .ok (.ireturn, 1) := by decide +kernel
theorem dX10_majority_0 : decode cX10_majority 0 = .ok (.iconst 0, 1) := by decide +kernel
theorem dX10_majority_1 : decode cX10_majority 1 = .ok (.istore_n 1, 1) := by decide +kernel
theorem dX10_majority_2 : decode cX10_majority 2 = .ok (.iconst 0, 1) := by decide +kernel
theorem dX10_majority_3 : decode cX10_majority 3 = .ok (.istore_n 2, 1) := by decide +kernel
theorem dX10_majority_4 : decode cX10_majority 4 = .ok (.iload_n 2, 1) := by decide +kernel
theorem dX10_majority_5 : decode cX10_majority 5 = .ok (.aload_n 0, 1) := by decide +kernel
theorem dX10_majority_6 : decode cX10_majority 6 = .ok (.getfield 54, 3) := by decide +kernel
theorem dX10_majority_9 : decode cX10_majority 9 = .ok (.getfield 311, 3) := by decide +kernel
theorem dX10_majority_12 : decode cX10_majority 12 = .ok (.if_icmp .ge 67, 3) := by decide +kernel
theorem dX10_majority_15 : decode cX10_majority 15 = .ok (.iconst 0, 1) := by decide +kernel
theorem dX10_majority_16 : decode cX10_majority 16 = .ok (.istore_n 3, 1) := by decide +kernel
theorem dX10_majority_17 : decode cX10_majority 17 = .ok (.iconst 0, 1) := by decide +kernel
theorem dX10_majority_18 : decode cX10_majority 18 = .ok (.istore 4, 2) := by decide +kernel
theorem dX10_majority_20 : decode cX10_majority 20 = .ok (.iload 4, 2) := by decide +kernel
theorem dX10_majority_22 : decode cX10_majority 22 = .ok (.aload_n 0, 1) := by decide +kernel
theorem dX10_majority_23 : decode cX10_majority 23 = .ok (.getfield 95, 3) := by decide +kernel
theorem dX10_majority_26 : decode cX10_majority 26 = .ok (.if_icmp .ge 31, 3) := by decide +kernel
theorem dX10_majority_29 : decode cX10_majority 29 = .ok (.iload_n 3, 1) := by decide +kernel
theorem dX10_majority_30 : decode cX10_majority 30 = .ok (.aload_n 0, 1) := by decide +kernel
theorem dX10_majority_31 : decode cX10_majority 31 = .ok (.getfield 54, 3) := by decide +kernel
theorem dX10_majority_34 : decode cX10_majority 34 = .ok (.getfield 283, 3) := by decide +kernel
theorem dX10_majority_37 : decode cX10_majority 37 = .ok (.aload_n 0, 1) := by decide +kernel
theorem dX10_majority_38 : decode cX10_majority 38 = .ok (.getfield 79, 3) := by decide +kernel
theorem dX10_majority_41 : decode cX10_majority 41 = .ok (.iload 4, 2) := by decide +kernel
theorem dX10_majority_43 : decode cX10_majority 43 = .ok (.iaload, 1) := by decide +kernel
theorem dX10_majority_44 : decode cX10_majority 44 = .ok (.iaload, 1) := by decide +kernel
theorem dX10_majority_45 : decode cX10_majority 45 = .ok (.iload_n 2, 1) := by decide +kernel
theorem dX10_majority_46 : decode cX10_majority 46 = .ok (.ishr, 1) := by decide +kernel
theorem dX10_majority_47 : decode cX10_majority 47 = .ok (.iconst 1, 1) := by decide +kernel
theorem dX10_majority_48 : decode cX10_majority 48 = .ok (.iand, 1) := by decide +kernel
theorem dX10_majority_49 : decode cX10_majority 49 = .ok (.iadd, 1) := by decide +kernel
theorem dX10_majority_50 : decode cX10_majority 50 = .ok (.istore_n 3, 1) := by decide +kernel
theorem dX10_majority_51 : decode cX10_majority 51 = .ok (.iinc 4 1, 3) := by decide +kernel
theorem dX10_majority_54 : decode cX10_majority 54 = .ok (.goto (-34), 3) := by decide +kernel
theorem dX10_majority_57 : decode cX10_majority 57 = .ok (.iconst 2, 1) := by decide +kernel
theorem dX10_majority_58 : decode cX10_majority 58 = .ok (.iload_n 3, 1) := by decide +kernel
theorem dX10_majority_59 : decode cX10_majority 59 = .ok (.imul, 1) := by decide +kernel
theorem dX10_majority_60 : decode cX10_majority 60 = .ok (.aload_n 0, 1) := by decide +kernel
theorem dX10_majority_61 : decode cX10_majority 61 = .ok (.getfield 95, 3) := by decide +kernel
theorem dX10_majority_64 : decode cX10_majority 64 = .ok (.if_icmp .le 9, 3) := by decide +kernel
theorem dX10_majority_67 : decode cX10_majority 67 = .ok (.iload_n 1, 1) := by decide +kernel
theorem dX10_majority_68 : decode cX10_majority 68 = .ok (.iconst 1, 1) := by decide +kernel
theorem dX10_majority_69 : decode cX10_majority 69 = .ok (.iload_n 2, 1) := by decide +kernel
theorem dX10_majority_70 : decode cX10_majority 70 = .ok (.ishl, 1) := by decide +kernel
theorem dX10_majority_71 : decode cX10_majority 71 = .ok (.ior, 1) := by decide +kernel
theorem dX10_majority_72 : decode cX10_majority 72 = .ok (.istore_n 1, 1) := by decide +kernel
theorem dX10_majority_73 : decode cX10_majority 73 = .ok (.iinc 2 1, 3) := by decide +kernel
theorem dX10_majority_76 : decode cX10_majority 76 = .ok (.goto (-72), 3) := by decide +kernel
theorem dX10_majority_79 : decode cX10_majority 79 = .ok (.iload_n 1, 1) := by decide +kernel
theorem dX10_majority_80 : decode cX10_majority 80 = .ok (.ireturn, 1) := by decide +kernel
theorem dX10_isAsSeen_0 : decode cX10_isAsSeen 0 = .ok (.iconst 0, 1) := by decide +kernel
theorem dX10_isAsSeen_1 : decode cX10_isAsSeen 1 = .ok (.istore_n 2, 1) := by decide +kernel
theorem dX10_isAsSeen_2 : decode cX10_isAsSeen 2 = .ok (.iload_n 2, 1) := by decide +kernel
theorem dX10_isAsSeen_3 : decode cX10_isAsSeen 3 = .ok (.aload_n 0, 1) := by decide +kernel
theorem dX10_isAsSeen_4 : decode cX10_isAsSeen 4 = .ok (.getfield 99, 3) := by decide +kernel
theorem dX10_isAsSeen_7 : decode cX10_isAsSeen 7 = .ok (.if_icmp .ge 36, 3) := by decide +kernel
theorem dX10_isAsSeen_10 : decode cX10_isAsSeen 10 = .ok (.aload_n 0, 1) := by decide +kernel
theorem dX10_isAsSeen_11 : decode cX10_isAsSeen 11 = .ok (.getfield 40, 3) := by decide +kernel
theorem dX10_isAsSeen_14 : decode cX10_isAsSeen 14 = .ok (.getfield 219, 3) := by decide +kernel
theorem dX10_isAsSeen_17 : decode cX10_isAsSeen 17 = .ok (.iload_n 1, 1) := by decide +kernel
theorem dX10_isAsSeen_18 : decode cX10_isAsSeen 18 = .ok (.aaload, 1) := by decide +kernel
theorem dX10_isAsSeen_19 : decode cX10_isAsSeen 19 = .ok (.aload_n 0, 1) := by decide +kernel
theorem dX10_isAsSeen_20 : decode cX10_isAsSeen 20 = .ok (.getfield 83, 3) := by decide +kernel
theorem dX10_isAsSeen_23 : decode cX10_isAsSeen 23 = .ok (.iload_n 2, 1) := by decide +kernel
theorem dX10_isAsSeen_24 : decode cX10_isAsSeen 24 = .ok (.iaload, 1) := by decide +kernel
theorem dX10_isAsSeen_25 : decode cX10_isAsSeen 25 = .ok (.iaload, 1) := by decide +kernel
theorem dX10_isAsSeen_26 : decode cX10_isAsSeen 26 = .ok (.aload_n 0, 1) := by decide +kernel
theorem dX10_isAsSeen_27 : decode cX10_isAsSeen 27 = .ok (.getfield 86, 3) := by decide +kernel
theorem dX10_isAsSeen_30 : decode cX10_isAsSeen 30 = .ok (.iload_n 2, 1) := by decide +kernel
theorem dX10_isAsSeen_31 : decode cX10_isAsSeen 31 = .ok (.iaload, 1) := by decide +kernel
theorem dX10_isAsSeen_32 : decode cX10_isAsSeen 32 = .ok (.if_icmp .eq 5, 3) := by decide +kernel
theorem dX10_isAsSeen_35 : decode cX10_isAsSeen 35 = .ok (.iconst 0, 1) := by decide +kernel
theorem dX10_isAsSeen_36 : decode cX10_isAsSeen 36 = .ok (.ireturn, 1) := by decide +kernel
theorem dX10_isAsSeen_37 : decode cX10_isAsSeen 37 = .ok (.iinc 2 1, 3) := by decide +kernel
theorem dX10_isAsSeen_40 : decode cX10_isAsSeen 40 = .ok (.goto (-38), 3) := by decide +kernel
theorem dX10_isAsSeen_43 : decode cX10_isAsSeen 43 = .ok (.iconst 1, 1) := by decide +kernel
theorem dX10_isAsSeen_44 : decode cX10_isAsSeen 44 = .ok (.ireturn, 1) := by decide +kernel
theorem dX10_mostLeft_0 : decode cX10_mostLeft 0 = .ok (.iconst 0, 1) := by decide +kernel
theorem dX10_mostLeft_1 : decode cX10_mostLeft 1 = .ok (.istore_n 3, 1) := by decide +kernel
theorem dX10_mostLeft_2 : decode cX10_mostLeft 2 = .ok (.iload_n 3, 1) := by decide +kernel
theorem dX10_mostLeft_3 : decode cX10_mostLeft 3 = .ok (.aload_n 0, 1) := by decide +kernel
theorem dX10_mostLeft_4 : decode cX10_mostLeft 4 = .ok (.getfield 89, 3) := by decide +kernel
theorem dX10_mostLeft_7 : decode cX10_mostLeft 7 = .ok (.arraylength, 1) := by decide +kernel
theorem dX10_mostLeft_8 : decode cX10_mostLeft 8 = .ok (.if_icmp .ge 16, 3) := by decide +kernel
theorem dX10_mostLeft_11 : decode cX10_mostLeft 11 = .ok (.aload_n 0, 1) := by decide +kernel
theorem dX10_mostLeft_12 : decode cX10_mostLeft 12 = .ok (.getfield 89, 3) := by decide +kernel
theorem dX10_mostLeft_15 : decode cX10_mostLeft 15 = .ok (.iload_n 3, 1) := by decide +kernel
theorem dX10_mostLeft_16 : decode cX10_mostLeft 16 = .ok (.iconst 0, 1) := by decide +kernel
theorem dX10_mostLeft_17 : decode cX10_mostLeft 17 = .ok (.iastore, 1) := by decide +kernel
theorem dX10_mostLeft_18 : decode cX10_mostLeft 18 = .ok (.iinc 3 1, 3) := by decide +kernel
theorem dX10_mostLeft_21 : decode cX10_mostLeft 21 = .ok (.goto (-19), 3) := by decide +kernel
theorem dX10_mostLeft_24 : decode cX10_mostLeft 24 = .ok (.iconst 0, 1) := by decide +kernel
theorem dX10_mostLeft_25 : decode cX10_mostLeft 25 = .ok (.istore_n 3, 1) := by decide +kernel
theorem dX10_mostLeft_26 : decode cX10_mostLeft 26 = .ok (.iconst 0, 1) := by decide +kernel
theorem dX10_mostLeft_27 : decode cX10_mostLeft 27 = .ok (.istore 4, 2) := by decide +kernel
theorem dX10_mostLeft_29 : decode cX10_mostLeft 29 = .ok (.iload 4, 2) := by decide +kernel
theorem dX10_mostLeft_31 : decode cX10_mostLeft 31 = .ok (.aload_n 0, 1) := by decide +kernel
theorem dX10_mostLeft_32 : decode cX10_mostLeft 32 = .ok (.getfield 26, 3) := by decide +kernel
theorem dX10_mostLeft_35 : decode cX10_mostLeft 35 = .ok (.getfield 146, 3) := by decide +kernel
theorem dX10_mostLeft_38 : decode cX10_mostLeft 38 = .ok (.if_icmp .ge 70, 3) := by decide +kernel
theorem dX10_mostLeft_41 : decode cX10_mostLeft 41 = .ok (.iload_n 2, 1) := by decide +kernel
theorem dX10_mostLeft_42 : decode cX10_mostLeft 42 = .ok (.iload 4, 2) := by decide +kernel
theorem dX10_mostLeft_44 : decode cX10_mostLeft 44 = .ok (.invokestatic 427, 3) := by decide +kernel
theorem dX10_mostLeft_47 : decode cX10_mostLeft 47 = .ok (.ifCond .eq 55, 3) := by decide +kernel
theorem dX10_mostLeft_50 : decode cX10_mostLeft 50 = .ok (.aload_n 0, 1) := by decide +kernel
theorem dX10_mostLeft_51 : decode cX10_mostLeft 51 = .ok (.getfield 40, 3) := by decide +kernel
theorem dX10_mostLeft_54 : decode cX10_mostLeft 54 = .ok (.getfield 219, 3) := by decide +kernel
theorem dX10_mostLeft_57 : decode cX10_mostLeft 57 = .ok (.iload_n 1, 1) := by decide +kernel
theorem dX10_mostLeft_58 : decode cX10_mostLeft 58 = .ok (.aaload, 1) := by decide +kernel
theorem dX10_mostLeft_59 : decode cX10_mostLeft 59 = .ok (.iload 4, 2) := by decide +kernel
theorem dX10_mostLeft_61 : decode cX10_mostLeft 61 = .ok (.iaload, 1) := by decide +kernel
theorem dX10_mostLeft_62 : decode cX10_mostLeft 62 = .ok (.istore 5, 2) := by decide +kernel
theorem dX10_mostLeft_64 : decode cX10_mostLeft 64 = .ok (.iload 5, 2) := by decide +kernel
theorem dX10_mostLeft_66 : decode cX10_mostLeft 66 = .ok (.iconst (-1), 1) := by decide +kernel
theorem dX10_mostLeft_67 : decode cX10_mostLeft 67 = .ok (.if_icmp .ne 8, 3) := by decide +kernel
theorem dX10_mostLeft_70 : decode cX10_mostLeft 70 = .ok (.bipush 24, 2) := by decide +kernel
theorem dX10_mostLeft_72 : decode cX10_mostLeft 72 = .ok (.goto 5, 3) := by decide +kernel
theorem dX10_mostLeft_75 : decode cX10_mostLeft 75 = .ok (.iload 5, 2) := by decide +kernel
theorem dX10_mostLeft_77 : decode cX10_mostLeft 77 = .ok (.istore 6, 2) := by decide +kernel
theorem dX10_mostLeft_79 : decode cX10_mostLeft 79 = .ok (.aload_n 0, 1) := by decide +kernel
theorem dX10_mostLeft_80 : decode cX10_mostLeft 80 = .ok (.getfield 89, 3) := by decide +kernel
theorem dX10_mostLeft_83 : decode cX10_mostLeft 83 = .ok (.iload 6, 2) := by decide +kernel
theorem dX10_mostLeft_85 : decode cX10_mostLeft 85 = .ok (.dup2, 1) := by decide +kernel
theorem dX10_mostLeft_86 : decode cX10_mostLeft 86 = .ok (.iaload, 1) := by decide +kernel
theorem dX10_mostLeft_87 : decode cX10_mostLeft 87 = .ok (.iconst 1, 1) := by decide +kernel
theorem dX10_mostLeft_88 : decode cX10_mostLeft 88 = .ok (.iadd, 1) := by decide +kernel
theorem dX10_mostLeft_89 : decode cX10_mostLeft 89 = .ok (.iastore, 1) := by decide +kernel
theorem dX10_mostLeft_90 : decode cX10_mostLeft 90 = .ok (.iload_n 3, 1) := by decide +kernel
theorem dX10_mostLeft_91 : decode cX10_mostLeft 91 = .ok (.aload_n 0, 1) := by decide +kernel
theorem dX10_mostLeft_92 : decode cX10_mostLeft 92 = .ok (.getfield 89, 3) := by decide +kernel
theorem dX10_mostLeft_95 : decode cX10_mostLeft 95 = .ok (.iload 6, 2) := by decide +kernel
theorem dX10_mostLeft_97 : decode cX10_mostLeft 97 = .ok (.iaload, 1) := by decide +kernel
theorem dX10_mostLeft_98 : decode cX10_mostLeft 98 = .ok (.invokestatic 430, 3) := by decide +kernel
theorem dX10_mostLeft_101 : decode cX10_mostLeft 101 = .ok (.istore_n 3, 1) := by decide +kernel
theorem dX10_mostLeft_102 : decode cX10_mostLeft 102 = .ok (.iinc 4 1, 3) := by decide +kernel
theorem dX10_mostLeft_105 : decode cX10_mostLeft 105 = .ok (.goto (-76), 3) := by decide +kernel
theorem dX10_mostLeft_108 : decode cX10_mostLeft 108 = .ok (.iload_n 3, 1) := by decide +kernel
theorem dX10_mostLeft_109 : decode cX10_mostLeft 109 = .ok (.ireturn, 1) := by decide +kernel
theorem dX10_pressKind_0 : decode cX10_pressKind 0 = .ok (.aload_n 0, 1) := by decide +kernel
theorem dX10_pressKind_1 : decode cX10_pressKind 1 = .ok (.getfield 47, 3) := by decide +kernel
theorem dX10_pressKind_4 : decode cX10_pressKind 4 = .ok (.aload_n 0, 1) := by decide +kernel
theorem dX10_pressKind_5 : decode cX10_pressKind 5 = .ok (.getfield 26, 3) := by decide +kernel
theorem dX10_pressKind_8 : decode cX10_pressKind 8 = .ok (.iload_n 1, 1) := by decide +kernel
theorem dX10_pressKind_9 : decode cX10_pressKind 9 = .ok (.invokevirtual 435, 3) := by decide +kernel
theorem dX10_pressKind_12 : decode cX10_pressKind 12 = .ok (.aload_n 0, 1) := by decide +kernel
theorem dX10_pressKind_13 : decode cX10_pressKind 13 = .ok (.getfield 26, 3) := by decide +kernel
theorem dX10_pressKind_16 : decode cX10_pressKind 16 = .ok (.aload_n 0, 1) := by decide +kernel
theorem dX10_pressKind_17 : decode cX10_pressKind 17 = .ok (.getfield 47, 3) := by decide +kernel
theorem dX10_pressKind_20 : decode cX10_pressKind 20 = .ok (.getfield 439, 3) := by decide +kernel
theorem dX10_pressKind_23 : decode cX10_pressKind 23 = .ok (.invokevirtual 442, 3) := by decide +kernel
theorem dX10_pressKind_26 : decode cX10_pressKind 26 = .ok (.aload_n 0, 1) := by decide +kernel
theorem dX10_pressKind_27 : decode cX10_pressKind 27 = .ok (.invokevirtual 137, 3) := by decide +kernel
theorem dX10_pressKind_30 : decode cX10_pressKind 30 = .ok (.return_, 1) := by decide +kernel
theorem dX10_draw_0 : decode cX10_draw 0 = .ok (.aload_n 0, 1) := by decide +kernel
theorem dX10_draw_1 : decode cX10_draw 1 = .ok (.ldc_w 446, 3) := by decide +kernel
theorem dX10_draw_4 : decode cX10_draw 4 = .ok (.aload_n 0, 1) := by decide +kernel
theorem dX10_draw_5 : decode cX10_draw 5 = .ok (.getfield 102, 3) := by decide +kernel
theorem dX10_draw_8 : decode cX10_draw 8 = .ok (.imul, 1) := by decide +kernel
theorem dX10_draw_9 : decode cX10_draw 9 = .ok (.sipush 12345, 3) := by decide +kernel
theorem dX10_draw_12 : decode cX10_draw 12 = .ok (.iadd, 1) := by decide +kernel
theorem dX10_draw_13 : decode cX10_draw 13 = .ok (.ldc_w 447, 3) := by decide +kernel
theorem dX10_draw_16 : decode cX10_draw 16 = .ok (.iand, 1) := by decide +kernel
theorem dX10_draw_17 : decode cX10_draw 17 = .ok (.putfield 102, 3) := by decide +kernel
theorem dX10_draw_20 : decode cX10_draw 20 = .ok (.iload_n 1, 1) := by decide +kernel
theorem dX10_draw_21 : decode cX10_draw 21 = .ok (.ifCond .le 15, 3) := by decide +kernel
theorem dX10_draw_24 : decode cX10_draw 24 = .ok (.aload_n 0, 1) := by decide +kernel
theorem dX10_draw_25 : decode cX10_draw 25 = .ok (.getfield 102, 3) := by decide +kernel
theorem dX10_draw_28 : decode cX10_draw 28 = .ok (.bipush 64, 2) := by decide +kernel
theorem dX10_draw_30 : decode cX10_draw 30 = .ok (.idiv, 1) := by decide +kernel
theorem dX10_draw_31 : decode cX10_draw 31 = .ok (.iload_n 1, 1) := by decide +kernel
theorem dX10_draw_32 : decode cX10_draw 32 = .ok (.irem, 1) := by decide +kernel
theorem dX10_draw_33 : decode cX10_draw 33 = .ok (.goto 4, 3) := by decide +kernel
theorem dX10_draw_36 : decode cX10_draw 36 = .ok (.iconst 0, 1) := by decide +kernel
theorem dX10_draw_37 : decode cX10_draw 37 = .ok (.ireturn, 1) := by decide +kernel
theorem dX10_actBySeed_0 : decode cX10_actBySeed 0 = .ok (.aload_n 0, 1) := by decide +kernel
theorem dX10_actBySeed_1 : decode cX10_actBySeed 1 = .ok (.iconst 4, 1) := by decide +kernel
theorem dX10_actBySeed_2 : decode cX10_actBySeed 2 = .ok (.invokevirtual 448, 3) := by decide +kernel
theorem dX10_actBySeed_5 : decode cX10_actBySeed 5 = .ok (.istore_n 1, 1) := by decide +kernel
theorem dX10_actBySeed_6 : decode cX10_actBySeed 6 = .ok (.iload_n 1, 1) := by decide +kernel
theorem dX10_actBySeed_7 : decode cX10_actBySeed 7 = .ok (.iconst 2, 1) := by decide +kernel
theorem dX10_actBySeed_8 : decode cX10_actBySeed 8 = .ok (.if_icmp .ge 41, 3) := by decide +kernel
theorem dX10_actBySeed_11 : decode cX10_actBySeed 11 = .ok (.aload_n 0, 1) := by decide +kernel
theorem dX10_actBySeed_12 : decode cX10_actBySeed 12 = .ok (.aload_n 0, 1) := by decide +kernel
theorem dX10_actBySeed_13 : decode cX10_actBySeed 13 = .ok (.getfield 26, 3) := by decide +kernel
theorem dX10_actBySeed_16 : decode cX10_actBySeed 16 = .ok (.getfield 146, 3) := by decide +kernel
theorem dX10_actBySeed_19 : decode cX10_actBySeed 19 = .ok (.invokevirtual 448, 3) := by decide +kernel
theorem dX10_actBySeed_22 : decode cX10_actBySeed 22 = .ok (.istore_n 2, 1) := by decide +kernel
theorem dX10_actBySeed_23 : decode cX10_actBySeed 23 = .ok (.aload_n 0, 1) := by decide +kernel
theorem dX10_actBySeed_24 : decode cX10_actBySeed 24 = .ok (.getfield 26, 3) := by decide +kernel
theorem dX10_actBySeed_27 : decode cX10_actBySeed 27 = .ok (.iload_n 2, 1) := by decide +kernel
theorem dX10_actBySeed_28 : decode cX10_actBySeed 28 = .ok (.invokevirtual 376, 3) := by decide +kernel
theorem dX10_actBySeed_31 : decode cX10_actBySeed 31 = .ok (.ifCond .eq 15, 3) := by decide +kernel
theorem dX10_actBySeed_34 : decode cX10_actBySeed 34 = .ok (.aload_n 0, 1) := by decide +kernel
theorem dX10_actBySeed_35 : decode cX10_actBySeed 35 = .ok (.getfield 26, 3) := by decide +kernel
theorem dX10_actBySeed_38 : decode cX10_actBySeed 38 = .ok (.iload_n 2, 1) := by decide +kernel
theorem dX10_actBySeed_39 : decode cX10_actBySeed 39 = .ok (.invokevirtual 379, 3) := by decide +kernel
theorem dX10_actBySeed_42 : decode cX10_actBySeed 42 = .ok (.aload_n 0, 1) := by decide +kernel
theorem dX10_actBySeed_43 : decode cX10_actBySeed 43 = .ok (.invokevirtual 137, 3) := by decide +kernel
theorem dX10_actBySeed_46 : decode cX10_actBySeed 46 = .ok (.goto 69, 3) := by decide +kernel
theorem dX10_actBySeed_49 : decode cX10_actBySeed 49 = .ok (.iload_n 1, 1) := by decide +kernel
theorem dX10_actBySeed_50 : decode cX10_actBySeed 50 = .ok (.iconst 2, 1) := by decide +kernel
theorem dX10_actBySeed_51 : decode cX10_actBySeed 51 = .ok (.if_icmp .ne 36, 3) := by decide +kernel
theorem dX10_actBySeed_54 : decode cX10_actBySeed 54 = .ok (.aload_n 0, 1) := by decide +kernel
theorem dX10_actBySeed_55 : decode cX10_actBySeed 55 = .ok (.aload_n 0, 1) := by decide +kernel
theorem dX10_actBySeed_56 : decode cX10_actBySeed 56 = .ok (.getfield 26, 3) := by decide +kernel
theorem dX10_actBySeed_59 : decode cX10_actBySeed 59 = .ok (.getfield 146, 3) := by decide +kernel
theorem dX10_actBySeed_62 : decode cX10_actBySeed 62 = .ok (.invokevirtual 448, 3) := by decide +kernel
theorem dX10_actBySeed_65 : decode cX10_actBySeed 65 = .ok (.istore_n 2, 1) := by decide +kernel
theorem dX10_actBySeed_66 : decode cX10_actBySeed 66 = .ok (.aload_n 0, 1) := by decide +kernel
theorem dX10_actBySeed_67 : decode cX10_actBySeed 67 = .ok (.aload_n 0, 1) := by decide +kernel
theorem dX10_actBySeed_68 : decode cX10_actBySeed 68 = .ok (.getfield 26, 3) := by decide +kernel
theorem dX10_actBySeed_71 : decode cX10_actBySeed 71 = .ok (.getfield 146, 3) := by decide +kernel
theorem dX10_actBySeed_74 : decode cX10_actBySeed 74 = .ok (.invokevirtual 448, 3) := by decide +kernel
theorem dX10_actBySeed_77 : decode cX10_actBySeed 77 = .ok (.istore_n 3, 1) := by decide +kernel
theorem dX10_actBySeed_78 : decode cX10_actBySeed 78 = .ok (.aload_n 0, 1) := by decide +kernel
theorem dX10_actBySeed_79 : decode cX10_actBySeed 79 = .ok (.iload_n 2, 1) := by decide +kernel
theorem dX10_actBySeed_80 : decode cX10_actBySeed 80 = .ok (.iload_n 3, 1) := by decide +kernel
theorem dX10_actBySeed_81 : decode cX10_actBySeed 81 = .ok (.invokevirtual 451, 3) := by decide +kernel
theorem dX10_actBySeed_84 : decode cX10_actBySeed 84 = .ok (.goto 31, 3) := by decide +kernel
theorem dX10_actBySeed_87 : decode cX10_actBySeed 87 = .ok (.aload_n 0, 1) := by decide +kernel
theorem dX10_actBySeed_88 : decode cX10_actBySeed 88 = .ok (.invokevirtual 152, 3) := by decide +kernel
theorem dX10_actBySeed_91 : decode cX10_actBySeed 91 = .ok (.getfield 156, 3) := by decide +kernel
theorem dX10_actBySeed_94 : decode cX10_actBySeed 94 = .ok (.istore_n 2, 1) := by decide +kernel
theorem dX10_actBySeed_95 : decode cX10_actBySeed 95 = .ok (.aload_n 0, 1) := by decide +kernel
theorem dX10_actBySeed_96 : decode cX10_actBySeed 96 = .ok (.iconst 1, 1) := by decide +kernel
theorem dX10_actBySeed_97 : decode cX10_actBySeed 97 = .ok (.iload_n 2, 1) := by decide +kernel
theorem dX10_actBySeed_98 : decode cX10_actBySeed 98 = .ok (.invokestatic 430, 3) := by decide +kernel
theorem dX10_actBySeed_101 : decode cX10_actBySeed 101 = .ok (.invokevirtual 448, 3) := by decide +kernel
theorem dX10_actBySeed_104 : decode cX10_actBySeed 104 = .ok (.istore_n 3, 1) := by decide +kernel
theorem dX10_actBySeed_105 : decode cX10_actBySeed 105 = .ok (.iload_n 3, 1) := by decide +kernel
theorem dX10_actBySeed_106 : decode cX10_actBySeed 106 = .ok (.iload_n 2, 1) := by decide +kernel
theorem dX10_actBySeed_107 : decode cX10_actBySeed 107 = .ok (.if_icmp .ge 8, 3) := by decide +kernel
theorem dX10_actBySeed_110 : decode cX10_actBySeed 110 = .ok (.aload_n 0, 1) := by decide +kernel
theorem dX10_actBySeed_111 : decode cX10_actBySeed 111 = .ok (.iload_n 3, 1) := by decide +kernel
theorem dX10_actBySeed_112 : decode cX10_actBySeed 112 = .ok (.invokevirtual 385, 3) := by decide +kernel
theorem dX10_actBySeed_115 : decode cX10_actBySeed 115 = .ok (.return_, 1) := by decide +kernel
theorem dX10_switchLine_0 : decode cX10_switchLine 0 = .ok (.aload_n 0, 1) := by decide +kernel
theorem dX10_switchLine_1 : decode cX10_switchLine 1 = .ok (.getfield 26, 3) := by decide +kernel
theorem dX10_switchLine_4 : decode cX10_switchLine 4 = .ok (.iload_n 1, 1) := by decide +kernel
theorem dX10_switchLine_5 : decode cX10_switchLine 5 = .ok (.iload_n 2, 1) := by decide +kernel
theorem dX10_switchLine_6 : decode cX10_switchLine 6 = .ok (.invokevirtual 454, 3) := by decide +kernel
theorem dX10_switchLine_9 : decode cX10_switchLine 9 = .ok (.istore_n 3, 1) := by decide +kernel
theorem dX10_switchLine_10 : decode cX10_switchLine 10 = .ok (.iload_n 3, 1) := by decide +kernel
theorem dX10_switchLine_11 : decode cX10_switchLine 11 = .ok (.iconst (-1), 1) := by decide +kernel
theorem dX10_switchLine_12 : decode cX10_switchLine 12 = .ok (.if_icmp .eq 18, 3) := by decide +kernel
theorem dX10_switchLine_15 : decode cX10_switchLine 15 = .ok (.aload_n 0, 1) := by decide +kernel
theorem dX10_switchLine_16 : decode cX10_switchLine 16 = .ok (.getfield 26, 3) := by decide +kernel
theorem dX10_switchLine_19 : decode cX10_switchLine 19 = .ok (.iload_n 3, 1) := by decide +kernel
theorem dX10_switchLine_20 : decode cX10_switchLine 20 = .ok (.invokevirtual 373, 3) := by decide +kernel
theorem dX10_switchLine_23 : decode cX10_switchLine 23 = .ok (.aload_n 0, 1) := by decide +kernel
theorem dX10_switchLine_24 : decode cX10_switchLine 24 = .ok (.invokevirtual 137, 3) := by decide +kernel
theorem dX10_switchLine_27 : decode cX10_switchLine 27 = .ok (.goto 29, 3) := by decide +kernel
theorem dX10_switchLine_30 : decode cX10_switchLine 30 = .ok (.aload_n 0, 1) := by decide +kernel
theorem dX10_switchLine_31 : decode cX10_switchLine 31 = .ok (.getfield 26, 3) := by decide +kernel
theorem dX10_switchLine_34 : decode cX10_switchLine 34 = .ok (.iload_n 1, 1) := by decide +kernel
theorem dX10_switchLine_35 : decode cX10_switchLine 35 = .ok (.iload_n 2, 1) := by decide +kernel
theorem dX10_switchLine_36 : decode cX10_switchLine 36 = .ok (.invokevirtual 363, 3) := by decide +kernel
theorem dX10_switchLine_39 : decode cX10_switchLine 39 = .ok (.ifCond .eq 17, 3) := by decide +kernel
theorem dX10_switchLine_42 : decode cX10_switchLine 42 = .ok (.aload_n 0, 1) := by decide +kernel
theorem dX10_switchLine_43 : decode cX10_switchLine 43 = .ok (.getfield 26, 3) := by decide +kernel
theorem dX10_switchLine_46 : decode cX10_switchLine 46 = .ok (.iload_n 1, 1) := by decide +kernel
theorem dX10_switchLine_47 : decode cX10_switchLine 47 = .ok (.iload_n 2, 1) := by decide +kernel
theorem dX10_switchLine_48 : decode cX10_switchLine 48 = .ok (.iconst 1, 1) := by decide +kernel
theorem dX10_switchLine_49 : decode cX10_switchLine 49 = .ok (.invokevirtual 369, 3) := by decide +kernel
theorem dX10_switchLine_52 : decode cX10_switchLine 52 = .ok (.aload_n 0, 1) := by decide +kernel
theorem dX10_switchLine_53 : decode cX10_switchLine 53 = .ok (.invokevirtual 137, 3) := by decide +kernel
theorem dX10_switchLine_56 : decode cX10_switchLine 56 = .ok (.return_, 1) := by decide +kernel
theorem dX10_allBits_0 : decode cX10_allBits 0 = .ok (.iconst 1, 1) := by decide +kernel
theorem dX10_allBits_1 : decode cX10_allBits 1 = .ok (.iload_n 0, 1) := by decide +kernel
theorem dX10_allBits_2 : decode cX10_allBits 2 = .ok (.ishl, 1) := by decide +kernel
theorem dX10_allBits_3 : decode cX10_allBits 3 = .ok (.iconst 1, 1) := by decide +kernel
theorem dX10_allBits_4 : decode cX10_allBits 4 = .ok (.isub, 1) := by decide +kernel
theorem dX10_allBits_5 : decode cX10_allBits 5 = .ok (.ireturn, 1) := by decide +kernel
theorem dX10_hasBit_0 : decode cX10_hasBit 0 = .ok (.iload_n 0, 1) := by decide +kernel
theorem dX10_hasBit_1 : decode cX10_hasBit 1 = .ok (.iload_n 1, 1) := by decide +kernel
theorem dX10_hasBit_2 : decode cX10_hasBit 2 = .ok (.ishr, 1) := by decide +kernel
theorem dX10_hasBit_3 : decode cX10_hasBit 3 = .ok (.iconst 1, 1) := by decide +kernel
theorem dX10_hasBit_4 : decode cX10_hasBit 4 = .ok (.iand, 1) := by decide +kernel
theorem dX10_hasBit_5 : decode cX10_hasBit 5 = .ok (.ifCond .eq 7, 3) := by decide +kernel
theorem dX10_hasBit_8 : decode cX10_hasBit 8 = .ok (.iconst 1, 1) := by decide +kernel
theorem dX10_hasBit_9 : decode cX10_hasBit 9 = .ok (.goto 4, 3) := by decide +kernel
theorem dX10_hasBit_12 : decode cX10_hasBit 12 = .ok (.iconst 0, 1) := by decide +kernel
theorem dX10_hasBit_13 : decode cX10_hasBit 13 = .ok (.ireturn, 1) := by decide +kernel
theorem dX10_letterOf_0 : decode cX10_letterOf 0 = .ok (.iload_n 0, 1) := by decide +kernel
theorem dX10_letterOf_1 : decode cX10_letterOf 1 = .ok (.iconst 5, 1) := by decide +kernel
theorem dX10_letterOf_2 : decode cX10_letterOf 2 = .ok (.iload_n 1, 1) := by decide +kernel
theorem dX10_letterOf_3 : decode cX10_letterOf 3 = .ok (.imul, 1) := by decide +kernel
theorem dX10_letterOf_4 : decode cX10_letterOf 4 = .ok (.ishr, 1) := by decide +kernel
theorem dX10_letterOf_5 : decode cX10_letterOf 5 = .ok (.bipush 31, 2) := by decide +kernel
theorem dX10_letterOf_7 : decode cX10_letterOf 7 = .ok (.iand, 1) := by decide +kernel
theorem dX10_letterOf_8 : decode cX10_letterOf 8 = .ok (.ireturn, 1) := by decide +kernel
