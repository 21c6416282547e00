theorem dX0_init_0 : decode cX0_init 0 = .ok (.aload_n 0, 1) := by decide +kernel
theorem dX0_init_1 : decode cX0_init 1 = .ok (.invokespecial 3, 3) := by decide +kernel
theorem dX0_init_4 : decode cX0_init 4 = .ok (.aload_n 0, 1) := by decide +kernel
theorem dX0_init_5 : decode cX0_init 5 = .ok (.iconst 0, 1) := by decide +kernel
theorem dX0_init_6 : decode cX0_init 6 = .ok (.putfield 9, 3) := by decide +kernel
theorem dX0_init_9 : decode cX0_init 9 = .ok (.aload_n 0, 1) := by decide +kernel
theorem dX0_init_10 : decode cX0_init 10 = .ok (.iconst 0, 1) := by decide +kernel
theorem dX0_init_11 : decode cX0_init 11 = .ok (.putfield 15, 3) := by decide +kernel
theorem dX0_init_14 : decode cX0_init 14 = .ok (.aload_n 0, 1) := by decide +kernel
theorem dX0_init_15 : decode cX0_init 15 = .ok (.bipush 24, 2) := by decide +kernel
theorem dX0_init_17 : decode cX0_init 17 = .ok (.newarray .int, 2) := by decide +kernel
theorem dX0_init_19 : decode cX0_init 19 = .ok (.putfield 18, 3) := by decide +kernel
theorem dX0_init_22 : decode cX0_init 22 = .ok (.aload_n 0, 1) := by decide +kernel
theorem dX0_init_23 : decode cX0_init 23 = .ok (.bipush 60, 2) := by decide +kernel
theorem dX0_init_25 : decode cX0_init 25 = .ok (.newarray .int, 2) := by decide +kernel
theorem dX0_init_27 : decode cX0_init 27 = .ok (.putfield 22, 3) := by decide +kernel
theorem dX0_init_30 : decode cX0_init 30 = .ok (.aload_n 0, 1) := by decide +kernel
theorem dX0_init_31 : decode cX0_init 31 = .ok (.bipush 60, 2) := by decide +kernel
theorem dX0_init_33 : decode cX0_init 33 = .ok (.newarray .int, 2) := by decide +kernel
theorem dX0_init_35 : decode cX0_init 35 = .ok (.putfield 25, 3) := by decide +kernel
theorem dX0_init_38 : decode cX0_init 38 = .ok (.aload_n 0, 1) := by decide +kernel
theorem dX0_init_39 : decode cX0_init 39 = .ok (.bipush 60, 2) := by decide +kernel
theorem dX0_init_41 : decode cX0_init 41 = .ok (.newarray .int, 2) := by decide +kernel
theorem dX0_init_43 : decode cX0_init 43 = .ok (.putfield 28, 3) := by decide +kernel
theorem dX0_init_46 : decode cX0_init 46 = .ok (.aload_n 0, 1) := by decide +kernel
theorem dX0_init_47 : decode cX0_init 47 = .ok (.bipush 24, 2) := by decide +kernel
theorem dX0_init_49 : decode cX0_init 49 = .ok (.newarray .int, 2) := by decide +kernel
theorem dX0_init_51 : decode cX0_init 51 = .ok (.putfield 31, 3) := by decide +kernel
theorem dX0_init_54 : decode cX0_init 54 = .ok (.return_, 1) := by decide +kernel
theorem dX0_wipe_0 : decode cX0_wipe 0 = .ok (.aload_n 0, 1) := by decide +kernel
theorem dX0_wipe_1 : decode cX0_wipe 1 = .ok (.iconst 0, 1) := by decide +kernel
theorem dX0_wipe_2 : decode cX0_wipe 2 = .ok (.putfield 9, 3) := by decide +kernel
theorem dX0_wipe_5 : decode cX0_wipe 5 = .ok (.aload_n 0, 1) := by decide +kernel
theorem dX0_wipe_6 : decode cX0_wipe 6 = .ok (.iconst 0, 1) := by decide +kernel
theorem dX0_wipe_7 : decode cX0_wipe 7 = .ok (.putfield 15, 3) := by decide +kernel
theorem dX0_wipe_10 : decode cX0_wipe 10 = .ok (.return_, 1) := by decide +kernel
theorem dX0_takeFrom_0 : decode cX0_takeFrom 0 = .ok (.aload_n 0, 1) := by decide +kernel
theorem dX0_takeFrom_1 : decode cX0_takeFrom 1 = .ok (.aload_n 1, 1) := by decide +kernel
theorem dX0_takeFrom_2 : decode cX0_takeFrom 2 = .ok (.getfield 9, 3) := by decide +kernel
theorem dX0_takeFrom_5 : decode cX0_takeFrom 5 = .ok (.putfield 9, 3) := by decide +kernel
theorem dX0_takeFrom_8 : decode cX0_takeFrom 8 = .ok (.aload_n 0, 1) := by decide +kernel
theorem dX0_takeFrom_9 : decode cX0_takeFrom 9 = .ok (.aload_n 1, 1) := by decide +kernel
theorem dX0_takeFrom_10 : decode cX0_takeFrom 10 = .ok (.getfield 15, 3) := by decide +kernel
theorem dX0_takeFrom_13 : decode cX0_takeFrom 13 = .ok (.putfield 15, 3) := by decide +kernel
theorem dX0_takeFrom_16 : decode cX0_takeFrom 16 = .ok (.aload_n 1, 1) := by decide +kernel
theorem dX0_takeFrom_17 : decode cX0_takeFrom 17 = .ok (.getfield 18, 3) := by decide +kernel
theorem dX0_takeFrom_20 : decode cX0_takeFrom 20 = .ok (.iconst 0, 1) := by decide +kernel
theorem dX0_takeFrom_21 : decode cX0_takeFrom 21 = .ok (.aload_n 0, 1) := by decide +kernel
theorem dX0_takeFrom_22 : decode cX0_takeFrom 22 = .ok (.getfield 18, 3) := by decide +kernel
theorem dX0_takeFrom_25 : decode cX0_takeFrom 25 = .ok (.iconst 0, 1) := by decide +kernel
theorem dX0_takeFrom_26 : decode cX0_takeFrom 26 = .ok (.aload_n 0, 1) := by decide +kernel
theorem dX0_takeFrom_27 : decode cX0_takeFrom 27 = .ok (.getfield 9, 3) := by decide +kernel
theorem dX0_takeFrom_30 : decode cX0_takeFrom 30 = .ok (.invokestatic 34, 3) := by decide +kernel
theorem dX0_takeFrom_33 : decode cX0_takeFrom 33 = .ok (.aload_n 1, 1) := by decide +kernel
theorem dX0_takeFrom_34 : decode cX0_takeFrom 34 = .ok (.getfield 22, 3) := by decide +kernel
theorem dX0_takeFrom_37 : decode cX0_takeFrom 37 = .ok (.iconst 0, 1) := by decide +kernel
theorem dX0_takeFrom_38 : decode cX0_takeFrom 38 = .ok (.aload_n 0, 1) := by decide +kernel
theorem dX0_takeFrom_39 : decode cX0_takeFrom 39 = .ok (.getfield 22, 3) := by decide +kernel
theorem dX0_takeFrom_42 : decode cX0_takeFrom 42 = .ok (.iconst 0, 1) := by decide +kernel
theorem dX0_takeFrom_43 : decode cX0_takeFrom 43 = .ok (.aload_n 0, 1) := by decide +kernel
theorem dX0_takeFrom_44 : decode cX0_takeFrom 44 = .ok (.getfield 15, 3) := by decide +kernel
theorem dX0_takeFrom_47 : decode cX0_takeFrom 47 = .ok (.invokestatic 34, 3) := by decide +kernel
theorem dX0_takeFrom_50 : decode cX0_takeFrom 50 = .ok (.aload_n 1, 1) := by decide +kernel
theorem dX0_takeFrom_51 : decode cX0_takeFrom 51 = .ok (.getfield 25, 3) := by decide +kernel
theorem dX0_takeFrom_54 : decode cX0_takeFrom 54 = .ok (.iconst 0, 1) := by decide +kernel
theorem dX0_takeFrom_55 : decode cX0_takeFrom 55 = .ok (.aload_n 0, 1) := by decide +kernel
theorem dX0_takeFrom_56 : decode cX0_takeFrom 56 = .ok (.getfield 25, 3) := by decide +kernel
theorem dX0_takeFrom_59 : decode cX0_takeFrom 59 = .ok (.iconst 0, 1) := by decide +kernel
theorem dX0_takeFrom_60 : decode cX0_takeFrom 60 = .ok (.aload_n 0, 1) := by decide +kernel
theorem dX0_takeFrom_61 : decode cX0_takeFrom 61 = .ok (.getfield 15, 3) := by decide +kernel
theorem dX0_takeFrom_64 : decode cX0_takeFrom 64 = .ok (.invokestatic 34, 3) := by decide +kernel
theorem dX0_takeFrom_67 : decode cX0_takeFrom 67 = .ok (.aload_n 1, 1) := by decide +kernel
theorem dX0_takeFrom_68 : decode cX0_takeFrom 68 = .ok (.getfield 28, 3) := by decide +kernel
theorem dX0_takeFrom_71 : decode cX0_takeFrom 71 = .ok (.iconst 0, 1) := by decide +kernel
theorem dX0_takeFrom_72 : decode cX0_takeFrom 72 = .ok (.aload_n 0, 1) := by decide +kernel
theorem dX0_takeFrom_73 : decode cX0_takeFrom 73 = .ok (.getfield 28, 3) := by decide +kernel
theorem dX0_takeFrom_76 : decode cX0_takeFrom 76 = .ok (.iconst 0, 1) := by decide +kernel
theorem dX0_takeFrom_77 : decode cX0_takeFrom 77 = .ok (.aload_n 0, 1) := by decide +kernel
theorem dX0_takeFrom_78 : decode cX0_takeFrom 78 = .ok (.getfield 15, 3) := by decide +kernel
theorem dX0_takeFrom_81 : decode cX0_takeFrom 81 = .ok (.invokestatic 34, 3) := by decide +kernel
theorem dX0_takeFrom_84 : decode cX0_takeFrom 84 = .ok (.return_, 1) := by decide +kernel
theorem dX0_isNode_0 : decode cX0_isNode 0 = .ok (.iload_n 1, 1) := by decide +kernel
theorem dX0_isNode_1 : decode cX0_isNode 1 = .ok (.ifCond .lt 15, 3) := by decide +kernel
theorem dX0_isNode_4 : decode cX0_isNode 4 = .ok (.iload_n 1, 1) := by decide +kernel
theorem dX0_isNode_5 : decode cX0_isNode 5 = .ok (.aload_n 0, 1) := by decide +kernel
theorem dX0_isNode_6 : decode cX0_isNode 6 = .ok (.getfield 9, 3) := by decide +kernel
theorem dX0_isNode_9 : decode cX0_isNode 9 = .ok (.if_icmp .ge 7, 3) := by decide +kernel
theorem dX0_isNode_12 : decode cX0_isNode 12 = .ok (.iconst 1, 1) := by decide +kernel
theorem dX0_isNode_13 : decode cX0_isNode 13 = .ok (.goto 4, 3) := by decide +kernel
theorem dX0_isNode_16 : decode cX0_isNode 16 = .ok (.iconst 0, 1) := by decide +kernel
theorem dX0_isNode_17 : decode cX0_isNode 17 = .ok (.ireturn, 1) := by decide +kernel
theorem dX0_isLine_0 : decode cX0_isLine 0 = .ok (.iload_n 1, 1) := by decide +kernel
theorem dX0_isLine_1 : decode cX0_isLine 1 = .ok (.ifCond .lt 15, 3) := by decide +kernel
theorem dX0_isLine_4 : decode cX0_isLine 4 = .ok (.iload_n 1, 1) := by decide +kernel
theorem dX0_isLine_5 : decode cX0_isLine 5 = .ok (.aload_n 0, 1) := by decide +kernel
theorem dX0_isLine_6 : decode cX0_isLine 6 = .ok (.getfield 15, 3) := by decide +kernel
theorem dX0_isLine_9 : decode cX0_isLine 9 = .ok (.if_icmp .ge 7, 3) := by decide +kernel
theorem dX0_isLine_12 : decode cX0_isLine 12 = .ok (.iconst 1, 1) := by decide +kernel
theorem dX0_isLine_13 : decode cX0_isLine 13 = .ok (.goto 4, 3) := by decide +kernel
theorem dX0_isLine_16 : decode cX0_isLine 16 = .ok (.iconst 0, 1) := by decide +kernel
theorem dX0_isLine_17 : decode cX0_isLine 17 = .ok (.ireturn, 1) := by decide +kernel
theorem dX0_findName_0 : decode cX0_findName 0 = .ok (.iconst 0, 1) := by decide +kernel
theorem dX0_findName_1 : decode cX0_findName 1 = .ok (.istore_n 2, 1) := by decide +kernel
theorem dX0_findName_2 : decode cX0_findName 2 = .ok (.iload_n 1, 1) := by decide +kernel
theorem dX0_findName_3 : decode cX0_findName 3 = .ok (.ifCond .eq 29, 3) := by decide +kernel
theorem dX0_findName_6 : decode cX0_findName 6 = .ok (.iload_n 2, 1) := by decide +kernel
theorem dX0_findName_7 : decode cX0_findName 7 = .ok (.aload_n 0, 1) := by decide +kernel
theorem dX0_findName_8 : decode cX0_findName 8 = .ok (.getfield 9, 3) := by decide +kernel
theorem dX0_findName_11 : decode cX0_findName 11 = .ok (.if_icmp .ge 21, 3) := by decide +kernel
theorem dX0_findName_14 : decode cX0_findName 14 = .ok (.aload_n 0, 1) := by decide +kernel
theorem dX0_findName_15 : decode cX0_findName 15 = .ok (.getfield 18, 3) := by decide +kernel
theorem dX0_findName_18 : decode cX0_findName 18 = .ok (.iload_n 2, 1) := by decide +kernel
theorem dX0_findName_19 : decode cX0_findName 19 = .ok (.iaload, 1) := by decide +kernel
theorem dX0_findName_20 : decode cX0_findName 20 = .ok (.iload_n 1, 1) := by decide +kernel
theorem dX0_findName_21 : decode cX0_findName 21 = .ok (.if_icmp .ne 5, 3) := by decide +kernel
theorem dX0_findName_24 : decode cX0_findName 24 = .ok (.iload_n 2, 1) := by decide +kernel
theorem dX0_findName_25 : decode cX0_findName 25 = .ok (.ireturn, 1) := by decide +kernel
theorem dX0_findName_26 : decode cX0_findName 26 = .ok (.iinc 2 1, 3) := by decide +kernel
theorem dX0_findName_29 : decode cX0_findName 29 = .ok (.goto (-27), 3) := by decide +kernel
theorem dX0_findName_32 : decode cX0_findName 32 = .ok (.iconst (-1), 1) := by decide +kernel
theorem dX0_findName_33 : decode cX0_findName 33 = .ok (.ireturn, 1) := by decide +kernel
theorem dX0_findLine_0 : decode cX0_findLine 0 = .ok (.iload_n 1, 1) := by decide +kernel
theorem dX0_findLine_1 : decode cX0_findLine 1 = .ok (.iload_n 2, 1) := by decide +kernel
theorem dX0_findLine_2 : decode cX0_findLine 2 = .ok (.invokestatic 40, 3) := by decide +kernel
theorem dX0_findLine_5 : decode cX0_findLine 5 = .ok (.istore_n 3, 1) := by decide +kernel
theorem dX0_findLine_6 : decode cX0_findLine 6 = .ok (.iload_n 1, 1) := by decide +kernel
theorem dX0_findLine_7 : decode cX0_findLine 7 = .ok (.iload_n 2, 1) := by decide +kernel
theorem dX0_findLine_8 : decode cX0_findLine 8 = .ok (.invokestatic 46, 3) := by decide +kernel
theorem dX0_findLine_11 : decode cX0_findLine 11 = .ok (.istore 4, 2) := by decide +kernel
theorem dX0_findLine_13 : decode cX0_findLine 13 = .ok (.iconst 0, 1) := by decide +kernel
theorem dX0_findLine_14 : decode cX0_findLine 14 = .ok (.istore 5, 2) := by decide +kernel
theorem dX0_findLine_16 : decode cX0_findLine 16 = .ok (.iload 5, 2) := by decide +kernel
theorem dX0_findLine_18 : decode cX0_findLine 18 = .ok (.aload_n 0, 1) := by decide +kernel
theorem dX0_findLine_19 : decode cX0_findLine 19 = .ok (.getfield 15, 3) := by decide +kernel
theorem dX0_findLine_22 : decode cX0_findLine 22 = .ok (.if_icmp .ge 35, 3) := by decide +kernel
theorem dX0_findLine_25 : decode cX0_findLine 25 = .ok (.aload_n 0, 1) := by decide +kernel
theorem dX0_findLine_26 : decode cX0_findLine 26 = .ok (.getfield 22, 3) := by decide +kernel
theorem dX0_findLine_29 : decode cX0_findLine 29 = .ok (.iload 5, 2) := by decide +kernel
theorem dX0_findLine_31 : decode cX0_findLine 31 = .ok (.iaload, 1) := by decide +kernel
theorem dX0_findLine_32 : decode cX0_findLine 32 = .ok (.iload_n 3, 1) := by decide +kernel
theorem dX0_findLine_33 : decode cX0_findLine 33 = .ok (.if_icmp .ne 18, 3) := by decide +kernel
theorem dX0_findLine_36 : decode cX0_findLine 36 = .ok (.aload_n 0, 1) := by decide +kernel
theorem dX0_findLine_37 : decode cX0_findLine 37 = .ok (.getfield 25, 3) := by decide +kernel
theorem dX0_findLine_40 : decode cX0_findLine 40 = .ok (.iload 5, 2) := by decide +kernel
theorem dX0_findLine_42 : decode cX0_findLine 42 = .ok (.iaload, 1) := by decide +kernel
theorem dX0_findLine_43 : decode cX0_findLine 43 = .ok (.iload 4, 2) := by decide +kernel
theorem dX0_findLine_45 : decode cX0_findLine 45 = .ok (.if_icmp .ne 6, 3) := by decide +kernel
theorem dX0_findLine_48 : decode cX0_findLine 48 = .ok (.iload 5, 2) := by decide +kernel
theorem dX0_findLine_50 : decode cX0_findLine 50 = .ok (.ireturn, 1) := by decide +kernel
theorem dX0_findLine_51 : decode cX0_findLine 51 = .ok (.iinc 5 1, 3) := by decide +kernel
theorem dX0_findLine_54 : decode cX0_findLine 54 = .ok (.goto (-38), 3) := by decide +kernel
theorem dX0_findLine_57 : decode cX0_findLine 57 = .ok (.iconst (-1), 1) := by decide +kernel
theorem dX0_findLine_58 : decode cX0_findLine 58 = .ok (.ireturn, 1) := by decide +kernel
theorem dX0_canJoin_0 : decode cX0_canJoin 0 = .ok (.aload_n 0, 1) := by decide +kernel
theorem dX0_canJoin_1 : decode cX0_canJoin 1 = .ok (.iload_n 1, 1) := by decide +kernel
theorem dX0_canJoin_2 : decode cX0_canJoin 2 = .ok (.invokevirtual 49, 3) := by decide +kernel
theorem dX0_canJoin_5 : decode cX0_canJoin 5 = .ok (.ifCond .eq 39, 3) := by decide +kernel
theorem dX0_canJoin_8 : decode cX0_canJoin 8 = .ok (.aload_n 0, 1) := by decide +kernel
theorem dX0_canJoin_9 : decode cX0_canJoin 9 = .ok (.iload_n 2, 1) := by decide +kernel
theorem dX0_canJoin_10 : decode cX0_canJoin 10 = .ok (.invokevirtual 49, 3) := by decide +kernel
theorem dX0_canJoin_13 : decode cX0_canJoin 13 = .ok (.ifCond .eq 31, 3) := by decide +kernel
theorem dX0_canJoin_16 : decode cX0_canJoin 16 = .ok (.iload_n 1, 1) := by decide +kernel
theorem dX0_canJoin_17 : decode cX0_canJoin 17 = .ok (.iload_n 2, 1) := by decide +kernel
theorem dX0_canJoin_18 : decode cX0_canJoin 18 = .ok (.if_icmp .eq 26, 3) := by decide +kernel
theorem dX0_canJoin_21 : decode cX0_canJoin 21 = .ok (.aload_n 0, 1) := by decide +kernel
theorem dX0_canJoin_22 : decode cX0_canJoin 22 = .ok (.getfield 15, 3) := by decide +kernel
theorem dX0_canJoin_25 : decode cX0_canJoin 25 = .ok (.bipush 60, 2) := by decide +kernel
theorem dX0_canJoin_27 : decode cX0_canJoin 27 = .ok (.if_icmp .ge 17, 3) := by decide +kernel
theorem dX0_canJoin_30 : decode cX0_canJoin 30 = .ok (.aload_n 0, 1) := by decide +kernel
theorem dX0_canJoin_31 : decode cX0_canJoin 31 = .ok (.iload_n 1, 1) := by decide +kernel
theorem dX0_canJoin_32 : decode cX0_canJoin 32 = .ok (.iload_n 2, 1) := by decide +kernel
theorem dX0_canJoin_33 : decode cX0_canJoin 33 = .ok (.invokevirtual 53, 3) := by decide +kernel
theorem dX0_canJoin_36 : decode cX0_canJoin 36 = .ok (.iconst (-1), 1) := by decide +kernel
theorem dX0_canJoin_37 : decode cX0_canJoin 37 = .ok (.if_icmp .ne 7, 3) := by decide +kernel
theorem dX0_canJoin_40 : decode cX0_canJoin 40 = .ok (.iconst 1, 1) := by decide +kernel
theorem dX0_canJoin_41 : decode cX0_canJoin 41 = .ok (.goto 4, 3) := by decide +kernel
theorem dX0_canJoin_44 : decode cX0_canJoin 44 = .ok (.iconst 0, 1) := by decide +kernel
theorem dX0_canJoin_45 : decode cX0_canJoin 45 = .ok (.ireturn, 1) := by decide +kernel
theorem dX0_canGrow_0 : decode cX0_canGrow 0 = .ok (.aload_n 0, 1) := by decide +kernel
theorem dX0_canGrow_1 : decode cX0_canGrow 1 = .ok (.iload_n 1, 1) := by decide +kernel
theorem dX0_canGrow_2 : decode cX0_canGrow 2 = .ok (.invokevirtual 49, 3) := by decide +kernel
theorem dX0_canGrow_5 : decode cX0_canGrow 5 = .ok (.ifCond .eq 25, 3) := by decide +kernel
theorem dX0_canGrow_8 : decode cX0_canGrow 8 = .ok (.aload_n 0, 1) := by decide +kernel
theorem dX0_canGrow_9 : decode cX0_canGrow 9 = .ok (.getfield 9, 3) := by decide +kernel
theorem dX0_canGrow_12 : decode cX0_canGrow 12 = .ok (.bipush 24, 2) := by decide +kernel
theorem dX0_canGrow_14 : decode cX0_canGrow 14 = .ok (.if_icmp .ge 16, 3) := by decide +kernel
theorem dX0_canGrow_17 : decode cX0_canGrow 17 = .ok (.aload_n 0, 1) := by decide +kernel
theorem dX0_canGrow_18 : decode cX0_canGrow 18 = .ok (.getfield 15, 3) := by decide +kernel
theorem dX0_canGrow_21 : decode cX0_canGrow 21 = .ok (.bipush 60, 2) := by decide +kernel
theorem dX0_canGrow_23 : decode cX0_canGrow 23 = .ok (.if_icmp .ge 7, 3) := by decide +kernel
theorem dX0_canGrow_26 : decode cX0_canGrow 26 = .ok (.iconst 1, 1) := by decide +kernel
theorem dX0_canGrow_27 : decode cX0_canGrow 27 = .ok (.goto 4, 3) := by decide +kernel
theorem dX0_canGrow_30 : decode cX0_canGrow 30 = .ok (.iconst 0, 1) := by decide +kernel
theorem dX0_canGrow_31 : decode cX0_canGrow 31 = .ok (.ireturn, 1) := by decide +kernel
theorem dX0_addNode_0 : decode cX0_addNode 0 = .ok (.aload_n 0, 1) := by decide +kernel
theorem dX0_addNode_1 : decode cX0_addNode 1 = .ok (.getfield 9, 3) := by decide +kernel
theorem dX0_addNode_4 : decode cX0_addNode 4 = .ok (.bipush 24, 2) := by decide +kernel
theorem dX0_addNode_6 : decode cX0_addNode 6 = .ok (.if_icmp .ge 23, 3) := by decide +kernel
theorem dX0_addNode_9 : decode cX0_addNode 9 = .ok (.aload_n 0, 1) := by decide +kernel
theorem dX0_addNode_10 : decode cX0_addNode 10 = .ok (.getfield 18, 3) := by decide +kernel
theorem dX0_addNode_13 : decode cX0_addNode 13 = .ok (.aload_n 0, 1) := by decide +kernel
theorem dX0_addNode_14 : decode cX0_addNode 14 = .ok (.getfield 9, 3) := by decide +kernel
theorem dX0_addNode_17 : decode cX0_addNode 17 = .ok (.iload_n 1, 1) := by decide +kernel
theorem dX0_addNode_18 : decode cX0_addNode 18 = .ok (.iastore, 1) := by decide +kernel
theorem dX0_addNode_19 : decode cX0_addNode 19 = .ok (.aload_n 0, 1) := by decide +kernel
theorem dX0_addNode_20 : decode cX0_addNode 20 = .ok (.dup, 1) := by decide +kernel
theorem dX0_addNode_21 : decode cX0_addNode 21 = .ok (.getfield 9, 3) := by decide +kernel
theorem dX0_addNode_24 : decode cX0_addNode 24 = .ok (.iconst 1, 1) := by decide +kernel
theorem dX0_addNode_25 : decode cX0_addNode 25 = .ok (.iadd, 1) := by decide +kernel
theorem dX0_addNode_26 : decode cX0_addNode 26 = .ok (.putfield 9, 3) := by decide +kernel
theorem dX0_addNode_29 : decode cX0_addNode 29 = .ok (.return_, 1) := by decide +kernel
theorem dX0_addLine_0 : decode cX0_addLine 0 = .ok (.aload_n 0, 1) := by decide +kernel
theorem dX0_addLine_1 : decode cX0_addLine 1 = .ok (.getfield 15, 3) := by decide +kernel
theorem dX0_addLine_4 : decode cX0_addLine 4 = .ok (.bipush 60, 2) := by decide +kernel
theorem dX0_addLine_6 : decode cX0_addLine 6 = .ok (.if_icmp .ge 51, 3) := by decide +kernel
theorem dX0_addLine_9 : decode cX0_addLine 9 = .ok (.aload_n 0, 1) := by decide +kernel
theorem dX0_addLine_10 : decode cX0_addLine 10 = .ok (.getfield 22, 3) := by decide +kernel
theorem dX0_addLine_13 : decode cX0_addLine 13 = .ok (.aload_n 0, 1) := by decide +kernel
theorem dX0_addLine_14 : decode cX0_addLine 14 = .ok (.getfield 15, 3) := by decide +kernel
theorem dX0_addLine_17 : decode cX0_addLine 17 = .ok (.iload_n 1, 1) := by decide +kernel
theorem dX0_addLine_18 : decode cX0_addLine 18 = .ok (.iload_n 2, 1) := by decide +kernel
theorem dX0_addLine_19 : decode cX0_addLine 19 = .ok (.invokestatic 40, 3) := by decide +kernel
theorem dX0_addLine_22 : decode cX0_addLine 22 = .ok (.iastore, 1) := by decide +kernel
theorem dX0_addLine_23 : decode cX0_addLine 23 = .ok (.aload_n 0, 1) := by decide +kernel
theorem dX0_addLine_24 : decode cX0_addLine 24 = .ok (.getfield 25, 3) := by decide +kernel
theorem dX0_addLine_27 : decode cX0_addLine 27 = .ok (.aload_n 0, 1) := by decide +kernel
theorem dX0_addLine_28 : decode cX0_addLine 28 = .ok (.getfield 15, 3) := by decide +kernel
theorem dX0_addLine_31 : decode cX0_addLine 31 = .ok (.iload_n 1, 1) := by decide +kernel
theorem dX0_addLine_32 : decode cX0_addLine 32 = .ok (.iload_n 2, 1) := by decide +kernel
theorem dX0_addLine_33 : decode cX0_addLine 33 = .ok (.invokestatic 46, 3) := by decide +kernel
theorem dX0_addLine_36 : decode cX0_addLine 36 = .ok (.iastore, 1) := by decide +kernel
theorem dX0_addLine_37 : decode cX0_addLine 37 = .ok (.aload_n 0, 1) := by decide +kernel
theorem dX0_addLine_38 : decode cX0_addLine 38 = .ok (.getfield 28, 3) := by decide +kernel
theorem dX0_addLine_41 : decode cX0_addLine 41 = .ok (.aload_n 0, 1) := by decide +kernel
theorem dX0_addLine_42 : decode cX0_addLine 42 = .ok (.getfield 15, 3) := by decide +kernel
theorem dX0_addLine_45 : decode cX0_addLine 45 = .ok (.iload_n 3, 1) := by decide +kernel
theorem dX0_addLine_46 : decode cX0_addLine 46 = .ok (.iastore, 1) := by decide +kernel
theorem dX0_addLine_47 : decode cX0_addLine 47 = .ok (.aload_n 0, 1) := by decide +kernel
theorem dX0_addLine_48 : decode cX0_addLine 48 = .ok (.dup, 1) := by decide +kernel
theorem dX0_addLine_49 : decode cX0_addLine 49 = .ok (.getfield 15, 3) := by decide +kernel
theorem dX0_addLine_52 : decode cX0_addLine 52 = .ok (.iconst 1, 1) := by decide +kernel
theorem dX0_addLine_53 : decode cX0_addLine 53 = .ok (.iadd, 1) := by decide +kernel
theorem dX0_addLine_54 : decode cX0_addLine 54 = .ok (.putfield 15, 3) := by decide +kernel
theorem dX0_addLine_57 : decode cX0_addLine 57 = .ok (.return_, 1) := by decide +kernel
theorem dX0_addLeaf_0 : decode cX0_addLeaf 0 = .ok (.aload_n 0, 1) := by decide +kernel
theorem dX0_addLeaf_1 : decode cX0_addLeaf 1 = .ok (.iconst 0, 1) := by decide +kernel
theorem dX0_addLeaf_2 : decode cX0_addLeaf 2 = .ok (.invokevirtual 56, 3) := by decide +kernel
theorem dX0_addLeaf_5 : decode cX0_addLeaf 5 = .ok (.aload_n 0, 1) := by decide +kernel
theorem dX0_addLeaf_6 : decode cX0_addLeaf 6 = .ok (.iload_n 1, 1) := by decide +kernel
theorem dX0_addLeaf_7 : decode cX0_addLeaf 7 = .ok (.aload_n 0, 1) := by decide +kernel
theorem dX0_addLeaf_8 : decode cX0_addLeaf 8 = .ok (.getfield 9, 3) := by decide +kernel
theorem dX0_addLeaf_11 : decode cX0_addLeaf 11 = .ok (.iconst 1, 1) := by decide +kernel
theorem dX0_addLeaf_12 : decode cX0_addLeaf 12 = .ok (.isub, 1) := by decide +kernel
theorem dX0_addLeaf_13 : decode cX0_addLeaf 13 = .ok (.iconst 1, 1) := by decide +kernel
theorem dX0_addLeaf_14 : decode cX0_addLeaf 14 = .ok (.invokevirtual 60, 3) := by decide +kernel
theorem dX0_addLeaf_17 : decode cX0_addLeaf 17 = .ok (.return_, 1) := by decide +kernel
theorem dX0_removeLine_0 : decode cX0_removeLine 0 = .ok (.aload_n 0, 1) := by decide +kernel
theorem dX0_removeLine_1 : decode cX0_removeLine 1 = .ok (.getfield 15, 3) := by decide +kernel
theorem dX0_removeLine_4 : decode cX0_removeLine 4 = .ok (.istore_n 2, 1) := by decide +kernel
theorem dX0_removeLine_5 : decode cX0_removeLine 5 = .ok (.aload_n 0, 1) := by decide +kernel
theorem dX0_removeLine_6 : decode cX0_removeLine 6 = .ok (.iconst 0, 1) := by decide +kernel
theorem dX0_removeLine_7 : decode cX0_removeLine 7 = .ok (.putfield 15, 3) := by decide +kernel
theorem dX0_removeLine_10 : decode cX0_removeLine 10 = .ok (.iconst 0, 1) := by decide +kernel
theorem dX0_removeLine_11 : decode cX0_removeLine 11 = .ok (.istore_n 3, 1) := by decide +kernel
theorem dX0_removeLine_12 : decode cX0_removeLine 12 = .ok (.iload_n 3, 1) := by decide +kernel
theorem dX0_removeLine_13 : decode cX0_removeLine 13 = .ok (.iload_n 2, 1) := by decide +kernel
theorem dX0_removeLine_14 : decode cX0_removeLine 14 = .ok (.if_icmp .ge 36, 3) := by decide +kernel
theorem dX0_removeLine_17 : decode cX0_removeLine 17 = .ok (.iload_n 3, 1) := by decide +kernel
theorem dX0_removeLine_18 : decode cX0_removeLine 18 = .ok (.iload_n 1, 1) := by decide +kernel
theorem dX0_removeLine_19 : decode cX0_removeLine 19 = .ok (.if_icmp .eq 25, 3) := by decide +kernel
theorem dX0_removeLine_22 : decode cX0_removeLine 22 = .ok (.aload_n 0, 1) := by decide +kernel
theorem dX0_removeLine_23 : decode cX0_removeLine 23 = .ok (.aload_n 0, 1) := by decide +kernel
theorem dX0_removeLine_24 : decode cX0_removeLine 24 = .ok (.getfield 22, 3) := by decide +kernel
theorem dX0_removeLine_27 : decode cX0_removeLine 27 = .ok (.iload_n 3, 1) := by decide +kernel
theorem dX0_removeLine_28 : decode cX0_removeLine 28 = .ok (.iaload, 1) := by decide +kernel
theorem dX0_removeLine_29 : decode cX0_removeLine 29 = .ok (.aload_n 0, 1) := by decide +kernel
theorem dX0_removeLine_30 : decode cX0_removeLine 30 = .ok (.getfield 25, 3) := by decide +kernel
theorem dX0_removeLine_33 : decode cX0_removeLine 33 = .ok (.iload_n 3, 1) := by decide +kernel
theorem dX0_removeLine_34 : decode cX0_removeLine 34 = .ok (.iaload, 1) := by decide +kernel
theorem dX0_removeLine_35 : decode cX0_removeLine 35 = .ok (.aload_n 0, 1) := by decide +kernel
theorem dX0_removeLine_36 : decode cX0_removeLine 36 = .ok (.getfield 28, 3) := by decide +kernel
theorem dX0_removeLine_39 : decode cX0_removeLine 39 = .ok (.iload_n 3, 1) := by decide +kernel
theorem dX0_removeLine_40 : decode cX0_removeLine 40 = .ok (.iaload, 1) := by decide +kernel
theorem dX0_removeLine_41 : decode cX0_removeLine 41 = .ok (.invokevirtual 60, 3) := by decide +kernel
theorem dX0_removeLine_44 : decode cX0_removeLine 44 = .ok (.iinc 3 1, 3) := by decide +kernel
theorem dX0_removeLine_47 : decode cX0_removeLine 47 = .ok (.goto (-35), 3) := by decide +kernel
theorem dX0_removeLine_50 : decode cX0_removeLine 50 = .ok (.return_, 1) := by decide +kernel
theorem dX0_removeNode_0 : decode cX0_removeNode 0 = .ok (.aload_n 0, 1) := by decide +kernel
theorem dX0_removeNode_1 : decode cX0_removeNode 1 = .ok (.getfield 15, 3) := by decide +kernel
theorem dX0_removeNode_4 : decode cX0_removeNode 4 = .ok (.istore_n 2, 1) := by decide +kernel
theorem dX0_removeNode_5 : decode cX0_removeNode 5 = .ok (.aload_n 0, 1) := by decide +kernel
theorem dX0_removeNode_6 : decode cX0_removeNode 6 = .ok (.iconst 0, 1) := by decide +kernel
theorem dX0_removeNode_7 : decode cX0_removeNode 7 = .ok (.putfield 15, 3) := by decide +kernel
theorem dX0_removeNode_10 : decode cX0_removeNode 10 = .ok (.iconst 0, 1) := by decide +kernel
theorem dX0_removeNode_11 : decode cX0_removeNode 11 = .ok (.istore_n 3, 1) := by decide +kernel
theorem dX0_removeNode_12 : decode cX0_removeNode 12 = .ok (.iload_n 3, 1) := by decide +kernel
theorem dX0_removeNode_13 : decode cX0_removeNode 13 = .ok (.iload_n 2, 1) := by decide +kernel
theorem dX0_removeNode_14 : decode cX0_removeNode 14 = .ok (.if_icmp .ge 77, 3) := by decide +kernel
theorem dX0_removeNode_17 : decode cX0_removeNode 17 = .ok (.aload_n 0, 1) := by decide +kernel
theorem dX0_removeNode_18 : decode cX0_removeNode 18 = .ok (.getfield 22, 3) := by decide +kernel
theorem dX0_removeNode_21 : decode cX0_removeNode 21 = .ok (.iload_n 3, 1) := by decide +kernel
theorem dX0_removeNode_22 : decode cX0_removeNode 22 = .ok (.iaload, 1) := by decide +kernel
theorem dX0_removeNode_23 : decode cX0_removeNode 23 = .ok (.istore 4, 2) := by decide +kernel
theorem dX0_removeNode_25 : decode cX0_removeNode 25 = .ok (.aload_n 0, 1) := by decide +kernel
theorem dX0_removeNode_26 : decode cX0_removeNode 26 = .ok (.getfield 25, 3) := by decide +kernel
theorem dX0_removeNode_29 : decode cX0_removeNode 29 = .ok (.iload_n 3, 1) := by decide +kernel
theorem dX0_removeNode_30 : decode cX0_removeNode 30 = .ok (.iaload, 1) := by decide +kernel
theorem dX0_removeNode_31 : decode cX0_removeNode 31 = .ok (.istore 5, 2) := by decide +kernel
theorem dX0_removeNode_33 : decode cX0_removeNode 33 = .ok (.iload 4, 2) := by decide +kernel
theorem dX0_removeNode_35 : decode cX0_removeNode 35 = .ok (.iload_n 1, 1) := by decide +kernel
theorem dX0_removeNode_36 : decode cX0_removeNode 36 = .ok (.if_icmp .eq 49, 3) := by decide +kernel
theorem dX0_removeNode_39 : decode cX0_removeNode 39 = .ok (.iload 5, 2) := by decide +kernel
theorem dX0_removeNode_41 : decode cX0_removeNode 41 = .ok (.iload_n 1, 1) := by decide +kernel
theorem dX0_removeNode_42 : decode cX0_removeNode 42 = .ok (.if_icmp .eq 43, 3) := by decide +kernel
theorem dX0_removeNode_45 : decode cX0_removeNode 45 = .ok (.aload_n 0, 1) := by decide +kernel
theorem dX0_removeNode_46 : decode cX0_removeNode 46 = .ok (.iload 4, 2) := by decide +kernel
theorem dX0_removeNode_48 : decode cX0_removeNode 48 = .ok (.iload_n 1, 1) := by decide +kernel
theorem dX0_removeNode_49 : decode cX0_removeNode 49 = .ok (.if_icmp .le 10, 3) := by decide +kernel
theorem dX0_removeNode_52 : decode cX0_removeNode 52 = .ok (.iload 4, 2) := by decide +kernel
theorem dX0_removeNode_54 : decode cX0_removeNode 54 = .ok (.iconst 1, 1) := by decide +kernel
theorem dX0_removeNode_55 : decode cX0_removeNode 55 = .ok (.isub, 1) := by decide +kernel
theorem dX0_removeNode_56 : decode cX0_removeNode 56 = .ok (.goto 5, 3) := by decide +kernel
theorem dX0_removeNode_59 : decode cX0_removeNode 59 = .ok (.iload 4, 2) := by decide +kernel
theorem dX0_removeNode_61 : decode cX0_removeNode 61 = .ok (.iload 5, 2) := by decide +kernel
theorem dX0_removeNode_63 : decode cX0_removeNode 63 = .ok (.iload_n 1, 1) := by decide +kernel
theorem dX0_removeNode_64 : decode cX0_removeNode 64 = .ok (.if_icmp .le 10, 3) := by decide +kernel
theorem dX0_removeNode_67 : decode cX0_removeNode 67 = .ok (.iload 5, 2) := by decide +kernel
theorem dX0_removeNode_69 : decode cX0_removeNode 69 = .ok (.iconst 1, 1) := by decide +kernel
theorem dX0_removeNode_70 : decode cX0_removeNode 70 = .ok (.isub, 1) := by decide +kernel
theorem dX0_removeNode_71 : decode cX0_removeNode 71 = .ok (.goto 5, 3) := by decide +kernel
theorem dX0_removeNode_74 : decode cX0_removeNode 74 = .ok (.iload 5, 2) := by decide +kernel
theorem dX0_removeNode_76 : decode cX0_removeNode 76 = .ok (.aload_n 0, 1) := by decide +kernel
theorem dX0_removeNode_77 : decode cX0_removeNode 77 = .ok (.getfield 28, 3) := by decide +kernel
theorem dX0_removeNode_80 : decode cX0_removeNode 80 = .ok (.iload_n 3, 1) := by decide +kernel
theorem dX0_removeNode_81 : decode cX0_removeNode 81 = .ok (.iaload, 1) := by decide +kernel
theorem dX0_removeNode_82 : decode cX0_removeNode 82 = .ok (.invokevirtual 60, 3) := by decide +kernel
theorem dX0_removeNode_85 : decode cX0_removeNode 85 = .ok (.iinc 3 1, 3) := by decide +kernel
theorem dX0_removeNode_88 : decode cX0_removeNode 88 = .ok (.goto (-76), 3) := by decide +kernel
theorem dX0_removeNode_91 : decode cX0_removeNode 91 = .ok (.aload_n 0, 1) := by decide +kernel
theorem dX0_removeNode_92 : decode cX0_removeNode 92 = .ok (.dup, 1) := by decide +kernel
theorem dX0_removeNode_93 : decode cX0_removeNode 93 = .ok (.getfield 9, 3) := by decide +kernel
theorem dX0_removeNode_96 : decode cX0_removeNode 96 = .ok (.iconst 1, 1) := by decide +kernel
theorem dX0_removeNode_97 : decode cX0_removeNode 97 = .ok (.isub, 1) := by decide +kernel
theorem dX0_removeNode_98 : decode cX0_removeNode 98 = .ok (.putfield 9, 3) := by decide +kernel
theorem dX0_removeNode_101 : decode cX0_removeNode 101 = .ok (.iload_n 1, 1) := by decide +kernel
theorem dX0_removeNode_102 : decode cX0_removeNode 102 = .ok (.istore_n 3, 1) := by decide +kernel
theorem dX0_removeNode_103 : decode cX0_removeNode 103 = .ok (.iload_n 3, 1) := by decide +kernel
theorem dX0_removeNode_104 : decode cX0_removeNode 104 = .ok (.aload_n 0, 1) := by decide +kernel
theorem dX0_removeNode_105 : decode cX0_removeNode 105 = .ok (.getfield 9, 3) := by decide +kernel
theorem dX0_removeNode_108 : decode cX0_removeNode 108 = .ok (.if_icmp .ge 23, 3) := by decide +kernel
theorem dX0_removeNode_111 : decode cX0_removeNode 111 = .ok (.aload_n 0, 1) := by decide +kernel
theorem dX0_removeNode_112 : decode cX0_removeNode 112 = .ok (.getfield 18, 3) := by decide +kernel
theorem dX0_removeNode_115 : decode cX0_removeNode 115 = .ok (.iload_n 3, 1) := by decide +kernel
theorem dX0_removeNode_116 : decode cX0_removeNode 116 = .ok (.aload_n 0, 1) := by decide +kernel
theorem dX0_removeNode_117 : decode cX0_removeNode 117 = .ok (.getfield 18, 3) := by decide +kernel
theorem dX0_removeNode_120 : decode cX0_removeNode 120 = .ok (.iload_n 3, 1) := by decide +kernel
theorem dX0_removeNode_121 : decode cX0_removeNode 121 = .ok (.iconst 1, 1) := by decide +kernel
theorem dX0_removeNode_122 : decode cX0_removeNode 122 = .ok (.iadd, 1) := by decide +kernel
theorem dX0_removeNode_123 : decode cX0_removeNode 123 = .ok (.iaload, 1) := by decide +kernel
theorem dX0_removeNode_124 : decode cX0_removeNode 124 = .ok (.iastore, 1) := by decide +kernel
theorem dX0_removeNode_125 : decode cX0_removeNode 125 = .ok (.iinc 3 1, 3) := by decide +kernel
theorem dX0_removeNode_128 : decode cX0_removeNode 128 = .ok (.goto (-25), 3) := by decide +kernel
theorem dX0_removeNode_131 : decode cX0_removeNode 131 = .ok (.return_, 1) := by decide +kernel
theorem dX0_merge_0 : decode cX0_merge 0 = .ok (.iconst 0, 1) := by decide +kernel
theorem dX0_merge_1 : decode cX0_merge 1 = .ok (.istore_n 2, 1) := by decide +kernel
theorem dX0_merge_2 : decode cX0_merge 2 = .ok (.iconst 0, 1) := by decide +kernel
theorem dX0_merge_3 : decode cX0_merge 3 = .ok (.istore_n 3, 1) := by decide +kernel
theorem dX0_merge_4 : decode cX0_merge 4 = .ok (.iload_n 3, 1) := by decide +kernel
theorem dX0_merge_5 : decode cX0_merge 5 = .ok (.aload_n 0, 1) := by decide +kernel
theorem dX0_merge_6 : decode cX0_merge 6 = .ok (.getfield 9, 3) := by decide +kernel
theorem dX0_merge_9 : decode cX0_merge 9 = .ok (.if_icmp .ge 38, 3) := by decide +kernel
theorem dX0_merge_12 : decode cX0_merge 12 = .ok (.aload_n 1, 1) := by decide +kernel
theorem dX0_merge_13 : decode cX0_merge 13 = .ok (.iload_n 3, 1) := by decide +kernel
theorem dX0_merge_14 : decode cX0_merge 14 = .ok (.iaload, 1) := by decide +kernel
theorem dX0_merge_15 : decode cX0_merge 15 = .ok (.iload_n 3, 1) := by decide +kernel
theorem dX0_merge_16 : decode cX0_merge 16 = .ok (.if_icmp .ne 25, 3) := by decide +kernel
theorem dX0_merge_19 : decode cX0_merge 19 = .ok (.aload_n 0, 1) := by decide +kernel
theorem dX0_merge_20 : decode cX0_merge 20 = .ok (.getfield 31, 3) := by decide +kernel
theorem dX0_merge_23 : decode cX0_merge 23 = .ok (.iload_n 3, 1) := by decide +kernel
theorem dX0_merge_24 : decode cX0_merge 24 = .ok (.iload_n 2, 1) := by decide +kernel
theorem dX0_merge_25 : decode cX0_merge 25 = .ok (.iastore, 1) := by decide +kernel
theorem dX0_merge_26 : decode cX0_merge 26 = .ok (.aload_n 0, 1) := by decide +kernel
theorem dX0_merge_27 : decode cX0_merge 27 = .ok (.getfield 18, 3) := by decide +kernel
theorem dX0_merge_30 : decode cX0_merge 30 = .ok (.iload_n 2, 1) := by decide +kernel
theorem dX0_merge_31 : decode cX0_merge 31 = .ok (.aload_n 0, 1) := by decide +kernel
theorem dX0_merge_32 : decode cX0_merge 32 = .ok (.getfield 18, 3) := by decide +kernel
theorem dX0_merge_35 : decode cX0_merge 35 = .ok (.iload_n 3, 1) := by decide +kernel
theorem dX0_merge_36 : decode cX0_merge 36 = .ok (.iaload, 1) := by decide +kernel
theorem dX0_merge_37 : decode cX0_merge 37 = .ok (.iastore, 1) := by decide +kernel
theorem dX0_merge_38 : decode cX0_merge 38 = .ok (.iinc 2 1, 3) := by decide +kernel
theorem dX0_merge_41 : decode cX0_merge 41 = .ok (.iinc 3 1, 3) := by decide +kernel
theorem dX0_merge_44 : decode cX0_merge 44 = .ok (.goto (-40), 3) := by decide +kernel
theorem dX0_merge_47 : decode cX0_merge 47 = .ok (.aload_n 0, 1) := by decide +kernel
theorem dX0_merge_48 : decode cX0_merge 48 = .ok (.iload_n 2, 1) := by decide +kernel
theorem dX0_merge_49 : decode cX0_merge 49 = .ok (.putfield 9, 3) := by decide +kernel
theorem dX0_merge_52 : decode cX0_merge 52 = .ok (.aload_n 0, 1) := by decide +kernel
theorem dX0_merge_53 : decode cX0_merge 53 = .ok (.getfield 15, 3) := by decide +kernel
theorem dX0_merge_56 : decode cX0_merge 56 = .ok (.istore_n 3, 1) := by decide +kernel
theorem dX0_merge_57 : decode cX0_merge 57 = .ok (.aload_n 0, 1) := by decide +kernel
theorem dX0_merge_58 : decode cX0_merge 58 = .ok (.iconst 0, 1) := by decide +kernel
theorem dX0_merge_59 : decode cX0_merge 59 = .ok (.putfield 15, 3) := by decide +kernel
theorem dX0_merge_62 : decode cX0_merge 62 = .ok (.iconst 0, 1) := by decide +kernel
theorem dX0_merge_63 : decode cX0_merge 63 = .ok (.istore 4, 2) := by decide +kernel
theorem dX0_merge_65 : decode cX0_merge 65 = .ok (.iload 4, 2) := by decide +kernel
theorem dX0_merge_67 : decode cX0_merge 67 = .ok (.iload_n 3, 1) := by decide +kernel
theorem dX0_merge_68 : decode cX0_merge 68 = .ok (.if_icmp .ge 75, 3) := by decide +kernel
theorem dX0_merge_71 : decode cX0_merge 71 = .ok (.aload_n 0, 1) := by decide +kernel
theorem dX0_merge_72 : decode cX0_merge 72 = .ok (.getfield 31, 3) := by decide +kernel
theorem dX0_merge_75 : decode cX0_merge 75 = .ok (.aload_n 1, 1) := by decide +kernel
theorem dX0_merge_76 : decode cX0_merge 76 = .ok (.aload_n 0, 1) := by decide +kernel
theorem dX0_merge_77 : decode cX0_merge 77 = .ok (.getfield 22, 3) := by decide +kernel
theorem dX0_merge_80 : decode cX0_merge 80 = .ok (.iload 4, 2) := by decide +kernel
theorem dX0_merge_82 : decode cX0_merge 82 = .ok (.iaload, 1) := by decide +kernel
theorem dX0_merge_83 : decode cX0_merge 83 = .ok (.iaload, 1) := by decide +kernel
theorem dX0_merge_84 : decode cX0_merge 84 = .ok (.iaload, 1) := by decide +kernel
theorem dX0_merge_85 : decode cX0_merge 85 = .ok (.istore 5, 2) := by decide +kernel
theorem dX0_merge_87 : decode cX0_merge 87 = .ok (.aload_n 0, 1) := by decide +kernel
theorem dX0_merge_88 : decode cX0_merge 88 = .ok (.getfield 31, 3) := by decide +kernel
theorem dX0_merge_91 : decode cX0_merge 91 = .ok (.aload_n 1, 1) := by decide +kernel
theorem dX0_merge_92 : decode cX0_merge 92 = .ok (.aload_n 0, 1) := by decide +kernel
theorem dX0_merge_93 : decode cX0_merge 93 = .ok (.getfield 25, 3) := by decide +kernel
theorem dX0_merge_96 : decode cX0_merge 96 = .ok (.iload 4, 2) := by decide +kernel
theorem dX0_merge_98 : decode cX0_merge 98 = .ok (.iaload, 1) := by decide +kernel
theorem dX0_merge_99 : decode cX0_merge 99 = .ok (.iaload, 1) := by decide +kernel
theorem dX0_merge_100 : decode cX0_merge 100 = .ok (.iaload, 1) := by decide +kernel
theorem dX0_merge_101 : decode cX0_merge 101 = .ok (.istore 6, 2) := by decide +kernel
theorem dX0_merge_103 : decode cX0_merge 103 = .ok (.iload 5, 2) := by decide +kernel
theorem dX0_merge_105 : decode cX0_merge 105 = .ok (.iload 6, 2) := by decide +kernel
theorem dX0_merge_107 : decode cX0_merge 107 = .ok (.if_icmp .eq 30, 3) := by decide +kernel
theorem dX0_merge_110 : decode cX0_merge 110 = .ok (.aload_n 0, 1) := by decide +kernel
theorem dX0_merge_111 : decode cX0_merge 111 = .ok (.iload 5, 2) := by decide +kernel
theorem dX0_merge_113 : decode cX0_merge 113 = .ok (.iload 6, 2) := by decide +kernel
theorem dX0_merge_115 : decode cX0_merge 115 = .ok (.invokevirtual 53, 3) := by decide +kernel
theorem dX0_merge_118 : decode cX0_merge 118 = .ok (.iconst (-1), 1) := by decide +kernel
theorem dX0_merge_119 : decode cX0_merge 119 = .ok (.if_icmp .ne 18, 3) := by decide +kernel
theorem dX0_merge_122 : decode cX0_merge 122 = .ok (.aload_n 0, 1) := by decide +kernel
theorem dX0_merge_123 : decode cX0_merge 123 = .ok (.iload 5, 2) := by decide +kernel
theorem dX0_merge_125 : decode cX0_merge 125 = .ok (.iload 6, 2) := by decide +kernel
theorem dX0_merge_127 : decode cX0_merge 127 = .ok (.aload_n 0, 1) := by decide +kernel
theorem dX0_merge_128 : decode cX0_merge 128 = .ok (.getfield 28, 3) := by decide +kernel
theorem dX0_merge_131 : decode cX0_merge 131 = .ok (.iload 4, 2) := by decide +kernel
theorem dX0_merge_133 : decode cX0_merge 133 = .ok (.iaload, 1) := by decide +kernel
theorem dX0_merge_134 : decode cX0_merge 134 = .ok (.invokevirtual 60, 3) := by decide +kernel
theorem dX0_merge_137 : decode cX0_merge 137 = .ok (.iinc 4 1, 3) := by decide +kernel
theorem dX0_merge_140 : decode cX0_merge 140 = .ok (.goto (-75), 3) := by decide +kernel
theorem dX0_merge_143 : decode cX0_merge 143 = .ok (.return_, 1) := by decide +kernel
theorem dX0_canOpen_0 : decode cX0_canOpen 0 = .ok (.iload_n 1, 1) := by decide +kernel
theorem dX0_canOpen_1 : decode cX0_canOpen 1 = .ok (.iload_n 2, 1) := by decide +kernel
theorem dX0_canOpen_2 : decode cX0_canOpen 2 = .ok (.iand, 1) := by decide +kernel
theorem dX0_canOpen_3 : decode cX0_canOpen 3 = .ok (.istore_n 3, 1) := by decide +kernel
theorem dX0_canOpen_4 : decode cX0_canOpen 4 = .ok (.iload_n 1, 1) := by decide +kernel
theorem dX0_canOpen_5 : decode cX0_canOpen 5 = .ok (.iload_n 2, 1) := by decide +kernel
theorem dX0_canOpen_6 : decode cX0_canOpen 6 = .ok (.ior, 1) := by decide +kernel
theorem dX0_canOpen_7 : decode cX0_canOpen 7 = .ok (.aload_n 0, 1) := by decide +kernel
theorem dX0_canOpen_8 : decode cX0_canOpen 8 = .ok (.getfield 9, 3) := by decide +kernel
theorem dX0_canOpen_11 : decode cX0_canOpen 11 = .ok (.invokestatic 64, 3) := by decide +kernel
theorem dX0_canOpen_14 : decode cX0_canOpen 14 = .ok (.if_icmp .ne 7, 3) := by decide +kernel
theorem dX0_canOpen_17 : decode cX0_canOpen 17 = .ok (.iload_n 3, 1) := by decide +kernel
theorem dX0_canOpen_18 : decode cX0_canOpen 18 = .ok (.ifCond .ne 5, 3) := by decide +kernel
theorem dX0_canOpen_21 : decode cX0_canOpen 21 = .ok (.iconst 0, 1) := by decide +kernel
theorem dX0_canOpen_22 : decode cX0_canOpen 22 = .ok (.ireturn, 1) := by decide +kernel
theorem dX0_canOpen_23 : decode cX0_canOpen 23 = .ok (.iload_n 3, 1) := by decide +kernel
theorem dX0_canOpen_24 : decode cX0_canOpen 24 = .ok (.invokestatic 68, 3) := by decide +kernel
theorem dX0_canOpen_27 : decode cX0_canOpen 27 = .ok (.istore 4, 2) := by decide +kernel
theorem dX0_canOpen_29 : decode cX0_canOpen 29 = .ok (.iload 4, 2) := by decide +kernel
theorem dX0_canOpen_31 : decode cX0_canOpen 31 = .ok (.istore 5, 2) := by decide +kernel
theorem dX0_canOpen_33 : decode cX0_canOpen 33 = .ok (.iconst 0, 1) := by decide +kernel
theorem dX0_canOpen_34 : decode cX0_canOpen 34 = .ok (.istore 6, 2) := by decide +kernel
theorem dX0_canOpen_36 : decode cX0_canOpen 36 = .ok (.iload 6, 2) := by decide +kernel
theorem dX0_canOpen_38 : decode cX0_canOpen 38 = .ok (.aload_n 0, 1) := by decide +kernel
theorem dX0_canOpen_39 : decode cX0_canOpen 39 = .ok (.getfield 15, 3) := by decide +kernel
theorem dX0_canOpen_42 : decode cX0_canOpen 42 = .ok (.if_icmp .ge 62, 3) := by decide +kernel
theorem dX0_canOpen_45 : decode cX0_canOpen 45 = .ok (.iconst 1, 1) := by decide +kernel
theorem dX0_canOpen_46 : decode cX0_canOpen 46 = .ok (.aload_n 0, 1) := by decide +kernel
theorem dX0_canOpen_47 : decode cX0_canOpen 47 = .ok (.getfield 22, 3) := by decide +kernel
theorem dX0_canOpen_50 : decode cX0_canOpen 50 = .ok (.iload 6, 2) := by decide +kernel
theorem dX0_canOpen_52 : decode cX0_canOpen 52 = .ok (.iaload, 1) := by decide +kernel
theorem dX0_canOpen_53 : decode cX0_canOpen 53 = .ok (.ishl, 1) := by decide +kernel
theorem dX0_canOpen_54 : decode cX0_canOpen 54 = .ok (.iconst 1, 1) := by decide +kernel
theorem dX0_canOpen_55 : decode cX0_canOpen 55 = .ok (.aload_n 0, 1) := by decide +kernel
theorem dX0_canOpen_56 : decode cX0_canOpen 56 = .ok (.getfield 25, 3) := by decide +kernel
theorem dX0_canOpen_59 : decode cX0_canOpen 59 = .ok (.iload 6, 2) := by decide +kernel
theorem dX0_canOpen_61 : decode cX0_canOpen 61 = .ok (.iaload, 1) := by decide +kernel
theorem dX0_canOpen_62 : decode cX0_canOpen 62 = .ok (.ishl, 1) := by decide +kernel
theorem dX0_canOpen_63 : decode cX0_canOpen 63 = .ok (.ior, 1) := by decide +kernel
theorem dX0_canOpen_64 : decode cX0_canOpen 64 = .ok (.istore 7, 2) := by decide +kernel
theorem dX0_canOpen_66 : decode cX0_canOpen 66 = .ok (.iload 7, 2) := by decide +kernel
theorem dX0_canOpen_68 : decode cX0_canOpen 68 = .ok (.iload_n 1, 1) := by decide +kernel
theorem dX0_canOpen_69 : decode cX0_canOpen 69 = .ok (.iand, 1) := by decide +kernel
theorem dX0_canOpen_70 : decode cX0_canOpen 70 = .ok (.iload 7, 2) := by decide +kernel
theorem dX0_canOpen_72 : decode cX0_canOpen 72 = .ok (.if_icmp .eq 14, 3) := by decide +kernel
theorem dX0_canOpen_75 : decode cX0_canOpen 75 = .ok (.iload 7, 2) := by decide +kernel
theorem dX0_canOpen_77 : decode cX0_canOpen 77 = .ok (.iload_n 2, 1) := by decide +kernel
theorem dX0_canOpen_78 : decode cX0_canOpen 78 = .ok (.iand, 1) := by decide +kernel
theorem dX0_canOpen_79 : decode cX0_canOpen 79 = .ok (.iload 7, 2) := by decide +kernel
theorem dX0_canOpen_81 : decode cX0_canOpen 81 = .ok (.if_icmp .eq 5, 3) := by decide +kernel
theorem dX0_canOpen_84 : decode cX0_canOpen 84 = .ok (.iconst 0, 1) := by decide +kernel
theorem dX0_canOpen_85 : decode cX0_canOpen 85 = .ok (.ireturn, 1) := by decide +kernel
theorem dX0_canOpen_86 : decode cX0_canOpen 86 = .ok (.iload 7, 2) := by decide +kernel
theorem dX0_canOpen_88 : decode cX0_canOpen 88 = .ok (.iload_n 3, 1) := by decide +kernel
theorem dX0_canOpen_89 : decode cX0_canOpen 89 = .ok (.iand, 1) := by decide +kernel
theorem dX0_canOpen_90 : decode cX0_canOpen 90 = .ok (.iload 7, 2) := by decide +kernel
theorem dX0_canOpen_92 : decode cX0_canOpen 92 = .ok (.if_icmp .ne 6, 3) := by decide +kernel
theorem dX0_canOpen_95 : decode cX0_canOpen 95 = .ok (.iinc 5 1, 3) := by decide +kernel
theorem dX0_canOpen_98 : decode cX0_canOpen 98 = .ok (.iinc 6 1, 3) := by decide +kernel
theorem dX0_canOpen_101 : decode cX0_canOpen 101 = .ok (.goto (-65), 3) := by decide +kernel
theorem dX0_canOpen_104 : decode cX0_canOpen 104 = .ok (.aload_n 0, 1) := by decide +kernel
theorem dX0_canOpen_105 : decode cX0_canOpen 105 = .ok (.getfield 9, 3) := by decide +kernel
theorem dX0_canOpen_108 : decode cX0_canOpen 108 = .ok (.iload 4, 2) := by decide +kernel
theorem dX0_canOpen_110 : decode cX0_canOpen 110 = .ok (.iadd, 1) := by decide +kernel
theorem dX0_canOpen_111 : decode cX0_canOpen 111 = .ok (.bipush 24, 2) := by decide +kernel
theorem dX0_canOpen_113 : decode cX0_canOpen 113 = .ok (.if_icmp .gt 19, 3) := by decide +kernel
theorem dX0_canOpen_116 : decode cX0_canOpen 116 = .ok (.aload_n 0, 1) := by decide +kernel
theorem dX0_canOpen_117 : decode cX0_canOpen 117 = .ok (.getfield 15, 3) := by decide +kernel
theorem dX0_canOpen_120 : decode cX0_canOpen 120 = .ok (.iload 5, 2) := by decide +kernel
theorem dX0_canOpen_122 : decode cX0_canOpen 122 = .ok (.iadd, 1) := by decide +kernel
theorem dX0_canOpen_123 : decode cX0_canOpen 123 = .ok (.bipush 60, 2) := by decide +kernel
theorem dX0_canOpen_125 : decode cX0_canOpen 125 = .ok (.if_icmp .gt 7, 3) := by decide +kernel
theorem dX0_canOpen_128 : decode cX0_canOpen 128 = .ok (.iconst 1, 1) := by decide +kernel
theorem dX0_canOpen_129 : decode cX0_canOpen 129 = .ok (.goto 4, 3) := by decide +kernel
theorem dX0_canOpen_132 : decode cX0_canOpen 132 = .ok (.iconst 0, 1) := by decide +kernel
theorem dX0_canOpen_133 : decode cX0_canOpen 133 = .ok (.ireturn, 1) := by decide +kernel
theorem dX0_doubleAlong_0 : decode cX0_doubleAlong 0 = .ok (.iload_n 1, 1) := by decide +kernel
theorem dX0_doubleAlong_1 : decode cX0_doubleAlong 1 = .ok (.iload_n 2, 1) := by decide +kernel
theorem dX0_doubleAlong_2 : decode cX0_doubleAlong 2 = .ok (.iand, 1) := by decide +kernel
theorem dX0_doubleAlong_3 : decode cX0_doubleAlong 3 = .ok (.istore_n 3, 1) := by decide +kernel
theorem dX0_doubleAlong_4 : decode cX0_doubleAlong 4 = .ok (.aload_n 0, 1) := by decide +kernel
theorem dX0_doubleAlong_5 : decode cX0_doubleAlong 5 = .ok (.getfield 9, 3) := by decide +kernel
theorem dX0_doubleAlong_8 : decode cX0_doubleAlong 8 = .ok (.istore 4, 2) := by decide +kernel
theorem dX0_doubleAlong_10 : decode cX0_doubleAlong 10 = .ok (.aload_n 0, 1) := by decide +kernel
theorem dX0_doubleAlong_11 : decode cX0_doubleAlong 11 = .ok (.getfield 15, 3) := by decide +kernel
theorem dX0_doubleAlong_14 : decode cX0_doubleAlong 14 = .ok (.istore 5, 2) := by decide +kernel
theorem dX0_doubleAlong_16 : decode cX0_doubleAlong 16 = .ok (.iconst 0, 1) := by decide +kernel
theorem dX0_doubleAlong_17 : decode cX0_doubleAlong 17 = .ok (.istore 6, 2) := by decide +kernel
theorem dX0_doubleAlong_19 : decode cX0_doubleAlong 19 = .ok (.iload 6, 2) := by decide +kernel
theorem dX0_doubleAlong_21 : decode cX0_doubleAlong 21 = .ok (.iload 4, 2) := by decide +kernel
theorem dX0_doubleAlong_23 : decode cX0_doubleAlong 23 = .ok (.if_icmp .ge 34, 3) := by decide +kernel
theorem dX0_doubleAlong_26 : decode cX0_doubleAlong 26 = .ok (.iload_n 3, 1) := by decide +kernel
theorem dX0_doubleAlong_27 : decode cX0_doubleAlong 27 = .ok (.iload 6, 2) := by decide +kernel
theorem dX0_doubleAlong_29 : decode cX0_doubleAlong 29 = .ok (.invokestatic 73, 3) := by decide +kernel
theorem dX0_doubleAlong_32 : decode cX0_doubleAlong 32 = .ok (.ifCond .eq 19, 3) := by decide +kernel
theorem dX0_doubleAlong_35 : decode cX0_doubleAlong 35 = .ok (.aload_n 0, 1) := by decide +kernel
theorem dX0_doubleAlong_36 : decode cX0_doubleAlong 36 = .ok (.getfield 31, 3) := by decide +kernel
theorem dX0_doubleAlong_39 : decode cX0_doubleAlong 39 = .ok (.iload 6, 2) := by decide +kernel
theorem dX0_doubleAlong_41 : decode cX0_doubleAlong 41 = .ok (.aload_n 0, 1) := by decide +kernel
theorem dX0_doubleAlong_42 : decode cX0_doubleAlong 42 = .ok (.getfield 9, 3) := by decide +kernel
theorem dX0_doubleAlong_45 : decode cX0_doubleAlong 45 = .ok (.iastore, 1) := by decide +kernel
theorem dX0_doubleAlong_46 : decode cX0_doubleAlong 46 = .ok (.aload_n 0, 1) := by decide +kernel
theorem dX0_doubleAlong_47 : decode cX0_doubleAlong 47 = .ok (.iconst 0, 1) := by decide +kernel
theorem dX0_doubleAlong_48 : decode cX0_doubleAlong 48 = .ok (.invokevirtual 56, 3) := by decide +kernel
theorem dX0_doubleAlong_51 : decode cX0_doubleAlong 51 = .ok (.iinc 6 1, 3) := by decide +kernel
theorem dX0_doubleAlong_54 : decode cX0_doubleAlong 54 = .ok (.goto (-35), 3) := by decide +kernel
theorem dX0_doubleAlong_57 : decode cX0_doubleAlong 57 = .ok (.iconst 0, 1) := by decide +kernel
theorem dX0_doubleAlong_58 : decode cX0_doubleAlong 58 = .ok (.istore 6, 2) := by decide +kernel
theorem dX0_doubleAlong_60 : decode cX0_doubleAlong 60 = .ok (.iload 6, 2) := by decide +kernel
theorem dX0_doubleAlong_62 : decode cX0_doubleAlong 62 = .ok (.iload 5, 2) := by decide +kernel
theorem dX0_doubleAlong_64 : decode cX0_doubleAlong 64 = .ok (.if_icmp .ge 72, 3) := by decide +kernel
theorem dX0_doubleAlong_67 : decode cX0_doubleAlong 67 = .ok (.iload_n 3, 1) := by decide +kernel
theorem dX0_doubleAlong_68 : decode cX0_doubleAlong 68 = .ok (.aload_n 0, 1) := by decide +kernel
theorem dX0_doubleAlong_69 : decode cX0_doubleAlong 69 = .ok (.getfield 22, 3) := by decide +kernel
theorem dX0_doubleAlong_72 : decode cX0_doubleAlong 72 = .ok (.iload 6, 2) := by decide +kernel
theorem dX0_doubleAlong_74 : decode cX0_doubleAlong 74 = .ok (.iaload, 1) := by decide +kernel
theorem dX0_doubleAlong_75 : decode cX0_doubleAlong 75 = .ok (.invokestatic 73, 3) := by decide +kernel
theorem dX0_doubleAlong_78 : decode cX0_doubleAlong 78 = .ok (.ifCond .eq 52, 3) := by decide +kernel
theorem dX0_doubleAlong_81 : decode cX0_doubleAlong 81 = .ok (.iload_n 3, 1) := by decide +kernel
theorem dX0_doubleAlong_82 : decode cX0_doubleAlong 82 = .ok (.aload_n 0, 1) := by decide +kernel
theorem dX0_doubleAlong_83 : decode cX0_doubleAlong 83 = .ok (.getfield 25, 3) := by decide +kernel
theorem dX0_doubleAlong_86 : decode cX0_doubleAlong 86 = .ok (.iload 6, 2) := by decide +kernel
theorem dX0_doubleAlong_88 : decode cX0_doubleAlong 88 = .ok (.iaload, 1) := by decide +kernel
theorem dX0_doubleAlong_89 : decode cX0_doubleAlong 89 = .ok (.invokestatic 73, 3) := by decide +kernel
theorem dX0_doubleAlong_92 : decode cX0_doubleAlong 92 = .ok (.ifCond .eq 38, 3) := by decide +kernel
theorem dX0_doubleAlong_95 : decode cX0_doubleAlong 95 = .ok (.aload_n 0, 1) := by decide +kernel
theorem dX0_doubleAlong_96 : decode cX0_doubleAlong 96 = .ok (.aload_n 0, 1) := by decide +kernel
theorem dX0_doubleAlong_97 : decode cX0_doubleAlong 97 = .ok (.getfield 31, 3) := by decide +kernel
theorem dX0_doubleAlong_100 : decode cX0_doubleAlong 100 = .ok (.aload_n 0, 1) := by decide +kernel
theorem dX0_doubleAlong_101 : decode cX0_doubleAlong 101 = .ok (.getfield 22, 3) := by decide +kernel
theorem dX0_doubleAlong_104 : decode cX0_doubleAlong 104 = .ok (.iload 6, 2) := by decide +kernel
theorem dX0_doubleAlong_106 : decode cX0_doubleAlong 106 = .ok (.iaload, 1) := by decide +kernel
theorem dX0_doubleAlong_107 : decode cX0_doubleAlong 107 = .ok (.iaload, 1) := by decide +kernel
theorem dX0_doubleAlong_108 : decode cX0_doubleAlong 108 = .ok (.aload_n 0, 1) := by decide +kernel
theorem dX0_doubleAlong_109 : decode cX0_doubleAlong 109 = .ok (.getfield 31, 3) := by decide +kernel
theorem dX0_doubleAlong_112 : decode cX0_doubleAlong 112 = .ok (.aload_n 0, 1) := by decide +kernel
theorem dX0_doubleAlong_113 : decode cX0_doubleAlong 113 = .ok (.getfield 25, 3) := by decide +kernel
theorem dX0_doubleAlong_116 : decode cX0_doubleAlong 116 = .ok (.iload 6, 2) := by decide +kernel
theorem dX0_doubleAlong_118 : decode cX0_doubleAlong 118 = .ok (.iaload, 1) := by decide +kernel
theorem dX0_doubleAlong_119 : decode cX0_doubleAlong 119 = .ok (.iaload, 1) := by decide +kernel
theorem dX0_doubleAlong_120 : decode cX0_doubleAlong 120 = .ok (.aload_n 0, 1) := by decide +kernel
theorem dX0_doubleAlong_121 : decode cX0_doubleAlong 121 = .ok (.getfield 28, 3) := by decide +kernel
theorem dX0_doubleAlong_124 : decode cX0_doubleAlong 124 = .ok (.iload 6, 2) := by decide +kernel
theorem dX0_doubleAlong_126 : decode cX0_doubleAlong 126 = .ok (.iaload, 1) := by decide +kernel
theorem dX0_doubleAlong_127 : decode cX0_doubleAlong 127 = .ok (.invokevirtual 60, 3) := by decide +kernel
theorem dX0_doubleAlong_130 : decode cX0_doubleAlong 130 = .ok (.iinc 6 1, 3) := by decide +kernel
theorem dX0_doubleAlong_133 : decode cX0_doubleAlong 133 = .ok (.goto (-73), 3) := by decide +kernel
theorem dX0_doubleAlong_136 : decode cX0_doubleAlong 136 = .ok (.iconst 0, 1) := by decide +kernel
theorem dX0_doubleAlong_137 : decode cX0_doubleAlong 137 = .ok (.istore 6, 2) := by decide +kernel
theorem dX0_doubleAlong_139 : decode cX0_doubleAlong 139 = .ok (.iload 6, 2) := by decide +kernel
theorem dX0_doubleAlong_141 : decode cX0_doubleAlong 141 = .ok (.iload 5, 2) := by decide +kernel
theorem dX0_doubleAlong_143 : decode cX0_doubleAlong 143 = .ok (.if_icmp .ge 21, 3) := by decide +kernel
theorem dX0_doubleAlong_146 : decode cX0_doubleAlong 146 = .ok (.aload_n 0, 1) := by decide +kernel
theorem dX0_doubleAlong_147 : decode cX0_doubleAlong 147 = .ok (.iload 6, 2) := by decide +kernel
theorem dX0_doubleAlong_149 : decode cX0_doubleAlong 149 = .ok (.iload_n 3, 1) := by decide +kernel
theorem dX0_doubleAlong_150 : decode cX0_doubleAlong 150 = .ok (.iload_n 2, 1) := by decide +kernel
theorem dX0_doubleAlong_151 : decode cX0_doubleAlong 151 = .ok (.iload_n 1, 1) := by decide +kernel
theorem dX0_doubleAlong_152 : decode cX0_doubleAlong 152 = .ok (.iconst (-1), 1) := by decide +kernel
theorem dX0_doubleAlong_153 : decode cX0_doubleAlong 153 = .ok (.ixor, 1) := by decide +kernel
theorem dX0_doubleAlong_154 : decode cX0_doubleAlong 154 = .ok (.iand, 1) := by decide +kernel
theorem dX0_doubleAlong_155 : decode cX0_doubleAlong 155 = .ok (.invokevirtual 77, 3) := by decide +kernel
theorem dX0_doubleAlong_158 : decode cX0_doubleAlong 158 = .ok (.iinc 6 1, 3) := by decide +kernel
theorem dX0_doubleAlong_161 : decode cX0_doubleAlong 161 = .ok (.goto (-22), 3) := by decide +kernel
theorem dX0_doubleAlong_164 : decode cX0_doubleAlong 164 = .ok (.iconst 0, 1) := by decide +kernel
theorem dX0_doubleAlong_165 : decode cX0_doubleAlong 165 = .ok (.istore 6, 2) := by decide +kernel
theorem dX0_doubleAlong_167 : decode cX0_doubleAlong 167 = .ok (.iload 6, 2) := by decide +kernel
theorem dX0_doubleAlong_169 : decode cX0_doubleAlong 169 = .ok (.iload 4, 2) := by decide +kernel
theorem dX0_doubleAlong_171 : decode cX0_doubleAlong 171 = .ok (.if_icmp .ge 32, 3) := by decide +kernel
theorem dX0_doubleAlong_174 : decode cX0_doubleAlong 174 = .ok (.iload_n 3, 1) := by decide +kernel
theorem dX0_doubleAlong_175 : decode cX0_doubleAlong 175 = .ok (.iload 6, 2) := by decide +kernel
theorem dX0_doubleAlong_177 : decode cX0_doubleAlong 177 = .ok (.invokestatic 73, 3) := by decide +kernel
theorem dX0_doubleAlong_180 : decode cX0_doubleAlong 180 = .ok (.ifCond .eq 17, 3) := by decide +kernel
theorem dX0_doubleAlong_183 : decode cX0_doubleAlong 183 = .ok (.aload_n 0, 1) := by decide +kernel
theorem dX0_doubleAlong_184 : decode cX0_doubleAlong 184 = .ok (.iload 6, 2) := by decide +kernel
theorem dX0_doubleAlong_186 : decode cX0_doubleAlong 186 = .ok (.aload_n 0, 1) := by decide +kernel
theorem dX0_doubleAlong_187 : decode cX0_doubleAlong 187 = .ok (.getfield 31, 3) := by decide +kernel
theorem dX0_doubleAlong_190 : decode cX0_doubleAlong 190 = .ok (.iload 6, 2) := by decide +kernel
theorem dX0_doubleAlong_192 : decode cX0_doubleAlong 192 = .ok (.iaload, 1) := by decide +kernel
theorem dX0_doubleAlong_193 : decode cX0_doubleAlong 193 = .ok (.iconst 1, 1) := by decide +kernel
theorem dX0_doubleAlong_194 : decode cX0_doubleAlong 194 = .ok (.invokevirtual 60, 3) := by decide +kernel
theorem dX0_doubleAlong_197 : decode cX0_doubleAlong 197 = .ok (.iinc 6 1, 3) := by decide +kernel
theorem dX0_doubleAlong_200 : decode cX0_doubleAlong 200 = .ok (.goto (-33), 3) := by decide +kernel
theorem dX0_doubleAlong_203 : decode cX0_doubleAlong 203 = .ok (.return_, 1) := by decide +kernel
theorem dX0_moveToSecond_0 : decode cX0_moveToSecond 0 = .ok (.aload_n 0, 1) := by decide +kernel
theorem dX0_moveToSecond_1 : decode cX0_moveToSecond 1 = .ok (.getfield 22, 3) := by decide +kernel
theorem dX0_moveToSecond_4 : decode cX0_moveToSecond 4 = .ok (.iload_n 1, 1) := by decide +kernel
theorem dX0_moveToSecond_5 : decode cX0_moveToSecond 5 = .ok (.iaload, 1) := by decide +kernel
theorem dX0_moveToSecond_6 : decode cX0_moveToSecond 6 = .ok (.istore 4, 2) := by decide +kernel
theorem dX0_moveToSecond_8 : decode cX0_moveToSecond 8 = .ok (.aload_n 0, 1) := by decide +kernel
theorem dX0_moveToSecond_9 : decode cX0_moveToSecond 9 = .ok (.getfield 25, 3) := by decide +kernel
theorem dX0_moveToSecond_12 : decode cX0_moveToSecond 12 = .ok (.iload_n 1, 1) := by decide +kernel
theorem dX0_moveToSecond_13 : decode cX0_moveToSecond 13 = .ok (.iaload, 1) := by decide +kernel
theorem dX0_moveToSecond_14 : decode cX0_moveToSecond 14 = .ok (.istore 5, 2) := by decide +kernel
theorem dX0_moveToSecond_16 : decode cX0_moveToSecond 16 = .ok (.iload_n 2, 1) := by decide +kernel
theorem dX0_moveToSecond_17 : decode cX0_moveToSecond 17 = .ok (.iload 4, 2) := by decide +kernel
theorem dX0_moveToSecond_19 : decode cX0_moveToSecond 19 = .ok (.invokestatic 73, 3) := by decide +kernel
theorem dX0_moveToSecond_22 : decode cX0_moveToSecond 22 = .ok (.ifCond .eq 36, 3) := by decide +kernel
theorem dX0_moveToSecond_25 : decode cX0_moveToSecond 25 = .ok (.iload_n 3, 1) := by decide +kernel
theorem dX0_moveToSecond_26 : decode cX0_moveToSecond 26 = .ok (.iload 5, 2) := by decide +kernel
theorem dX0_moveToSecond_28 : decode cX0_moveToSecond 28 = .ok (.invokestatic 73, 3) := by decide +kernel
theorem dX0_moveToSecond_31 : decode cX0_moveToSecond 31 = .ok (.ifCond .eq 27, 3) := by decide +kernel
theorem dX0_moveToSecond_34 : decode cX0_moveToSecond 34 = .ok (.aload_n 0, 1) := by decide +kernel
theorem dX0_moveToSecond_35 : decode cX0_moveToSecond 35 = .ok (.getfield 22, 3) := by decide +kernel
theorem dX0_moveToSecond_38 : decode cX0_moveToSecond 38 = .ok (.iload_n 1, 1) := by decide +kernel
theorem dX0_moveToSecond_39 : decode cX0_moveToSecond 39 = .ok (.iload 5, 2) := by decide +kernel
theorem dX0_moveToSecond_41 : decode cX0_moveToSecond 41 = .ok (.iastore, 1) := by decide +kernel
theorem dX0_moveToSecond_42 : decode cX0_moveToSecond 42 = .ok (.aload_n 0, 1) := by decide +kernel
theorem dX0_moveToSecond_43 : decode cX0_moveToSecond 43 = .ok (.getfield 25, 3) := by decide +kernel
theorem dX0_moveToSecond_46 : decode cX0_moveToSecond 46 = .ok (.iload_n 1, 1) := by decide +kernel
theorem dX0_moveToSecond_47 : decode cX0_moveToSecond 47 = .ok (.aload_n 0, 1) := by decide +kernel
theorem dX0_moveToSecond_48 : decode cX0_moveToSecond 48 = .ok (.getfield 31, 3) := by decide +kernel
theorem dX0_moveToSecond_51 : decode cX0_moveToSecond 51 = .ok (.iload 4, 2) := by decide +kernel
theorem dX0_moveToSecond_53 : decode cX0_moveToSecond 53 = .ok (.iaload, 1) := by decide +kernel
theorem dX0_moveToSecond_54 : decode cX0_moveToSecond 54 = .ok (.iastore, 1) := by decide +kernel
theorem dX0_moveToSecond_55 : decode cX0_moveToSecond 55 = .ok (.goto 34, 3) := by decide +kernel
theorem dX0_moveToSecond_58 : decode cX0_moveToSecond 58 = .ok (.iload_n 2, 1) := by decide +kernel
theorem dX0_moveToSecond_59 : decode cX0_moveToSecond 59 = .ok (.iload 5, 2) := by decide +kernel
theorem dX0_moveToSecond_61 : decode cX0_moveToSecond 61 = .ok (.invokestatic 73, 3) := by decide +kernel
theorem dX0_moveToSecond_64 : decode cX0_moveToSecond 64 = .ok (.ifCond .eq 25, 3) := by decide +kernel
theorem dX0_moveToSecond_67 : decode cX0_moveToSecond 67 = .ok (.iload_n 3, 1) := by decide +kernel
theorem dX0_moveToSecond_68 : decode cX0_moveToSecond 68 = .ok (.iload 4, 2) := by decide +kernel
theorem dX0_moveToSecond_70 : decode cX0_moveToSecond 70 = .ok (.invokestatic 73, 3) := by decide +kernel
theorem dX0_moveToSecond_73 : decode cX0_moveToSecond 73 = .ok (.ifCond .eq 16, 3) := by decide +kernel
theorem dX0_moveToSecond_76 : decode cX0_moveToSecond 76 = .ok (.aload_n 0, 1) := by decide +kernel
theorem dX0_moveToSecond_77 : decode cX0_moveToSecond 77 = .ok (.getfield 25, 3) := by decide +kernel
theorem dX0_moveToSecond_80 : decode cX0_moveToSecond 80 = .ok (.iload_n 1, 1) := by decide +kernel
theorem dX0_moveToSecond_81 : decode cX0_moveToSecond 81 = .ok (.aload_n 0, 1) := by decide +kernel
theorem dX0_moveToSecond_82 : decode cX0_moveToSecond 82 = .ok (.getfield 31, 3) := by decide +kernel
theorem dX0_moveToSecond_85 : decode cX0_moveToSecond 85 = .ok (.iload 5, 2) := by decide +kernel
theorem dX0_moveToSecond_87 : decode cX0_moveToSecond 87 = .ok (.iaload, 1) := by decide +kernel
theorem dX0_moveToSecond_88 : decode cX0_moveToSecond 88 = .ok (.iastore, 1) := by decide +kernel
theorem dX0_moveToSecond_89 : decode cX0_moveToSecond 89 = .ok (.return_, 1) := by decide +kernel
theorem dX1_init_0 : decode cX1_init 0 = .ok (.aload_n 0, 1) := by decide +kernel
theorem dX1_init_1 : decode cX1_init 1 = .ok (.invokespecial 3, 3) := by decide +kernel
theorem dX1_init_4 : decode cX1_init 4 = .ok (.aload_n 0, 1) := by decide +kernel
theorem dX1_init_5 : decode cX1_init 5 = .ok (.iconst 0, 1) := by decide +kernel
theorem dX1_init_6 : decode cX1_init 6 = .ok (.putfield 9, 3) := by decide +kernel
theorem dX1_init_9 : decode cX1_init 9 = .ok (.aload_n 0, 1) := by decide +kernel
theorem dX1_init_10 : decode cX1_init 10 = .ok (.iconst 0, 1) := by decide +kernel
theorem dX1_init_11 : decode cX1_init 11 = .ok (.putfield 15, 3) := by decide +kernel
theorem dX1_init_14 : decode cX1_init 14 = .ok (.aload_n 0, 1) := by decide +kernel
theorem dX1_init_15 : decode cX1_init 15 = .ok (.bipush 60, 2) := by decide +kernel
theorem dX1_init_17 : decode cX1_init 17 = .ok (.newarray .int, 2) := by decide +kernel
theorem dX1_init_19 : decode cX1_init 19 = .ok (.putfield 19, 3) := by decide +kernel
theorem dX1_init_22 : decode cX1_init 22 = .ok (.aload_n 0, 1) := by decide +kernel
theorem dX1_init_23 : decode cX1_init 23 = .ok (.bipush 60, 2) := by decide +kernel
theorem dX1_init_25 : decode cX1_init 25 = .ok (.newarray .int, 2) := by decide +kernel
theorem dX1_init_27 : decode cX1_init 27 = .ok (.putfield 23, 3) := by decide +kernel
theorem dX1_init_30 : decode cX1_init 30 = .ok (.aload_n 0, 1) := by decide +kernel
theorem dX1_init_31 : decode cX1_init 31 = .ok (.bipush 60, 2) := by decide +kernel
theorem dX1_init_33 : decode cX1_init 33 = .ok (.newarray .int, 2) := by decide +kernel
theorem dX1_init_35 : decode cX1_init 35 = .ok (.putfield 26, 3) := by decide +kernel
theorem dX1_init_38 : decode cX1_init 38 = .ok (.aload_n 0, 1) := by decide +kernel
theorem dX1_init_39 : decode cX1_init 39 = .ok (.bipush 24, 2) := by decide +kernel
theorem dX1_init_41 : decode cX1_init 41 = .ok (.newarray .int, 2) := by decide +kernel
theorem dX1_init_43 : decode cX1_init 43 = .ok (.putfield 29, 3) := by decide +kernel
theorem dX1_init_46 : decode cX1_init 46 = .ok (.aload_n 0, 1) := by decide +kernel
theorem dX1_init_47 : decode cX1_init 47 = .ok (.bipush 60, 2) := by decide +kernel
theorem dX1_init_49 : decode cX1_init 49 = .ok (.newarray .int, 2) := by decide +kernel
theorem dX1_init_51 : decode cX1_init 51 = .ok (.putfield 32, 3) := by decide +kernel
theorem dX1_init_54 : decode cX1_init 54 = .ok (.return_, 1) := by decide +kernel
theorem dX1_collect_0 : decode cX1_collect 0 = .ok (.aload_n 0, 1) := by decide +kernel
theorem dX1_collect_1 : decode cX1_collect 1 = .ok (.iconst 0, 1) := by decide +kernel
theorem dX1_collect_2 : decode cX1_collect 2 = .ok (.putfield 15, 3) := by decide +kernel
theorem dX1_collect_5 : decode cX1_collect 5 = .ok (.iconst 0, 1) := by decide +kernel
theorem dX1_collect_6 : decode cX1_collect 6 = .ok (.istore_n 3, 1) := by decide +kernel
theorem dX1_collect_7 : decode cX1_collect 7 = .ok (.iload_n 3, 1) := by decide +kernel
theorem dX1_collect_8 : decode cX1_collect 8 = .ok (.aload_n 1, 1) := by decide +kernel
theorem dX1_collect_9 : decode cX1_collect 9 = .ok (.getfield 35, 3) := by decide +kernel
theorem dX1_collect_12 : decode cX1_collect 12 = .ok (.if_icmp .ge 16, 3) := by decide +kernel
theorem dX1_collect_15 : decode cX1_collect 15 = .ok (.aload_n 0, 1) := by decide +kernel
theorem dX1_collect_16 : decode cX1_collect 16 = .ok (.getfield 19, 3) := by decide +kernel
theorem dX1_collect_19 : decode cX1_collect 19 = .ok (.iload_n 3, 1) := by decide +kernel
theorem dX1_collect_20 : decode cX1_collect 20 = .ok (.iconst (-1), 1) := by decide +kernel
theorem dX1_collect_21 : decode cX1_collect 21 = .ok (.iastore, 1) := by decide +kernel
theorem dX1_collect_22 : decode cX1_collect 22 = .ok (.iinc 3 1, 3) := by decide +kernel
theorem dX1_collect_25 : decode cX1_collect 25 = .ok (.goto (-18), 3) := by decide +kernel
theorem dX1_collect_28 : decode cX1_collect 28 = .ok (.iconst 0, 1) := by decide +kernel
theorem dX1_collect_29 : decode cX1_collect 29 = .ok (.istore_n 3, 1) := by decide +kernel
theorem dX1_collect_30 : decode cX1_collect 30 = .ok (.iload_n 3, 1) := by decide +kernel
theorem dX1_collect_31 : decode cX1_collect 31 = .ok (.aload_n 1, 1) := by decide +kernel
theorem dX1_collect_32 : decode cX1_collect 32 = .ok (.getfield 35, 3) := by decide +kernel
theorem dX1_collect_35 : decode cX1_collect 35 = .ok (.if_icmp .ge 26, 3) := by decide +kernel
theorem dX1_collect_38 : decode cX1_collect 38 = .ok (.aload_n 0, 1) := by decide +kernel
theorem dX1_collect_39 : decode cX1_collect 39 = .ok (.getfield 19, 3) := by decide +kernel
theorem dX1_collect_42 : decode cX1_collect 42 = .ok (.iload_n 3, 1) := by decide +kernel
theorem dX1_collect_43 : decode cX1_collect 43 = .ok (.iaload, 1) := by decide +kernel
theorem dX1_collect_44 : decode cX1_collect 44 = .ok (.iconst (-1), 1) := by decide +kernel
theorem dX1_collect_45 : decode cX1_collect 45 = .ok (.if_icmp .ne 10, 3) := by decide +kernel
theorem dX1_collect_48 : decode cX1_collect 48 = .ok (.aload_n 0, 1) := by decide +kernel
theorem dX1_collect_49 : decode cX1_collect 49 = .ok (.aload_n 1, 1) := by decide +kernel
theorem dX1_collect_50 : decode cX1_collect 50 = .ok (.aload_n 2, 1) := by decide +kernel
theorem dX1_collect_51 : decode cX1_collect 51 = .ok (.iload_n 3, 1) := by decide +kernel
theorem dX1_collect_52 : decode cX1_collect 52 = .ok (.invokevirtual 40, 3) := by decide +kernel
theorem dX1_collect_55 : decode cX1_collect 55 = .ok (.iinc 3 1, 3) := by decide +kernel
theorem dX1_collect_58 : decode cX1_collect 58 = .ok (.goto (-28), 3) := by decide +kernel
theorem dX1_collect_61 : decode cX1_collect 61 = .ok (.aload_n 0, 1) := by decide +kernel
theorem dX1_collect_62 : decode cX1_collect 62 = .ok (.iconst 1, 1) := by decide +kernel
theorem dX1_collect_63 : decode cX1_collect 63 = .ok (.putfield 9, 3) := by decide +kernel
theorem dX1_collect_66 : decode cX1_collect 66 = .ok (.return_, 1) := by decide +kernel
theorem dX1_collectFrom_0 : decode cX1_collectFrom 0 = .ok (.aload_n 0, 1) := by decide +kernel
theorem dX1_collectFrom_1 : decode cX1_collectFrom 1 = .ok (.getfield 19, 3) := by decide +kernel
theorem dX1_collectFrom_4 : decode cX1_collectFrom 4 = .ok (.iload_n 3, 1) := by decide +kernel
theorem dX1_collectFrom_5 : decode cX1_collectFrom 5 = .ok (.aload_n 0, 1) := by decide +kernel
theorem dX1_collectFrom_6 : decode cX1_collectFrom 6 = .ok (.getfield 15, 3) := by decide +kernel
theorem dX1_collectFrom_9 : decode cX1_collectFrom 9 = .ok (.iastore, 1) := by decide +kernel
theorem dX1_collectFrom_10 : decode cX1_collectFrom 10 = .ok (.aload_n 0, 1) := by decide +kernel
theorem dX1_collectFrom_11 : decode cX1_collectFrom 11 = .ok (.getfield 32, 3) := by decide +kernel
theorem dX1_collectFrom_14 : decode cX1_collectFrom 14 = .ok (.iconst 0, 1) := by decide +kernel
theorem dX1_collectFrom_15 : decode cX1_collectFrom 15 = .ok (.iload_n 3, 1) := by decide +kernel
theorem dX1_collectFrom_16 : decode cX1_collectFrom 16 = .ok (.iastore, 1) := by decide +kernel
theorem dX1_collectFrom_17 : decode cX1_collectFrom 17 = .ok (.iconst 1, 1) := by decide +kernel
theorem dX1_collectFrom_18 : decode cX1_collectFrom 18 = .ok (.istore 4, 2) := by decide +kernel
theorem dX1_collectFrom_20 : decode cX1_collectFrom 20 = .ok (.iconst 0, 1) := by decide +kernel
theorem dX1_collectFrom_21 : decode cX1_collectFrom 21 = .ok (.istore 5, 2) := by decide +kernel
theorem dX1_collectFrom_23 : decode cX1_collectFrom 23 = .ok (.iload 5, 2) := by decide +kernel
theorem dX1_collectFrom_25 : decode cX1_collectFrom 25 = .ok (.iload 4, 2) := by decide +kernel
theorem dX1_collectFrom_27 : decode cX1_collectFrom 27 = .ok (.if_icmp .ge 87, 3) := by decide +kernel
theorem dX1_collectFrom_30 : decode cX1_collectFrom 30 = .ok (.iload 5, 2) := by decide +kernel
theorem dX1_collectFrom_32 : decode cX1_collectFrom 32 = .ok (.bipush 60, 2) := by decide +kernel
theorem dX1_collectFrom_34 : decode cX1_collectFrom 34 = .ok (.if_icmp .ge 80, 3) := by decide +kernel
theorem dX1_collectFrom_37 : decode cX1_collectFrom 37 = .ok (.iload_n 3, 1) := by decide +kernel
theorem dX1_collectFrom_38 : decode cX1_collectFrom 38 = .ok (.iconst 1, 1) := by decide +kernel
theorem dX1_collectFrom_39 : decode cX1_collectFrom 39 = .ok (.iadd, 1) := by decide +kernel
theorem dX1_collectFrom_40 : decode cX1_collectFrom 40 = .ok (.istore 6, 2) := by decide +kernel
theorem dX1_collectFrom_42 : decode cX1_collectFrom 42 = .ok (.iload 6, 2) := by decide +kernel
theorem dX1_collectFrom_44 : decode cX1_collectFrom 44 = .ok (.aload_n 1, 1) := by decide +kernel
theorem dX1_collectFrom_45 : decode cX1_collectFrom 45 = .ok (.getfield 35, 3) := by decide +kernel
theorem dX1_collectFrom_48 : decode cX1_collectFrom 48 = .ok (.if_icmp .ge 60, 3) := by decide +kernel
theorem dX1_collectFrom_51 : decode cX1_collectFrom 51 = .ok (.aload_n 0, 1) := by decide +kernel
theorem dX1_collectFrom_52 : decode cX1_collectFrom 52 = .ok (.getfield 19, 3) := by decide +kernel
theorem dX1_collectFrom_55 : decode cX1_collectFrom 55 = .ok (.iload 6, 2) := by decide +kernel
theorem dX1_collectFrom_57 : decode cX1_collectFrom 57 = .ok (.iaload, 1) := by decide +kernel
theorem dX1_collectFrom_58 : decode cX1_collectFrom 58 = .ok (.iconst (-1), 1) := by decide +kernel
theorem dX1_collectFrom_59 : decode cX1_collectFrom 59 = .ok (.if_icmp .ne 43, 3) := by decide +kernel
theorem dX1_collectFrom_62 : decode cX1_collectFrom 62 = .ok (.aload_n 2, 1) := by decide +kernel
theorem dX1_collectFrom_63 : decode cX1_collectFrom 63 = .ok (.aload_n 1, 1) := by decide +kernel
theorem dX1_collectFrom_64 : decode cX1_collectFrom 64 = .ok (.aload_n 0, 1) := by decide +kernel
theorem dX1_collectFrom_65 : decode cX1_collectFrom 65 = .ok (.getfield 32, 3) := by decide +kernel
theorem dX1_collectFrom_68 : decode cX1_collectFrom 68 = .ok (.iload 5, 2) := by decide +kernel
theorem dX1_collectFrom_70 : decode cX1_collectFrom 70 = .ok (.iaload, 1) := by decide +kernel
theorem dX1_collectFrom_71 : decode cX1_collectFrom 71 = .ok (.iload 6, 2) := by decide +kernel
theorem dX1_collectFrom_73 : decode cX1_collectFrom 73 = .ok (.invokevirtual 44, 3) := by decide +kernel
theorem dX1_collectFrom_76 : decode cX1_collectFrom 76 = .ok (.ifCond .eq 26, 3) := by decide +kernel
theorem dX1_collectFrom_79 : decode cX1_collectFrom 79 = .ok (.aload_n 0, 1) := by decide +kernel
theorem dX1_collectFrom_80 : decode cX1_collectFrom 80 = .ok (.getfield 19, 3) := by decide +kernel
theorem dX1_collectFrom_83 : decode cX1_collectFrom 83 = .ok (.iload 6, 2) := by decide +kernel
theorem dX1_collectFrom_85 : decode cX1_collectFrom 85 = .ok (.aload_n 0, 1) := by decide +kernel
theorem dX1_collectFrom_86 : decode cX1_collectFrom 86 = .ok (.getfield 15, 3) := by decide +kernel
theorem dX1_collectFrom_89 : decode cX1_collectFrom 89 = .ok (.iastore, 1) := by decide +kernel
theorem dX1_collectFrom_90 : decode cX1_collectFrom 90 = .ok (.aload_n 0, 1) := by decide +kernel
theorem dX1_collectFrom_91 : decode cX1_collectFrom 91 = .ok (.getfield 32, 3) := by decide +kernel
theorem dX1_collectFrom_94 : decode cX1_collectFrom 94 = .ok (.iload 4, 2) := by decide +kernel
theorem dX1_collectFrom_96 : decode cX1_collectFrom 96 = .ok (.iload 6, 2) := by decide +kernel
theorem dX1_collectFrom_98 : decode cX1_collectFrom 98 = .ok (.iastore, 1) := by decide +kernel
theorem dX1_collectFrom_99 : decode cX1_collectFrom 99 = .ok (.iinc 4 1, 3) := by decide +kernel
theorem dX1_collectFrom_102 : decode cX1_collectFrom 102 = .ok (.iinc 6 1, 3) := by decide +kernel
theorem dX1_collectFrom_105 : decode cX1_collectFrom 105 = .ok (.goto (-63), 3) := by decide +kernel
theorem dX1_collectFrom_108 : decode cX1_collectFrom 108 = .ok (.iinc 5 1, 3) := by decide +kernel
theorem dX1_collectFrom_111 : decode cX1_collectFrom 111 = .ok (.goto (-88), 3) := by decide +kernel
theorem dX1_collectFrom_114 : decode cX1_collectFrom 114 = .ok (.aload_n 0, 1) := by decide +kernel
theorem dX1_collectFrom_115 : decode cX1_collectFrom 115 = .ok (.getfield 26, 3) := by decide +kernel
theorem dX1_collectFrom_118 : decode cX1_collectFrom 118 = .ok (.aload_n 0, 1) := by decide +kernel
theorem dX1_collectFrom_119 : decode cX1_collectFrom 119 = .ok (.getfield 15, 3) := by decide +kernel
theorem dX1_collectFrom_122 : decode cX1_collectFrom 122 = .ok (.iload_n 3, 1) := by decide +kernel
theorem dX1_collectFrom_123 : decode cX1_collectFrom 123 = .ok (.iastore, 1) := by decide +kernel
theorem dX1_collectFrom_124 : decode cX1_collectFrom 124 = .ok (.aload_n 0, 1) := by decide +kernel
theorem dX1_collectFrom_125 : decode cX1_collectFrom 125 = .ok (.getfield 23, 3) := by decide +kernel
theorem dX1_collectFrom_128 : decode cX1_collectFrom 128 = .ok (.aload_n 0, 1) := by decide +kernel
theorem dX1_collectFrom_129 : decode cX1_collectFrom 129 = .ok (.getfield 15, 3) := by decide +kernel
theorem dX1_collectFrom_132 : decode cX1_collectFrom 132 = .ok (.iload 4, 2) := by decide +kernel
theorem dX1_collectFrom_134 : decode cX1_collectFrom 134 = .ok (.iastore, 1) := by decide +kernel
theorem dX1_collectFrom_135 : decode cX1_collectFrom 135 = .ok (.aload_n 0, 1) := by decide +kernel
theorem dX1_collectFrom_136 : decode cX1_collectFrom 136 = .ok (.dup, 1) := by decide +kernel
theorem dX1_collectFrom_137 : decode cX1_collectFrom 137 = .ok (.getfield 15, 3) := by decide +kernel
theorem dX1_collectFrom_140 : decode cX1_collectFrom 140 = .ok (.iconst 1, 1) := by decide +kernel
theorem dX1_collectFrom_141 : decode cX1_collectFrom 141 = .ok (.iadd, 1) := by decide +kernel
theorem dX1_collectFrom_142 : decode cX1_collectFrom 142 = .ok (.putfield 15, 3) := by decide +kernel
theorem dX1_collectFrom_145 : decode cX1_collectFrom 145 = .ok (.return_, 1) := by decide +kernel
theorem dX1_isFair_0 : decode cX1_isFair 0 = .ok (.iconst 0, 1) := by decide +kernel
theorem dX1_isFair_1 : decode cX1_isFair 1 = .ok (.istore_n 2, 1) := by decide +kernel
theorem dX1_isFair_2 : decode cX1_isFair 2 = .ok (.iload_n 2, 1) := by decide +kernel
theorem dX1_isFair_3 : decode cX1_isFair 3 = .ok (.aload_n 1, 1) := by decide +kernel
theorem dX1_isFair_4 : decode cX1_isFair 4 = .ok (.getfield 35, 3) := by decide +kernel
theorem dX1_isFair_7 : decode cX1_isFair 7 = .ok (.if_icmp .ge 36, 3) := by decide +kernel
theorem dX1_isFair_10 : decode cX1_isFair 10 = .ok (.aload_n 1, 1) := by decide +kernel
theorem dX1_isFair_11 : decode cX1_isFair 11 = .ok (.getfield 50, 3) := by decide +kernel
theorem dX1_isFair_14 : decode cX1_isFair 14 = .ok (.iload_n 2, 1) := by decide +kernel
theorem dX1_isFair_15 : decode cX1_isFair 15 = .ok (.iaload, 1) := by decide +kernel
theorem dX1_isFair_16 : decode cX1_isFair 16 = .ok (.aload_n 1, 1) := by decide +kernel
theorem dX1_isFair_17 : decode cX1_isFair 17 = .ok (.getfield 50, 3) := by decide +kernel
theorem dX1_isFair_20 : decode cX1_isFair 20 = .ok (.aload_n 0, 1) := by decide +kernel
theorem dX1_isFair_21 : decode cX1_isFair 21 = .ok (.getfield 26, 3) := by decide +kernel
theorem dX1_isFair_24 : decode cX1_isFair 24 = .ok (.aload_n 0, 1) := by decide +kernel
theorem dX1_isFair_25 : decode cX1_isFair 25 = .ok (.getfield 19, 3) := by decide +kernel
theorem dX1_isFair_28 : decode cX1_isFair 28 = .ok (.iload_n 2, 1) := by decide +kernel
theorem dX1_isFair_29 : decode cX1_isFair 29 = .ok (.iaload, 1) := by decide +kernel
theorem dX1_isFair_30 : decode cX1_isFair 30 = .ok (.iaload, 1) := by decide +kernel
theorem dX1_isFair_31 : decode cX1_isFair 31 = .ok (.iaload, 1) := by decide +kernel
theorem dX1_isFair_32 : decode cX1_isFair 32 = .ok (.if_icmp .eq 5, 3) := by decide +kernel
theorem dX1_isFair_35 : decode cX1_isFair 35 = .ok (.iconst 0, 1) := by decide +kernel
theorem dX1_isFair_36 : decode cX1_isFair 36 = .ok (.ireturn, 1) := by decide +kernel
theorem dX1_isFair_37 : decode cX1_isFair 37 = .ok (.iinc 2 1, 3) := by decide +kernel
theorem dX1_isFair_40 : decode cX1_isFair 40 = .ok (.goto (-38), 3) := by decide +kernel
theorem dX1_isFair_43 : decode cX1_isFair 43 = .ok (.iconst 1, 1) := by decide +kernel
theorem dX1_isFair_44 : decode cX1_isFair 44 = .ok (.ireturn, 1) := by decide +kernel
theorem dX1_gather_0 : decode cX1_gather 0 = .ok (.iconst 0, 1) := by decide +kernel
theorem dX1_gather_1 : decode cX1_gather 1 = .ok (.istore_n 3, 1) := by decide +kernel
theorem dX1_gather_2 : decode cX1_gather 2 = .ok (.iload_n 3, 1) := by decide +kernel
theorem dX1_gather_3 : decode cX1_gather 3 = .ok (.aload_n 1, 1) := by decide +kernel
theorem dX1_gather_4 : decode cX1_gather 4 = .ok (.getfield 53, 3) := by decide +kernel
theorem dX1_gather_7 : decode cX1_gather 7 = .ok (.if_icmp .ge 16, 3) := by decide +kernel
theorem dX1_gather_10 : decode cX1_gather 10 = .ok (.aload_n 0, 1) := by decide +kernel
theorem dX1_gather_11 : decode cX1_gather 11 = .ok (.getfield 29, 3) := by decide +kernel
theorem dX1_gather_14 : decode cX1_gather 14 = .ok (.iload_n 3, 1) := by decide +kernel
theorem dX1_gather_15 : decode cX1_gather 15 = .ok (.iload_n 3, 1) := by decide +kernel
theorem dX1_gather_16 : decode cX1_gather 16 = .ok (.iastore, 1) := by decide +kernel
theorem dX1_gather_17 : decode cX1_gather 17 = .ok (.iinc 3 1, 3) := by decide +kernel
theorem dX1_gather_20 : decode cX1_gather 20 = .ok (.goto (-18), 3) := by decide +kernel
theorem dX1_gather_23 : decode cX1_gather 23 = .ok (.iconst 0, 1) := by decide +kernel
theorem dX1_gather_24 : decode cX1_gather 24 = .ok (.istore_n 3, 1) := by decide +kernel
theorem dX1_gather_25 : decode cX1_gather 25 = .ok (.iload_n 3, 1) := by decide +kernel
theorem dX1_gather_26 : decode cX1_gather 26 = .ok (.aload_n 1, 1) := by decide +kernel
theorem dX1_gather_27 : decode cX1_gather 27 = .ok (.getfield 35, 3) := by decide +kernel
theorem dX1_gather_30 : decode cX1_gather 30 = .ok (.if_icmp .ge 49, 3) := by decide +kernel
theorem dX1_gather_33 : decode cX1_gather 33 = .ok (.aload_n 0, 1) := by decide +kernel
theorem dX1_gather_34 : decode cX1_gather 34 = .ok (.getfield 19, 3) := by decide +kernel
theorem dX1_gather_37 : decode cX1_gather 37 = .ok (.iload_n 3, 1) := by decide +kernel
theorem dX1_gather_38 : decode cX1_gather 38 = .ok (.iaload, 1) := by decide +kernel
theorem dX1_gather_39 : decode cX1_gather 39 = .ok (.iload_n 2, 1) := by decide +kernel
theorem dX1_gather_40 : decode cX1_gather 40 = .ok (.if_icmp .ne 33, 3) := by decide +kernel
theorem dX1_gather_43 : decode cX1_gather 43 = .ok (.aload_n 0, 1) := by decide +kernel
theorem dX1_gather_44 : decode cX1_gather 44 = .ok (.aload_n 1, 1) := by decide +kernel
theorem dX1_gather_45 : decode cX1_gather 45 = .ok (.getfield 53, 3) := by decide +kernel
theorem dX1_gather_48 : decode cX1_gather 48 = .ok (.aload_n 0, 1) := by decide +kernel
theorem dX1_gather_49 : decode cX1_gather 49 = .ok (.getfield 29, 3) := by decide +kernel
theorem dX1_gather_52 : decode cX1_gather 52 = .ok (.aload_n 1, 1) := by decide +kernel
theorem dX1_gather_53 : decode cX1_gather 53 = .ok (.getfield 56, 3) := by decide +kernel
theorem dX1_gather_56 : decode cX1_gather 56 = .ok (.iload_n 3, 1) := by decide +kernel
theorem dX1_gather_57 : decode cX1_gather 57 = .ok (.iaload, 1) := by decide +kernel
theorem dX1_gather_58 : decode cX1_gather 58 = .ok (.iaload, 1) := by decide +kernel
theorem dX1_gather_59 : decode cX1_gather 59 = .ok (.aload_n 0, 1) := by decide +kernel
theorem dX1_gather_60 : decode cX1_gather 60 = .ok (.getfield 29, 3) := by decide +kernel
theorem dX1_gather_63 : decode cX1_gather 63 = .ok (.aload_n 1, 1) := by decide +kernel
theorem dX1_gather_64 : decode cX1_gather 64 = .ok (.getfield 59, 3) := by decide +kernel
theorem dX1_gather_67 : decode cX1_gather 67 = .ok (.iload_n 3, 1) := by decide +kernel
theorem dX1_gather_68 : decode cX1_gather 68 = .ok (.iaload, 1) := by decide +kernel
theorem dX1_gather_69 : decode cX1_gather 69 = .ok (.iaload, 1) := by decide +kernel
theorem dX1_gather_70 : decode cX1_gather 70 = .ok (.invokevirtual 62, 3) := by decide +kernel
theorem dX1_gather_73 : decode cX1_gather 73 = .ok (.iinc 3 1, 3) := by decide +kernel
theorem dX1_gather_76 : decode cX1_gather 76 = .ok (.goto (-51), 3) := by decide +kernel
theorem dX1_gather_79 : decode cX1_gather 79 = .ok (.return_, 1) := by decide +kernel
theorem dX1_unite_0 : decode cX1_unite 0 = .ok (.iload_n 2, 1) := by decide +kernel
theorem dX1_unite_1 : decode cX1_unite 1 = .ok (.iload_n 3, 1) := by decide +kernel
theorem dX1_unite_2 : decode cX1_unite 2 = .ok (.invokestatic 66, 3) := by decide +kernel
theorem dX1_unite_5 : decode cX1_unite 5 = .ok (.istore 4, 2) := by decide +kernel
theorem dX1_unite_7 : decode cX1_unite 7 = .ok (.iload_n 2, 1) := by decide +kernel
theorem dX1_unite_8 : decode cX1_unite 8 = .ok (.iload_n 3, 1) := by decide +kernel
theorem dX1_unite_9 : decode cX1_unite 9 = .ok (.invokestatic 72, 3) := by decide +kernel
theorem dX1_unite_12 : decode cX1_unite 12 = .ok (.istore 5, 2) := by decide +kernel
theorem dX1_unite_14 : decode cX1_unite 14 = .ok (.iconst 0, 1) := by decide +kernel
theorem dX1_unite_15 : decode cX1_unite 15 = .ok (.istore 6, 2) := by decide +kernel
theorem dX1_unite_17 : decode cX1_unite 17 = .ok (.iload 6, 2) := by decide +kernel
theorem dX1_unite_19 : decode cX1_unite 19 = .ok (.iload_n 1, 1) := by decide +kernel
theorem dX1_unite_20 : decode cX1_unite 20 = .ok (.if_icmp .ge 30, 3) := by decide +kernel
theorem dX1_unite_23 : decode cX1_unite 23 = .ok (.aload_n 0, 1) := by decide +kernel
theorem dX1_unite_24 : decode cX1_unite 24 = .ok (.getfield 29, 3) := by decide +kernel
theorem dX1_unite_27 : decode cX1_unite 27 = .ok (.iload 6, 2) := by decide +kernel
theorem dX1_unite_29 : decode cX1_unite 29 = .ok (.iaload, 1) := by decide +kernel
theorem dX1_unite_30 : decode cX1_unite 30 = .ok (.iload 5, 2) := by decide +kernel
theorem dX1_unite_32 : decode cX1_unite 32 = .ok (.if_icmp .ne 12, 3) := by decide +kernel
theorem dX1_unite_35 : decode cX1_unite 35 = .ok (.aload_n 0, 1) := by decide +kernel
theorem dX1_unite_36 : decode cX1_unite 36 = .ok (.getfield 29, 3) := by decide +kernel
theorem dX1_unite_39 : decode cX1_unite 39 = .ok (.iload 6, 2) := by decide +kernel
theorem dX1_unite_41 : decode cX1_unite 41 = .ok (.iload 4, 2) := by decide +kernel
theorem dX1_unite_43 : decode cX1_unite 43 = .ok (.iastore, 1) := by decide +kernel
theorem dX1_unite_44 : decode cX1_unite 44 = .ok (.iinc 6 1, 3) := by decide +kernel
theorem dX1_unite_47 : decode cX1_unite 47 = .ok (.goto (-30), 3) := by decide +kernel
theorem dX1_unite_50 : decode cX1_unite 50 = .ok (.return_, 1) := by decide +kernel
theorem dX2_init_0 : decode cX2_init 0 = .ok (.aload_n 0, 1) := by decide +kernel
theorem dX2_init_1 : decode cX2_init 1 = .ok (.invokespecial 3, 3) := by decide +kernel
theorem dX2_init_4 : decode cX2_init 4 = .ok (.aload_n 0, 1) := by decide +kernel
theorem dX2_init_5 : decode cX2_init 5 = .ok (.iconst 0, 1) := by decide +kernel
theorem dX2_init_6 : decode cX2_init 6 = .ok (.putfield 9, 3) := by decide +kernel
theorem dX2_init_9 : decode cX2_init 9 = .ok (.aload_n 0, 1) := by decide +kernel
theorem dX2_init_10 : decode cX2_init 10 = .ok (.iconst 1, 1) := by decide +kernel
theorem dX2_init_11 : decode cX2_init 11 = .ok (.putfield 15, 3) := by decide +kernel
theorem dX2_init_14 : decode cX2_init 14 = .ok (.aload_n 0, 1) := by decide +kernel
theorem dX2_init_15 : decode cX2_init 15 = .ok (.iconst 0, 1) := by decide +kernel
theorem dX2_init_16 : decode cX2_init 16 = .ok (.putfield 18, 3) := by decide +kernel
theorem dX2_init_19 : decode cX2_init 19 = .ok (.aload_n 0, 1) := by decide +kernel
theorem dX2_init_20 : decode cX2_init 20 = .ok (.bipush 24, 2) := by decide +kernel
theorem dX2_init_22 : decode cX2_init 22 = .ok (.newarray .int, 2) := by decide +kernel
theorem dX2_init_24 : decode cX2_init 24 = .ok (.putfield 22, 3) := by decide +kernel
theorem dX2_init_27 : decode cX2_init 27 = .ok (.aload_n 0, 1) := by decide +kernel
theorem dX2_init_28 : decode cX2_init 28 = .ok (.bipush 24, 2) := by decide +kernel
theorem dX2_init_30 : decode cX2_init 30 = .ok (.bipush 24, 2) := by decide +kernel
theorem dX2_init_32 : decode cX2_init 32 = .ok (.multianewarray 26 2, 4) := by decide +kernel
theorem dX2_init_36 : decode cX2_init 36 = .ok (.putfield 28, 3) := by decide +kernel
theorem dX2_init_39 : decode cX2_init 39 = .ok (.aload_n 0, 1) := by decide +kernel
theorem dX2_init_40 : decode cX2_init 40 = .ok (.bipush 24, 2) := by decide +kernel
theorem dX2_init_42 : decode cX2_init 42 = .ok (.bipush 24, 2) := by decide +kernel
theorem dX2_init_44 : decode cX2_init 44 = .ok (.multianewarray 26 2, 4) := by decide +kernel
theorem dX2_init_48 : decode cX2_init 48 = .ok (.putfield 31, 3) := by decide +kernel
theorem dX2_init_51 : decode cX2_init 51 = .ok (.aload_n 0, 1) := by decide +kernel
theorem dX2_init_52 : decode cX2_init 52 = .ok (.iconst 0, 1) := by decide +kernel
theorem dX2_init_53 : decode cX2_init 53 = .ok (.putfield 34, 3) := by decide +kernel
theorem dX2_init_56 : decode cX2_init 56 = .ok (.aload_n 0, 1) := by decide +kernel
theorem dX2_init_57 : decode cX2_init 57 = .ok (.bipush 24, 2) := by decide +kernel
theorem dX2_init_59 : decode cX2_init 59 = .ok (.newarray .long, 2) := by decide +kernel
theorem dX2_init_61 : decode cX2_init 61 = .ok (.putfield 37, 3) := by decide +kernel
theorem dX2_init_64 : decode cX2_init 64 = .ok (.return_, 1) := by decide +kernel
theorem dX2_measure_0 : decode cX2_measure 0 = .ok (.aload_n 0, 1) := by decide +kernel
theorem dX2_measure_1 : decode cX2_measure 1 = .ok (.aload_n 1, 1) := by decide +kernel
theorem dX2_measure_2 : decode cX2_measure 2 = .ok (.getfield 41, 3) := by decide +kernel
theorem dX2_measure_5 : decode cX2_measure 5 = .ok (.putfield 18, 3) := by decide +kernel
theorem dX2_measure_8 : decode cX2_measure 8 = .ok (.aload_n 0, 1) := by decide +kernel
theorem dX2_measure_9 : decode cX2_measure 9 = .ok (.iconst 1, 1) := by decide +kernel
theorem dX2_measure_10 : decode cX2_measure 10 = .ok (.putfield 15, 3) := by decide +kernel
theorem dX2_measure_13 : decode cX2_measure 13 = .ok (.aload_n 0, 1) := by decide +kernel
theorem dX2_measure_14 : decode cX2_measure 14 = .ok (.iconst 0, 1) := by decide +kernel
theorem dX2_measure_15 : decode cX2_measure 15 = .ok (.putfield 34, 3) := by decide +kernel
theorem dX2_measure_18 : decode cX2_measure 18 = .ok (.iconst 0, 1) := by decide +kernel
theorem dX2_measure_19 : decode cX2_measure 19 = .ok (.istore_n 2, 1) := by decide +kernel
theorem dX2_measure_20 : decode cX2_measure 20 = .ok (.iload_n 2, 1) := by decide +kernel
theorem dX2_measure_21 : decode cX2_measure 21 = .ok (.aload_n 0, 1) := by decide +kernel
theorem dX2_measure_22 : decode cX2_measure 22 = .ok (.getfield 18, 3) := by decide +kernel
theorem dX2_measure_25 : decode cX2_measure 25 = .ok (.if_icmp .ge 16, 3) := by decide +kernel
theorem dX2_measure_28 : decode cX2_measure 28 = .ok (.aload_n 0, 1) := by decide +kernel
theorem dX2_measure_29 : decode cX2_measure 29 = .ok (.getfield 22, 3) := by decide +kernel
theorem dX2_measure_32 : decode cX2_measure 32 = .ok (.iload_n 2, 1) := by decide +kernel
theorem dX2_measure_33 : decode cX2_measure 33 = .ok (.iconst 0, 1) := by decide +kernel
theorem dX2_measure_34 : decode cX2_measure 34 = .ok (.iastore, 1) := by decide +kernel
theorem dX2_measure_35 : decode cX2_measure 35 = .ok (.iinc 2 1, 3) := by decide +kernel
theorem dX2_measure_38 : decode cX2_measure 38 = .ok (.goto (-18), 3) := by decide +kernel
theorem dX2_measure_41 : decode cX2_measure 41 = .ok (.iconst 0, 1) := by decide +kernel
theorem dX2_measure_42 : decode cX2_measure 42 = .ok (.istore_n 2, 1) := by decide +kernel
theorem dX2_measure_43 : decode cX2_measure 43 = .ok (.iload_n 2, 1) := by decide +kernel
theorem dX2_measure_44 : decode cX2_measure 44 = .ok (.aload_n 1, 1) := by decide +kernel
theorem dX2_measure_45 : decode cX2_measure 45 = .ok (.getfield 44, 3) := by decide +kernel
theorem dX2_measure_48 : decode cX2_measure 48 = .ok (.if_icmp .ge 53, 3) := by decide +kernel
theorem dX2_measure_51 : decode cX2_measure 51 = .ok (.aload_n 0, 1) := by decide +kernel
theorem dX2_measure_52 : decode cX2_measure 52 = .ok (.getfield 22, 3) := by decide +kernel
theorem dX2_measure_55 : decode cX2_measure 55 = .ok (.aload_n 1, 1) := by decide +kernel
theorem dX2_measure_56 : decode cX2_measure 56 = .ok (.getfield 47, 3) := by decide +kernel
theorem dX2_measure_59 : decode cX2_measure 59 = .ok (.iload_n 2, 1) := by decide +kernel
theorem dX2_measure_60 : decode cX2_measure 60 = .ok (.iaload, 1) := by decide +kernel
theorem dX2_measure_61 : decode cX2_measure 61 = .ok (.dup2, 1) := by decide +kernel
theorem dX2_measure_62 : decode cX2_measure 62 = .ok (.iaload, 1) := by decide +kernel
theorem dX2_measure_63 : decode cX2_measure 63 = .ok (.iconst 1, 1) := by decide +kernel
theorem dX2_measure_64 : decode cX2_measure 64 = .ok (.aload_n 1, 1) := by decide +kernel
theorem dX2_measure_65 : decode cX2_measure 65 = .ok (.getfield 50, 3) := by decide +kernel
theorem dX2_measure_68 : decode cX2_measure 68 = .ok (.iload_n 2, 1) := by decide +kernel
theorem dX2_measure_69 : decode cX2_measure 69 = .ok (.iaload, 1) := by decide +kernel
theorem dX2_measure_70 : decode cX2_measure 70 = .ok (.ishl, 1) := by decide +kernel
theorem dX2_measure_71 : decode cX2_measure 71 = .ok (.ior, 1) := by decide +kernel
theorem dX2_measure_72 : decode cX2_measure 72 = .ok (.iastore, 1) := by decide +kernel
theorem dX2_measure_73 : decode cX2_measure 73 = .ok (.aload_n 0, 1) := by decide +kernel
theorem dX2_measure_74 : decode cX2_measure 74 = .ok (.getfield 22, 3) := by decide +kernel
theorem dX2_measure_77 : decode cX2_measure 77 = .ok (.aload_n 1, 1) := by decide +kernel
theorem dX2_measure_78 : decode cX2_measure 78 = .ok (.getfield 50, 3) := by decide +kernel
theorem dX2_measure_81 : decode cX2_measure 81 = .ok (.iload_n 2, 1) := by decide +kernel
theorem dX2_measure_82 : decode cX2_measure 82 = .ok (.iaload, 1) := by decide +kernel
theorem dX2_measure_83 : decode cX2_measure 83 = .ok (.dup2, 1) := by decide +kernel
theorem dX2_measure_84 : decode cX2_measure 84 = .ok (.iaload, 1) := by decide +kernel
theorem dX2_measure_85 : decode cX2_measure 85 = .ok (.iconst 1, 1) := by decide +kernel
theorem dX2_measure_86 : decode cX2_measure 86 = .ok (.aload_n 1, 1) := by decide +kernel
theorem dX2_measure_87 : decode cX2_measure 87 = .ok (.getfield 47, 3) := by decide +kernel
theorem dX2_measure_90 : decode cX2_measure 90 = .ok (.iload_n 2, 1) := by decide +kernel
theorem dX2_measure_91 : decode cX2_measure 91 = .ok (.iaload, 1) := by decide +kernel
theorem dX2_measure_92 : decode cX2_measure 92 = .ok (.ishl, 1) := by decide +kernel
theorem dX2_measure_93 : decode cX2_measure 93 = .ok (.ior, 1) := by decide +kernel
theorem dX2_measure_94 : decode cX2_measure 94 = .ok (.iastore, 1) := by decide +kernel
theorem dX2_measure_95 : decode cX2_measure 95 = .ok (.iinc 2 1, 3) := by decide +kernel
theorem dX2_measure_98 : decode cX2_measure 98 = .ok (.goto (-55), 3) := by decide +kernel
theorem dX2_measure_101 : decode cX2_measure 101 = .ok (.iconst 0, 1) := by decide +kernel
theorem dX2_measure_102 : decode cX2_measure 102 = .ok (.istore_n 2, 1) := by decide +kernel
theorem dX2_measure_103 : decode cX2_measure 103 = .ok (.iload_n 2, 1) := by decide +kernel
theorem dX2_measure_104 : decode cX2_measure 104 = .ok (.aload_n 0, 1) := by decide +kernel
theorem dX2_measure_105 : decode cX2_measure 105 = .ok (.getfield 18, 3) := by decide +kernel
theorem dX2_measure_108 : decode cX2_measure 108 = .ok (.if_icmp .ge 14, 3) := by decide +kernel
theorem dX2_measure_111 : decode cX2_measure 111 = .ok (.aload_n 0, 1) := by decide +kernel
theorem dX2_measure_112 : decode cX2_measure 112 = .ok (.iload_n 2, 1) := by decide +kernel
theorem dX2_measure_113 : decode cX2_measure 113 = .ok (.invokevirtual 53, 3) := by decide +kernel
theorem dX2_measure_116 : decode cX2_measure 116 = .ok (.iinc 2 1, 3) := by decide +kernel
theorem dX2_measure_119 : decode cX2_measure 119 = .ok (.goto (-16), 3) := by decide +kernel
theorem dX2_measure_122 : decode cX2_measure 122 = .ok (.aload_n 0, 1) := by decide +kernel
theorem dX2_measure_123 : decode cX2_measure 123 = .ok (.iconst 1, 1) := by decide +kernel
theorem dX2_measure_124 : decode cX2_measure 124 = .ok (.putfield 9, 3) := by decide +kernel
theorem dX2_measure_127 : decode cX2_measure 127 = .ok (.return_, 1) := by decide +kernel
theorem dX2_measureFrom_0 : decode cX2_measureFrom 0 = .ok (.aload_n 0, 1) := by decide +kernel
theorem dX2_measureFrom_1 : decode cX2_measureFrom 1 = .ok (.getfield 28, 3) := by decide +kernel
theorem dX2_measureFrom_4 : decode cX2_measureFrom 4 = .ok (.iload_n 1, 1) := by decide +kernel
theorem dX2_measureFrom_5 : decode cX2_measureFrom 5 = .ok (.aaload, 1) := by decide +kernel
theorem dX2_measureFrom_6 : decode cX2_measureFrom 6 = .ok (.astore_n 2, 1) := by decide +kernel
theorem dX2_measureFrom_7 : decode cX2_measureFrom 7 = .ok (.iconst 0, 1) := by decide +kernel
theorem dX2_measureFrom_8 : decode cX2_measureFrom 8 = .ok (.istore_n 3, 1) := by decide +kernel
theorem dX2_measureFrom_9 : decode cX2_measureFrom 9 = .ok (.iload_n 3, 1) := by decide +kernel
theorem dX2_measureFrom_10 : decode cX2_measureFrom 10 = .ok (.aload_n 0, 1) := by decide +kernel
theorem dX2_measureFrom_11 : decode cX2_measureFrom 11 = .ok (.getfield 18, 3) := by decide +kernel
theorem dX2_measureFrom_14 : decode cX2_measureFrom 14 = .ok (.if_icmp .ge 13, 3) := by decide +kernel
theorem dX2_measureFrom_17 : decode cX2_measureFrom 17 = .ok (.aload_n 2, 1) := by decide +kernel
theorem dX2_measureFrom_18 : decode cX2_measureFrom 18 = .ok (.iload_n 3, 1) := by decide +kernel
theorem dX2_measureFrom_19 : decode cX2_measureFrom 19 = .ok (.iconst (-1), 1) := by decide +kernel
theorem dX2_measureFrom_20 : decode cX2_measureFrom 20 = .ok (.iastore, 1) := by decide +kernel
theorem dX2_measureFrom_21 : decode cX2_measureFrom 21 = .ok (.iinc 3 1, 3) := by decide +kernel
theorem dX2_measureFrom_24 : decode cX2_measureFrom 24 = .ok (.goto (-15), 3) := by decide +kernel
theorem dX2_measureFrom_27 : decode cX2_measureFrom 27 = .ok (.iconst 1, 1) := by decide +kernel
theorem dX2_measureFrom_28 : decode cX2_measureFrom 28 = .ok (.iload_n 1, 1) := by decide +kernel
theorem dX2_measureFrom_29 : decode cX2_measureFrom 29 = .ok (.ishl, 1) := by decide +kernel
theorem dX2_measureFrom_30 : decode cX2_measureFrom 30 = .ok (.istore_n 3, 1) := by decide +kernel
theorem dX2_measureFrom_31 : decode cX2_measureFrom 31 = .ok (.iload_n 3, 1) := by decide +kernel
theorem dX2_measureFrom_32 : decode cX2_measureFrom 32 = .ok (.istore 4, 2) := by decide +kernel
theorem dX2_measureFrom_34 : decode cX2_measureFrom 34 = .ok (.iconst 0, 1) := by decide +kernel
theorem dX2_measureFrom_35 : decode cX2_measureFrom 35 = .ok (.istore 5, 2) := by decide +kernel
theorem dX2_measureFrom_37 : decode cX2_measureFrom 37 = .ok (.iload 5, 2) := by decide +kernel
theorem dX2_measureFrom_39 : decode cX2_measureFrom 39 = .ok (.aload_n 0, 1) := by decide +kernel
theorem dX2_measureFrom_40 : decode cX2_measureFrom 40 = .ok (.getfield 18, 3) := by decide +kernel
theorem dX2_measureFrom_43 : decode cX2_measureFrom 43 = .ok (.if_icmp .ge 76, 3) := by decide +kernel
theorem dX2_measureFrom_46 : decode cX2_measureFrom 46 = .ok (.iload 4, 2) := by decide +kernel
theorem dX2_measureFrom_48 : decode cX2_measureFrom 48 = .ok (.ifCond .eq 71, 3) := by decide +kernel
theorem dX2_measureFrom_51 : decode cX2_measureFrom 51 = .ok (.iconst 0, 1) := by decide +kernel
theorem dX2_measureFrom_52 : decode cX2_measureFrom 52 = .ok (.istore 6, 2) := by decide +kernel
theorem dX2_measureFrom_54 : decode cX2_measureFrom 54 = .ok (.iconst 0, 1) := by decide +kernel
theorem dX2_measureFrom_55 : decode cX2_measureFrom 55 = .ok (.istore 7, 2) := by decide +kernel
theorem dX2_measureFrom_57 : decode cX2_measureFrom 57 = .ok (.iload 7, 2) := by decide +kernel
theorem dX2_measureFrom_59 : decode cX2_measureFrom 59 = .ok (.aload_n 0, 1) := by decide +kernel
theorem dX2_measureFrom_60 : decode cX2_measureFrom 60 = .ok (.getfield 18, 3) := by decide +kernel
theorem dX2_measureFrom_63 : decode cX2_measureFrom 63 = .ok (.if_icmp .ge 37, 3) := by decide +kernel
theorem dX2_measureFrom_66 : decode cX2_measureFrom 66 = .ok (.iload 4, 2) := by decide +kernel
theorem dX2_measureFrom_68 : decode cX2_measureFrom 68 = .ok (.iload 7, 2) := by decide +kernel
theorem dX2_measureFrom_70 : decode cX2_measureFrom 70 = .ok (.invokestatic 57, 3) := by decide +kernel
theorem dX2_measureFrom_73 : decode cX2_measureFrom 73 = .ok (.ifCond .eq 21, 3) := by decide +kernel
theorem dX2_measureFrom_76 : decode cX2_measureFrom 76 = .ok (.aload_n 2, 1) := by decide +kernel
theorem dX2_measureFrom_77 : decode cX2_measureFrom 77 = .ok (.iload 7, 2) := by decide +kernel
theorem dX2_measureFrom_79 : decode cX2_measureFrom 79 = .ok (.iload 5, 2) := by decide +kernel
theorem dX2_measureFrom_81 : decode cX2_measureFrom 81 = .ok (.iastore, 1) := by decide +kernel
theorem dX2_measureFrom_82 : decode cX2_measureFrom 82 = .ok (.iload 6, 2) := by decide +kernel
theorem dX2_measureFrom_84 : decode cX2_measureFrom 84 = .ok (.aload_n 0, 1) := by decide +kernel
theorem dX2_measureFrom_85 : decode cX2_measureFrom 85 = .ok (.getfield 22, 3) := by decide +kernel
theorem dX2_measureFrom_88 : decode cX2_measureFrom 88 = .ok (.iload 7, 2) := by decide +kernel
theorem dX2_measureFrom_90 : decode cX2_measureFrom 90 = .ok (.iaload, 1) := by decide +kernel
theorem dX2_measureFrom_91 : decode cX2_measureFrom 91 = .ok (.ior, 1) := by decide +kernel
theorem dX2_measureFrom_92 : decode cX2_measureFrom 92 = .ok (.istore 6, 2) := by decide +kernel
theorem dX2_measureFrom_94 : decode cX2_measureFrom 94 = .ok (.iinc 7 1, 3) := by decide +kernel
theorem dX2_measureFrom_97 : decode cX2_measureFrom 97 = .ok (.goto (-40), 3) := by decide +kernel
theorem dX2_measureFrom_100 : decode cX2_measureFrom 100 = .ok (.iload 6, 2) := by decide +kernel
theorem dX2_measureFrom_102 : decode cX2_measureFrom 102 = .ok (.iload_n 3, 1) := by decide +kernel
theorem dX2_measureFrom_103 : decode cX2_measureFrom 103 = .ok (.iconst (-1), 1) := by decide +kernel
theorem dX2_measureFrom_104 : decode cX2_measureFrom 104 = .ok (.ixor, 1) := by decide +kernel
theorem dX2_measureFrom_105 : decode cX2_measureFrom 105 = .ok (.iand, 1) := by decide +kernel
theorem dX2_measureFrom_106 : decode cX2_measureFrom 106 = .ok (.istore 4, 2) := by decide +kernel
theorem dX2_measureFrom_108 : decode cX2_measureFrom 108 = .ok (.iload_n 3, 1) := by decide +kernel
theorem dX2_measureFrom_109 : decode cX2_measureFrom 109 = .ok (.iload 4, 2) := by decide +kernel
theorem dX2_measureFrom_111 : decode cX2_measureFrom 111 = .ok (.ior, 1) := by decide +kernel
theorem dX2_measureFrom_112 : decode cX2_measureFrom 112 = .ok (.istore_n 3, 1) := by decide +kernel
theorem dX2_measureFrom_113 : decode cX2_measureFrom 113 = .ok (.iinc 5 1, 3) := by decide +kernel
theorem dX2_measureFrom_116 : decode cX2_measureFrom 116 = .ok (.goto (-79), 3) := by decide +kernel
theorem dX2_measureFrom_119 : decode cX2_measureFrom 119 = .ok (.aload_n 0, 1) := by decide +kernel
theorem dX2_measureFrom_120 : decode cX2_measureFrom 120 = .ok (.aload_n 0, 1) := by decide +kernel
theorem dX2_measureFrom_121 : decode cX2_measureFrom 121 = .ok (.getfield 15, 3) := by decide +kernel
theorem dX2_measureFrom_124 : decode cX2_measureFrom 124 = .ok (.ifCond .eq 18, 3) := by decide +kernel
theorem dX2_measureFrom_127 : decode cX2_measureFrom 127 = .ok (.iload_n 3, 1) := by decide +kernel
theorem dX2_measureFrom_128 : decode cX2_measureFrom 128 = .ok (.aload_n 0, 1) := by decide +kernel
theorem dX2_measureFrom_129 : decode cX2_measureFrom 129 = .ok (.getfield 18, 3) := by decide +kernel
theorem dX2_measureFrom_132 : decode cX2_measureFrom 132 = .ok (.invokestatic 61, 3) := by decide +kernel
theorem dX2_measureFrom_135 : decode cX2_measureFrom 135 = .ok (.if_icmp .ne 7, 3) := by decide +kernel
theorem dX2_measureFrom_138 : decode cX2_measureFrom 138 = .ok (.iconst 1, 1) := by decide +kernel
theorem dX2_measureFrom_139 : decode cX2_measureFrom 139 = .ok (.goto 4, 3) := by decide +kernel
theorem dX2_measureFrom_142 : decode cX2_measureFrom 142 = .ok (.iconst 0, 1) := by decide +kernel
theorem dX2_measureFrom_143 : decode cX2_measureFrom 143 = .ok (.putfield 15, 3) := by decide +kernel
theorem dX2_measureFrom_146 : decode cX2_measureFrom 146 = .ok (.return_, 1) := by decide +kernel
theorem dX2_countWays_0 : decode cX2_countWays 0 = .ok (.aload_n 0, 1) := by decide +kernel
theorem dX2_countWays_1 : decode cX2_countWays 1 = .ok (.getfield 28, 3) := by decide +kernel
theorem dX2_countWays_4 : decode cX2_countWays 4 = .ok (.iload_n 1, 1) := by decide +kernel
theorem dX2_countWays_5 : decode cX2_countWays 5 = .ok (.aaload, 1) := by decide +kernel
theorem dX2_countWays_6 : decode cX2_countWays 6 = .ok (.iload_n 2, 1) := by decide +kernel
theorem dX2_countWays_7 : decode cX2_countWays 7 = .ok (.iaload, 1) := by decide +kernel
theorem dX2_countWays_8 : decode cX2_countWays 8 = .ok (.iconst (-1), 1) := by decide +kernel
theorem dX2_countWays_9 : decode cX2_countWays 9 = .ok (.if_icmp .ne 5, 3) := by decide +kernel
theorem dX2_countWays_12 : decode cX2_countWays 12 = .ok (.iconst 0, 1) := by decide +kernel
theorem dX2_countWays_13 : decode cX2_countWays 13 = .ok (.ireturn, 1) := by decide +kernel
theorem dX2_countWays_14 : decode cX2_countWays 14 = .ok (.iconst 0, 1) := by decide +kernel
theorem dX2_countWays_15 : decode cX2_countWays 15 = .ok (.istore_n 3, 1) := by decide +kernel
theorem dX2_countWays_16 : decode cX2_countWays 16 = .ok (.iload_n 3, 1) := by decide +kernel
theorem dX2_countWays_17 : decode cX2_countWays 17 = .ok (.aload_n 0, 1) := by decide +kernel
theorem dX2_countWays_18 : decode cX2_countWays 18 = .ok (.getfield 28, 3) := by decide +kernel
theorem dX2_countWays_21 : decode cX2_countWays 21 = .ok (.iload_n 1, 1) := by decide +kernel
theorem dX2_countWays_22 : decode cX2_countWays 22 = .ok (.aaload, 1) := by decide +kernel
theorem dX2_countWays_23 : decode cX2_countWays 23 = .ok (.iload_n 2, 1) := by decide +kernel
theorem dX2_countWays_24 : decode cX2_countWays 24 = .ok (.iaload, 1) := by decide +kernel
theorem dX2_countWays_25 : decode cX2_countWays 25 = .ok (.if_icmp .gt 62, 3) := by decide +kernel
theorem dX2_countWays_28 : decode cX2_countWays 28 = .ok (.iconst 0, 1) := by decide +kernel
theorem dX2_countWays_29 : decode cX2_countWays 29 = .ok (.istore 4, 2) := by decide +kernel
theorem dX2_countWays_31 : decode cX2_countWays 31 = .ok (.iload 4, 2) := by decide +kernel
theorem dX2_countWays_33 : decode cX2_countWays 33 = .ok (.aload_n 0, 1) := by decide +kernel
theorem dX2_countWays_34 : decode cX2_countWays 34 = .ok (.getfield 18, 3) := by decide +kernel
theorem dX2_countWays_37 : decode cX2_countWays 37 = .ok (.if_icmp .ge 44, 3) := by decide +kernel
theorem dX2_countWays_40 : decode cX2_countWays 40 = .ok (.aload_n 0, 1) := by decide +kernel
theorem dX2_countWays_41 : decode cX2_countWays 41 = .ok (.getfield 28, 3) := by decide +kernel
theorem dX2_countWays_44 : decode cX2_countWays 44 = .ok (.iload_n 1, 1) := by decide +kernel
theorem dX2_countWays_45 : decode cX2_countWays 45 = .ok (.aaload, 1) := by decide +kernel
theorem dX2_countWays_46 : decode cX2_countWays 46 = .ok (.iload 4, 2) := by decide +kernel
theorem dX2_countWays_48 : decode cX2_countWays 48 = .ok (.iaload, 1) := by decide +kernel
theorem dX2_countWays_49 : decode cX2_countWays 49 = .ok (.iload_n 3, 1) := by decide +kernel
theorem dX2_countWays_50 : decode cX2_countWays 50 = .ok (.if_icmp .ne 25, 3) := by decide +kernel
theorem dX2_countWays_53 : decode cX2_countWays 53 = .ok (.aload_n 0, 1) := by decide +kernel
theorem dX2_countWays_54 : decode cX2_countWays 54 = .ok (.getfield 37, 3) := by decide +kernel
theorem dX2_countWays_57 : decode cX2_countWays 57 = .ok (.iload 4, 2) := by decide +kernel
theorem dX2_countWays_59 : decode cX2_countWays 59 = .ok (.iload_n 3, 1) := by decide +kernel
theorem dX2_countWays_60 : decode cX2_countWays 60 = .ok (.ifCond .ne 7, 3) := by decide +kernel
theorem dX2_countWays_63 : decode cX2_countWays 63 = .ok (.lconst 1, 1) := by decide +kernel
theorem dX2_countWays_64 : decode cX2_countWays 64 = .ok (.goto 10, 3) := by decide +kernel
theorem dX2_countWays_67 : decode cX2_countWays 67 = .ok (.aload_n 0, 1) := by decide +kernel
theorem dX2_countWays_68 : decode cX2_countWays 68 = .ok (.iload_n 1, 1) := by decide +kernel
theorem dX2_countWays_69 : decode cX2_countWays 69 = .ok (.iload 4, 2) := by decide +kernel
theorem dX2_countWays_71 : decode cX2_countWays 71 = .ok (.invokevirtual 65, 3) := by decide +kernel
theorem dX2_countWays_74 : decode cX2_countWays 74 = .ok (.lastore, 1) := by decide +kernel
theorem dX2_countWays_75 : decode cX2_countWays 75 = .ok (.iinc 4 1, 3) := by decide +kernel
theorem dX2_countWays_78 : decode cX2_countWays 78 = .ok (.goto (-47), 3) := by decide +kernel
theorem dX2_countWays_81 : decode cX2_countWays 81 = .ok (.iinc 3 1, 3) := by decide +kernel
theorem dX2_countWays_84 : decode cX2_countWays 84 = .ok (.goto (-68), 3) := by decide +kernel
theorem dX2_countWays_87 : decode cX2_countWays 87 = .ok (.aload_n 0, 1) := by decide +kernel
theorem dX2_countWays_88 : decode cX2_countWays 88 = .ok (.getfield 37, 3) := by decide +kernel
theorem dX2_countWays_91 : decode cX2_countWays 91 = .ok (.iload_n 2, 1) := by decide +kernel
theorem dX2_countWays_92 : decode cX2_countWays 92 = .ok (.laload, 1) := by decide +kernel
theorem dX2_countWays_93 : decode cX2_countWays 93 = .ok (.l2i, 1) := by decide +kernel
theorem dX2_countWays_94 : decode cX2_countWays 94 = .ok (.ireturn, 1) := by decide +kernel
theorem dX2_countInto_0 : decode cX2_countInto 0 = .ok (.lconst 0, 1) := by decide +kernel
theorem dX2_countInto_1 : decode cX2_countInto 1 = .ok (.lstore_n 3, 1) := by decide +kernel
theorem dX2_countInto_2 : decode cX2_countInto 2 = .ok (.iconst 0, 1) := by decide +kernel
theorem dX2_countInto_3 : decode cX2_countInto 3 = .ok (.istore 5, 2) := by decide +kernel
theorem dX2_countInto_5 : decode cX2_countInto 5 = .ok (.iload 5, 2) := by decide +kernel
theorem dX2_countInto_7 : decode cX2_countInto 7 = .ok (.aload_n 0, 1) := by decide +kernel
theorem dX2_countInto_8 : decode cX2_countInto 8 = .ok (.getfield 18, 3) := by decide +kernel
theorem dX2_countInto_11 : decode cX2_countInto 11 = .ok (.if_icmp .ge 55, 3) := by decide +kernel
theorem dX2_countInto_14 : decode cX2_countInto 14 = .ok (.aload_n 0, 1) := by decide +kernel
theorem dX2_countInto_15 : decode cX2_countInto 15 = .ok (.getfield 22, 3) := by decide +kernel
theorem dX2_countInto_18 : decode cX2_countInto 18 = .ok (.iload_n 2, 1) := by decide +kernel
theorem dX2_countInto_19 : decode cX2_countInto 19 = .ok (.iaload, 1) := by decide +kernel
theorem dX2_countInto_20 : decode cX2_countInto 20 = .ok (.iload 5, 2) := by decide +kernel
theorem dX2_countInto_22 : decode cX2_countInto 22 = .ok (.invokestatic 57, 3) := by decide +kernel
theorem dX2_countInto_25 : decode cX2_countInto 25 = .ok (.ifCond .eq 35, 3) := by decide +kernel
theorem dX2_countInto_28 : decode cX2_countInto 28 = .ok (.aload_n 0, 1) := by decide +kernel
theorem dX2_countInto_29 : decode cX2_countInto 29 = .ok (.getfield 28, 3) := by decide +kernel
theorem dX2_countInto_32 : decode cX2_countInto 32 = .ok (.iload_n 1, 1) := by decide +kernel
theorem dX2_countInto_33 : decode cX2_countInto 33 = .ok (.aaload, 1) := by decide +kernel
theorem dX2_countInto_34 : decode cX2_countInto 34 = .ok (.iload 5, 2) := by decide +kernel
theorem dX2_countInto_36 : decode cX2_countInto 36 = .ok (.iaload, 1) := by decide +kernel
theorem dX2_countInto_37 : decode cX2_countInto 37 = .ok (.aload_n 0, 1) := by decide +kernel
theorem dX2_countInto_38 : decode cX2_countInto 38 = .ok (.getfield 28, 3) := by decide +kernel
theorem dX2_countInto_41 : decode cX2_countInto 41 = .ok (.iload_n 1, 1) := by decide +kernel
theorem dX2_countInto_42 : decode cX2_countInto 42 = .ok (.aaload, 1) := by decide +kernel
theorem dX2_countInto_43 : decode cX2_countInto 43 = .ok (.iload_n 2, 1) := by decide +kernel
theorem dX2_countInto_44 : decode cX2_countInto 44 = .ok (.iaload, 1) := by decide +kernel
theorem dX2_countInto_45 : decode cX2_countInto 45 = .ok (.iconst 1, 1) := by decide +kernel
theorem dX2_countInto_46 : decode cX2_countInto 46 = .ok (.isub, 1) := by decide +kernel
theorem dX2_countInto_47 : decode cX2_countInto 47 = .ok (.if_icmp .ne 13, 3) := by decide +kernel
theorem dX2_countInto_50 : decode cX2_countInto 50 = .ok (.lload_n 3, 1) := by decide +kernel
theorem dX2_countInto_51 : decode cX2_countInto 51 = .ok (.aload_n 0, 1) := by decide +kernel
theorem dX2_countInto_52 : decode cX2_countInto 52 = .ok (.getfield 37, 3) := by decide +kernel
theorem dX2_countInto_55 : decode cX2_countInto 55 = .ok (.iload 5, 2) := by decide +kernel
theorem dX2_countInto_57 : decode cX2_countInto 57 = .ok (.laload, 1) := by decide +kernel
theorem dX2_countInto_58 : decode cX2_countInto 58 = .ok (.ladd, 1) := by decide +kernel
theorem dX2_countInto_59 : decode cX2_countInto 59 = .ok (.lstore_n 3, 1) := by decide +kernel
theorem dX2_countInto_60 : decode cX2_countInto 60 = .ok (.iinc 5 1, 3) := by decide +kernel
theorem dX2_countInto_63 : decode cX2_countInto 63 = .ok (.goto (-58), 3) := by decide +kernel
theorem dX2_countInto_66 : decode cX2_countInto 66 = .ok (.lload_n 3, 1) := by decide +kernel
theorem dX2_countInto_67 : decode cX2_countInto 67 = .ok (.ldc2_w 69, 3) := by decide +kernel
theorem dX2_countInto_70 : decode cX2_countInto 70 = .ok (.invokestatic 71, 3) := by decide +kernel
theorem dX2_countInto_73 : decode cX2_countInto 73 = .ok (.lreturn, 1) := by decide +kernel
theorem dX2_amid_0 : decode cX2_amid 0 = .ok (.aload_n 0, 1) := by decide +kernel
theorem dX2_amid_1 : decode cX2_amid 1 = .ok (.getfield 34, 3) := by decide +kernel
theorem dX2_amid_4 : decode cX2_amid 4 = .ok (.ifCond .ne 76, 3) := by decide +kernel
theorem dX2_amid_7 : decode cX2_amid 7 = .ok (.iconst 0, 1) := by decide +kernel
theorem dX2_amid_8 : decode cX2_amid 8 = .ok (.istore_n 3, 1) := by decide +kernel
theorem dX2_amid_9 : decode cX2_amid 9 = .ok (.iload_n 3, 1) := by decide +kernel
theorem dX2_amid_10 : decode cX2_amid 10 = .ok (.aload_n 0, 1) := by decide +kernel
theorem dX2_amid_11 : decode cX2_amid 11 = .ok (.getfield 18, 3) := by decide +kernel
theorem dX2_amid_14 : decode cX2_amid 14 = .ok (.if_icmp .ge 61, 3) := by decide +kernel
theorem dX2_amid_17 : decode cX2_amid 17 = .ok (.iload_n 3, 1) := by decide +kernel
theorem dX2_amid_18 : decode cX2_amid 18 = .ok (.istore 4, 2) := by decide +kernel
theorem dX2_amid_20 : decode cX2_amid 20 = .ok (.iload 4, 2) := by decide +kernel
theorem dX2_amid_22 : decode cX2_amid 22 = .ok (.aload_n 0, 1) := by decide +kernel
theorem dX2_amid_23 : decode cX2_amid 23 = .ok (.getfield 18, 3) := by decide +kernel
theorem dX2_amid_26 : decode cX2_amid 26 = .ok (.if_icmp .ge 43, 3) := by decide +kernel
theorem dX2_amid_29 : decode cX2_amid 29 = .ok (.aload_n 0, 1) := by decide +kernel
theorem dX2_amid_30 : decode cX2_amid 30 = .ok (.getfield 31, 3) := by decide +kernel
theorem dX2_amid_33 : decode cX2_amid 33 = .ok (.iload_n 3, 1) := by decide +kernel
theorem dX2_amid_34 : decode cX2_amid 34 = .ok (.aaload, 1) := by decide +kernel
theorem dX2_amid_35 : decode cX2_amid 35 = .ok (.iload 4, 2) := by decide +kernel
theorem dX2_amid_37 : decode cX2_amid 37 = .ok (.aload_n 0, 1) := by decide +kernel
theorem dX2_amid_38 : decode cX2_amid 38 = .ok (.iload_n 3, 1) := by decide +kernel
theorem dX2_amid_39 : decode cX2_amid 39 = .ok (.iload 4, 2) := by decide +kernel
theorem dX2_amid_41 : decode cX2_amid 41 = .ok (.invokevirtual 77, 3) := by decide +kernel
theorem dX2_amid_44 : decode cX2_amid 44 = .ok (.iastore, 1) := by decide +kernel
theorem dX2_amid_45 : decode cX2_amid 45 = .ok (.aload_n 0, 1) := by decide +kernel
theorem dX2_amid_46 : decode cX2_amid 46 = .ok (.getfield 31, 3) := by decide +kernel
theorem dX2_amid_49 : decode cX2_amid 49 = .ok (.iload 4, 2) := by decide +kernel
theorem dX2_amid_51 : decode cX2_amid 51 = .ok (.aaload, 1) := by decide +kernel
theorem dX2_amid_52 : decode cX2_amid 52 = .ok (.iload_n 3, 1) := by decide +kernel
theorem dX2_amid_53 : decode cX2_amid 53 = .ok (.aload_n 0, 1) := by decide +kernel
theorem dX2_amid_54 : decode cX2_amid 54 = .ok (.getfield 31, 3) := by decide +kernel
theorem dX2_amid_57 : decode cX2_amid 57 = .ok (.iload_n 3, 1) := by decide +kernel
theorem dX2_amid_58 : decode cX2_amid 58 = .ok (.aaload, 1) := by decide +kernel
theorem dX2_amid_59 : decode cX2_amid 59 = .ok (.iload 4, 2) := by decide +kernel
theorem dX2_amid_61 : decode cX2_amid 61 = .ok (.iaload, 1) := by decide +kernel
theorem dX2_amid_62 : decode cX2_amid 62 = .ok (.iastore, 1) := by decide +kernel
theorem dX2_amid_63 : decode cX2_amid 63 = .ok (.iinc 4 1, 3) := by decide +kernel
theorem dX2_amid_66 : decode cX2_amid 66 = .ok (.goto (-46), 3) := by decide +kernel
theorem dX2_amid_69 : decode cX2_amid 69 = .ok (.iinc 3 1, 3) := by decide +kernel
theorem dX2_amid_72 : decode cX2_amid 72 = .ok (.goto (-63), 3) := by decide +kernel
theorem dX2_amid_75 : decode cX2_amid 75 = .ok (.aload_n 0, 1) := by decide +kernel
theorem dX2_amid_76 : decode cX2_amid 76 = .ok (.iconst 1, 1) := by decide +kernel
theorem dX2_amid_77 : decode cX2_amid 77 = .ok (.putfield 34, 3) := by decide +kernel
theorem dX2_amid_80 : decode cX2_amid 80 = .ok (.aload_n 0, 1) := by decide +kernel
theorem dX2_amid_81 : decode cX2_amid 81 = .ok (.getfield 31, 3) := by decide +kernel
theorem dX2_amid_84 : decode cX2_amid 84 = .ok (.iload_n 1, 1) := by decide +kernel
theorem dX2_amid_85 : decode cX2_amid 85 = .ok (.aaload, 1) := by decide +kernel
theorem dX2_amid_86 : decode cX2_amid 86 = .ok (.iload_n 2, 1) := by decide +kernel
theorem dX2_amid_87 : decode cX2_amid 87 = .ok (.iaload, 1) := by decide +kernel
theorem dX2_amid_88 : decode cX2_amid 88 = .ok (.ireturn, 1) := by decide +kernel
theorem dX2_findAmid_0 : decode cX2_findAmid 0 = .ok (.aload_n 0, 1) := by decide +kernel
theorem dX2_findAmid_1 : decode cX2_findAmid 1 = .ok (.getfield 28, 3) := by decide +kernel
theorem dX2_findAmid_4 : decode cX2_findAmid 4 = .ok (.iload_n 1, 1) := by decide +kernel
theorem dX2_findAmid_5 : decode cX2_findAmid 5 = .ok (.aaload, 1) := by decide +kernel
theorem dX2_findAmid_6 : decode cX2_findAmid 6 = .ok (.iload_n 2, 1) := by decide +kernel
theorem dX2_findAmid_7 : decode cX2_findAmid 7 = .ok (.iaload, 1) := by decide +kernel
theorem dX2_findAmid_8 : decode cX2_findAmid 8 = .ok (.istore_n 3, 1) := by decide +kernel
theorem dX2_findAmid_9 : decode cX2_findAmid 9 = .ok (.iconst 0, 1) := by decide +kernel
theorem dX2_findAmid_10 : decode cX2_findAmid 10 = .ok (.istore 4, 2) := by decide +kernel
theorem dX2_findAmid_12 : decode cX2_findAmid 12 = .ok (.iconst 0, 1) := by decide +kernel
theorem dX2_findAmid_13 : decode cX2_findAmid 13 = .ok (.istore 5, 2) := by decide +kernel
theorem dX2_findAmid_15 : decode cX2_findAmid 15 = .ok (.iload_n 3, 1) := by decide +kernel
theorem dX2_findAmid_16 : decode cX2_findAmid 16 = .ok (.iconst (-1), 1) := by decide +kernel
theorem dX2_findAmid_17 : decode cX2_findAmid 17 = .ok (.if_icmp .eq 63, 3) := by decide +kernel
theorem dX2_findAmid_20 : decode cX2_findAmid 20 = .ok (.iload 5, 2) := by decide +kernel
theorem dX2_findAmid_22 : decode cX2_findAmid 22 = .ok (.aload_n 0, 1) := by decide +kernel
theorem dX2_findAmid_23 : decode cX2_findAmid 23 = .ok (.getfield 18, 3) := by decide +kernel
theorem dX2_findAmid_26 : decode cX2_findAmid 26 = .ok (.if_icmp .ge 54, 3) := by decide +kernel
theorem dX2_findAmid_29 : decode cX2_findAmid 29 = .ok (.aload_n 0, 1) := by decide +kernel
theorem dX2_findAmid_30 : decode cX2_findAmid 30 = .ok (.getfield 28, 3) := by decide +kernel
theorem dX2_findAmid_33 : decode cX2_findAmid 33 = .ok (.iload_n 1, 1) := by decide +kernel
theorem dX2_findAmid_34 : decode cX2_findAmid 34 = .ok (.aaload, 1) := by decide +kernel
theorem dX2_findAmid_35 : decode cX2_findAmid 35 = .ok (.iload 5, 2) := by decide +kernel
theorem dX2_findAmid_37 : decode cX2_findAmid 37 = .ok (.iaload, 1) := by decide +kernel
theorem dX2_findAmid_38 : decode cX2_findAmid 38 = .ok (.iconst (-1), 1) := by decide +kernel
theorem dX2_findAmid_39 : decode cX2_findAmid 39 = .ok (.if_icmp .eq 35, 3) := by decide +kernel
theorem dX2_findAmid_42 : decode cX2_findAmid 42 = .ok (.aload_n 0, 1) := by decide +kernel
theorem dX2_findAmid_43 : decode cX2_findAmid 43 = .ok (.getfield 28, 3) := by decide +kernel
theorem dX2_findAmid_46 : decode cX2_findAmid 46 = .ok (.iload_n 1, 1) := by decide +kernel
theorem dX2_findAmid_47 : decode cX2_findAmid 47 = .ok (.aaload, 1) := by decide +kernel
theorem dX2_findAmid_48 : decode cX2_findAmid 48 = .ok (.iload 5, 2) := by decide +kernel
theorem dX2_findAmid_50 : decode cX2_findAmid 50 = .ok (.iaload, 1) := by decide +kernel
theorem dX2_findAmid_51 : decode cX2_findAmid 51 = .ok (.aload_n 0, 1) := by decide +kernel
theorem dX2_findAmid_52 : decode cX2_findAmid 52 = .ok (.getfield 28, 3) := by decide +kernel
theorem dX2_findAmid_55 : decode cX2_findAmid 55 = .ok (.iload_n 2, 1) := by decide +kernel
theorem dX2_findAmid_56 : decode cX2_findAmid 56 = .ok (.aaload, 1) := by decide +kernel
theorem dX2_findAmid_57 : decode cX2_findAmid 57 = .ok (.iload 5, 2) := by decide +kernel
theorem dX2_findAmid_59 : decode cX2_findAmid 59 = .ok (.iaload, 1) := by decide +kernel
theorem dX2_findAmid_60 : decode cX2_findAmid 60 = .ok (.iadd, 1) := by decide +kernel
theorem dX2_findAmid_61 : decode cX2_findAmid 61 = .ok (.iload_n 3, 1) := by decide +kernel
theorem dX2_findAmid_62 : decode cX2_findAmid 62 = .ok (.if_icmp .ne 12, 3) := by decide +kernel
theorem dX2_findAmid_65 : decode cX2_findAmid 65 = .ok (.iload 4, 2) := by decide +kernel
theorem dX2_findAmid_67 : decode cX2_findAmid 67 = .ok (.iconst 1, 1) := by decide +kernel
theorem dX2_findAmid_68 : decode cX2_findAmid 68 = .ok (.iload 5, 2) := by decide +kernel
theorem dX2_findAmid_70 : decode cX2_findAmid 70 = .ok (.ishl, 1) := by decide +kernel
theorem dX2_findAmid_71 : decode cX2_findAmid 71 = .ok (.ior, 1) := by decide +kernel
theorem dX2_findAmid_72 : decode cX2_findAmid 72 = .ok (.istore 4, 2) := by decide +kernel
theorem dX2_findAmid_74 : decode cX2_findAmid 74 = .ok (.iinc 5 1, 3) := by decide +kernel
theorem dX2_findAmid_77 : decode cX2_findAmid 77 = .ok (.goto (-62), 3) := by decide +kernel
theorem dX2_findAmid_80 : decode cX2_findAmid 80 = .ok (.iload 4, 2) := by decide +kernel
theorem dX2_findAmid_82 : decode cX2_findAmid 82 = .ok (.ireturn, 1) := by decide +kernel
theorem dX2_mostFrom_0 : decode cX2_mostFrom 0 = .ok (.iconst 0, 1) := by decide +kernel
theorem dX2_mostFrom_1 : decode cX2_mostFrom 1 = .ok (.istore_n 2, 1) := by decide +kernel
theorem dX2_mostFrom_2 : decode cX2_mostFrom 2 = .ok (.iconst 0, 1) := by decide +kernel
theorem dX2_mostFrom_3 : decode cX2_mostFrom 3 = .ok (.istore_n 3, 1) := by decide +kernel
theorem dX2_mostFrom_4 : decode cX2_mostFrom 4 = .ok (.iload_n 3, 1) := by decide +kernel
theorem dX2_mostFrom_5 : decode cX2_mostFrom 5 = .ok (.aload_n 0, 1) := by decide +kernel
theorem dX2_mostFrom_6 : decode cX2_mostFrom 6 = .ok (.getfield 18, 3) := by decide +kernel
theorem dX2_mostFrom_9 : decode cX2_mostFrom 9 = .ok (.if_icmp .ge 22, 3) := by decide +kernel
theorem dX2_mostFrom_12 : decode cX2_mostFrom 12 = .ok (.iload_n 2, 1) := by decide +kernel
theorem dX2_mostFrom_13 : decode cX2_mostFrom 13 = .ok (.aload_n 0, 1) := by decide +kernel
theorem dX2_mostFrom_14 : decode cX2_mostFrom 14 = .ok (.getfield 28, 3) := by decide +kernel
theorem dX2_mostFrom_17 : decode cX2_mostFrom 17 = .ok (.iload_n 1, 1) := by decide +kernel
theorem dX2_mostFrom_18 : decode cX2_mostFrom 18 = .ok (.aaload, 1) := by decide +kernel
theorem dX2_mostFrom_19 : decode cX2_mostFrom 19 = .ok (.iload_n 3, 1) := by decide +kernel
theorem dX2_mostFrom_20 : decode cX2_mostFrom 20 = .ok (.iaload, 1) := by decide +kernel
theorem dX2_mostFrom_21 : decode cX2_mostFrom 21 = .ok (.invokestatic 81, 3) := by decide +kernel
theorem dX2_mostFrom_24 : decode cX2_mostFrom 24 = .ok (.istore_n 2, 1) := by decide +kernel
theorem dX2_mostFrom_25 : decode cX2_mostFrom 25 = .ok (.iinc 3 1, 3) := by decide +kernel
theorem dX2_mostFrom_28 : decode cX2_mostFrom 28 = .ok (.goto (-24), 3) := by decide +kernel
theorem dX2_mostFrom_31 : decode cX2_mostFrom 31 = .ok (.iload_n 2, 1) := by decide +kernel
theorem dX2_mostFrom_32 : decode cX2_mostFrom 32 = .ok (.ireturn, 1) := by decide +kernel
theorem dX2_sumAll_0 : decode cX2_sumAll 0 = .ok (.iconst 0, 1) := by decide +kernel
theorem dX2_sumAll_1 : decode cX2_sumAll 1 = .ok (.istore_n 1, 1) := by decide +kernel
theorem dX2_sumAll_2 : decode cX2_sumAll 2 = .ok (.iconst 0, 1) := by decide +kernel
theorem dX2_sumAll_3 : decode cX2_sumAll 3 = .ok (.istore_n 2, 1) := by decide +kernel
theorem dX2_sumAll_4 : decode cX2_sumAll 4 = .ok (.iload_n 2, 1) := by decide +kernel
theorem dX2_sumAll_5 : decode cX2_sumAll 5 = .ok (.aload_n 0, 1) := by decide +kernel
theorem dX2_sumAll_6 : decode cX2_sumAll 6 = .ok (.getfield 18, 3) := by decide +kernel
theorem dX2_sumAll_9 : decode cX2_sumAll 9 = .ok (.if_icmp .ge 42, 3) := by decide +kernel
theorem dX2_sumAll_12 : decode cX2_sumAll 12 = .ok (.iload_n 2, 1) := by decide +kernel
theorem dX2_sumAll_13 : decode cX2_sumAll 13 = .ok (.iconst 1, 1) := by decide +kernel
theorem dX2_sumAll_14 : decode cX2_sumAll 14 = .ok (.iadd, 1) := by decide +kernel
theorem dX2_sumAll_15 : decode cX2_sumAll 15 = .ok (.istore_n 3, 1) := by decide +kernel
theorem dX2_sumAll_16 : decode cX2_sumAll 16 = .ok (.iload_n 3, 1) := by decide +kernel
theorem dX2_sumAll_17 : decode cX2_sumAll 17 = .ok (.aload_n 0, 1) := by decide +kernel
theorem dX2_sumAll_18 : decode cX2_sumAll 18 = .ok (.getfield 18, 3) := by decide +kernel
theorem dX2_sumAll_21 : decode cX2_sumAll 21 = .ok (.if_icmp .ge 24, 3) := by decide +kernel
theorem dX2_sumAll_24 : decode cX2_sumAll 24 = .ok (.iload_n 1, 1) := by decide +kernel
theorem dX2_sumAll_25 : decode cX2_sumAll 25 = .ok (.iconst 0, 1) := by decide +kernel
theorem dX2_sumAll_26 : decode cX2_sumAll 26 = .ok (.aload_n 0, 1) := by decide +kernel
theorem dX2_sumAll_27 : decode cX2_sumAll 27 = .ok (.getfield 28, 3) := by decide +kernel
theorem dX2_sumAll_30 : decode cX2_sumAll 30 = .ok (.iload_n 2, 1) := by decide +kernel
theorem dX2_sumAll_31 : decode cX2_sumAll 31 = .ok (.aaload, 1) := by decide +kernel
theorem dX2_sumAll_32 : decode cX2_sumAll 32 = .ok (.iload_n 3, 1) := by decide +kernel
theorem dX2_sumAll_33 : decode cX2_sumAll 33 = .ok (.iaload, 1) := by decide +kernel
theorem dX2_sumAll_34 : decode cX2_sumAll 34 = .ok (.invokestatic 81, 3) := by decide +kernel
theorem dX2_sumAll_37 : decode cX2_sumAll 37 = .ok (.iadd, 1) := by decide +kernel
theorem dX2_sumAll_38 : decode cX2_sumAll 38 = .ok (.istore_n 1, 1) := by decide +kernel
theorem dX2_sumAll_39 : decode cX2_sumAll 39 = .ok (.iinc 3 1, 3) := by decide +kernel
theorem dX2_sumAll_42 : decode cX2_sumAll 42 = .ok (.goto (-26), 3) := by decide +kernel
theorem dX2_sumAll_45 : decode cX2_sumAll 45 = .ok (.iinc 2 1, 3) := by decide +kernel
theorem dX2_sumAll_48 : decode cX2_sumAll 48 = .ok (.goto (-44), 3) := by decide +kernel
theorem dX2_sumAll_51 : decode cX2_sumAll 51 = .ok (.iload_n 1, 1) := by decide +kernel
theorem dX2_sumAll_52 : decode cX2_sumAll 52 = .ok (.ireturn, 1) := by decide +kernel
theorem dX2_areAlike_0 : decode cX2_areAlike 0 = .ok (.aload_n 0, 1) := by decide +kernel
theorem dX2_areAlike_1 : decode cX2_areAlike 1 = .ok (.getfield 28, 3) := by decide +kernel
theorem dX2_areAlike_4 : decode cX2_areAlike 4 = .ok (.aload_n 1, 1) := by decide +kernel
theorem dX2_areAlike_5 : decode cX2_areAlike 5 = .ok (.getfield 47, 3) := by decide +kernel
theorem dX2_areAlike_8 : decode cX2_areAlike 8 = .ok (.iload_n 2, 1) := by decide +kernel
theorem dX2_areAlike_9 : decode cX2_areAlike 9 = .ok (.iaload, 1) := by decide +kernel
theorem dX2_areAlike_10 : decode cX2_areAlike 10 = .ok (.aaload, 1) := by decide +kernel
theorem dX2_areAlike_11 : decode cX2_areAlike 11 = .ok (.astore 4, 2) := by decide +kernel
theorem dX2_areAlike_13 : decode cX2_areAlike 13 = .ok (.aload_n 0, 1) := by decide +kernel
theorem dX2_areAlike_14 : decode cX2_areAlike 14 = .ok (.getfield 28, 3) := by decide +kernel
theorem dX2_areAlike_17 : decode cX2_areAlike 17 = .ok (.aload_n 1, 1) := by decide +kernel
theorem dX2_areAlike_18 : decode cX2_areAlike 18 = .ok (.getfield 50, 3) := by decide +kernel
theorem dX2_areAlike_21 : decode cX2_areAlike 21 = .ok (.iload_n 2, 1) := by decide +kernel
theorem dX2_areAlike_22 : decode cX2_areAlike 22 = .ok (.iaload, 1) := by decide +kernel
theorem dX2_areAlike_23 : decode cX2_areAlike 23 = .ok (.aaload, 1) := by decide +kernel
theorem dX2_areAlike_24 : decode cX2_areAlike 24 = .ok (.astore 5, 2) := by decide +kernel
theorem dX2_areAlike_26 : decode cX2_areAlike 26 = .ok (.aload_n 1, 1) := by decide +kernel
theorem dX2_areAlike_27 : decode cX2_areAlike 27 = .ok (.getfield 47, 3) := by decide +kernel
theorem dX2_areAlike_30 : decode cX2_areAlike 30 = .ok (.iload_n 3, 1) := by decide +kernel
theorem dX2_areAlike_31 : decode cX2_areAlike 31 = .ok (.iaload, 1) := by decide +kernel
theorem dX2_areAlike_32 : decode cX2_areAlike 32 = .ok (.istore 6, 2) := by decide +kernel
theorem dX2_areAlike_34 : decode cX2_areAlike 34 = .ok (.aload_n 1, 1) := by decide +kernel
theorem dX2_areAlike_35 : decode cX2_areAlike 35 = .ok (.getfield 50, 3) := by decide +kernel
theorem dX2_areAlike_38 : decode cX2_areAlike 38 = .ok (.iload_n 3, 1) := by decide +kernel
theorem dX2_areAlike_39 : decode cX2_areAlike 39 = .ok (.iaload, 1) := by decide +kernel
theorem dX2_areAlike_40 : decode cX2_areAlike 40 = .ok (.istore 7, 2) := by decide +kernel
theorem dX2_areAlike_42 : decode cX2_areAlike 42 = .ok (.aload 4, 2) := by decide +kernel
theorem dX2_areAlike_44 : decode cX2_areAlike 44 = .ok (.iload 6, 2) := by decide +kernel
theorem dX2_areAlike_46 : decode cX2_areAlike 46 = .ok (.iaload, 1) := by decide +kernel
theorem dX2_areAlike_47 : decode cX2_areAlike 47 = .ok (.iconst (-1), 1) := by decide +kernel
theorem dX2_areAlike_48 : decode cX2_areAlike 48 = .ok (.if_icmp .ne 5, 3) := by decide +kernel
theorem dX2_areAlike_51 : decode cX2_areAlike 51 = .ok (.iconst 0, 1) := by decide +kernel
theorem dX2_areAlike_52 : decode cX2_areAlike 52 = .ok (.ireturn, 1) := by decide +kernel
theorem dX2_areAlike_53 : decode cX2_areAlike 53 = .ok (.aload 4, 2) := by decide +kernel
theorem dX2_areAlike_55 : decode cX2_areAlike 55 = .ok (.iload 6, 2) := by decide +kernel
theorem dX2_areAlike_57 : decode cX2_areAlike 57 = .ok (.iaload, 1) := by decide +kernel
theorem dX2_areAlike_58 : decode cX2_areAlike 58 = .ok (.aload 5, 2) := by decide +kernel
theorem dX2_areAlike_60 : decode cX2_areAlike 60 = .ok (.iload 7, 2) := by decide +kernel
theorem dX2_areAlike_62 : decode cX2_areAlike 62 = .ok (.iaload, 1) := by decide +kernel
theorem dX2_areAlike_63 : decode cX2_areAlike 63 = .ok (.iadd, 1) := by decide +kernel
theorem dX2_areAlike_64 : decode cX2_areAlike 64 = .ok (.aload 4, 2) := by decide +kernel
theorem dX2_areAlike_66 : decode cX2_areAlike 66 = .ok (.iload 7, 2) := by decide +kernel
theorem dX2_areAlike_68 : decode cX2_areAlike 68 = .ok (.iaload, 1) := by decide +kernel
theorem dX2_areAlike_69 : decode cX2_areAlike 69 = .ok (.aload 5, 2) := by decide +kernel
theorem dX2_areAlike_71 : decode cX2_areAlike 71 = .ok (.iload 6, 2) := by decide +kernel
theorem dX2_areAlike_73 : decode cX2_areAlike 73 = .ok (.iaload, 1) := by decide +kernel
theorem dX2_areAlike_74 : decode cX2_areAlike 74 = .ok (.iadd, 1) := by decide +kernel
theorem dX2_areAlike_75 : decode cX2_areAlike 75 = .ok (.if_icmp .eq 7, 3) := by decide +kernel
theorem dX2_areAlike_78 : decode cX2_areAlike 78 = .ok (.iconst 1, 1) := by decide +kernel
theorem dX2_areAlike_79 : decode cX2_areAlike 79 = .ok (.goto 4, 3) := by decide +kernel
theorem dX2_areAlike_82 : decode cX2_areAlike 82 = .ok (.iconst 0, 1) := by decide +kernel
theorem dX2_areAlike_83 : decode cX2_areAlike 83 = .ok (.ireturn, 1) := by decide +kernel
theorem dX2_firstWithoutMedian_0 : decode cX2_firstWithoutMedian 0 = .ok (.iconst 0, 1) := by decide +kernel
theorem dX2_firstWithoutMedian_1 : decode cX2_firstWithoutMedian 1 = .ok (.istore_n 1, 1) := by decide +kernel
theorem dX2_firstWithoutMedian_2 : decode cX2_firstWithoutMedian 2 = .ok (.iload_n 1, 1) := by decide +kernel
theorem dX2_firstWithoutMedian_3 : decode cX2_firstWithoutMedian 3 = .ok (.aload_n 0, 1) := by decide +kernel
theorem dX2_firstWithoutMedian_4 : decode cX2_firstWithoutMedian 4 = .ok (.getfield 18, 3) := by decide +kernel
theorem dX2_firstWithoutMedian_7 : decode cX2_firstWithoutMedian 7 = .ok (.if_icmp .ge 88, 3) := by decide +kernel
theorem dX2_firstWithoutMedian_10 : decode cX2_firstWithoutMedian 10 = .ok (.iload_n 1, 1) := by decide +kernel
theorem dX2_firstWithoutMedian_11 : decode cX2_firstWithoutMedian 11 = .ok (.iconst 1, 1) := by decide +kernel
theorem dX2_firstWithoutMedian_12 : decode cX2_firstWithoutMedian 12 = .ok (.iadd, 1) := by decide +kernel
theorem dX2_firstWithoutMedian_13 : decode cX2_firstWithoutMedian 13 = .ok (.istore_n 2, 1) := by decide +kernel
theorem dX2_firstWithoutMedian_14 : decode cX2_firstWithoutMedian 14 = .ok (.iload_n 2, 1) := by decide +kernel
theorem dX2_firstWithoutMedian_15 : decode cX2_firstWithoutMedian 15 = .ok (.aload_n 0, 1) := by decide +kernel
theorem dX2_firstWithoutMedian_16 : decode cX2_firstWithoutMedian 16 = .ok (.getfield 18, 3) := by decide +kernel
theorem dX2_firstWithoutMedian_19 : decode cX2_firstWithoutMedian 19 = .ok (.if_icmp .ge 70, 3) := by decide +kernel
theorem dX2_firstWithoutMedian_22 : decode cX2_firstWithoutMedian 22 = .ok (.iload_n 2, 1) := by decide +kernel
theorem dX2_firstWithoutMedian_23 : decode cX2_firstWithoutMedian 23 = .ok (.iconst 1, 1) := by decide +kernel
theorem dX2_firstWithoutMedian_24 : decode cX2_firstWithoutMedian 24 = .ok (.iadd, 1) := by decide +kernel
theorem dX2_firstWithoutMedian_25 : decode cX2_firstWithoutMedian 25 = .ok (.istore_n 3, 1) := by decide +kernel
theorem dX2_firstWithoutMedian_26 : decode cX2_firstWithoutMedian 26 = .ok (.iload_n 3, 1) := by decide +kernel
theorem dX2_firstWithoutMedian_27 : decode cX2_firstWithoutMedian 27 = .ok (.aload_n 0, 1) := by decide +kernel
theorem dX2_firstWithoutMedian_28 : decode cX2_firstWithoutMedian 28 = .ok (.getfield 18, 3) := by decide +kernel
theorem dX2_firstWithoutMedian_31 : decode cX2_firstWithoutMedian 31 = .ok (.if_icmp .ge 52, 3) := by decide +kernel
theorem dX2_firstWithoutMedian_34 : decode cX2_firstWithoutMedian 34 = .ok (.aload_n 0, 1) := by decide +kernel
theorem dX2_firstWithoutMedian_35 : decode cX2_firstWithoutMedian 35 = .ok (.iload_n 1, 1) := by decide +kernel
theorem dX2_firstWithoutMedian_36 : decode cX2_firstWithoutMedian 36 = .ok (.iload_n 2, 1) := by decide +kernel
theorem dX2_firstWithoutMedian_37 : decode cX2_firstWithoutMedian 37 = .ok (.invokevirtual 84, 3) := by decide +kernel
theorem dX2_firstWithoutMedian_40 : decode cX2_firstWithoutMedian 40 = .ok (.aload_n 0, 1) := by decide +kernel
theorem dX2_firstWithoutMedian_41 : decode cX2_firstWithoutMedian 41 = .ok (.iload_n 2, 1) := by decide +kernel
theorem dX2_firstWithoutMedian_42 : decode cX2_firstWithoutMedian 42 = .ok (.iload_n 3, 1) := by decide +kernel
theorem dX2_firstWithoutMedian_43 : decode cX2_firstWithoutMedian 43 = .ok (.invokevirtual 84, 3) := by decide +kernel
theorem dX2_firstWithoutMedian_46 : decode cX2_firstWithoutMedian 46 = .ok (.iand, 1) := by decide +kernel
theorem dX2_firstWithoutMedian_47 : decode cX2_firstWithoutMedian 47 = .ok (.aload_n 0, 1) := by decide +kernel
theorem dX2_firstWithoutMedian_48 : decode cX2_firstWithoutMedian 48 = .ok (.iload_n 1, 1) := by decide +kernel
theorem dX2_firstWithoutMedian_49 : decode cX2_firstWithoutMedian 49 = .ok (.iload_n 3, 1) := by decide +kernel
theorem dX2_firstWithoutMedian_50 : decode cX2_firstWithoutMedian 50 = .ok (.invokevirtual 84, 3) := by decide +kernel
theorem dX2_firstWithoutMedian_53 : decode cX2_firstWithoutMedian 53 = .ok (.iand, 1) := by decide +kernel
theorem dX2_firstWithoutMedian_54 : decode cX2_firstWithoutMedian 54 = .ok (.istore 4, 2) := by decide +kernel
theorem dX2_firstWithoutMedian_56 : decode cX2_firstWithoutMedian 56 = .ok (.iload 4, 2) := by decide +kernel
theorem dX2_firstWithoutMedian_58 : decode cX2_firstWithoutMedian 58 = .ok (.invokestatic 87, 3) := by decide +kernel
theorem dX2_firstWithoutMedian_61 : decode cX2_firstWithoutMedian 61 = .ok (.iconst 1, 1) := by decide +kernel
theorem dX2_firstWithoutMedian_62 : decode cX2_firstWithoutMedian 62 = .ok (.if_icmp .eq 15, 3) := by decide +kernel
theorem dX2_firstWithoutMedian_65 : decode cX2_firstWithoutMedian 65 = .ok (.iload_n 1, 1) := by decide +kernel
theorem dX2_firstWithoutMedian_66 : decode cX2_firstWithoutMedian 66 = .ok (.bipush 16, 2) := by decide +kernel
theorem dX2_firstWithoutMedian_68 : decode cX2_firstWithoutMedian 68 = .ok (.ishl, 1) := by decide +kernel
theorem dX2_firstWithoutMedian_69 : decode cX2_firstWithoutMedian 69 = .ok (.iload_n 2, 1) := by decide +kernel
theorem dX2_firstWithoutMedian_70 : decode cX2_firstWithoutMedian 70 = .ok (.bipush 8, 2) := by decide +kernel
theorem dX2_firstWithoutMedian_72 : decode cX2_firstWithoutMedian 72 = .ok (.ishl, 1) := by decide +kernel
theorem dX2_firstWithoutMedian_73 : decode cX2_firstWithoutMedian 73 = .ok (.ior, 1) := by decide +kernel
theorem dX2_firstWithoutMedian_74 : decode cX2_firstWithoutMedian 74 = .ok (.iload_n 3, 1) := by decide +kernel
theorem dX2_firstWithoutMedian_75 : decode cX2_firstWithoutMedian 75 = .ok (.ior, 1) := by decide +kernel
theorem dX2_firstWithoutMedian_76 : decode cX2_firstWithoutMedian 76 = .ok (.ireturn, 1) := by decide +kernel
theorem dX2_firstWithoutMedian_77 : decode cX2_firstWithoutMedian 77 = .ok (.iinc 3 1, 3) := by decide +kernel
theorem dX2_firstWithoutMedian_80 : decode cX2_firstWithoutMedian 80 = .ok (.goto (-54), 3) := by decide +kernel
theorem dX2_firstWithoutMedian_83 : decode cX2_firstWithoutMedian 83 = .ok (.iinc 2 1, 3) := by decide +kernel
theorem dX2_firstWithoutMedian_86 : decode cX2_firstWithoutMedian 86 = .ok (.goto (-72), 3) := by decide +kernel
theorem dX2_firstWithoutMedian_89 : decode cX2_firstWithoutMedian 89 = .ok (.iinc 1 1, 3) := by decide +kernel
theorem dX2_firstWithoutMedian_92 : decode cX2_firstWithoutMedian 92 = .ok (.goto (-90), 3) := by decide +kernel
theorem dX2_firstWithoutMedian_95 : decode cX2_firstWithoutMedian 95 = .ok (.iconst (-1), 1) := by decide +kernel
theorem dX2_firstWithoutMedian_96 : decode cX2_firstWithoutMedian 96 = .ok (.ireturn, 1) := by decide +kernel
theorem dX2_isTrue_0 : decode cX2_isTrue 0 = .ok (.iconst 0, 1) := by decide +kernel
theorem dX2_isTrue_1 : decode cX2_isTrue 1 = .ok (.istore_n 2, 1) := by decide +kernel
theorem dX2_isTrue_2 : decode cX2_isTrue 2 = .ok (.iload_n 2, 1) := by decide +kernel
theorem dX2_isTrue_3 : decode cX2_isTrue 3 = .ok (.aload_n 0, 1) := by decide +kernel
theorem dX2_isTrue_4 : decode cX2_isTrue 4 = .ok (.getfield 18, 3) := by decide +kernel
theorem dX2_isTrue_7 : decode cX2_isTrue 7 = .ok (.if_icmp .ge 28, 3) := by decide +kernel
theorem dX2_isTrue_10 : decode cX2_isTrue 10 = .ok (.iload_n 1, 1) := by decide +kernel
theorem dX2_isTrue_11 : decode cX2_isTrue 11 = .ok (.iload_n 2, 1) := by decide +kernel
theorem dX2_isTrue_12 : decode cX2_isTrue 12 = .ok (.invokestatic 57, 3) := by decide +kernel
theorem dX2_isTrue_15 : decode cX2_isTrue 15 = .ok (.ifCond .eq 14, 3) := by decide +kernel
theorem dX2_isTrue_18 : decode cX2_isTrue 18 = .ok (.aload_n 0, 1) := by decide +kernel
theorem dX2_isTrue_19 : decode cX2_isTrue 19 = .ok (.iload_n 1, 1) := by decide +kernel
theorem dX2_isTrue_20 : decode cX2_isTrue 20 = .ok (.iload_n 2, 1) := by decide +kernel
theorem dX2_isTrue_21 : decode cX2_isTrue 21 = .ok (.invokevirtual 92, 3) := by decide +kernel
theorem dX2_isTrue_24 : decode cX2_isTrue 24 = .ok (.ifCond .ne 5, 3) := by decide +kernel
theorem dX2_isTrue_27 : decode cX2_isTrue 27 = .ok (.iconst 0, 1) := by decide +kernel
theorem dX2_isTrue_28 : decode cX2_isTrue 28 = .ok (.ireturn, 1) := by decide +kernel
theorem dX2_isTrue_29 : decode cX2_isTrue 29 = .ok (.iinc 2 1, 3) := by decide +kernel
theorem dX2_isTrue_32 : decode cX2_isTrue 32 = .ok (.goto (-30), 3) := by decide +kernel
theorem dX2_isTrue_35 : decode cX2_isTrue 35 = .ok (.iconst 1, 1) := by decide +kernel
theorem dX2_isTrue_36 : decode cX2_isTrue 36 = .ok (.ireturn, 1) := by decide +kernel
theorem dX2_isTrueFrom_0 : decode cX2_isTrueFrom 0 = .ok (.iconst 1, 1) := by decide +kernel
theorem dX2_isTrueFrom_1 : decode cX2_isTrueFrom 1 = .ok (.iload_n 2, 1) := by decide +kernel
theorem dX2_isTrueFrom_2 : decode cX2_isTrueFrom 2 = .ok (.ishl, 1) := by decide +kernel
theorem dX2_isTrueFrom_3 : decode cX2_isTrueFrom 3 = .ok (.istore_n 3, 1) := by decide +kernel
theorem dX2_isTrueFrom_4 : decode cX2_isTrueFrom 4 = .ok (.iload_n 3, 1) := by decide +kernel
theorem dX2_isTrueFrom_5 : decode cX2_isTrueFrom 5 = .ok (.istore 4, 2) := by decide +kernel
theorem dX2_isTrueFrom_7 : decode cX2_isTrueFrom 7 = .ok (.iconst 0, 1) := by decide +kernel
theorem dX2_isTrueFrom_8 : decode cX2_isTrueFrom 8 = .ok (.istore 5, 2) := by decide +kernel
theorem dX2_isTrueFrom_10 : decode cX2_isTrueFrom 10 = .ok (.iload 5, 2) := by decide +kernel
theorem dX2_isTrueFrom_12 : decode cX2_isTrueFrom 12 = .ok (.aload_n 0, 1) := by decide +kernel
theorem dX2_isTrueFrom_13 : decode cX2_isTrueFrom 13 = .ok (.getfield 18, 3) := by decide +kernel
theorem dX2_isTrueFrom_16 : decode cX2_isTrueFrom 16 = .ok (.if_icmp .ge 88, 3) := by decide +kernel
theorem dX2_isTrueFrom_19 : decode cX2_isTrueFrom 19 = .ok (.iload 4, 2) := by decide +kernel
theorem dX2_isTrueFrom_21 : decode cX2_isTrueFrom 21 = .ok (.ifCond .eq 83, 3) := by decide +kernel
theorem dX2_isTrueFrom_24 : decode cX2_isTrueFrom 24 = .ok (.iconst 0, 1) := by decide +kernel
theorem dX2_isTrueFrom_25 : decode cX2_isTrueFrom 25 = .ok (.istore 6, 2) := by decide +kernel
theorem dX2_isTrueFrom_27 : decode cX2_isTrueFrom 27 = .ok (.iconst 0, 1) := by decide +kernel
theorem dX2_isTrueFrom_28 : decode cX2_isTrueFrom 28 = .ok (.istore 7, 2) := by decide +kernel
theorem dX2_isTrueFrom_30 : decode cX2_isTrueFrom 30 = .ok (.iload 7, 2) := by decide +kernel
theorem dX2_isTrueFrom_32 : decode cX2_isTrueFrom 32 = .ok (.aload_n 0, 1) := by decide +kernel
theorem dX2_isTrueFrom_33 : decode cX2_isTrueFrom 33 = .ok (.getfield 18, 3) := by decide +kernel
theorem dX2_isTrueFrom_36 : decode cX2_isTrueFrom 36 = .ok (.if_icmp .ge 47, 3) := by decide +kernel
theorem dX2_isTrueFrom_39 : decode cX2_isTrueFrom 39 = .ok (.iload 4, 2) := by decide +kernel
theorem dX2_isTrueFrom_41 : decode cX2_isTrueFrom 41 = .ok (.iload 7, 2) := by decide +kernel
theorem dX2_isTrueFrom_43 : decode cX2_isTrueFrom 43 = .ok (.invokestatic 57, 3) := by decide +kernel
theorem dX2_isTrueFrom_46 : decode cX2_isTrueFrom 46 = .ok (.ifCond .eq 31, 3) := by decide +kernel
theorem dX2_isTrueFrom_49 : decode cX2_isTrueFrom 49 = .ok (.aload_n 0, 1) := by decide +kernel
theorem dX2_isTrueFrom_50 : decode cX2_isTrueFrom 50 = .ok (.getfield 28, 3) := by decide +kernel
theorem dX2_isTrueFrom_53 : decode cX2_isTrueFrom 53 = .ok (.iload_n 2, 1) := by decide +kernel
theorem dX2_isTrueFrom_54 : decode cX2_isTrueFrom 54 = .ok (.aaload, 1) := by decide +kernel
theorem dX2_isTrueFrom_55 : decode cX2_isTrueFrom 55 = .ok (.iload 7, 2) := by decide +kernel
theorem dX2_isTrueFrom_57 : decode cX2_isTrueFrom 57 = .ok (.iaload, 1) := by decide +kernel
theorem dX2_isTrueFrom_58 : decode cX2_isTrueFrom 58 = .ok (.iload 5, 2) := by decide +kernel
theorem dX2_isTrueFrom_60 : decode cX2_isTrueFrom 60 = .ok (.if_icmp .eq 5, 3) := by decide +kernel
theorem dX2_isTrueFrom_63 : decode cX2_isTrueFrom 63 = .ok (.iconst 0, 1) := by decide +kernel
theorem dX2_isTrueFrom_64 : decode cX2_isTrueFrom 64 = .ok (.ireturn, 1) := by decide +kernel
theorem dX2_isTrueFrom_65 : decode cX2_isTrueFrom 65 = .ok (.iload 6, 2) := by decide +kernel
theorem dX2_isTrueFrom_67 : decode cX2_isTrueFrom 67 = .ok (.aload_n 0, 1) := by decide +kernel
theorem dX2_isTrueFrom_68 : decode cX2_isTrueFrom 68 = .ok (.getfield 22, 3) := by decide +kernel
theorem dX2_isTrueFrom_71 : decode cX2_isTrueFrom 71 = .ok (.iload 7, 2) := by decide +kernel
theorem dX2_isTrueFrom_73 : decode cX2_isTrueFrom 73 = .ok (.iaload, 1) := by decide +kernel
theorem dX2_isTrueFrom_74 : decode cX2_isTrueFrom 74 = .ok (.ior, 1) := by decide +kernel
theorem dX2_isTrueFrom_75 : decode cX2_isTrueFrom 75 = .ok (.istore 6, 2) := by decide +kernel
theorem dX2_isTrueFrom_77 : decode cX2_isTrueFrom 77 = .ok (.iinc 7 1, 3) := by decide +kernel
theorem dX2_isTrueFrom_80 : decode cX2_isTrueFrom 80 = .ok (.goto (-50), 3) := by decide +kernel
theorem dX2_isTrueFrom_83 : decode cX2_isTrueFrom 83 = .ok (.iload 6, 2) := by decide +kernel
theorem dX2_isTrueFrom_85 : decode cX2_isTrueFrom 85 = .ok (.iload_n 1, 1) := by decide +kernel
theorem dX2_isTrueFrom_86 : decode cX2_isTrueFrom 86 = .ok (.iand, 1) := by decide +kernel
theorem dX2_isTrueFrom_87 : decode cX2_isTrueFrom 87 = .ok (.iload_n 3, 1) := by decide +kernel
theorem dX2_isTrueFrom_88 : decode cX2_isTrueFrom 88 = .ok (.iconst (-1), 1) := by decide +kernel
theorem dX2_isTrueFrom_89 : decode cX2_isTrueFrom 89 = .ok (.ixor, 1) := by decide +kernel
theorem dX2_isTrueFrom_90 : decode cX2_isTrueFrom 90 = .ok (.iand, 1) := by decide +kernel
theorem dX2_isTrueFrom_91 : decode cX2_isTrueFrom 91 = .ok (.istore 4, 2) := by decide +kernel
theorem dX2_isTrueFrom_93 : decode cX2_isTrueFrom 93 = .ok (.iload_n 3, 1) := by decide +kernel
theorem dX2_isTrueFrom_94 : decode cX2_isTrueFrom 94 = .ok (.iload 4, 2) := by decide +kernel
theorem dX2_isTrueFrom_96 : decode cX2_isTrueFrom 96 = .ok (.ior, 1) := by decide +kernel
theorem dX2_isTrueFrom_97 : decode cX2_isTrueFrom 97 = .ok (.istore_n 3, 1) := by decide +kernel
theorem dX2_isTrueFrom_98 : decode cX2_isTrueFrom 98 = .ok (.iinc 5 1, 3) := by decide +kernel
theorem dX2_isTrueFrom_101 : decode cX2_isTrueFrom 101 = .ok (.goto (-91), 3) := by decide +kernel
theorem dX2_isTrueFrom_104 : decode cX2_isTrueFrom 104 = .ok (.iload_n 3, 1) := by decide +kernel
theorem dX2_isTrueFrom_105 : decode cX2_isTrueFrom 105 = .ok (.iload_n 1, 1) := by decide +kernel
theorem dX2_isTrueFrom_106 : decode cX2_isTrueFrom 106 = .ok (.if_icmp .ne 7, 3) := by decide +kernel
theorem dX2_isTrueFrom_109 : decode cX2_isTrueFrom 109 = .ok (.iconst 1, 1) := by decide +kernel
theorem dX2_isTrueFrom_110 : decode cX2_isTrueFrom 110 = .ok (.goto 4, 3) := by decide +kernel
theorem dX2_isTrueFrom_113 : decode cX2_isTrueFrom 113 = .ok (.iconst 0, 1) := by decide +kernel
theorem dX2_isTrueFrom_114 : decode cX2_isTrueFrom 114 = .ok (.ireturn, 1) := by decide +kernel
theorem dX2_widen_0 : decode cX2_widen 0 = .ok (.iload_n 1, 1) := by decide +kernel
theorem dX2_widen_1 : decode cX2_widen 1 = .ok (.istore_n 2, 1) := by decide +kernel
theorem dX2_widen_2 : decode cX2_widen 2 = .ok (.iconst 0, 1) := by decide +kernel
theorem dX2_widen_3 : decode cX2_widen 3 = .ok (.istore_n 3, 1) := by decide +kernel
theorem dX2_widen_4 : decode cX2_widen 4 = .ok (.iload_n 3, 1) := by decide +kernel
theorem dX2_widen_5 : decode cX2_widen 5 = .ok (.aload_n 0, 1) := by decide +kernel
theorem dX2_widen_6 : decode cX2_widen 6 = .ok (.getfield 18, 3) := by decide +kernel
theorem dX2_widen_9 : decode cX2_widen 9 = .ok (.if_icmp .ge 56, 3) := by decide +kernel
theorem dX2_widen_12 : decode cX2_widen 12 = .ok (.iload_n 3, 1) := by decide +kernel
theorem dX2_widen_13 : decode cX2_widen 13 = .ok (.iconst 1, 1) := by decide +kernel
theorem dX2_widen_14 : decode cX2_widen 14 = .ok (.iadd, 1) := by decide +kernel
theorem dX2_widen_15 : decode cX2_widen 15 = .ok (.istore 4, 2) := by decide +kernel
theorem dX2_widen_17 : decode cX2_widen 17 = .ok (.iload_n 1, 1) := by decide +kernel
theorem dX2_widen_18 : decode cX2_widen 18 = .ok (.iload_n 3, 1) := by decide +kernel
theorem dX2_widen_19 : decode cX2_widen 19 = .ok (.invokestatic 57, 3) := by decide +kernel
theorem dX2_widen_22 : decode cX2_widen 22 = .ok (.ifCond .eq 37, 3) := by decide +kernel
theorem dX2_widen_25 : decode cX2_widen 25 = .ok (.iload 4, 2) := by decide +kernel
theorem dX2_widen_27 : decode cX2_widen 27 = .ok (.aload_n 0, 1) := by decide +kernel
theorem dX2_widen_28 : decode cX2_widen 28 = .ok (.getfield 18, 3) := by decide +kernel
theorem dX2_widen_31 : decode cX2_widen 31 = .ok (.if_icmp .ge 28, 3) := by decide +kernel
theorem dX2_widen_34 : decode cX2_widen 34 = .ok (.iload_n 1, 1) := by decide +kernel
theorem dX2_widen_35 : decode cX2_widen 35 = .ok (.iload 4, 2) := by decide +kernel
theorem dX2_widen_37 : decode cX2_widen 37 = .ok (.invokestatic 57, 3) := by decide +kernel
theorem dX2_widen_40 : decode cX2_widen 40 = .ok (.ifCond .eq 13, 3) := by decide +kernel
theorem dX2_widen_43 : decode cX2_widen 43 = .ok (.iload_n 2, 1) := by decide +kernel
theorem dX2_widen_44 : decode cX2_widen 44 = .ok (.aload_n 0, 1) := by decide +kernel
theorem dX2_widen_45 : decode cX2_widen 45 = .ok (.iload_n 3, 1) := by decide +kernel
theorem dX2_widen_46 : decode cX2_widen 46 = .ok (.iload 4, 2) := by decide +kernel
theorem dX2_widen_48 : decode cX2_widen 48 = .ok (.invokevirtual 84, 3) := by decide +kernel
theorem dX2_widen_51 : decode cX2_widen 51 = .ok (.ior, 1) := by decide +kernel
theorem dX2_widen_52 : decode cX2_widen 52 = .ok (.istore_n 2, 1) := by decide +kernel
theorem dX2_widen_53 : decode cX2_widen 53 = .ok (.iinc 4 1, 3) := by decide +kernel
theorem dX2_widen_56 : decode cX2_widen 56 = .ok (.goto (-39), 3) := by decide +kernel
theorem dX2_widen_59 : decode cX2_widen 59 = .ok (.iinc 3 1, 3) := by decide +kernel
theorem dX2_widen_62 : decode cX2_widen 62 = .ok (.goto (-58), 3) := by decide +kernel
theorem dX2_widen_65 : decode cX2_widen 65 = .ok (.iload_n 2, 1) := by decide +kernel
theorem dX2_widen_66 : decode cX2_widen 66 = .ok (.ireturn, 1) := by decide +kernel
theorem dX2_close_0 : decode cX2_close 0 = .ok (.iload_n 1, 1) := by decide +kernel
theorem dX2_close_1 : decode cX2_close 1 = .ok (.istore_n 2, 1) := by decide +kernel
theorem dX2_close_2 : decode cX2_close 2 = .ok (.iconst 0, 1) := by decide +kernel
theorem dX2_close_3 : decode cX2_close 3 = .ok (.istore_n 3, 1) := by decide +kernel
theorem dX2_close_4 : decode cX2_close 4 = .ok (.iload_n 3, 1) := by decide +kernel
theorem dX2_close_5 : decode cX2_close 5 = .ok (.bipush 24, 2) := by decide +kernel
theorem dX2_close_7 : decode cX2_close 7 = .ok (.if_icmp .ge 27, 3) := by decide +kernel
theorem dX2_close_10 : decode cX2_close 10 = .ok (.aload_n 0, 1) := by decide +kernel
theorem dX2_close_11 : decode cX2_close 11 = .ok (.iload_n 2, 1) := by decide +kernel
theorem dX2_close_12 : decode cX2_close 12 = .ok (.invokevirtual 95, 3) := by decide +kernel
theorem dX2_close_15 : decode cX2_close 15 = .ok (.istore 4, 2) := by decide +kernel
theorem dX2_close_17 : decode cX2_close 17 = .ok (.iload 4, 2) := by decide +kernel
theorem dX2_close_19 : decode cX2_close 19 = .ok (.iload_n 2, 1) := by decide +kernel
theorem dX2_close_20 : decode cX2_close 20 = .ok (.if_icmp .ne 5, 3) := by decide +kernel
theorem dX2_close_23 : decode cX2_close 23 = .ok (.iload_n 2, 1) := by decide +kernel
theorem dX2_close_24 : decode cX2_close 24 = .ok (.ireturn, 1) := by decide +kernel
theorem dX2_close_25 : decode cX2_close 25 = .ok (.iload 4, 2) := by decide +kernel
theorem dX2_close_27 : decode cX2_close 27 = .ok (.istore_n 2, 1) := by decide +kernel
theorem dX2_close_28 : decode cX2_close 28 = .ok (.iinc 3 1, 3) := by decide +kernel
theorem dX2_close_31 : decode cX2_close 31 = .ok (.goto (-27), 3) := by decide +kernel
theorem dX2_close_34 : decode cX2_close 34 = .ok (.iload_n 2, 1) := by decide +kernel
theorem dX2_close_35 : decode cX2_close 35 = .ok (.ireturn, 1) := by decide +kernel
theorem dX2_findGate_0 : decode cX2_findGate 0 = .ok (.iconst 0, 1) := by decide +kernel
theorem dX2_findGate_1 : decode cX2_findGate 1 = .ok (.istore_n 3, 1) := by decide +kernel
theorem dX2_findGate_2 : decode cX2_findGate 2 = .ok (.iload_n 3, 1) := by decide +kernel
theorem dX2_findGate_3 : decode cX2_findGate 3 = .ok (.aload_n 0, 1) := by decide +kernel
theorem dX2_findGate_4 : decode cX2_findGate 4 = .ok (.getfield 18, 3) := by decide +kernel
theorem dX2_findGate_7 : decode cX2_findGate 7 = .ok (.if_icmp .ge 29, 3) := by decide +kernel
theorem dX2_findGate_10 : decode cX2_findGate 10 = .ok (.iload_n 2, 1) := by decide +kernel
theorem dX2_findGate_11 : decode cX2_findGate 11 = .ok (.iload_n 3, 1) := by decide +kernel
theorem dX2_findGate_12 : decode cX2_findGate 12 = .ok (.invokestatic 57, 3) := by decide +kernel
theorem dX2_findGate_15 : decode cX2_findGate 15 = .ok (.ifCond .eq 15, 3) := by decide +kernel
theorem dX2_findGate_18 : decode cX2_findGate 18 = .ok (.aload_n 0, 1) := by decide +kernel
theorem dX2_findGate_19 : decode cX2_findGate 19 = .ok (.iload_n 1, 1) := by decide +kernel
theorem dX2_findGate_20 : decode cX2_findGate 20 = .ok (.iload_n 3, 1) := by decide +kernel
theorem dX2_findGate_21 : decode cX2_findGate 21 = .ok (.iload_n 2, 1) := by decide +kernel
theorem dX2_findGate_22 : decode cX2_findGate 22 = .ok (.invokevirtual 98, 3) := by decide +kernel
theorem dX2_findGate_25 : decode cX2_findGate 25 = .ok (.ifCond .eq 5, 3) := by decide +kernel
theorem dX2_findGate_28 : decode cX2_findGate 28 = .ok (.iload_n 3, 1) := by decide +kernel
theorem dX2_findGate_29 : decode cX2_findGate 29 = .ok (.ireturn, 1) := by decide +kernel
theorem dX2_findGate_30 : decode cX2_findGate 30 = .ok (.iinc 3 1, 3) := by decide +kernel
theorem dX2_findGate_33 : decode cX2_findGate 33 = .ok (.goto (-31), 3) := by decide +kernel
theorem dX2_findGate_36 : decode cX2_findGate 36 = .ok (.iconst (-1), 1) := by decide +kernel
theorem dX2_findGate_37 : decode cX2_findGate 37 = .ok (.ireturn, 1) := by decide +kernel
theorem dX2_liesAhead_0 : decode cX2_liesAhead 0 = .ok (.iconst 0, 1) := by decide +kernel
theorem dX2_liesAhead_1 : decode cX2_liesAhead 1 = .ok (.istore 4, 2) := by decide +kernel
theorem dX2_liesAhead_3 : decode cX2_liesAhead 3 = .ok (.iload 4, 2) := by decide +kernel
theorem dX2_liesAhead_5 : decode cX2_liesAhead 5 = .ok (.aload_n 0, 1) := by decide +kernel
theorem dX2_liesAhead_6 : decode cX2_liesAhead 6 = .ok (.getfield 18, 3) := by decide +kernel
theorem dX2_liesAhead_9 : decode cX2_liesAhead 9 = .ok (.if_icmp .ge 50, 3) := by decide +kernel
theorem dX2_liesAhead_12 : decode cX2_liesAhead 12 = .ok (.iload_n 3, 1) := by decide +kernel
theorem dX2_liesAhead_13 : decode cX2_liesAhead 13 = .ok (.iload 4, 2) := by decide +kernel
theorem dX2_liesAhead_15 : decode cX2_liesAhead 15 = .ok (.invokestatic 57, 3) := by decide +kernel
theorem dX2_liesAhead_18 : decode cX2_liesAhead 18 = .ok (.ifCond .eq 35, 3) := by decide +kernel
theorem dX2_liesAhead_21 : decode cX2_liesAhead 21 = .ok (.aload_n 0, 1) := by decide +kernel
theorem dX2_liesAhead_22 : decode cX2_liesAhead 22 = .ok (.getfield 28, 3) := by decide +kernel
theorem dX2_liesAhead_25 : decode cX2_liesAhead 25 = .ok (.iload_n 1, 1) := by decide +kernel
theorem dX2_liesAhead_26 : decode cX2_liesAhead 26 = .ok (.aaload, 1) := by decide +kernel
theorem dX2_liesAhead_27 : decode cX2_liesAhead 27 = .ok (.iload_n 2, 1) := by decide +kernel
theorem dX2_liesAhead_28 : decode cX2_liesAhead 28 = .ok (.iaload, 1) := by decide +kernel
theorem dX2_liesAhead_29 : decode cX2_liesAhead 29 = .ok (.aload_n 0, 1) := by decide +kernel
theorem dX2_liesAhead_30 : decode cX2_liesAhead 30 = .ok (.getfield 28, 3) := by decide +kernel
theorem dX2_liesAhead_33 : decode cX2_liesAhead 33 = .ok (.iload_n 2, 1) := by decide +kernel
theorem dX2_liesAhead_34 : decode cX2_liesAhead 34 = .ok (.aaload, 1) := by decide +kernel
theorem dX2_liesAhead_35 : decode cX2_liesAhead 35 = .ok (.iload 4, 2) := by decide +kernel
theorem dX2_liesAhead_37 : decode cX2_liesAhead 37 = .ok (.iaload, 1) := by decide +kernel
theorem dX2_liesAhead_38 : decode cX2_liesAhead 38 = .ok (.iadd, 1) := by decide +kernel
theorem dX2_liesAhead_39 : decode cX2_liesAhead 39 = .ok (.aload_n 0, 1) := by decide +kernel
theorem dX2_liesAhead_40 : decode cX2_liesAhead 40 = .ok (.getfield 28, 3) := by decide +kernel
theorem dX2_liesAhead_43 : decode cX2_liesAhead 43 = .ok (.iload_n 1, 1) := by decide +kernel
theorem dX2_liesAhead_44 : decode cX2_liesAhead 44 = .ok (.aaload, 1) := by decide +kernel
theorem dX2_liesAhead_45 : decode cX2_liesAhead 45 = .ok (.iload 4, 2) := by decide +kernel
theorem dX2_liesAhead_47 : decode cX2_liesAhead 47 = .ok (.iaload, 1) := by decide +kernel
theorem dX2_liesAhead_48 : decode cX2_liesAhead 48 = .ok (.if_icmp .eq 5, 3) := by decide +kernel
theorem dX2_liesAhead_51 : decode cX2_liesAhead 51 = .ok (.iconst 0, 1) := by decide +kernel
theorem dX2_liesAhead_52 : decode cX2_liesAhead 52 = .ok (.ireturn, 1) := by decide +kernel
theorem dX2_liesAhead_53 : decode cX2_liesAhead 53 = .ok (.iinc 4 1, 3) := by decide +kernel
theorem dX2_liesAhead_56 : decode cX2_liesAhead 56 = .ok (.goto (-53), 3) := by decide +kernel
theorem dX2_liesAhead_59 : decode cX2_liesAhead 59 = .ok (.iconst 1, 1) := by decide +kernel
theorem dX2_liesAhead_60 : decode cX2_liesAhead 60 = .ok (.ireturn, 1) := by decide +kernel
theorem dX3_init_0 : decode cX3_init 0 = .ok (.aload_n 0, 1) := by decide +kernel
theorem dX3_init_1 : decode cX3_init 1 = .ok (.invokespecial 3, 3) := by decide +kernel
theorem dX3_init_4 : decode cX3_init 4 = .ok (.aload_n 0, 1) := by decide +kernel
theorem dX3_init_5 : decode cX3_init 5 = .ok (.iconst 0, 1) := by decide +kernel
theorem dX3_init_6 : decode cX3_init 6 = .ok (.putfield 9, 3) := by decide +kernel
theorem dX3_init_9 : decode cX3_init 9 = .ok (.aload_n 0, 1) := by decide +kernel
theorem dX3_init_10 : decode cX3_init 10 = .ok (.iconst 0, 1) := by decide +kernel
theorem dX3_init_11 : decode cX3_init 11 = .ok (.putfield 15, 3) := by decide +kernel
theorem dX3_init_14 : decode cX3_init 14 = .ok (.aload_n 0, 1) := by decide +kernel
theorem dX3_init_15 : decode cX3_init 15 = .ok (.bipush 20, 2) := by decide +kernel
theorem dX3_init_17 : decode cX3_init 17 = .ok (.anewarray 18, 3) := by decide +kernel
theorem dX3_init_20 : decode cX3_init 20 = .ok (.putfield 20, 3) := by decide +kernel
theorem dX3_init_23 : decode cX3_init 23 = .ok (.iconst 0, 1) := by decide +kernel
theorem dX3_init_24 : decode cX3_init 24 = .ok (.istore_n 1, 1) := by decide +kernel
theorem dX3_init_25 : decode cX3_init 25 = .ok (.iload_n 1, 1) := by decide +kernel
theorem dX3_init_26 : decode cX3_init 26 = .ok (.bipush 20, 2) := by decide +kernel
theorem dX3_init_28 : decode cX3_init 28 = .ok (.if_icmp .ge 22, 3) := by decide +kernel
theorem dX3_init_31 : decode cX3_init 31 = .ok (.aload_n 0, 1) := by decide +kernel
theorem dX3_init_32 : decode cX3_init 32 = .ok (.getfield 20, 3) := by decide +kernel
theorem dX3_init_35 : decode cX3_init 35 = .ok (.iload_n 1, 1) := by decide +kernel
theorem dX3_init_36 : decode cX3_init 36 = .ok (.new 18, 3) := by decide +kernel
theorem dX3_init_39 : decode cX3_init 39 = .ok (.dup, 1) := by decide +kernel
theorem dX3_init_40 : decode cX3_init 40 = .ok (.invokespecial 24, 3) := by decide +kernel
theorem dX3_init_43 : decode cX3_init 43 = .ok (.aastore, 1) := by decide +kernel
theorem dX3_init_44 : decode cX3_init 44 = .ok (.iinc 1 1, 3) := by decide +kernel
theorem dX3_init_47 : decode cX3_init 47 = .ok (.goto (-22), 3) := by decide +kernel
theorem dX3_init_50 : decode cX3_init 50 = .ok (.return_, 1) := by decide +kernel
theorem dX3_forget_0 : decode cX3_forget 0 = .ok (.aload_n 0, 1) := by decide +kernel
theorem dX3_forget_1 : decode cX3_forget 1 = .ok (.iconst 0, 1) := by decide +kernel
theorem dX3_forget_2 : decode cX3_forget 2 = .ok (.putfield 9, 3) := by decide +kernel
theorem dX3_forget_5 : decode cX3_forget 5 = .ok (.return_, 1) := by decide +kernel
theorem dX3_keep_0 : decode cX3_keep 0 = .ok (.aload_n 0, 1) := by decide +kernel
theorem dX3_keep_1 : decode cX3_keep 1 = .ok (.getfield 20, 3) := by decide +kernel
theorem dX3_keep_4 : decode cX3_keep 4 = .ok (.aload_n 0, 1) := by decide +kernel
theorem dX3_keep_5 : decode cX3_keep 5 = .ok (.getfield 15, 3) := by decide +kernel
theorem dX3_keep_8 : decode cX3_keep 8 = .ok (.aaload, 1) := by decide +kernel
theorem dX3_keep_9 : decode cX3_keep 9 = .ok (.aload_n 1, 1) := by decide +kernel
theorem dX3_keep_10 : decode cX3_keep 10 = .ok (.invokevirtual 25, 3) := by decide +kernel
theorem dX3_keep_13 : decode cX3_keep 13 = .ok (.aload_n 0, 1) := by decide +kernel
theorem dX3_keep_14 : decode cX3_keep 14 = .ok (.aload_n 0, 1) := by decide +kernel
theorem dX3_keep_15 : decode cX3_keep 15 = .ok (.getfield 15, 3) := by decide +kernel
theorem dX3_keep_18 : decode cX3_keep 18 = .ok (.iconst 1, 1) := by decide +kernel
theorem dX3_keep_19 : decode cX3_keep 19 = .ok (.iadd, 1) := by decide +kernel
theorem dX3_keep_20 : decode cX3_keep 20 = .ok (.bipush 20, 2) := by decide +kernel
theorem dX3_keep_22 : decode cX3_keep 22 = .ok (.irem, 1) := by decide +kernel
theorem dX3_keep_23 : decode cX3_keep 23 = .ok (.putfield 15, 3) := by decide +kernel
theorem dX3_keep_26 : decode cX3_keep 26 = .ok (.aload_n 0, 1) := by decide +kernel
theorem dX3_keep_27 : decode cX3_keep 27 = .ok (.aload_n 0, 1) := by decide +kernel
theorem dX3_keep_28 : decode cX3_keep 28 = .ok (.getfield 9, 3) := by decide +kernel
theorem dX3_keep_31 : decode cX3_keep 31 = .ok (.iconst 1, 1) := by decide +kernel
theorem dX3_keep_32 : decode cX3_keep 32 = .ok (.iadd, 1) := by decide +kernel
theorem dX3_keep_33 : decode cX3_keep 33 = .ok (.bipush 20, 2) := by decide +kernel
theorem dX3_keep_35 : decode cX3_keep 35 = .ok (.invokestatic 29, 3) := by decide +kernel
theorem dX3_keep_38 : decode cX3_keep 38 = .ok (.putfield 9, 3) := by decide +kernel
theorem dX3_keep_41 : decode cX3_keep 41 = .ok (.return_, 1) := by decide +kernel
theorem dX3_bringBack_0 : decode cX3_bringBack 0 = .ok (.aload_n 0, 1) := by decide +kernel
theorem dX3_bringBack_1 : decode cX3_bringBack 1 = .ok (.getfield 9, 3) := by decide +kernel
theorem dX3_bringBack_4 : decode cX3_bringBack 4 = .ok (.ifCond .le 42, 3) := by decide +kernel
theorem dX3_bringBack_7 : decode cX3_bringBack 7 = .ok (.aload_n 0, 1) := by decide +kernel
theorem dX3_bringBack_8 : decode cX3_bringBack 8 = .ok (.aload_n 0, 1) := by decide +kernel
theorem dX3_bringBack_9 : decode cX3_bringBack 9 = .ok (.getfield 15, 3) := by decide +kernel
theorem dX3_bringBack_12 : decode cX3_bringBack 12 = .ok (.bipush 20, 2) := by decide +kernel
theorem dX3_bringBack_14 : decode cX3_bringBack 14 = .ok (.iadd, 1) := by decide +kernel
theorem dX3_bringBack_15 : decode cX3_bringBack 15 = .ok (.iconst 1, 1) := by decide +kernel
theorem dX3_bringBack_16 : decode cX3_bringBack 16 = .ok (.isub, 1) := by decide +kernel
theorem dX3_bringBack_17 : decode cX3_bringBack 17 = .ok (.bipush 20, 2) := by decide +kernel
theorem dX3_bringBack_19 : decode cX3_bringBack 19 = .ok (.irem, 1) := by decide +kernel
theorem dX3_bringBack_20 : decode cX3_bringBack 20 = .ok (.putfield 15, 3) := by decide +kernel
theorem dX3_bringBack_23 : decode cX3_bringBack 23 = .ok (.aload_n 0, 1) := by decide +kernel
theorem dX3_bringBack_24 : decode cX3_bringBack 24 = .ok (.dup, 1) := by decide +kernel
theorem dX3_bringBack_25 : decode cX3_bringBack 25 = .ok (.getfield 9, 3) := by decide +kernel
theorem dX3_bringBack_28 : decode cX3_bringBack 28 = .ok (.iconst 1, 1) := by decide +kernel
theorem dX3_bringBack_29 : decode cX3_bringBack 29 = .ok (.isub, 1) := by decide +kernel
theorem dX3_bringBack_30 : decode cX3_bringBack 30 = .ok (.putfield 9, 3) := by decide +kernel
theorem dX3_bringBack_33 : decode cX3_bringBack 33 = .ok (.aload_n 1, 1) := by decide +kernel
theorem dX3_bringBack_34 : decode cX3_bringBack 34 = .ok (.aload_n 0, 1) := by decide +kernel
theorem dX3_bringBack_35 : decode cX3_bringBack 35 = .ok (.getfield 20, 3) := by decide +kernel
theorem dX3_bringBack_38 : decode cX3_bringBack 38 = .ok (.aload_n 0, 1) := by decide +kernel
theorem dX3_bringBack_39 : decode cX3_bringBack 39 = .ok (.getfield 15, 3) := by decide +kernel
theorem dX3_bringBack_42 : decode cX3_bringBack 42 = .ok (.aaload, 1) := by decide +kernel
theorem dX3_bringBack_43 : decode cX3_bringBack 43 = .ok (.invokevirtual 25, 3) := by decide +kernel
theorem dX3_bringBack_46 : decode cX3_bringBack 46 = .ok (.return_, 1) := by decide +kernel
theorem dX4_init_0 : decode cX4_init 0 = .ok (.aload_n 0, 1) := by decide +kernel
theorem dX4_init_1 : decode cX4_init 1 = .ok (.invokespecial 3, 3) := by decide +kernel
theorem dX4_init_4 : decode cX4_init 4 = .ok (.aload_n 0, 1) := by decide +kernel
theorem dX4_init_5 : decode cX4_init 5 = .ok (.bipush 123, 2) := by decide +kernel
theorem dX4_init_7 : decode cX4_init 7 = .ok (.newarray .int, 2) := by decide +kernel
theorem dX4_init_9 : decode cX4_init 9 = .ok (.putfield 9, 3) := by decide +kernel
theorem dX4_init_12 : decode cX4_init 12 = .ok (.aload_n 0, 1) := by decide +kernel
theorem dX4_init_13 : decode cX4_init 13 = .ok (.iconst 0, 1) := by decide +kernel
theorem dX4_init_14 : decode cX4_init 14 = .ok (.putfield 15, 3) := by decide +kernel
theorem dX4_init_17 : decode cX4_init 17 = .ok (.aload_n 0, 1) := by decide +kernel
theorem dX4_init_18 : decode cX4_init 18 = .ok (.new 19, 3) := by decide +kernel
theorem dX4_init_21 : decode cX4_init 21 = .ok (.dup, 1) := by decide +kernel
theorem dX4_init_22 : decode cX4_init 22 = .ok (.invokespecial 21, 3) := by decide +kernel
theorem dX4_init_25 : decode cX4_init 25 = .ok (.putfield 22, 3) := by decide +kernel
theorem dX4_init_28 : decode cX4_init 28 = .ok (.return_, 1) := by decide +kernel
theorem dX4_write_0 : decode cX4_write 0 = .ok (.aload_n 0, 1) := by decide +kernel
theorem dX4_write_1 : decode cX4_write 1 = .ok (.iconst 0, 1) := by decide +kernel
theorem dX4_write_2 : decode cX4_write 2 = .ok (.putfield 15, 3) := by decide +kernel
theorem dX4_write_5 : decode cX4_write 5 = .ok (.aload_n 0, 1) := by decide +kernel
theorem dX4_write_6 : decode cX4_write 6 = .ok (.aload_n 1, 1) := by decide +kernel
theorem dX4_write_7 : decode cX4_write 7 = .ok (.getfield 26, 3) := by decide +kernel
theorem dX4_write_10 : decode cX4_write 10 = .ok (.invokevirtual 29, 3) := by decide +kernel
theorem dX4_write_13 : decode cX4_write 13 = .ok (.aload_n 0, 1) := by decide +kernel
theorem dX4_write_14 : decode cX4_write 14 = .ok (.aload_n 1, 1) := by decide +kernel
theorem dX4_write_15 : decode cX4_write 15 = .ok (.getfield 33, 3) := by decide +kernel
theorem dX4_write_18 : decode cX4_write 18 = .ok (.invokevirtual 29, 3) := by decide +kernel
theorem dX4_write_21 : decode cX4_write 21 = .ok (.iconst 0, 1) := by decide +kernel
theorem dX4_write_22 : decode cX4_write 22 = .ok (.istore_n 2, 1) := by decide +kernel
theorem dX4_write_23 : decode cX4_write 23 = .ok (.iload_n 2, 1) := by decide +kernel
theorem dX4_write_24 : decode cX4_write 24 = .ok (.aload_n 1, 1) := by decide +kernel
theorem dX4_write_25 : decode cX4_write 25 = .ok (.getfield 33, 3) := by decide +kernel
theorem dX4_write_28 : decode cX4_write 28 = .ok (.if_icmp .ge 29, 3) := by decide +kernel
theorem dX4_write_31 : decode cX4_write 31 = .ok (.aload_n 0, 1) := by decide +kernel
theorem dX4_write_32 : decode cX4_write 32 = .ok (.aload_n 1, 1) := by decide +kernel
theorem dX4_write_33 : decode cX4_write 33 = .ok (.getfield 36, 3) := by decide +kernel
theorem dX4_write_36 : decode cX4_write 36 = .ok (.iload_n 2, 1) := by decide +kernel
theorem dX4_write_37 : decode cX4_write 37 = .ok (.iaload, 1) := by decide +kernel
theorem dX4_write_38 : decode cX4_write 38 = .ok (.invokevirtual 29, 3) := by decide +kernel
theorem dX4_write_41 : decode cX4_write 41 = .ok (.aload_n 0, 1) := by decide +kernel
theorem dX4_write_42 : decode cX4_write 42 = .ok (.aload_n 1, 1) := by decide +kernel
theorem dX4_write_43 : decode cX4_write 43 = .ok (.getfield 39, 3) := by decide +kernel
theorem dX4_write_46 : decode cX4_write 46 = .ok (.iload_n 2, 1) := by decide +kernel
theorem dX4_write_47 : decode cX4_write 47 = .ok (.iaload, 1) := by decide +kernel
theorem dX4_write_48 : decode cX4_write 48 = .ok (.invokevirtual 29, 3) := by decide +kernel
theorem dX4_write_51 : decode cX4_write 51 = .ok (.iinc 2 1, 3) := by decide +kernel
theorem dX4_write_54 : decode cX4_write 54 = .ok (.goto (-31), 3) := by decide +kernel
theorem dX4_write_57 : decode cX4_write 57 = .ok (.aload_n 0, 1) := by decide +kernel
theorem dX4_write_58 : decode cX4_write 58 = .ok (.aload_n 0, 1) := by decide +kernel
theorem dX4_write_59 : decode cX4_write 59 = .ok (.getfield 9, 3) := by decide +kernel
theorem dX4_write_62 : decode cX4_write 62 = .ok (.aload_n 0, 1) := by decide +kernel
theorem dX4_write_63 : decode cX4_write 63 = .ok (.getfield 15, 3) := by decide +kernel
theorem dX4_write_66 : decode cX4_write 66 = .ok (.invokestatic 42, 3) := by decide +kernel
theorem dX4_write_69 : decode cX4_write 69 = .ok (.invokevirtual 29, 3) := by decide +kernel
theorem dX4_write_72 : decode cX4_write 72 = .ok (.return_, 1) := by decide +kernel
theorem dX4_add_0 : decode cX4_add 0 = .ok (.aload_n 0, 1) := by decide +kernel
theorem dX4_add_1 : decode cX4_add 1 = .ok (.getfield 15, 3) := by decide +kernel
theorem dX4_add_4 : decode cX4_add 4 = .ok (.aload_n 0, 1) := by decide +kernel
theorem dX4_add_5 : decode cX4_add 5 = .ok (.getfield 9, 3) := by decide +kernel
theorem dX4_add_8 : decode cX4_add 8 = .ok (.arraylength, 1) := by decide +kernel
theorem dX4_add_9 : decode cX4_add 9 = .ok (.if_icmp .ge 23, 3) := by decide +kernel
theorem dX4_add_12 : decode cX4_add 12 = .ok (.aload_n 0, 1) := by decide +kernel
theorem dX4_add_13 : decode cX4_add 13 = .ok (.getfield 9, 3) := by decide +kernel
theorem dX4_add_16 : decode cX4_add 16 = .ok (.aload_n 0, 1) := by decide +kernel
theorem dX4_add_17 : decode cX4_add 17 = .ok (.getfield 15, 3) := by decide +kernel
theorem dX4_add_20 : decode cX4_add 20 = .ok (.iload_n 1, 1) := by decide +kernel
theorem dX4_add_21 : decode cX4_add 21 = .ok (.iastore, 1) := by decide +kernel
theorem dX4_add_22 : decode cX4_add 22 = .ok (.aload_n 0, 1) := by decide +kernel
theorem dX4_add_23 : decode cX4_add 23 = .ok (.dup, 1) := by decide +kernel
theorem dX4_add_24 : decode cX4_add 24 = .ok (.getfield 15, 3) := by decide +kernel
theorem dX4_add_27 : decode cX4_add 27 = .ok (.iconst 1, 1) := by decide +kernel
theorem dX4_add_28 : decode cX4_add 28 = .ok (.iadd, 1) := by decide +kernel
theorem dX4_add_29 : decode cX4_add 29 = .ok (.putfield 15, 3) := by decide +kernel
theorem dX4_add_32 : decode cX4_add 32 = .ok (.return_, 1) := by decide +kernel
theorem dX4_checkOf_0 : decode cX4_checkOf 0 = .ok (.sipush 167, 3) := by decide +kernel
theorem dX4_checkOf_3 : decode cX4_checkOf 3 = .ok (.istore_n 2, 1) := by decide +kernel
theorem dX4_checkOf_4 : decode cX4_checkOf 4 = .ok (.iconst 0, 1) := by decide +kernel
theorem dX4_checkOf_5 : decode cX4_checkOf 5 = .ok (.istore_n 3, 1) := by decide +kernel
theorem dX4_checkOf_6 : decode cX4_checkOf 6 = .ok (.iload_n 3, 1) := by decide +kernel
theorem dX4_checkOf_7 : decode cX4_checkOf 7 = .ok (.iload_n 1, 1) := by decide +kernel
theorem dX4_checkOf_8 : decode cX4_checkOf 8 = .ok (.if_icmp .ge 27, 3) := by decide +kernel
theorem dX4_checkOf_11 : decode cX4_checkOf 11 = .ok (.iload_n 3, 1) := by decide +kernel
theorem dX4_checkOf_12 : decode cX4_checkOf 12 = .ok (.aload_n 0, 1) := by decide +kernel
theorem dX4_checkOf_13 : decode cX4_checkOf 13 = .ok (.arraylength, 1) := by decide +kernel
theorem dX4_checkOf_14 : decode cX4_checkOf 14 = .ok (.if_icmp .ge 21, 3) := by decide +kernel
theorem dX4_checkOf_17 : decode cX4_checkOf 17 = .ok (.iconst 3, 1) := by decide +kernel
theorem dX4_checkOf_18 : decode cX4_checkOf 18 = .ok (.iload_n 2, 1) := by decide +kernel
theorem dX4_checkOf_19 : decode cX4_checkOf 19 = .ok (.imul, 1) := by decide +kernel
theorem dX4_checkOf_20 : decode cX4_checkOf 20 = .ok (.aload_n 0, 1) := by decide +kernel
theorem dX4_checkOf_21 : decode cX4_checkOf 21 = .ok (.iload_n 3, 1) := by decide +kernel
theorem dX4_checkOf_22 : decode cX4_checkOf 22 = .ok (.iaload, 1) := by decide +kernel
theorem dX4_checkOf_23 : decode cX4_checkOf 23 = .ok (.iadd, 1) := by decide +kernel
theorem dX4_checkOf_24 : decode cX4_checkOf 24 = .ok (.sipush 251, 3) := by decide +kernel
theorem dX4_checkOf_27 : decode cX4_checkOf 27 = .ok (.irem, 1) := by decide +kernel
theorem dX4_checkOf_28 : decode cX4_checkOf 28 = .ok (.istore_n 2, 1) := by decide +kernel
theorem dX4_checkOf_29 : decode cX4_checkOf 29 = .ok (.iinc 3 1, 3) := by decide +kernel
theorem dX4_checkOf_32 : decode cX4_checkOf 32 = .ok (.goto (-26), 3) := by decide +kernel
theorem dX4_checkOf_35 : decode cX4_checkOf 35 = .ok (.iload_n 2, 1) := by decide +kernel
theorem dX4_checkOf_36 : decode cX4_checkOf 36 = .ok (.ireturn, 1) := by decide +kernel
theorem dX4_read_0 : decode cX4_read 0 = .ok (.aload_n 1, 1) := by decide +kernel
theorem dX4_read_1 : decode cX4_read 1 = .ok (.iconst 0, 1) := by decide +kernel
theorem dX4_read_2 : decode cX4_read 2 = .ok (.invokevirtual 46, 3) := by decide +kernel
theorem dX4_read_5 : decode cX4_read 5 = .ok (.istore_n 2, 1) := by decide +kernel
theorem dX4_read_6 : decode cX4_read 6 = .ok (.aload_n 1, 1) := by decide +kernel
theorem dX4_read_7 : decode cX4_read 7 = .ok (.iconst 1, 1) := by decide +kernel
theorem dX4_read_8 : decode cX4_read 8 = .ok (.invokevirtual 46, 3) := by decide +kernel
theorem dX4_read_11 : decode cX4_read 11 = .ok (.istore_n 3, 1) := by decide +kernel
theorem dX4_read_12 : decode cX4_read 12 = .ok (.iload_n 2, 1) := by decide +kernel
theorem dX4_read_13 : decode cX4_read 13 = .ok (.iconst 1, 1) := by decide +kernel
theorem dX4_read_14 : decode cX4_read 14 = .ok (.if_icmp .lt 31, 3) := by decide +kernel
theorem dX4_read_17 : decode cX4_read 17 = .ok (.iload_n 2, 1) := by decide +kernel
theorem dX4_read_18 : decode cX4_read 18 = .ok (.bipush 24, 2) := by decide +kernel
theorem dX4_read_20 : decode cX4_read 20 = .ok (.if_icmp .gt 25, 3) := by decide +kernel
theorem dX4_read_23 : decode cX4_read 23 = .ok (.iload_n 3, 1) := by decide +kernel
theorem dX4_read_24 : decode cX4_read 24 = .ok (.ifCond .lt 21, 3) := by decide +kernel
theorem dX4_read_27 : decode cX4_read 27 = .ok (.iload_n 3, 1) := by decide +kernel
theorem dX4_read_28 : decode cX4_read 28 = .ok (.bipush 60, 2) := by decide +kernel
theorem dX4_read_30 : decode cX4_read 30 = .ok (.if_icmp .gt 15, 3) := by decide +kernel
theorem dX4_read_33 : decode cX4_read 33 = .ok (.aload_n 1, 1) := by decide +kernel
theorem dX4_read_34 : decode cX4_read 34 = .ok (.getfield 52, 3) := by decide +kernel
theorem dX4_read_37 : decode cX4_read 37 = .ok (.iconst 2, 1) := by decide +kernel
theorem dX4_read_38 : decode cX4_read 38 = .ok (.iload_n 3, 1) := by decide +kernel
theorem dX4_read_39 : decode cX4_read 39 = .ok (.imul, 1) := by decide +kernel
theorem dX4_read_40 : decode cX4_read 40 = .ok (.iconst 3, 1) := by decide +kernel
theorem dX4_read_41 : decode cX4_read 41 = .ok (.iadd, 1) := by decide +kernel
theorem dX4_read_42 : decode cX4_read 42 = .ok (.if_icmp .eq 5, 3) := by decide +kernel
theorem dX4_read_45 : decode cX4_read 45 = .ok (.iconst 0, 1) := by decide +kernel
theorem dX4_read_46 : decode cX4_read 46 = .ok (.ireturn, 1) := by decide +kernel
theorem dX4_read_47 : decode cX4_read 47 = .ok (.aload_n 1, 1) := by decide +kernel
theorem dX4_read_48 : decode cX4_read 48 = .ok (.aload_n 1, 1) := by decide +kernel
theorem dX4_read_49 : decode cX4_read 49 = .ok (.getfield 52, 3) := by decide +kernel
theorem dX4_read_52 : decode cX4_read 52 = .ok (.iconst 1, 1) := by decide +kernel
theorem dX4_read_53 : decode cX4_read 53 = .ok (.isub, 1) := by decide +kernel
theorem dX4_read_54 : decode cX4_read 54 = .ok (.invokevirtual 46, 3) := by decide +kernel
theorem dX4_read_57 : decode cX4_read 57 = .ok (.aload_n 1, 1) := by decide +kernel
theorem dX4_read_58 : decode cX4_read 58 = .ok (.getfield 53, 3) := by decide +kernel
theorem dX4_read_61 : decode cX4_read 61 = .ok (.aload_n 1, 1) := by decide +kernel
theorem dX4_read_62 : decode cX4_read 62 = .ok (.getfield 52, 3) := by decide +kernel
theorem dX4_read_65 : decode cX4_read 65 = .ok (.iconst 1, 1) := by decide +kernel
theorem dX4_read_66 : decode cX4_read 66 = .ok (.isub, 1) := by decide +kernel
theorem dX4_read_67 : decode cX4_read 67 = .ok (.invokestatic 42, 3) := by decide +kernel
theorem dX4_read_70 : decode cX4_read 70 = .ok (.if_icmp .eq 5, 3) := by decide +kernel
theorem dX4_read_73 : decode cX4_read 73 = .ok (.iconst 0, 1) := by decide +kernel
theorem dX4_read_74 : decode cX4_read 74 = .ok (.ireturn, 1) := by decide +kernel
theorem dX4_read_75 : decode cX4_read 75 = .ok (.aload_n 0, 1) := by decide +kernel
theorem dX4_read_76 : decode cX4_read 76 = .ok (.getfield 22, 3) := by decide +kernel
theorem dX4_read_79 : decode cX4_read 79 = .ok (.invokevirtual 54, 3) := by decide +kernel
theorem dX4_read_82 : decode cX4_read 82 = .ok (.iconst 0, 1) := by decide +kernel
theorem dX4_read_83 : decode cX4_read 83 = .ok (.istore 4, 2) := by decide +kernel
theorem dX4_read_85 : decode cX4_read 85 = .ok (.iload 4, 2) := by decide +kernel
theorem dX4_read_87 : decode cX4_read 87 = .ok (.iload_n 2, 1) := by decide +kernel
theorem dX4_read_88 : decode cX4_read 88 = .ok (.if_icmp .ge 17, 3) := by decide +kernel
theorem dX4_read_91 : decode cX4_read 91 = .ok (.aload_n 0, 1) := by decide +kernel
theorem dX4_read_92 : decode cX4_read 92 = .ok (.getfield 22, 3) := by decide +kernel
theorem dX4_read_95 : decode cX4_read 95 = .ok (.iconst 0, 1) := by decide +kernel
theorem dX4_read_96 : decode cX4_read 96 = .ok (.invokevirtual 57, 3) := by decide +kernel
theorem dX4_read_99 : decode cX4_read 99 = .ok (.iinc 4 1, 3) := by decide +kernel
theorem dX4_read_102 : decode cX4_read 102 = .ok (.goto (-17), 3) := by decide +kernel
theorem dX4_read_105 : decode cX4_read 105 = .ok (.iconst 0, 1) := by decide +kernel
theorem dX4_read_106 : decode cX4_read 106 = .ok (.istore 4, 2) := by decide +kernel
theorem dX4_read_108 : decode cX4_read 108 = .ok (.iload 4, 2) := by decide +kernel
theorem dX4_read_110 : decode cX4_read 110 = .ok (.iload_n 3, 1) := by decide +kernel
theorem dX4_read_111 : decode cX4_read 111 = .ok (.if_icmp .ge 68, 3) := by decide +kernel
theorem dX4_read_114 : decode cX4_read 114 = .ok (.aload_n 1, 1) := by decide +kernel
theorem dX4_read_115 : decode cX4_read 115 = .ok (.iconst 2, 1) := by decide +kernel
theorem dX4_read_116 : decode cX4_read 116 = .ok (.iload 4, 2) := by decide +kernel
theorem dX4_read_118 : decode cX4_read 118 = .ok (.imul, 1) := by decide +kernel
theorem dX4_read_119 : decode cX4_read 119 = .ok (.iconst 2, 1) := by decide +kernel
theorem dX4_read_120 : decode cX4_read 120 = .ok (.iadd, 1) := by decide +kernel
theorem dX4_read_121 : decode cX4_read 121 = .ok (.invokevirtual 46, 3) := by decide +kernel
theorem dX4_read_124 : decode cX4_read 124 = .ok (.istore 5, 2) := by decide +kernel
theorem dX4_read_126 : decode cX4_read 126 = .ok (.aload_n 1, 1) := by decide +kernel
theorem dX4_read_127 : decode cX4_read 127 = .ok (.iconst 2, 1) := by decide +kernel
theorem dX4_read_128 : decode cX4_read 128 = .ok (.iload 4, 2) := by decide +kernel
theorem dX4_read_130 : decode cX4_read 130 = .ok (.imul, 1) := by decide +kernel
theorem dX4_read_131 : decode cX4_read 131 = .ok (.iconst 3, 1) := by decide +kernel
theorem dX4_read_132 : decode cX4_read 132 = .ok (.iadd, 1) := by decide +kernel
theorem dX4_read_133 : decode cX4_read 133 = .ok (.invokevirtual 46, 3) := by decide +kernel
theorem dX4_read_136 : decode cX4_read 136 = .ok (.istore 6, 2) := by decide +kernel
theorem dX4_read_138 : decode cX4_read 138 = .ok (.iload 5, 2) := by decide +kernel
theorem dX4_read_140 : decode cX4_read 140 = .ok (.iload 6, 2) := by decide +kernel
theorem dX4_read_142 : decode cX4_read 142 = .ok (.if_icmp .ge 17, 3) := by decide +kernel
theorem dX4_read_145 : decode cX4_read 145 = .ok (.aload_n 0, 1) := by decide +kernel
theorem dX4_read_146 : decode cX4_read 146 = .ok (.getfield 22, 3) := by decide +kernel
theorem dX4_read_149 : decode cX4_read 149 = .ok (.iload 5, 2) := by decide +kernel
theorem dX4_read_151 : decode cX4_read 151 = .ok (.iload 6, 2) := by decide +kernel
theorem dX4_read_153 : decode cX4_read 153 = .ok (.invokevirtual 60, 3) := by decide +kernel
theorem dX4_read_156 : decode cX4_read 156 = .ok (.ifCond .ne 5, 3) := by decide +kernel
theorem dX4_read_159 : decode cX4_read 159 = .ok (.iconst 0, 1) := by decide +kernel
theorem dX4_read_160 : decode cX4_read 160 = .ok (.ireturn, 1) := by decide +kernel
theorem dX4_read_161 : decode cX4_read 161 = .ok (.aload_n 0, 1) := by decide +kernel
theorem dX4_read_162 : decode cX4_read 162 = .ok (.getfield 22, 3) := by decide +kernel
theorem dX4_read_165 : decode cX4_read 165 = .ok (.iload 5, 2) := by decide +kernel
theorem dX4_read_167 : decode cX4_read 167 = .ok (.iload 6, 2) := by decide +kernel
theorem dX4_read_169 : decode cX4_read 169 = .ok (.iconst 1, 1) := by decide +kernel
theorem dX4_read_170 : decode cX4_read 170 = .ok (.invokevirtual 64, 3) := by decide +kernel
theorem dX4_read_173 : decode cX4_read 173 = .ok (.iinc 4 1, 3) := by decide +kernel
theorem dX4_read_176 : decode cX4_read 176 = .ok (.goto (-68), 3) := by decide +kernel
theorem dX4_read_179 : decode cX4_read 179 = .ok (.iconst 1, 1) := by decide +kernel
theorem dX4_read_180 : decode cX4_read 180 = .ok (.ireturn, 1) := by decide +kernel
theorem dX5_init_0 : decode cX5_init 0 = .ok (.aload_n 0, 1) := by decide +kernel
theorem dX5_init_1 : decode cX5_init 1 = .ok (.invokespecial 3, 3) := by decide +kernel
theorem dX5_init_4 : decode cX5_init 4 = .ok (.aload_n 0, 1) := by decide +kernel
theorem dX5_init_5 : decode cX5_init 5 = .ok (.new 9, 3) := by decide +kernel
theorem dX5_init_8 : decode cX5_init 8 = .ok (.dup, 1) := by decide +kernel
theorem dX5_init_9 : decode cX5_init 9 = .ok (.invokespecial 11, 3) := by decide +kernel
theorem dX5_init_12 : decode cX5_init 12 = .ok (.putfield 12, 3) := by decide +kernel
theorem dX5_init_15 : decode cX5_init 15 = .ok (.aload_n 0, 1) := by decide +kernel
theorem dX5_init_16 : decode cX5_init 16 = .ok (.iconst 0, 1) := by decide +kernel
theorem dX5_init_17 : decode cX5_init 17 = .ok (.putfield 18, 3) := by decide +kernel
theorem dX5_init_20 : decode cX5_init 20 = .ok (.aload_n 0, 1) := by decide +kernel
theorem dX5_init_21 : decode cX5_init 21 = .ok (.iconst (-1), 1) := by decide +kernel
theorem dX5_init_22 : decode cX5_init 22 = .ok (.putfield 22, 3) := by decide +kernel
theorem dX5_init_25 : decode cX5_init 25 = .ok (.aload_n 0, 1) := by decide +kernel
theorem dX5_init_26 : decode cX5_init 26 = .ok (.iconst 0, 1) := by decide +kernel
theorem dX5_init_27 : decode cX5_init 27 = .ok (.putfield 25, 3) := by decide +kernel
theorem dX5_init_30 : decode cX5_init 30 = .ok (.aload_n 0, 1) := by decide +kernel
theorem dX5_init_31 : decode cX5_init 31 = .ok (.iconst 0, 1) := by decide +kernel
theorem dX5_init_32 : decode cX5_init 32 = .ok (.putfield 28, 3) := by decide +kernel
theorem dX5_init_35 : decode cX5_init 35 = .ok (.aload_n 0, 1) := by decide +kernel
theorem dX5_init_36 : decode cX5_init 36 = .ok (.iconst 0, 1) := by decide +kernel
theorem dX5_init_37 : decode cX5_init 37 = .ok (.putfield 31, 3) := by decide +kernel
theorem dX5_init_40 : decode cX5_init 40 = .ok (.aload_n 0, 1) := by decide +kernel
theorem dX5_init_41 : decode cX5_init 41 = .ok (.iconst 0, 1) := by decide +kernel
theorem dX5_init_42 : decode cX5_init 42 = .ok (.putfield 34, 3) := by decide +kernel
theorem dX5_init_45 : decode cX5_init 45 = .ok (.aload_n 0, 1) := by decide +kernel
theorem dX5_init_46 : decode cX5_init 46 = .ok (.iconst 0, 1) := by decide +kernel
theorem dX5_init_47 : decode cX5_init 47 = .ok (.putfield 37, 3) := by decide +kernel
theorem dX5_init_50 : decode cX5_init 50 = .ok (.return_, 1) := by decide +kernel
theorem dX5_readNet_0 : decode cX5_readNet 0 = .ok (.aload_n 0, 1) := by decide +kernel
theorem dX5_readNet_1 : decode cX5_readNet 1 = .ok (.getfield 12, 3) := by decide +kernel
theorem dX5_readNet_4 : decode cX5_readNet 4 = .ok (.invokevirtual 40, 3) := by decide +kernel
theorem dX5_readNet_7 : decode cX5_readNet 7 = .ok (.aload_n 0, 1) := by decide +kernel
theorem dX5_readNet_8 : decode cX5_readNet 8 = .ok (.iconst 0, 1) := by decide +kernel
theorem dX5_readNet_9 : decode cX5_readNet 9 = .ok (.putfield 18, 3) := by decide +kernel
theorem dX5_readNet_12 : decode cX5_readNet 12 = .ok (.aload_n 0, 1) := by decide +kernel
theorem dX5_readNet_13 : decode cX5_readNet 13 = .ok (.iconst (-1), 1) := by decide +kernel
theorem dX5_readNet_14 : decode cX5_readNet 14 = .ok (.putfield 22, 3) := by decide +kernel
theorem dX5_readNet_17 : decode cX5_readNet 17 = .ok (.aload_n 0, 1) := by decide +kernel
theorem dX5_readNet_18 : decode cX5_readNet 18 = .ok (.iconst 0, 1) := by decide +kernel
theorem dX5_readNet_19 : decode cX5_readNet 19 = .ok (.putfield 25, 3) := by decide +kernel
theorem dX5_readNet_22 : decode cX5_readNet 22 = .ok (.aload_n 0, 1) := by decide +kernel
theorem dX5_readNet_23 : decode cX5_readNet 23 = .ok (.iconst 0, 1) := by decide +kernel
theorem dX5_readNet_24 : decode cX5_readNet 24 = .ok (.putfield 28, 3) := by decide +kernel
theorem dX5_readNet_27 : decode cX5_readNet 27 = .ok (.aload_n 0, 1) := by decide +kernel
theorem dX5_readNet_28 : decode cX5_readNet 28 = .ok (.aload_n 1, 1) := by decide +kernel
theorem dX5_readNet_29 : decode cX5_readNet 29 = .ok (.iconst 0, 1) := by decide +kernel
theorem dX5_readNet_30 : decode cX5_readNet 30 = .ok (.invokevirtual 43, 3) := by decide +kernel
theorem dX5_readNet_33 : decode cX5_readNet 33 = .ok (.aload_n 0, 1) := by decide +kernel
theorem dX5_readNet_34 : decode cX5_readNet 34 = .ok (.aload_n 1, 1) := by decide +kernel
theorem dX5_readNet_35 : decode cX5_readNet 35 = .ok (.invokevirtual 47, 3) := by decide +kernel
theorem dX5_readNet_38 : decode cX5_readNet 38 = .ok (.iconst 0, 1) := by decide +kernel
theorem dX5_readNet_39 : decode cX5_readNet 39 = .ok (.istore_n 2, 1) := by decide +kernel
theorem dX5_readNet_40 : decode cX5_readNet 40 = .ok (.iload_n 2, 1) := by decide +kernel
theorem dX5_readNet_41 : decode cX5_readNet 41 = .ok (.sipush 800, 3) := by decide +kernel
theorem dX5_readNet_44 : decode cX5_readNet 44 = .ok (.if_icmp .ge 38, 3) := by decide +kernel
theorem dX5_readNet_47 : decode cX5_readNet 47 = .ok (.aload_n 0, 1) := by decide +kernel
theorem dX5_readNet_48 : decode cX5_readNet 48 = .ok (.getfield 18, 3) := by decide +kernel
theorem dX5_readNet_51 : decode cX5_readNet 51 = .ok (.ifCond .ne 31, 3) := by decide +kernel
theorem dX5_readNet_54 : decode cX5_readNet 54 = .ok (.aload_n 0, 1) := by decide +kernel
theorem dX5_readNet_55 : decode cX5_readNet 55 = .ok (.getfield 28, 3) := by decide +kernel
theorem dX5_readNet_58 : decode cX5_readNet 58 = .ok (.aload_n 1, 1) := by decide +kernel
theorem dX5_readNet_59 : decode cX5_readNet 59 = .ok (.getfield 51, 3) := by decide +kernel
theorem dX5_readNet_62 : decode cX5_readNet 62 = .ok (.if_icmp .ge 20, 3) := by decide +kernel
theorem dX5_readNet_65 : decode cX5_readNet 65 = .ok (.aload_n 0, 1) := by decide +kernel
theorem dX5_readNet_66 : decode cX5_readNet 66 = .ok (.aload_n 1, 1) := by decide +kernel
theorem dX5_readNet_67 : decode cX5_readNet 67 = .ok (.iconst 1, 1) := by decide +kernel
theorem dX5_readNet_68 : decode cX5_readNet 68 = .ok (.invokevirtual 43, 3) := by decide +kernel
theorem dX5_readNet_71 : decode cX5_readNet 71 = .ok (.aload_n 0, 1) := by decide +kernel
theorem dX5_readNet_72 : decode cX5_readNet 72 = .ok (.aload_n 1, 1) := by decide +kernel
theorem dX5_readNet_73 : decode cX5_readNet 73 = .ok (.invokevirtual 47, 3) := by decide +kernel
theorem dX5_readNet_76 : decode cX5_readNet 76 = .ok (.iinc 2 1, 3) := by decide +kernel
theorem dX5_readNet_79 : decode cX5_readNet 79 = .ok (.goto (-39), 3) := by decide +kernel
theorem dX5_readNet_82 : decode cX5_readNet 82 = .ok (.return_, 1) := by decide +kernel
theorem dX5_readName_0 : decode cX5_readName 0 = .ok (.aload_n 0, 1) := by decide +kernel
theorem dX5_readName_1 : decode cX5_readName 1 = .ok (.iconst 0, 1) := by decide +kernel
theorem dX5_readName_2 : decode cX5_readName 2 = .ok (.putfield 28, 3) := by decide +kernel
theorem dX5_readName_5 : decode cX5_readName 5 = .ok (.aload_n 0, 1) := by decide +kernel
theorem dX5_readName_6 : decode cX5_readName 6 = .ok (.aload_n 1, 1) := by decide +kernel
theorem dX5_readName_7 : decode cX5_readName 7 = .ok (.invokevirtual 56, 3) := by decide +kernel
theorem dX5_readName_10 : decode cX5_readName 10 = .ok (.aload_n 0, 1) := by decide +kernel
theorem dX5_readName_11 : decode cX5_readName 11 = .ok (.getfield 34, 3) := by decide +kernel
theorem dX5_readName_14 : decode cX5_readName 14 = .ok (.aload_n 1, 1) := by decide +kernel
theorem dX5_readName_15 : decode cX5_readName 15 = .ok (.getfield 51, 3) := by decide +kernel
theorem dX5_readName_18 : decode cX5_readName 18 = .ok (.if_icmp .ne 15, 3) := by decide +kernel
theorem dX5_readName_21 : decode cX5_readName 21 = .ok (.aload_n 0, 1) := by decide +kernel
theorem dX5_readName_22 : decode cX5_readName 22 = .ok (.getfield 34, 3) := by decide +kernel
theorem dX5_readName_25 : decode cX5_readName 25 = .ok (.iconst 4, 1) := by decide +kernel
theorem dX5_readName_26 : decode cX5_readName 26 = .ok (.if_icmp .gt 7, 3) := by decide +kernel
theorem dX5_readName_29 : decode cX5_readName 29 = .ok (.iconst 1, 1) := by decide +kernel
theorem dX5_readName_30 : decode cX5_readName 30 = .ok (.goto 4, 3) := by decide +kernel
theorem dX5_readName_33 : decode cX5_readName 33 = .ok (.iconst 0, 1) := by decide +kernel
theorem dX5_readName_34 : decode cX5_readName 34 = .ok (.istore_n 2, 1) := by decide +kernel
theorem dX5_readName_35 : decode cX5_readName 35 = .ok (.iload_n 2, 1) := by decide +kernel
theorem dX5_readName_36 : decode cX5_readName 36 = .ok (.ifCond .eq 10, 3) := by decide +kernel
theorem dX5_readName_39 : decode cX5_readName 39 = .ok (.aload_n 0, 1) := by decide +kernel
theorem dX5_readName_40 : decode cX5_readName 40 = .ok (.getfield 37, 3) := by decide +kernel
theorem dX5_readName_43 : decode cX5_readName 43 = .ok (.goto 4, 3) := by decide +kernel
theorem dX5_readName_46 : decode cX5_readName 46 = .ok (.iconst 0, 1) := by decide +kernel
theorem dX5_readName_47 : decode cX5_readName 47 = .ok (.ireturn, 1) := by decide +kernel
theorem dX5_fail_0 : decode cX5_fail 0 = .ok (.aload_n 0, 1) := by decide +kernel
theorem dX5_fail_1 : decode cX5_fail 1 = .ok (.iload_n 1, 1) := by decide +kernel
theorem dX5_fail_2 : decode cX5_fail 2 = .ok (.putfield 18, 3) := by decide +kernel
theorem dX5_fail_5 : decode cX5_fail 5 = .ok (.aload_n 0, 1) := by decide +kernel
theorem dX5_fail_6 : decode cX5_fail 6 = .ok (.iload_n 2, 1) := by decide +kernel
theorem dX5_fail_7 : decode cX5_fail 7 = .ok (.putfield 22, 3) := by decide +kernel
theorem dX5_fail_10 : decode cX5_fail 10 = .ok (.return_, 1) := by decide +kernel
theorem dX5_skipBlanks_0 : decode cX5_skipBlanks 0 = .ok (.aload_n 0, 1) := by decide +kernel
theorem dX5_skipBlanks_1 : decode cX5_skipBlanks 1 = .ok (.getfield 28, 3) := by decide +kernel
theorem dX5_skipBlanks_4 : decode cX5_skipBlanks 4 = .ok (.aload_n 1, 1) := by decide +kernel
theorem dX5_skipBlanks_5 : decode cX5_skipBlanks 5 = .ok (.getfield 51, 3) := by decide +kernel
theorem dX5_skipBlanks_8 : decode cX5_skipBlanks 8 = .ok (.if_icmp .ge 42, 3) := by decide +kernel
theorem dX5_skipBlanks_11 : decode cX5_skipBlanks 11 = .ok (.aload_n 1, 1) := by decide +kernel
theorem dX5_skipBlanks_12 : decode cX5_skipBlanks 12 = .ok (.aload_n 0, 1) := by decide +kernel
theorem dX5_skipBlanks_13 : decode cX5_skipBlanks 13 = .ok (.getfield 28, 3) := by decide +kernel
theorem dX5_skipBlanks_16 : decode cX5_skipBlanks 16 = .ok (.invokevirtual 59, 3) := by decide +kernel
theorem dX5_skipBlanks_19 : decode cX5_skipBlanks 19 = .ok (.bipush 32, 2) := by decide +kernel
theorem dX5_skipBlanks_21 : decode cX5_skipBlanks 21 = .ok (.if_icmp .eq 16, 3) := by decide +kernel
theorem dX5_skipBlanks_24 : decode cX5_skipBlanks 24 = .ok (.aload_n 1, 1) := by decide +kernel
theorem dX5_skipBlanks_25 : decode cX5_skipBlanks 25 = .ok (.aload_n 0, 1) := by decide +kernel
theorem dX5_skipBlanks_26 : decode cX5_skipBlanks 26 = .ok (.getfield 28, 3) := by decide +kernel
theorem dX5_skipBlanks_29 : decode cX5_skipBlanks 29 = .ok (.invokevirtual 59, 3) := by decide +kernel
theorem dX5_skipBlanks_32 : decode cX5_skipBlanks 32 = .ok (.bipush 10, 2) := by decide +kernel
theorem dX5_skipBlanks_34 : decode cX5_skipBlanks 34 = .ok (.if_icmp .ne 16, 3) := by decide +kernel
theorem dX5_skipBlanks_37 : decode cX5_skipBlanks 37 = .ok (.aload_n 0, 1) := by decide +kernel
theorem dX5_skipBlanks_38 : decode cX5_skipBlanks 38 = .ok (.dup, 1) := by decide +kernel
theorem dX5_skipBlanks_39 : decode cX5_skipBlanks 39 = .ok (.getfield 28, 3) := by decide +kernel
theorem dX5_skipBlanks_42 : decode cX5_skipBlanks 42 = .ok (.iconst 1, 1) := by decide +kernel
theorem dX5_skipBlanks_43 : decode cX5_skipBlanks 43 = .ok (.iadd, 1) := by decide +kernel
theorem dX5_skipBlanks_44 : decode cX5_skipBlanks 44 = .ok (.putfield 28, 3) := by decide +kernel
theorem dX5_skipBlanks_47 : decode cX5_skipBlanks 47 = .ok (.goto (-47), 3) := by decide +kernel
theorem dX5_skipBlanks_50 : decode cX5_skipBlanks 50 = .ok (.return_, 1) := by decide +kernel
theorem dX5_readWord_0 : decode cX5_readWord 0 = .ok (.aload_n 0, 1) := by decide +kernel
theorem dX5_readWord_1 : decode cX5_readWord 1 = .ok (.aload_n 0, 1) := by decide +kernel
theorem dX5_readWord_2 : decode cX5_readWord 2 = .ok (.getfield 28, 3) := by decide +kernel
theorem dX5_readWord_5 : decode cX5_readWord 5 = .ok (.putfield 31, 3) := by decide +kernel
theorem dX5_readWord_8 : decode cX5_readWord 8 = .ok (.aload_n 0, 1) := by decide +kernel
theorem dX5_readWord_9 : decode cX5_readWord 9 = .ok (.iconst 0, 1) := by decide +kernel
theorem dX5_readWord_10 : decode cX5_readWord 10 = .ok (.putfield 34, 3) := by decide +kernel
theorem dX5_readWord_13 : decode cX5_readWord 13 = .ok (.aload_n 0, 1) := by decide +kernel
theorem dX5_readWord_14 : decode cX5_readWord 14 = .ok (.iconst 0, 1) := by decide +kernel
theorem dX5_readWord_15 : decode cX5_readWord 15 = .ok (.putfield 37, 3) := by decide +kernel
theorem dX5_readWord_18 : decode cX5_readWord 18 = .ok (.aload_n 0, 1) := by decide +kernel
theorem dX5_readWord_19 : decode cX5_readWord 19 = .ok (.getfield 28, 3) := by decide +kernel
theorem dX5_readWord_22 : decode cX5_readWord 22 = .ok (.aload_n 1, 1) := by decide +kernel
theorem dX5_readWord_23 : decode cX5_readWord 23 = .ok (.getfield 51, 3) := by decide +kernel
theorem dX5_readWord_26 : decode cX5_readWord 26 = .ok (.if_icmp .ge 89, 3) := by decide +kernel
theorem dX5_readWord_29 : decode cX5_readWord 29 = .ok (.aload_n 1, 1) := by decide +kernel
theorem dX5_readWord_30 : decode cX5_readWord 30 = .ok (.aload_n 0, 1) := by decide +kernel
theorem dX5_readWord_31 : decode cX5_readWord 31 = .ok (.getfield 28, 3) := by decide +kernel
theorem dX5_readWord_34 : decode cX5_readWord 34 = .ok (.invokevirtual 59, 3) := by decide +kernel
theorem dX5_readWord_37 : decode cX5_readWord 37 = .ok (.bipush 97, 2) := by decide +kernel
theorem dX5_readWord_39 : decode cX5_readWord 39 = .ok (.if_icmp .lt 76, 3) := by decide +kernel
theorem dX5_readWord_42 : decode cX5_readWord 42 = .ok (.aload_n 1, 1) := by decide +kernel
theorem dX5_readWord_43 : decode cX5_readWord 43 = .ok (.aload_n 0, 1) := by decide +kernel
theorem dX5_readWord_44 : decode cX5_readWord 44 = .ok (.getfield 28, 3) := by decide +kernel
theorem dX5_readWord_47 : decode cX5_readWord 47 = .ok (.invokevirtual 59, 3) := by decide +kernel
theorem dX5_readWord_50 : decode cX5_readWord 50 = .ok (.bipush 122, 2) := by decide +kernel
theorem dX5_readWord_52 : decode cX5_readWord 52 = .ok (.if_icmp .gt 63, 3) := by decide +kernel
theorem dX5_readWord_55 : decode cX5_readWord 55 = .ok (.aload_n 0, 1) := by decide +kernel
theorem dX5_readWord_56 : decode cX5_readWord 56 = .ok (.getfield 34, 3) := by decide +kernel
theorem dX5_readWord_59 : decode cX5_readWord 59 = .ok (.iconst 4, 1) := by decide +kernel
theorem dX5_readWord_60 : decode cX5_readWord 60 = .ok (.if_icmp .ge 32, 3) := by decide +kernel
theorem dX5_readWord_63 : decode cX5_readWord 63 = .ok (.aload_n 0, 1) := by decide +kernel
theorem dX5_readWord_64 : decode cX5_readWord 64 = .ok (.dup, 1) := by decide +kernel
theorem dX5_readWord_65 : decode cX5_readWord 65 = .ok (.getfield 37, 3) := by decide +kernel
theorem dX5_readWord_68 : decode cX5_readWord 68 = .ok (.aload_n 1, 1) := by decide +kernel
theorem dX5_readWord_69 : decode cX5_readWord 69 = .ok (.aload_n 0, 1) := by decide +kernel
theorem dX5_readWord_70 : decode cX5_readWord 70 = .ok (.getfield 28, 3) := by decide +kernel
theorem dX5_readWord_73 : decode cX5_readWord 73 = .ok (.invokevirtual 59, 3) := by decide +kernel
theorem dX5_readWord_76 : decode cX5_readWord 76 = .ok (.bipush 97, 2) := by decide +kernel
theorem dX5_readWord_78 : decode cX5_readWord 78 = .ok (.isub, 1) := by decide +kernel
theorem dX5_readWord_79 : decode cX5_readWord 79 = .ok (.iconst 1, 1) := by decide +kernel
theorem dX5_readWord_80 : decode cX5_readWord 80 = .ok (.iadd, 1) := by decide +kernel
theorem dX5_readWord_81 : decode cX5_readWord 81 = .ok (.iconst 5, 1) := by decide +kernel
theorem dX5_readWord_82 : decode cX5_readWord 82 = .ok (.aload_n 0, 1) := by decide +kernel
theorem dX5_readWord_83 : decode cX5_readWord 83 = .ok (.getfield 34, 3) := by decide +kernel
theorem dX5_readWord_86 : decode cX5_readWord 86 = .ok (.imul, 1) := by decide +kernel
theorem dX5_readWord_87 : decode cX5_readWord 87 = .ok (.ishl, 1) := by decide +kernel
theorem dX5_readWord_88 : decode cX5_readWord 88 = .ok (.ior, 1) := by decide +kernel
theorem dX5_readWord_89 : decode cX5_readWord 89 = .ok (.putfield 37, 3) := by decide +kernel
theorem dX5_readWord_92 : decode cX5_readWord 92 = .ok (.aload_n 0, 1) := by decide +kernel
theorem dX5_readWord_93 : decode cX5_readWord 93 = .ok (.dup, 1) := by decide +kernel
theorem dX5_readWord_94 : decode cX5_readWord 94 = .ok (.getfield 34, 3) := by decide +kernel
theorem dX5_readWord_97 : decode cX5_readWord 97 = .ok (.iconst 1, 1) := by decide +kernel
theorem dX5_readWord_98 : decode cX5_readWord 98 = .ok (.iadd, 1) := by decide +kernel
theorem dX5_readWord_99 : decode cX5_readWord 99 = .ok (.putfield 34, 3) := by decide +kernel
theorem dX5_readWord_102 : decode cX5_readWord 102 = .ok (.aload_n 0, 1) := by decide +kernel
theorem dX5_readWord_103 : decode cX5_readWord 103 = .ok (.dup, 1) := by decide +kernel
theorem dX5_readWord_104 : decode cX5_readWord 104 = .ok (.getfield 28, 3) := by decide +kernel
theorem dX5_readWord_107 : decode cX5_readWord 107 = .ok (.iconst 1, 1) := by decide +kernel
theorem dX5_readWord_108 : decode cX5_readWord 108 = .ok (.iadd, 1) := by decide +kernel
theorem dX5_readWord_109 : decode cX5_readWord 109 = .ok (.putfield 28, 3) := by decide +kernel
theorem dX5_readWord_112 : decode cX5_readWord 112 = .ok (.goto (-94), 3) := by decide +kernel
theorem dX5_readWord_115 : decode cX5_readWord 115 = .ok (.return_, 1) := by decide +kernel
theorem dX5_isWord_0 : decode cX5_isWord 0 = .ok (.aload_n 0, 1) := by decide +kernel
theorem dX5_isWord_1 : decode cX5_isWord 1 = .ok (.getfield 34, 3) := by decide +kernel
theorem dX5_isWord_4 : decode cX5_isWord 4 = .ok (.aload_n 2, 1) := by decide +kernel
theorem dX5_isWord_5 : decode cX5_isWord 5 = .ok (.invokevirtual 63, 3) := by decide +kernel
theorem dX5_isWord_8 : decode cX5_isWord 8 = .ok (.if_icmp .ne 7, 3) := by decide +kernel
theorem dX5_isWord_11 : decode cX5_isWord 11 = .ok (.iconst 1, 1) := by decide +kernel
theorem dX5_isWord_12 : decode cX5_isWord 12 = .ok (.goto 4, 3) := by decide +kernel
theorem dX5_isWord_15 : decode cX5_isWord 15 = .ok (.iconst 0, 1) := by decide +kernel
theorem dX5_isWord_16 : decode cX5_isWord 16 = .ok (.istore_n 3, 1) := by decide +kernel
theorem dX5_isWord_17 : decode cX5_isWord 17 = .ok (.iconst 0, 1) := by decide +kernel
theorem dX5_isWord_18 : decode cX5_isWord 18 = .ok (.istore 4, 2) := by decide +kernel
theorem dX5_isWord_20 : decode cX5_isWord 20 = .ok (.iload_n 3, 1) := by decide +kernel
theorem dX5_isWord_21 : decode cX5_isWord 21 = .ok (.ifCond .eq 44, 3) := by decide +kernel
theorem dX5_isWord_24 : decode cX5_isWord 24 = .ok (.iload 4, 2) := by decide +kernel
theorem dX5_isWord_26 : decode cX5_isWord 26 = .ok (.aload_n 2, 1) := by decide +kernel
theorem dX5_isWord_27 : decode cX5_isWord 27 = .ok (.invokevirtual 63, 3) := by decide +kernel
theorem dX5_isWord_30 : decode cX5_isWord 30 = .ok (.if_icmp .ge 35, 3) := by decide +kernel
theorem dX5_isWord_33 : decode cX5_isWord 33 = .ok (.aload_n 1, 1) := by decide +kernel
theorem dX5_isWord_34 : decode cX5_isWord 34 = .ok (.aload_n 0, 1) := by decide +kernel
theorem dX5_isWord_35 : decode cX5_isWord 35 = .ok (.getfield 31, 3) := by decide +kernel
theorem dX5_isWord_38 : decode cX5_isWord 38 = .ok (.iload 4, 2) := by decide +kernel
theorem dX5_isWord_40 : decode cX5_isWord 40 = .ok (.iadd, 1) := by decide +kernel
theorem dX5_isWord_41 : decode cX5_isWord 41 = .ok (.invokevirtual 59, 3) := by decide +kernel
theorem dX5_isWord_44 : decode cX5_isWord 44 = .ok (.aload_n 2, 1) := by decide +kernel
theorem dX5_isWord_45 : decode cX5_isWord 45 = .ok (.iload 4, 2) := by decide +kernel
theorem dX5_isWord_47 : decode cX5_isWord 47 = .ok (.invokevirtual 68, 3) := by decide +kernel
theorem dX5_isWord_50 : decode cX5_isWord 50 = .ok (.if_icmp .ne 7, 3) := by decide +kernel
theorem dX5_isWord_53 : decode cX5_isWord 53 = .ok (.iconst 1, 1) := by decide +kernel
theorem dX5_isWord_54 : decode cX5_isWord 54 = .ok (.goto 4, 3) := by decide +kernel
theorem dX5_isWord_57 : decode cX5_isWord 57 = .ok (.iconst 0, 1) := by decide +kernel
theorem dX5_isWord_58 : decode cX5_isWord 58 = .ok (.istore_n 3, 1) := by decide +kernel
theorem dX5_isWord_59 : decode cX5_isWord 59 = .ok (.iinc 4 1, 3) := by decide +kernel
theorem dX5_isWord_62 : decode cX5_isWord 62 = .ok (.goto (-42), 3) := by decide +kernel
theorem dX5_isWord_65 : decode cX5_isWord 65 = .ok (.iload_n 3, 1) := by decide +kernel
theorem dX5_isWord_66 : decode cX5_isWord 66 = .ok (.ireturn, 1) := by decide +kernel
theorem dX5_readRow_0 : decode cX5_readRow 0 = .ok (.aload_n 0, 1) := by decide +kernel
theorem dX5_readRow_1 : decode cX5_readRow 1 = .ok (.aload_n 1, 1) := by decide +kernel
theorem dX5_readRow_2 : decode cX5_readRow 2 = .ok (.invokevirtual 47, 3) := by decide +kernel
theorem dX5_readRow_5 : decode cX5_readRow 5 = .ok (.aload_n 0, 1) := by decide +kernel
theorem dX5_readRow_6 : decode cX5_readRow 6 = .ok (.aload_n 1, 1) := by decide +kernel
theorem dX5_readRow_7 : decode cX5_readRow 7 = .ok (.invokevirtual 56, 3) := by decide +kernel
theorem dX5_readRow_10 : decode cX5_readRow 10 = .ok (.aload_n 0, 1) := by decide +kernel
theorem dX5_readRow_11 : decode cX5_readRow 11 = .ok (.aload_n 1, 1) := by decide +kernel
theorem dX5_readRow_12 : decode cX5_readRow 12 = .ok (.iload_n 2, 1) := by decide +kernel
theorem dX5_readRow_13 : decode cX5_readRow 13 = .ok (.ifCond .eq 8, 3) := by decide +kernel
theorem dX5_readRow_16 : decode cX5_readRow 16 = .ok (.ldc 72, 2) := by decide +kernel
theorem dX5_readRow_18 : decode cX5_readRow 18 = .ok (.goto 5, 3) := by decide +kernel
theorem dX5_readRow_21 : decode cX5_readRow 21 = .ok (.ldc 74, 2) := by decide +kernel
theorem dX5_readRow_23 : decode cX5_readRow 23 = .ok (.invokevirtual 76, 3) := by decide +kernel
theorem dX5_readRow_26 : decode cX5_readRow 26 = .ok (.ifCond .ne 12, 3) := by decide +kernel
theorem dX5_readRow_29 : decode cX5_readRow 29 = .ok (.aload_n 0, 1) := by decide +kernel
theorem dX5_readRow_30 : decode cX5_readRow 30 = .ok (.iconst 1, 1) := by decide +kernel
theorem dX5_readRow_31 : decode cX5_readRow 31 = .ok (.aload_n 0, 1) := by decide +kernel
theorem dX5_readRow_32 : decode cX5_readRow 32 = .ok (.getfield 31, 3) := by decide +kernel
theorem dX5_readRow_35 : decode cX5_readRow 35 = .ok (.invokevirtual 80, 3) := by decide +kernel
theorem dX5_readRow_38 : decode cX5_readRow 38 = .ok (.iload_n 2, 1) := by decide +kernel
theorem dX5_readRow_39 : decode cX5_readRow 39 = .ok (.ifCond .eq 7, 3) := by decide +kernel
theorem dX5_readRow_42 : decode cX5_readRow 42 = .ok (.iconst 2, 1) := by decide +kernel
theorem dX5_readRow_43 : decode cX5_readRow 43 = .ok (.goto 4, 3) := by decide +kernel
theorem dX5_readRow_46 : decode cX5_readRow 46 = .ok (.iconst 1, 1) := by decide +kernel
theorem dX5_readRow_47 : decode cX5_readRow 47 = .ok (.istore_n 3, 1) := by decide +kernel
theorem dX5_readRow_48 : decode cX5_readRow 48 = .ok (.iconst (-1), 1) := by decide +kernel
theorem dX5_readRow_49 : decode cX5_readRow 49 = .ok (.istore 4, 2) := by decide +kernel
theorem dX5_readRow_51 : decode cX5_readRow 51 = .ok (.aload_n 0, 1) := by decide +kernel
theorem dX5_readRow_52 : decode cX5_readRow 52 = .ok (.getfield 18, 3) := by decide +kernel
theorem dX5_readRow_55 : decode cX5_readRow 55 = .ok (.ifCond .ne 7, 3) := by decide +kernel
theorem dX5_readRow_58 : decode cX5_readRow 58 = .ok (.iconst 1, 1) := by decide +kernel
theorem dX5_readRow_59 : decode cX5_readRow 59 = .ok (.goto 4, 3) := by decide +kernel
theorem dX5_readRow_62 : decode cX5_readRow 62 = .ok (.iconst 0, 1) := by decide +kernel
theorem dX5_readRow_63 : decode cX5_readRow 63 = .ok (.istore 5, 2) := by decide +kernel
theorem dX5_readRow_65 : decode cX5_readRow 65 = .ok (.iconst 1, 1) := by decide +kernel
theorem dX5_readRow_66 : decode cX5_readRow 66 = .ok (.istore 6, 2) := by decide +kernel
theorem dX5_readRow_68 : decode cX5_readRow 68 = .ok (.iload 5, 2) := by decide +kernel
theorem dX5_readRow_70 : decode cX5_readRow 70 = .ok (.ifCond .eq 70, 3) := by decide +kernel
theorem dX5_readRow_73 : decode cX5_readRow 73 = .ok (.iload 6, 2) := by decide +kernel
theorem dX5_readRow_75 : decode cX5_readRow 75 = .ok (.bipush 24, 2) := by decide +kernel
theorem dX5_readRow_77 : decode cX5_readRow 77 = .ok (.if_icmp .gt 63, 3) := by decide +kernel
theorem dX5_readRow_80 : decode cX5_readRow 80 = .ok (.iload_n 2, 1) := by decide +kernel
theorem dX5_readRow_81 : decode cX5_readRow 81 = .ok (.ifCond .eq 13, 3) := by decide +kernel
theorem dX5_readRow_84 : decode cX5_readRow 84 = .ok (.aload_n 0, 1) := by decide +kernel
theorem dX5_readRow_85 : decode cX5_readRow 85 = .ok (.aload_n 1, 1) := by decide +kernel
theorem dX5_readRow_86 : decode cX5_readRow 86 = .ok (.iload 4, 2) := by decide +kernel
theorem dX5_readRow_88 : decode cX5_readRow 88 = .ok (.invokevirtual 84, 3) := by decide +kernel
theorem dX5_readRow_91 : decode cX5_readRow 91 = .ok (.goto 8, 3) := by decide +kernel
theorem dX5_readRow_94 : decode cX5_readRow 94 = .ok (.aload_n 0, 1) := by decide +kernel
theorem dX5_readRow_95 : decode cX5_readRow 95 = .ok (.aload_n 1, 1) := by decide +kernel
theorem dX5_readRow_96 : decode cX5_readRow 96 = .ok (.invokevirtual 88, 3) := by decide +kernel
theorem dX5_readRow_99 : decode cX5_readRow 99 = .ok (.istore 4, 2) := by decide +kernel
theorem dX5_readRow_101 : decode cX5_readRow 101 = .ok (.aload_n 0, 1) := by decide +kernel
theorem dX5_readRow_102 : decode cX5_readRow 102 = .ok (.getfield 18, 3) := by decide +kernel
theorem dX5_readRow_105 : decode cX5_readRow 105 = .ok (.ifCond .ne 26, 3) := by decide +kernel
theorem dX5_readRow_108 : decode cX5_readRow 108 = .ok (.aload_n 0, 1) := by decide +kernel
theorem dX5_readRow_109 : decode cX5_readRow 109 = .ok (.aload_n 1, 1) := by decide +kernel
theorem dX5_readRow_110 : decode cX5_readRow 110 = .ok (.iload 6, 2) := by decide +kernel
theorem dX5_readRow_112 : decode cX5_readRow 112 = .ok (.iload_n 3, 1) := by decide +kernel
theorem dX5_readRow_113 : decode cX5_readRow 113 = .ok (.if_icmp .lt 7, 3) := by decide +kernel
theorem dX5_readRow_116 : decode cX5_readRow 116 = .ok (.iconst 1, 1) := by decide +kernel
theorem dX5_readRow_117 : decode cX5_readRow 117 = .ok (.goto 4, 3) := by decide +kernel
theorem dX5_readRow_120 : decode cX5_readRow 120 = .ok (.iconst 0, 1) := by decide +kernel
theorem dX5_readRow_121 : decode cX5_readRow 121 = .ok (.invokevirtual 92, 3) := by decide +kernel
theorem dX5_readRow_124 : decode cX5_readRow 124 = .ok (.ifCond .eq 7, 3) := by decide +kernel
theorem dX5_readRow_127 : decode cX5_readRow 127 = .ok (.iconst 1, 1) := by decide +kernel
theorem dX5_readRow_128 : decode cX5_readRow 128 = .ok (.goto 4, 3) := by decide +kernel
theorem dX5_readRow_131 : decode cX5_readRow 131 = .ok (.iconst 0, 1) := by decide +kernel
theorem dX5_readRow_132 : decode cX5_readRow 132 = .ok (.istore 5, 2) := by decide +kernel
theorem dX5_readRow_134 : decode cX5_readRow 134 = .ok (.iinc 6 1, 3) := by decide +kernel
theorem dX5_readRow_137 : decode cX5_readRow 137 = .ok (.goto (-69), 3) := by decide +kernel
theorem dX5_readRow_140 : decode cX5_readRow 140 = .ok (.iload 5, 2) := by decide +kernel
theorem dX5_readRow_142 : decode cX5_readRow 142 = .ok (.ifCond .eq 32, 3) := by decide +kernel
theorem dX5_readRow_145 : decode cX5_readRow 145 = .ok (.aload_n 0, 1) := by decide +kernel
theorem dX5_readRow_146 : decode cX5_readRow 146 = .ok (.aload_n 1, 1) := by decide +kernel
theorem dX5_readRow_147 : decode cX5_readRow 147 = .ok (.invokevirtual 47, 3) := by decide +kernel
theorem dX5_readRow_150 : decode cX5_readRow 150 = .ok (.aload_n 0, 1) := by decide +kernel
theorem dX5_readRow_151 : decode cX5_readRow 151 = .ok (.aload_n 0, 1) := by decide +kernel
theorem dX5_readRow_152 : decode cX5_readRow 152 = .ok (.getfield 28, 3) := by decide +kernel
theorem dX5_readRow_155 : decode cX5_readRow 155 = .ok (.aload_n 1, 1) := by decide +kernel
theorem dX5_readRow_156 : decode cX5_readRow 156 = .ok (.getfield 51, 3) := by decide +kernel
theorem dX5_readRow_159 : decode cX5_readRow 159 = .ok (.if_icmp .ge 7, 3) := by decide +kernel
theorem dX5_readRow_162 : decode cX5_readRow 162 = .ok (.iconst 5, 1) := by decide +kernel
theorem dX5_readRow_163 : decode cX5_readRow 163 = .ok (.goto 4, 3) := by decide +kernel
theorem dX5_readRow_166 : decode cX5_readRow 166 = .ok (.iconst 1, 1) := by decide +kernel
theorem dX5_readRow_167 : decode cX5_readRow 167 = .ok (.aload_n 0, 1) := by decide +kernel
theorem dX5_readRow_168 : decode cX5_readRow 168 = .ok (.getfield 28, 3) := by decide +kernel
theorem dX5_readRow_171 : decode cX5_readRow 171 = .ok (.invokevirtual 80, 3) := by decide +kernel
theorem dX5_readRow_174 : decode cX5_readRow 174 = .ok (.return_, 1) := by decide +kernel
theorem dX5_readComma_0 : decode cX5_readComma 0 = .ok (.aload_n 0, 1) := by decide +kernel
theorem dX5_readComma_1 : decode cX5_readComma 1 = .ok (.aload_n 1, 1) := by decide +kernel
theorem dX5_readComma_2 : decode cX5_readComma 2 = .ok (.invokevirtual 47, 3) := by decide +kernel
theorem dX5_readComma_5 : decode cX5_readComma 5 = .ok (.aload_n 1, 1) := by decide +kernel
theorem dX5_readComma_6 : decode cX5_readComma 6 = .ok (.aload_n 0, 1) := by decide +kernel
theorem dX5_readComma_7 : decode cX5_readComma 7 = .ok (.getfield 28, 3) := by decide +kernel
theorem dX5_readComma_10 : decode cX5_readComma 10 = .ok (.invokevirtual 59, 3) := by decide +kernel
theorem dX5_readComma_13 : decode cX5_readComma 13 = .ok (.istore_n 3, 1) := by decide +kernel
theorem dX5_readComma_14 : decode cX5_readComma 14 = .ok (.iload_n 3, 1) := by decide +kernel
theorem dX5_readComma_15 : decode cX5_readComma 15 = .ok (.bipush 44, 2) := by decide +kernel
theorem dX5_readComma_17 : decode cX5_readComma 17 = .ok (.if_icmp .ne 15, 3) := by decide +kernel
theorem dX5_readComma_20 : decode cX5_readComma 20 = .ok (.aload_n 0, 1) := by decide +kernel
theorem dX5_readComma_21 : decode cX5_readComma 21 = .ok (.dup, 1) := by decide +kernel
theorem dX5_readComma_22 : decode cX5_readComma 22 = .ok (.getfield 28, 3) := by decide +kernel
theorem dX5_readComma_25 : decode cX5_readComma 25 = .ok (.iconst 1, 1) := by decide +kernel
theorem dX5_readComma_26 : decode cX5_readComma 26 = .ok (.iadd, 1) := by decide +kernel
theorem dX5_readComma_27 : decode cX5_readComma 27 = .ok (.putfield 28, 3) := by decide +kernel
theorem dX5_readComma_30 : decode cX5_readComma 30 = .ok (.iconst 1, 1) := by decide +kernel
theorem dX5_readComma_31 : decode cX5_readComma 31 = .ok (.ireturn, 1) := by decide +kernel
theorem dX5_readComma_32 : decode cX5_readComma 32 = .ok (.iload_n 3, 1) := by decide +kernel
theorem dX5_readComma_33 : decode cX5_readComma 33 = .ok (.bipush 59, 2) := by decide +kernel
theorem dX5_readComma_35 : decode cX5_readComma 35 = .ok (.if_icmp .ne 30, 3) := by decide +kernel
theorem dX5_readComma_38 : decode cX5_readComma 38 = .ok (.iload_n 2, 1) := by decide +kernel
theorem dX5_readComma_39 : decode cX5_readComma 39 = .ok (.ifCond .eq 26, 3) := by decide +kernel
theorem dX5_readComma_42 : decode cX5_readComma 42 = .ok (.aload_n 0, 1) := by decide +kernel
theorem dX5_readComma_43 : decode cX5_readComma 43 = .ok (.dup, 1) := by decide +kernel
theorem dX5_readComma_44 : decode cX5_readComma 44 = .ok (.getfield 28, 3) := by decide +kernel
theorem dX5_readComma_47 : decode cX5_readComma 47 = .ok (.iconst 1, 1) := by decide +kernel
theorem dX5_readComma_48 : decode cX5_readComma 48 = .ok (.iadd, 1) := by decide +kernel
theorem dX5_readComma_49 : decode cX5_readComma 49 = .ok (.putfield 28, 3) := by decide +kernel
theorem dX5_readComma_52 : decode cX5_readComma 52 = .ok (.aload_n 0, 1) := by decide +kernel
theorem dX5_readComma_53 : decode cX5_readComma 53 = .ok (.dup, 1) := by decide +kernel
theorem dX5_readComma_54 : decode cX5_readComma 54 = .ok (.getfield 25, 3) := by decide +kernel
theorem dX5_readComma_57 : decode cX5_readComma 57 = .ok (.iconst 1, 1) := by decide +kernel
theorem dX5_readComma_58 : decode cX5_readComma 58 = .ok (.iadd, 1) := by decide +kernel
theorem dX5_readComma_59 : decode cX5_readComma 59 = .ok (.putfield 25, 3) := by decide +kernel
theorem dX5_readComma_62 : decode cX5_readComma 62 = .ok (.goto 12, 3) := by decide +kernel
theorem dX5_readComma_65 : decode cX5_readComma 65 = .ok (.aload_n 0, 1) := by decide +kernel
theorem dX5_readComma_66 : decode cX5_readComma 66 = .ok (.iconst 1, 1) := by decide +kernel
theorem dX5_readComma_67 : decode cX5_readComma 67 = .ok (.aload_n 0, 1) := by decide +kernel
theorem dX5_readComma_68 : decode cX5_readComma 68 = .ok (.getfield 28, 3) := by decide +kernel
theorem dX5_readComma_71 : decode cX5_readComma 71 = .ok (.invokevirtual 80, 3) := by decide +kernel
theorem dX5_readComma_74 : decode cX5_readComma 74 = .ok (.iconst 0, 1) := by decide +kernel
theorem dX5_readComma_75 : decode cX5_readComma 75 = .ok (.ireturn, 1) := by decide +kernel
theorem dX5_readNameHere_0 : decode cX5_readNameHere 0 = .ok (.aload_n 0, 1) := by decide +kernel
theorem dX5_readNameHere_1 : decode cX5_readNameHere 1 = .ok (.aload_n 1, 1) := by decide +kernel
theorem dX5_readNameHere_2 : decode cX5_readNameHere 2 = .ok (.invokevirtual 47, 3) := by decide +kernel
theorem dX5_readNameHere_5 : decode cX5_readNameHere 5 = .ok (.aload_n 0, 1) := by decide +kernel
theorem dX5_readNameHere_6 : decode cX5_readNameHere 6 = .ok (.aload_n 1, 1) := by decide +kernel
theorem dX5_readNameHere_7 : decode cX5_readNameHere 7 = .ok (.invokevirtual 56, 3) := by decide +kernel
theorem dX5_readNameHere_10 : decode cX5_readNameHere 10 = .ok (.aload_n 0, 1) := by decide +kernel
theorem dX5_readNameHere_11 : decode cX5_readNameHere 11 = .ok (.getfield 34, 3) := by decide +kernel
theorem dX5_readNameHere_14 : decode cX5_readNameHere 14 = .ok (.ifCond .eq 23, 3) := by decide +kernel
theorem dX5_readNameHere_17 : decode cX5_readNameHere 17 = .ok (.aload_n 0, 1) := by decide +kernel
theorem dX5_readNameHere_18 : decode cX5_readNameHere 18 = .ok (.aload_n 1, 1) := by decide +kernel
theorem dX5_readNameHere_19 : decode cX5_readNameHere 19 = .ok (.ldc 74, 2) := by decide +kernel
theorem dX5_readNameHere_21 : decode cX5_readNameHere 21 = .ok (.invokevirtual 76, 3) := by decide +kernel
theorem dX5_readNameHere_24 : decode cX5_readNameHere 24 = .ok (.ifCond .ne 13, 3) := by decide +kernel
theorem dX5_readNameHere_27 : decode cX5_readNameHere 27 = .ok (.aload_n 0, 1) := by decide +kernel
theorem dX5_readNameHere_28 : decode cX5_readNameHere 28 = .ok (.aload_n 1, 1) := by decide +kernel
theorem dX5_readNameHere_29 : decode cX5_readNameHere 29 = .ok (.ldc 72, 2) := by decide +kernel
theorem dX5_readNameHere_31 : decode cX5_readNameHere 31 = .ok (.invokevirtual 76, 3) := by decide +kernel
theorem dX5_readNameHere_34 : decode cX5_readNameHere 34 = .ok (.ifCond .eq 15, 3) := by decide +kernel
theorem dX5_readNameHere_37 : decode cX5_readNameHere 37 = .ok (.aload_n 0, 1) := by decide +kernel
theorem dX5_readNameHere_38 : decode cX5_readNameHere 38 = .ok (.iconst 1, 1) := by decide +kernel
theorem dX5_readNameHere_39 : decode cX5_readNameHere 39 = .ok (.aload_n 0, 1) := by decide +kernel
theorem dX5_readNameHere_40 : decode cX5_readNameHere 40 = .ok (.getfield 31, 3) := by decide +kernel
theorem dX5_readNameHere_43 : decode cX5_readNameHere 43 = .ok (.invokevirtual 80, 3) := by decide +kernel
theorem dX5_readNameHere_46 : decode cX5_readNameHere 46 = .ok (.goto 22, 3) := by decide +kernel
theorem dX5_readNameHere_49 : decode cX5_readNameHere 49 = .ok (.aload_n 0, 1) := by decide +kernel
theorem dX5_readNameHere_50 : decode cX5_readNameHere 50 = .ok (.getfield 34, 3) := by decide +kernel
theorem dX5_readNameHere_53 : decode cX5_readNameHere 53 = .ok (.iconst 4, 1) := by decide +kernel
theorem dX5_readNameHere_54 : decode cX5_readNameHere 54 = .ok (.if_icmp .le 14, 3) := by decide +kernel
theorem dX5_readNameHere_57 : decode cX5_readNameHere 57 = .ok (.aload_n 0, 1) := by decide +kernel
theorem dX5_readNameHere_58 : decode cX5_readNameHere 58 = .ok (.iconst 1, 1) := by decide +kernel
theorem dX5_readNameHere_59 : decode cX5_readNameHere 59 = .ok (.aload_n 0, 1) := by decide +kernel
theorem dX5_readNameHere_60 : decode cX5_readNameHere 60 = .ok (.getfield 31, 3) := by decide +kernel
theorem dX5_readNameHere_63 : decode cX5_readNameHere 63 = .ok (.iconst 4, 1) := by decide +kernel
theorem dX5_readNameHere_64 : decode cX5_readNameHere 64 = .ok (.iadd, 1) := by decide +kernel
theorem dX5_readNameHere_65 : decode cX5_readNameHere 65 = .ok (.invokevirtual 80, 3) := by decide +kernel
theorem dX5_readNameHere_68 : decode cX5_readNameHere 68 = .ok (.return_, 1) := by decide +kernel
theorem dX5_readNode_0 : decode cX5_readNode 0 = .ok (.aload_n 0, 1) := by decide +kernel
theorem dX5_readNode_1 : decode cX5_readNode 1 = .ok (.aload_n 1, 1) := by decide +kernel
theorem dX5_readNode_2 : decode cX5_readNode 2 = .ok (.invokevirtual 96, 3) := by decide +kernel
theorem dX5_readNode_5 : decode cX5_readNode 5 = .ok (.aload_n 0, 1) := by decide +kernel
theorem dX5_readNode_6 : decode cX5_readNode 6 = .ok (.getfield 18, 3) := by decide +kernel
theorem dX5_readNode_9 : decode cX5_readNode 9 = .ok (.ifCond .ne 27, 3) := by decide +kernel
theorem dX5_readNode_12 : decode cX5_readNode 12 = .ok (.aload_n 0, 1) := by decide +kernel
theorem dX5_readNode_13 : decode cX5_readNode 13 = .ok (.getfield 12, 3) := by decide +kernel
theorem dX5_readNode_16 : decode cX5_readNode 16 = .ok (.aload_n 0, 1) := by decide +kernel
theorem dX5_readNode_17 : decode cX5_readNode 17 = .ok (.getfield 37, 3) := by decide +kernel
theorem dX5_readNode_20 : decode cX5_readNode 20 = .ok (.invokevirtual 99, 3) := by decide +kernel
theorem dX5_readNode_23 : decode cX5_readNode 23 = .ok (.iconst (-1), 1) := by decide +kernel
theorem dX5_readNode_24 : decode cX5_readNode 24 = .ok (.if_icmp .eq 12, 3) := by decide +kernel
theorem dX5_readNode_27 : decode cX5_readNode 27 = .ok (.aload_n 0, 1) := by decide +kernel
theorem dX5_readNode_28 : decode cX5_readNode 28 = .ok (.iconst 3, 1) := by decide +kernel
theorem dX5_readNode_29 : decode cX5_readNode 29 = .ok (.aload_n 0, 1) := by decide +kernel
theorem dX5_readNode_30 : decode cX5_readNode 30 = .ok (.getfield 31, 3) := by decide +kernel
theorem dX5_readNode_33 : decode cX5_readNode 33 = .ok (.invokevirtual 80, 3) := by decide +kernel
theorem dX5_readNode_36 : decode cX5_readNode 36 = .ok (.aload_n 0, 1) := by decide +kernel
theorem dX5_readNode_37 : decode cX5_readNode 37 = .ok (.getfield 18, 3) := by decide +kernel
theorem dX5_readNode_40 : decode cX5_readNode 40 = .ok (.ifCond .ne 14, 3) := by decide +kernel
theorem dX5_readNode_43 : decode cX5_readNode 43 = .ok (.aload_n 0, 1) := by decide +kernel
theorem dX5_readNode_44 : decode cX5_readNode 44 = .ok (.getfield 12, 3) := by decide +kernel
theorem dX5_readNode_47 : decode cX5_readNode 47 = .ok (.aload_n 0, 1) := by decide +kernel
theorem dX5_readNode_48 : decode cX5_readNode 48 = .ok (.getfield 37, 3) := by decide +kernel
theorem dX5_readNode_51 : decode cX5_readNode 51 = .ok (.invokevirtual 102, 3) := by decide +kernel
theorem dX5_readNode_54 : decode cX5_readNode 54 = .ok (.iconst (-1), 1) := by decide +kernel
theorem dX5_readNode_55 : decode cX5_readNode 55 = .ok (.ireturn, 1) := by decide +kernel
theorem dX5_readStop_0 : decode cX5_readStop 0 = .ok (.aload_n 0, 1) := by decide +kernel
theorem dX5_readStop_1 : decode cX5_readStop 1 = .ok (.aload_n 1, 1) := by decide +kernel
theorem dX5_readStop_2 : decode cX5_readStop 2 = .ok (.invokevirtual 96, 3) := by decide +kernel
theorem dX5_readStop_5 : decode cX5_readStop 5 = .ok (.aload_n 0, 1) := by decide +kernel
theorem dX5_readStop_6 : decode cX5_readStop 6 = .ok (.getfield 18, 3) := by decide +kernel
theorem dX5_readStop_9 : decode cX5_readStop 9 = .ok (.ifCond .ne 17, 3) := by decide +kernel
theorem dX5_readStop_12 : decode cX5_readStop 12 = .ok (.aload_n 0, 1) := by decide +kernel
theorem dX5_readStop_13 : decode cX5_readStop 13 = .ok (.getfield 12, 3) := by decide +kernel
theorem dX5_readStop_16 : decode cX5_readStop 16 = .ok (.aload_n 0, 1) := by decide +kernel
theorem dX5_readStop_17 : decode cX5_readStop 17 = .ok (.getfield 37, 3) := by decide +kernel
theorem dX5_readStop_20 : decode cX5_readStop 20 = .ok (.invokevirtual 99, 3) := by decide +kernel
theorem dX5_readStop_23 : decode cX5_readStop 23 = .ok (.goto 4, 3) := by decide +kernel
theorem dX5_readStop_26 : decode cX5_readStop 26 = .ok (.iconst (-1), 1) := by decide +kernel
theorem dX5_readStop_27 : decode cX5_readStop 27 = .ok (.istore_n 3, 1) := by decide +kernel
theorem dX5_readStop_28 : decode cX5_readStop 28 = .ok (.aload_n 0, 1) := by decide +kernel
theorem dX5_readStop_29 : decode cX5_readStop 29 = .ok (.getfield 18, 3) := by decide +kernel
theorem dX5_readStop_32 : decode cX5_readStop 32 = .ok (.ifCond .ne 17, 3) := by decide +kernel
theorem dX5_readStop_35 : decode cX5_readStop 35 = .ok (.iload_n 3, 1) := by decide +kernel
theorem dX5_readStop_36 : decode cX5_readStop 36 = .ok (.iconst (-1), 1) := by decide +kernel
theorem dX5_readStop_37 : decode cX5_readStop 37 = .ok (.if_icmp .ne 12, 3) := by decide +kernel
theorem dX5_readStop_40 : decode cX5_readStop 40 = .ok (.aload_n 0, 1) := by decide +kernel
theorem dX5_readStop_41 : decode cX5_readStop 41 = .ok (.iconst 3, 1) := by decide +kernel
theorem dX5_readStop_42 : decode cX5_readStop 42 = .ok (.aload_n 0, 1) := by decide +kernel
theorem dX5_readStop_43 : decode cX5_readStop 43 = .ok (.getfield 31, 3) := by decide +kernel
theorem dX5_readStop_46 : decode cX5_readStop 46 = .ok (.invokevirtual 80, 3) := by decide +kernel
theorem dX5_readStop_49 : decode cX5_readStop 49 = .ok (.aload_n 0, 1) := by decide +kernel
theorem dX5_readStop_50 : decode cX5_readStop 50 = .ok (.getfield 18, 3) := by decide +kernel
theorem dX5_readStop_53 : decode cX5_readStop 53 = .ok (.ifCond .ne 72, 3) := by decide +kernel
theorem dX5_readStop_56 : decode cX5_readStop 56 = .ok (.iload_n 2, 1) := by decide +kernel
theorem dX5_readStop_57 : decode cX5_readStop 57 = .ok (.iconst (-1), 1) := by decide +kernel
theorem dX5_readStop_58 : decode cX5_readStop 58 = .ok (.if_icmp .eq 67, 3) := by decide +kernel
theorem dX5_readStop_61 : decode cX5_readStop 61 = .ok (.iload_n 3, 1) := by decide +kernel
theorem dX5_readStop_62 : decode cX5_readStop 62 = .ok (.iload_n 2, 1) := by decide +kernel
theorem dX5_readStop_63 : decode cX5_readStop 63 = .ok (.if_icmp .eq 16, 3) := by decide +kernel
theorem dX5_readStop_66 : decode cX5_readStop 66 = .ok (.aload_n 0, 1) := by decide +kernel
theorem dX5_readStop_67 : decode cX5_readStop 67 = .ok (.getfield 12, 3) := by decide +kernel
theorem dX5_readStop_70 : decode cX5_readStop 70 = .ok (.iload_n 2, 1) := by decide +kernel
theorem dX5_readStop_71 : decode cX5_readStop 71 = .ok (.iload_n 3, 1) := by decide +kernel
theorem dX5_readStop_72 : decode cX5_readStop 72 = .ok (.invokevirtual 106, 3) := by decide +kernel
theorem dX5_readStop_75 : decode cX5_readStop 75 = .ok (.iconst (-1), 1) := by decide +kernel
theorem dX5_readStop_76 : decode cX5_readStop 76 = .ok (.if_icmp .eq 15, 3) := by decide +kernel
theorem dX5_readStop_79 : decode cX5_readStop 79 = .ok (.aload_n 0, 1) := by decide +kernel
theorem dX5_readStop_80 : decode cX5_readStop 80 = .ok (.iconst 4, 1) := by decide +kernel
theorem dX5_readStop_81 : decode cX5_readStop 81 = .ok (.aload_n 0, 1) := by decide +kernel
theorem dX5_readStop_82 : decode cX5_readStop 82 = .ok (.getfield 31, 3) := by decide +kernel
theorem dX5_readStop_85 : decode cX5_readStop 85 = .ok (.invokevirtual 80, 3) := by decide +kernel
theorem dX5_readStop_88 : decode cX5_readStop 88 = .ok (.goto 37, 3) := by decide +kernel
theorem dX5_readStop_91 : decode cX5_readStop 91 = .ok (.aload_n 0, 1) := by decide +kernel
theorem dX5_readStop_92 : decode cX5_readStop 92 = .ok (.getfield 12, 3) := by decide +kernel
theorem dX5_readStop_95 : decode cX5_readStop 95 = .ok (.getfield 110, 3) := by decide +kernel
theorem dX5_readStop_98 : decode cX5_readStop 98 = .ok (.bipush 60, 2) := by decide +kernel
theorem dX5_readStop_100 : decode cX5_readStop 100 = .ok (.if_icmp .lt 15, 3) := by decide +kernel
theorem dX5_readStop_103 : decode cX5_readStop 103 = .ok (.aload_n 0, 1) := by decide +kernel
theorem dX5_readStop_104 : decode cX5_readStop 104 = .ok (.iconst 5, 1) := by decide +kernel
theorem dX5_readStop_105 : decode cX5_readStop 105 = .ok (.aload_n 0, 1) := by decide +kernel
theorem dX5_readStop_106 : decode cX5_readStop 106 = .ok (.getfield 31, 3) := by decide +kernel
theorem dX5_readStop_109 : decode cX5_readStop 109 = .ok (.invokevirtual 80, 3) := by decide +kernel
theorem dX5_readStop_112 : decode cX5_readStop 112 = .ok (.goto 13, 3) := by decide +kernel
theorem dX5_readStop_115 : decode cX5_readStop 115 = .ok (.aload_n 0, 1) := by decide +kernel
theorem dX5_readStop_116 : decode cX5_readStop 116 = .ok (.getfield 12, 3) := by decide +kernel
theorem dX5_readStop_119 : decode cX5_readStop 119 = .ok (.iload_n 2, 1) := by decide +kernel
theorem dX5_readStop_120 : decode cX5_readStop 120 = .ok (.iload_n 3, 1) := by decide +kernel
theorem dX5_readStop_121 : decode cX5_readStop 121 = .ok (.iconst 1, 1) := by decide +kernel
theorem dX5_readStop_122 : decode cX5_readStop 122 = .ok (.invokevirtual 113, 3) := by decide +kernel
theorem dX5_readStop_125 : decode cX5_readStop 125 = .ok (.iload_n 3, 1) := by decide +kernel
theorem dX5_readStop_126 : decode cX5_readStop 126 = .ok (.ireturn, 1) := by decide +kernel
theorem dX6_init_0 : decode cX6_init 0 = .ok (.aload_n 0, 1) := by decide +kernel
theorem dX6_init_1 : decode cX6_init 1 = .ok (.invokespecial 3, 3) := by decide +kernel
theorem dX6_init_4 : decode cX6_init 4 = .ok (.aload_n 0, 1) := by decide +kernel
theorem dX6_init_5 : decode cX6_init 5 = .ok (.bipush 24, 2) := by decide +kernel
theorem dX6_init_7 : decode cX6_init 7 = .ok (.newarray .int, 2) := by decide +kernel
theorem dX6_init_9 : decode cX6_init 9 = .ok (.putfield 9, 3) := by decide +kernel
theorem dX6_init_12 : decode cX6_init 12 = .ok (.aload_n 0, 1) := by decide +kernel
theorem dX6_init_13 : decode cX6_init 13 = .ok (.bipush 24, 2) := by decide +kernel
theorem dX6_init_15 : decode cX6_init 15 = .ok (.newarray .int, 2) := by decide +kernel
theorem dX6_init_17 : decode cX6_init 17 = .ok (.putfield 15, 3) := by decide +kernel
theorem dX6_init_20 : decode cX6_init 20 = .ok (.aload_n 0, 1) := by decide +kernel
theorem dX6_init_21 : decode cX6_init 21 = .ok (.iconst 0, 1) := by decide +kernel
theorem dX6_init_22 : decode cX6_init 22 = .ok (.putfield 18, 3) := by decide +kernel
theorem dX6_init_25 : decode cX6_init 25 = .ok (.return_, 1) := by decide +kernel
theorem dX6_weigh_0 : decode cX6_weigh 0 = .ok (.iconst 0, 1) := by decide +kernel
theorem dX6_weigh_1 : decode cX6_weigh 1 = .ok (.istore 4, 2) := by decide +kernel
theorem dX6_weigh_3 : decode cX6_weigh 3 = .ok (.iload 4, 2) := by decide +kernel
theorem dX6_weigh_5 : decode cX6_weigh 5 = .ok (.aload_n 1, 1) := by decide +kernel
theorem dX6_weigh_6 : decode cX6_weigh 6 = .ok (.getfield 22, 3) := by decide +kernel
theorem dX6_weigh_9 : decode cX6_weigh 9 = .ok (.if_icmp .ge 28, 3) := by decide +kernel
theorem dX6_weigh_12 : decode cX6_weigh 12 = .ok (.aload_n 0, 1) := by decide +kernel
theorem dX6_weigh_13 : decode cX6_weigh 13 = .ok (.getfield 9, 3) := by decide +kernel
theorem dX6_weigh_16 : decode cX6_weigh 16 = .ok (.iload 4, 2) := by decide +kernel
theorem dX6_weigh_18 : decode cX6_weigh 18 = .ok (.iload 4, 2) := by decide +kernel
theorem dX6_weigh_20 : decode cX6_weigh 20 = .ok (.iload_n 2, 1) := by decide +kernel
theorem dX6_weigh_21 : decode cX6_weigh 21 = .ok (.if_icmp .ne 7, 3) := by decide +kernel
theorem dX6_weigh_24 : decode cX6_weigh 24 = .ok (.iconst 0, 1) := by decide +kernel
theorem dX6_weigh_25 : decode cX6_weigh 25 = .ok (.goto 5, 3) := by decide +kernel
theorem dX6_weigh_28 : decode cX6_weigh 28 = .ok (.ldc 27, 2) := by decide +kernel
theorem dX6_weigh_30 : decode cX6_weigh 30 = .ok (.iastore, 1) := by decide +kernel
theorem dX6_weigh_31 : decode cX6_weigh 31 = .ok (.iinc 4 1, 3) := by decide +kernel
theorem dX6_weigh_34 : decode cX6_weigh 34 = .ok (.goto (-31), 3) := by decide +kernel
theorem dX6_weigh_37 : decode cX6_weigh 37 = .ok (.iconst 1, 1) := by decide +kernel
theorem dX6_weigh_38 : decode cX6_weigh 38 = .ok (.istore 4, 2) := by decide +kernel
theorem dX6_weigh_40 : decode cX6_weigh 40 = .ok (.iconst 0, 1) := by decide +kernel
theorem dX6_weigh_41 : decode cX6_weigh 41 = .ok (.istore 5, 2) := by decide +kernel
theorem dX6_weigh_43 : decode cX6_weigh 43 = .ok (.iload 4, 2) := by decide +kernel
theorem dX6_weigh_45 : decode cX6_weigh 45 = .ok (.ifCond .eq 117, 3) := by decide +kernel
theorem dX6_weigh_48 : decode cX6_weigh 48 = .ok (.iload 5, 2) := by decide +kernel
theorem dX6_weigh_50 : decode cX6_weigh 50 = .ok (.aload_n 1, 1) := by decide +kernel
theorem dX6_weigh_51 : decode cX6_weigh 51 = .ok (.getfield 22, 3) := by decide +kernel
theorem dX6_weigh_54 : decode cX6_weigh 54 = .ok (.if_icmp .ge 108, 3) := by decide +kernel
theorem dX6_weigh_57 : decode cX6_weigh 57 = .ok (.iconst 0, 1) := by decide +kernel
theorem dX6_weigh_58 : decode cX6_weigh 58 = .ok (.istore 4, 2) := by decide +kernel
theorem dX6_weigh_60 : decode cX6_weigh 60 = .ok (.iconst 0, 1) := by decide +kernel
theorem dX6_weigh_61 : decode cX6_weigh 61 = .ok (.istore 6, 2) := by decide +kernel
theorem dX6_weigh_63 : decode cX6_weigh 63 = .ok (.iload 6, 2) := by decide +kernel
theorem dX6_weigh_65 : decode cX6_weigh 65 = .ok (.aload_n 1, 1) := by decide +kernel
theorem dX6_weigh_66 : decode cX6_weigh 66 = .ok (.getfield 28, 3) := by decide +kernel
theorem dX6_weigh_69 : decode cX6_weigh 69 = .ok (.if_icmp .ge 87, 3) := by decide +kernel
theorem dX6_weigh_72 : decode cX6_weigh 72 = .ok (.aload_n 0, 1) := by decide +kernel
theorem dX6_weigh_73 : decode cX6_weigh 73 = .ok (.aload_n 1, 1) := by decide +kernel
theorem dX6_weigh_74 : decode cX6_weigh 74 = .ok (.getfield 31, 3) := by decide +kernel
theorem dX6_weigh_77 : decode cX6_weigh 77 = .ok (.iload 6, 2) := by decide +kernel
theorem dX6_weigh_79 : decode cX6_weigh 79 = .ok (.iaload, 1) := by decide +kernel
theorem dX6_weigh_80 : decode cX6_weigh 80 = .ok (.aload_n 1, 1) := by decide +kernel
theorem dX6_weigh_81 : decode cX6_weigh 81 = .ok (.getfield 34, 3) := by decide +kernel
theorem dX6_weigh_84 : decode cX6_weigh 84 = .ok (.iload 6, 2) := by decide +kernel
theorem dX6_weigh_86 : decode cX6_weigh 86 = .ok (.iaload, 1) := by decide +kernel
theorem dX6_weigh_87 : decode cX6_weigh 87 = .ok (.aload_n 1, 1) := by decide +kernel
theorem dX6_weigh_88 : decode cX6_weigh 88 = .ok (.getfield 37, 3) := by decide +kernel
theorem dX6_weigh_91 : decode cX6_weigh 91 = .ok (.iload 6, 2) := by decide +kernel
theorem dX6_weigh_93 : decode cX6_weigh 93 = .ok (.iaload, 1) := by decide +kernel
theorem dX6_weigh_94 : decode cX6_weigh 94 = .ok (.iload_n 3, 1) := by decide +kernel
theorem dX6_weigh_95 : decode cX6_weigh 95 = .ok (.invokevirtual 40, 3) := by decide +kernel
theorem dX6_weigh_98 : decode cX6_weigh 98 = .ok (.istore 7, 2) := by decide +kernel
theorem dX6_weigh_100 : decode cX6_weigh 100 = .ok (.aload_n 0, 1) := by decide +kernel
theorem dX6_weigh_101 : decode cX6_weigh 101 = .ok (.aload_n 1, 1) := by decide +kernel
theorem dX6_weigh_102 : decode cX6_weigh 102 = .ok (.getfield 34, 3) := by decide +kernel
theorem dX6_weigh_105 : decode cX6_weigh 105 = .ok (.iload 6, 2) := by decide +kernel
theorem dX6_weigh_107 : decode cX6_weigh 107 = .ok (.iaload, 1) := by decide +kernel
theorem dX6_weigh_108 : decode cX6_weigh 108 = .ok (.aload_n 1, 1) := by decide +kernel
theorem dX6_weigh_109 : decode cX6_weigh 109 = .ok (.getfield 31, 3) := by decide +kernel
theorem dX6_weigh_112 : decode cX6_weigh 112 = .ok (.iload 6, 2) := by decide +kernel
theorem dX6_weigh_114 : decode cX6_weigh 114 = .ok (.iaload, 1) := by decide +kernel
theorem dX6_weigh_115 : decode cX6_weigh 115 = .ok (.aload_n 1, 1) := by decide +kernel
theorem dX6_weigh_116 : decode cX6_weigh 116 = .ok (.getfield 37, 3) := by decide +kernel
theorem dX6_weigh_119 : decode cX6_weigh 119 = .ok (.iload 6, 2) := by decide +kernel
theorem dX6_weigh_121 : decode cX6_weigh 121 = .ok (.iaload, 1) := by decide +kernel
theorem dX6_weigh_122 : decode cX6_weigh 122 = .ok (.iload_n 3, 1) := by decide +kernel
theorem dX6_weigh_123 : decode cX6_weigh 123 = .ok (.invokevirtual 40, 3) := by decide +kernel
theorem dX6_weigh_126 : decode cX6_weigh 126 = .ok (.istore 8, 2) := by decide +kernel
theorem dX6_weigh_128 : decode cX6_weigh 128 = .ok (.iload 4, 2) := by decide +kernel
theorem dX6_weigh_130 : decode cX6_weigh 130 = .ok (.ifCond .ne 13, 3) := by decide +kernel
theorem dX6_weigh_133 : decode cX6_weigh 133 = .ok (.iload 7, 2) := by decide +kernel
theorem dX6_weigh_135 : decode cX6_weigh 135 = .ok (.ifCond .ne 8, 3) := by decide +kernel
theorem dX6_weigh_138 : decode cX6_weigh 138 = .ok (.iload 8, 2) := by decide +kernel
theorem dX6_weigh_140 : decode cX6_weigh 140 = .ok (.ifCond .eq 7, 3) := by decide +kernel
theorem dX6_weigh_143 : decode cX6_weigh 143 = .ok (.iconst 1, 1) := by decide +kernel
theorem dX6_weigh_144 : decode cX6_weigh 144 = .ok (.goto 4, 3) := by decide +kernel
theorem dX6_weigh_147 : decode cX6_weigh 147 = .ok (.iconst 0, 1) := by decide +kernel
theorem dX6_weigh_148 : decode cX6_weigh 148 = .ok (.istore 4, 2) := by decide +kernel
theorem dX6_weigh_150 : decode cX6_weigh 150 = .ok (.iinc 6 1, 3) := by decide +kernel
theorem dX6_weigh_153 : decode cX6_weigh 153 = .ok (.goto (-90), 3) := by decide +kernel
theorem dX6_weigh_156 : decode cX6_weigh 156 = .ok (.iinc 5 1, 3) := by decide +kernel
theorem dX6_weigh_159 : decode cX6_weigh 159 = .ok (.goto (-116), 3) := by decide +kernel
theorem dX6_weigh_162 : decode cX6_weigh 162 = .ok (.return_, 1) := by decide +kernel
theorem dX6_lower_0 : decode cX6_lower 0 = .ok (.aload_n 0, 1) := by decide +kernel
theorem dX6_lower_1 : decode cX6_lower 1 = .ok (.getfield 9, 3) := by decide +kernel
theorem dX6_lower_4 : decode cX6_lower 4 = .ok (.iload_n 2, 1) := by decide +kernel
theorem dX6_lower_5 : decode cX6_lower 5 = .ok (.iaload, 1) := by decide +kernel
theorem dX6_lower_6 : decode cX6_lower 6 = .ok (.ldc 27, 2) := by decide +kernel
theorem dX6_lower_8 : decode cX6_lower 8 = .ok (.if_icmp .lt 5, 3) := by decide +kernel
theorem dX6_lower_11 : decode cX6_lower 11 = .ok (.iconst 0, 1) := by decide +kernel
theorem dX6_lower_12 : decode cX6_lower 12 = .ok (.ireturn, 1) := by decide +kernel
theorem dX6_lower_13 : decode cX6_lower 13 = .ok (.iload 4, 2) := by decide +kernel
theorem dX6_lower_15 : decode cX6_lower 15 = .ok (.ifCond .eq 16, 3) := by decide +kernel
theorem dX6_lower_18 : decode cX6_lower 18 = .ok (.aload_n 0, 1) := by decide +kernel
theorem dX6_lower_19 : decode cX6_lower 19 = .ok (.getfield 9, 3) := by decide +kernel
theorem dX6_lower_22 : decode cX6_lower 22 = .ok (.iload_n 2, 1) := by decide +kernel
theorem dX6_lower_23 : decode cX6_lower 23 = .ok (.iaload, 1) := by decide +kernel
theorem dX6_lower_24 : decode cX6_lower 24 = .ok (.iload_n 3, 1) := by decide +kernel
theorem dX6_lower_25 : decode cX6_lower 25 = .ok (.invokestatic 44, 3) := by decide +kernel
theorem dX6_lower_28 : decode cX6_lower 28 = .ok (.goto 11, 3) := by decide +kernel
theorem dX6_lower_31 : decode cX6_lower 31 = .ok (.aload_n 0, 1) := by decide +kernel
theorem dX6_lower_32 : decode cX6_lower 32 = .ok (.getfield 9, 3) := by decide +kernel
theorem dX6_lower_35 : decode cX6_lower 35 = .ok (.iload_n 2, 1) := by decide +kernel
theorem dX6_lower_36 : decode cX6_lower 36 = .ok (.iaload, 1) := by decide +kernel
theorem dX6_lower_37 : decode cX6_lower 37 = .ok (.iload_n 3, 1) := by decide +kernel
theorem dX6_lower_38 : decode cX6_lower 38 = .ok (.iadd, 1) := by decide +kernel
theorem dX6_lower_39 : decode cX6_lower 39 = .ok (.istore 5, 2) := by decide +kernel
theorem dX6_lower_41 : decode cX6_lower 41 = .ok (.iload 5, 2) := by decide +kernel
theorem dX6_lower_43 : decode cX6_lower 43 = .ok (.aload_n 0, 1) := by decide +kernel
theorem dX6_lower_44 : decode cX6_lower 44 = .ok (.getfield 9, 3) := by decide +kernel
theorem dX6_lower_47 : decode cX6_lower 47 = .ok (.iload_n 1, 1) := by decide +kernel
theorem dX6_lower_48 : decode cX6_lower 48 = .ok (.iaload, 1) := by decide +kernel
theorem dX6_lower_49 : decode cX6_lower 49 = .ok (.if_icmp .lt 5, 3) := by decide +kernel
theorem dX6_lower_52 : decode cX6_lower 52 = .ok (.iconst 0, 1) := by decide +kernel
theorem dX6_lower_53 : decode cX6_lower 53 = .ok (.ireturn, 1) := by decide +kernel
theorem dX6_lower_54 : decode cX6_lower 54 = .ok (.aload_n 0, 1) := by decide +kernel
theorem dX6_lower_55 : decode cX6_lower 55 = .ok (.getfield 9, 3) := by decide +kernel
theorem dX6_lower_58 : decode cX6_lower 58 = .ok (.iload_n 1, 1) := by decide +kernel
theorem dX6_lower_59 : decode cX6_lower 59 = .ok (.iload 5, 2) := by decide +kernel
theorem dX6_lower_61 : decode cX6_lower 61 = .ok (.iastore, 1) := by decide +kernel
theorem dX6_lower_62 : decode cX6_lower 62 = .ok (.iconst 1, 1) := by decide +kernel
theorem dX6_lower_63 : decode cX6_lower 63 = .ok (.ireturn, 1) := by decide +kernel
theorem dX6_walk_0 : decode cX6_walk 0 = .ok (.iload_n 2, 1) := by decide +kernel
theorem dX6_walk_1 : decode cX6_walk 1 = .ok (.istore 4, 2) := by decide +kernel
theorem dX6_walk_3 : decode cX6_walk 3 = .ok (.aload_n 0, 1) := by decide +kernel
theorem dX6_walk_4 : decode cX6_walk 4 = .ok (.getfield 15, 3) := by decide +kernel
theorem dX6_walk_7 : decode cX6_walk 7 = .ok (.iconst 0, 1) := by decide +kernel
theorem dX6_walk_8 : decode cX6_walk 8 = .ok (.iload_n 2, 1) := by decide +kernel
theorem dX6_walk_9 : decode cX6_walk 9 = .ok (.iastore, 1) := by decide +kernel
theorem dX6_walk_10 : decode cX6_walk 10 = .ok (.aload_n 0, 1) := by decide +kernel
theorem dX6_walk_11 : decode cX6_walk 11 = .ok (.iconst 1, 1) := by decide +kernel
theorem dX6_walk_12 : decode cX6_walk 12 = .ok (.putfield 18, 3) := by decide +kernel
theorem dX6_walk_15 : decode cX6_walk 15 = .ok (.aload_n 0, 1) := by decide +kernel
theorem dX6_walk_16 : decode cX6_walk 16 = .ok (.getfield 18, 3) := by decide +kernel
theorem dX6_walk_19 : decode cX6_walk 19 = .ok (.bipush 24, 2) := by decide +kernel
theorem dX6_walk_21 : decode cX6_walk 21 = .ok (.if_icmp .ge 49, 3) := by decide +kernel
theorem dX6_walk_24 : decode cX6_walk 24 = .ok (.iload 4, 2) := by decide +kernel
theorem dX6_walk_26 : decode cX6_walk 26 = .ok (.iload_n 3, 1) := by decide +kernel
theorem dX6_walk_27 : decode cX6_walk 27 = .ok (.if_icmp .eq 43, 3) := by decide +kernel
theorem dX6_walk_30 : decode cX6_walk 30 = .ok (.aload_n 0, 1) := by decide +kernel
theorem dX6_walk_31 : decode cX6_walk 31 = .ok (.aload_n 1, 1) := by decide +kernel
theorem dX6_walk_32 : decode cX6_walk 32 = .ok (.iload 4, 2) := by decide +kernel
theorem dX6_walk_34 : decode cX6_walk 34 = .ok (.invokevirtual 50, 3) := by decide +kernel
theorem dX6_walk_37 : decode cX6_walk 37 = .ok (.istore 4, 2) := by decide +kernel
theorem dX6_walk_39 : decode cX6_walk 39 = .ok (.iload 4, 2) := by decide +kernel
theorem dX6_walk_41 : decode cX6_walk 41 = .ok (.iconst (-1), 1) := by decide +kernel
theorem dX6_walk_42 : decode cX6_walk 42 = .ok (.if_icmp .ne 4, 3) := by decide +kernel
theorem dX6_walk_45 : decode cX6_walk 45 = .ok (.return_, 1) := by decide +kernel
theorem dX6_walk_46 : decode cX6_walk 46 = .ok (.aload_n 0, 1) := by decide +kernel
theorem dX6_walk_47 : decode cX6_walk 47 = .ok (.getfield 15, 3) := by decide +kernel
theorem dX6_walk_50 : decode cX6_walk 50 = .ok (.aload_n 0, 1) := by decide +kernel
theorem dX6_walk_51 : decode cX6_walk 51 = .ok (.getfield 18, 3) := by decide +kernel
theorem dX6_walk_54 : decode cX6_walk 54 = .ok (.iload 4, 2) := by decide +kernel
theorem dX6_walk_56 : decode cX6_walk 56 = .ok (.iastore, 1) := by decide +kernel
theorem dX6_walk_57 : decode cX6_walk 57 = .ok (.aload_n 0, 1) := by decide +kernel
theorem dX6_walk_58 : decode cX6_walk 58 = .ok (.dup, 1) := by decide +kernel
theorem dX6_walk_59 : decode cX6_walk 59 = .ok (.getfield 18, 3) := by decide +kernel
theorem dX6_walk_62 : decode cX6_walk 62 = .ok (.iconst 1, 1) := by decide +kernel
theorem dX6_walk_63 : decode cX6_walk 63 = .ok (.iadd, 1) := by decide +kernel
theorem dX6_walk_64 : decode cX6_walk 64 = .ok (.putfield 18, 3) := by decide +kernel
theorem dX6_walk_67 : decode cX6_walk 67 = .ok (.goto (-52), 3) := by decide +kernel
theorem dX6_walk_70 : decode cX6_walk 70 = .ok (.return_, 1) := by decide +kernel
theorem dX6_nextStop_0 : decode cX6_nextStop 0 = .ok (.iconst (-1), 1) := by decide +kernel
theorem dX6_nextStop_1 : decode cX6_nextStop 1 = .ok (.istore_n 3, 1) := by decide +kernel
theorem dX6_nextStop_2 : decode cX6_nextStop 2 = .ok (.iconst 0, 1) := by decide +kernel
theorem dX6_nextStop_3 : decode cX6_nextStop 3 = .ok (.istore 4, 2) := by decide +kernel
theorem dX6_nextStop_5 : decode cX6_nextStop 5 = .ok (.iload 4, 2) := by decide +kernel
theorem dX6_nextStop_7 : decode cX6_nextStop 7 = .ok (.aload_n 1, 1) := by decide +kernel
theorem dX6_nextStop_8 : decode cX6_nextStop 8 = .ok (.getfield 28, 3) := by decide +kernel
theorem dX6_nextStop_11 : decode cX6_nextStop 11 = .ok (.if_icmp .ge 99, 3) := by decide +kernel
theorem dX6_nextStop_14 : decode cX6_nextStop 14 = .ok (.iconst (-1), 1) := by decide +kernel
theorem dX6_nextStop_15 : decode cX6_nextStop 15 = .ok (.istore 5, 2) := by decide +kernel
theorem dX6_nextStop_17 : decode cX6_nextStop 17 = .ok (.aload_n 1, 1) := by decide +kernel
theorem dX6_nextStop_18 : decode cX6_nextStop 18 = .ok (.getfield 31, 3) := by decide +kernel
theorem dX6_nextStop_21 : decode cX6_nextStop 21 = .ok (.iload 4, 2) := by decide +kernel
theorem dX6_nextStop_23 : decode cX6_nextStop 23 = .ok (.iaload, 1) := by decide +kernel
theorem dX6_nextStop_24 : decode cX6_nextStop 24 = .ok (.iload_n 2, 1) := by decide +kernel
theorem dX6_nextStop_25 : decode cX6_nextStop 25 = .ok (.if_icmp .ne 15, 3) := by decide +kernel
theorem dX6_nextStop_28 : decode cX6_nextStop 28 = .ok (.aload_n 1, 1) := by decide +kernel
theorem dX6_nextStop_29 : decode cX6_nextStop 29 = .ok (.getfield 34, 3) := by decide +kernel
theorem dX6_nextStop_32 : decode cX6_nextStop 32 = .ok (.iload 4, 2) := by decide +kernel
theorem dX6_nextStop_34 : decode cX6_nextStop 34 = .ok (.iaload, 1) := by decide +kernel
theorem dX6_nextStop_35 : decode cX6_nextStop 35 = .ok (.istore 5, 2) := by decide +kernel
theorem dX6_nextStop_37 : decode cX6_nextStop 37 = .ok (.goto 23, 3) := by decide +kernel
theorem dX6_nextStop_40 : decode cX6_nextStop 40 = .ok (.aload_n 1, 1) := by decide +kernel
theorem dX6_nextStop_41 : decode cX6_nextStop 41 = .ok (.getfield 34, 3) := by decide +kernel
theorem dX6_nextStop_44 : decode cX6_nextStop 44 = .ok (.iload 4, 2) := by decide +kernel
theorem dX6_nextStop_46 : decode cX6_nextStop 46 = .ok (.iaload, 1) := by decide +kernel
theorem dX6_nextStop_47 : decode cX6_nextStop 47 = .ok (.iload_n 2, 1) := by decide +kernel
theorem dX6_nextStop_48 : decode cX6_nextStop 48 = .ok (.if_icmp .ne 12, 3) := by decide +kernel
theorem dX6_nextStop_51 : decode cX6_nextStop 51 = .ok (.aload_n 1, 1) := by decide +kernel
theorem dX6_nextStop_52 : decode cX6_nextStop 52 = .ok (.getfield 31, 3) := by decide +kernel
theorem dX6_nextStop_55 : decode cX6_nextStop 55 = .ok (.iload 4, 2) := by decide +kernel
theorem dX6_nextStop_57 : decode cX6_nextStop 57 = .ok (.iaload, 1) := by decide +kernel
theorem dX6_nextStop_58 : decode cX6_nextStop 58 = .ok (.istore 5, 2) := by decide +kernel
theorem dX6_nextStop_60 : decode cX6_nextStop 60 = .ok (.iload 5, 2) := by decide +kernel
theorem dX6_nextStop_62 : decode cX6_nextStop 62 = .ok (.iconst (-1), 1) := by decide +kernel
theorem dX6_nextStop_63 : decode cX6_nextStop 63 = .ok (.if_icmp .eq 41, 3) := by decide +kernel
theorem dX6_nextStop_66 : decode cX6_nextStop 66 = .ok (.aload_n 0, 1) := by decide +kernel
theorem dX6_nextStop_67 : decode cX6_nextStop 67 = .ok (.getfield 9, 3) := by decide +kernel
theorem dX6_nextStop_70 : decode cX6_nextStop 70 = .ok (.iload 5, 2) := by decide +kernel
theorem dX6_nextStop_72 : decode cX6_nextStop 72 = .ok (.iaload, 1) := by decide +kernel
theorem dX6_nextStop_73 : decode cX6_nextStop 73 = .ok (.aload_n 1, 1) := by decide +kernel
theorem dX6_nextStop_74 : decode cX6_nextStop 74 = .ok (.getfield 37, 3) := by decide +kernel
theorem dX6_nextStop_77 : decode cX6_nextStop 77 = .ok (.iload 4, 2) := by decide +kernel
theorem dX6_nextStop_79 : decode cX6_nextStop 79 = .ok (.iaload, 1) := by decide +kernel
theorem dX6_nextStop_80 : decode cX6_nextStop 80 = .ok (.iadd, 1) := by decide +kernel
theorem dX6_nextStop_81 : decode cX6_nextStop 81 = .ok (.aload_n 0, 1) := by decide +kernel
theorem dX6_nextStop_82 : decode cX6_nextStop 82 = .ok (.getfield 9, 3) := by decide +kernel
theorem dX6_nextStop_85 : decode cX6_nextStop 85 = .ok (.iload_n 2, 1) := by decide +kernel
theorem dX6_nextStop_86 : decode cX6_nextStop 86 = .ok (.iaload, 1) := by decide +kernel
theorem dX6_nextStop_87 : decode cX6_nextStop 87 = .ok (.if_icmp .ne 17, 3) := by decide +kernel
theorem dX6_nextStop_90 : decode cX6_nextStop 90 = .ok (.iload_n 3, 1) := by decide +kernel
theorem dX6_nextStop_91 : decode cX6_nextStop 91 = .ok (.iconst (-1), 1) := by decide +kernel
theorem dX6_nextStop_92 : decode cX6_nextStop 92 = .ok (.if_icmp .eq 9, 3) := by decide +kernel
theorem dX6_nextStop_95 : decode cX6_nextStop 95 = .ok (.iload 5, 2) := by decide +kernel
theorem dX6_nextStop_97 : decode cX6_nextStop 97 = .ok (.iload_n 3, 1) := by decide +kernel
theorem dX6_nextStop_98 : decode cX6_nextStop 98 = .ok (.if_icmp .ge 6, 3) := by decide +kernel
theorem dX6_nextStop_101 : decode cX6_nextStop 101 = .ok (.iload 5, 2) := by decide +kernel
theorem dX6_nextStop_103 : decode cX6_nextStop 103 = .ok (.istore_n 3, 1) := by decide +kernel
theorem dX6_nextStop_104 : decode cX6_nextStop 104 = .ok (.iinc 4 1, 3) := by decide +kernel
theorem dX6_nextStop_107 : decode cX6_nextStop 107 = .ok (.goto (-102), 3) := by decide +kernel
theorem dX6_nextStop_110 : decode cX6_nextStop 110 = .ok (.iload_n 3, 1) := by decide +kernel
theorem dX6_nextStop_111 : decode cX6_nextStop 111 = .ok (.ireturn, 1) := by decide +kernel
theorem dX7_init_0 : decode cX7_init 0 = .ok (.aload_n 0, 1) := by decide +kernel
theorem dX7_init_1 : decode cX7_init 1 = .ok (.invokespecial 3, 3) := by decide +kernel
theorem dX7_init_4 : decode cX7_init 4 = .ok (.aload_n 0, 1) := by decide +kernel
theorem dX7_init_5 : decode cX7_init 5 = .ok (.iconst 0, 1) := by decide +kernel
theorem dX7_init_6 : decode cX7_init 6 = .ok (.putfield 9, 3) := by decide +kernel
theorem dX7_init_9 : decode cX7_init 9 = .ok (.aload_n 0, 1) := by decide +kernel
theorem dX7_init_10 : decode cX7_init 10 = .ok (.iconst 0, 1) := by decide +kernel
theorem dX7_init_11 : decode cX7_init 11 = .ok (.putfield 15, 3) := by decide +kernel
theorem dX7_init_14 : decode cX7_init 14 = .ok (.aload_n 0, 1) := by decide +kernel
theorem dX7_init_15 : decode cX7_init 15 = .ok (.bipush 60, 2) := by decide +kernel
theorem dX7_init_17 : decode cX7_init 17 = .ok (.newarray .int, 2) := by decide +kernel
theorem dX7_init_19 : decode cX7_init 19 = .ok (.putfield 18, 3) := by decide +kernel
theorem dX7_init_22 : decode cX7_init 22 = .ok (.return_, 1) := by decide +kernel
theorem dX7_findCrossing_0 : decode cX7_findCrossing 0 = .ok (.iconst 0, 1) := by decide +kernel
theorem dX7_findCrossing_1 : decode cX7_findCrossing 1 = .ok (.istore_n 2, 1) := by decide +kernel
theorem dX7_findCrossing_2 : decode cX7_findCrossing 2 = .ok (.iload_n 2, 1) := by decide +kernel
theorem dX7_findCrossing_3 : decode cX7_findCrossing 3 = .ok (.aload_n 1, 1) := by decide +kernel
theorem dX7_findCrossing_4 : decode cX7_findCrossing 4 = .ok (.getfield 22, 3) := by decide +kernel
theorem dX7_findCrossing_7 : decode cX7_findCrossing 7 = .ok (.if_icmp .ge 59, 3) := by decide +kernel
theorem dX7_findCrossing_10 : decode cX7_findCrossing 10 = .ok (.aload_n 0, 1) := by decide +kernel
theorem dX7_findCrossing_11 : decode cX7_findCrossing 11 = .ok (.getfield 18, 3) := by decide +kernel
theorem dX7_findCrossing_14 : decode cX7_findCrossing 14 = .ok (.iload_n 2, 1) := by decide +kernel
theorem dX7_findCrossing_15 : decode cX7_findCrossing 15 = .ok (.iconst 0, 1) := by decide +kernel
theorem dX7_findCrossing_16 : decode cX7_findCrossing 16 = .ok (.iastore, 1) := by decide +kernel
theorem dX7_findCrossing_17 : decode cX7_findCrossing 17 = .ok (.iconst 0, 1) := by decide +kernel
theorem dX7_findCrossing_18 : decode cX7_findCrossing 18 = .ok (.istore_n 3, 1) := by decide +kernel
theorem dX7_findCrossing_19 : decode cX7_findCrossing 19 = .ok (.iload_n 3, 1) := by decide +kernel
theorem dX7_findCrossing_20 : decode cX7_findCrossing 20 = .ok (.aload_n 1, 1) := by decide +kernel
theorem dX7_findCrossing_21 : decode cX7_findCrossing 21 = .ok (.getfield 22, 3) := by decide +kernel
theorem dX7_findCrossing_24 : decode cX7_findCrossing 24 = .ok (.if_icmp .ge 36, 3) := by decide +kernel
theorem dX7_findCrossing_27 : decode cX7_findCrossing 27 = .ok (.iload_n 3, 1) := by decide +kernel
theorem dX7_findCrossing_28 : decode cX7_findCrossing 28 = .ok (.iload_n 2, 1) := by decide +kernel
theorem dX7_findCrossing_29 : decode cX7_findCrossing 29 = .ok (.if_icmp .eq 25, 3) := by decide +kernel
theorem dX7_findCrossing_32 : decode cX7_findCrossing 32 = .ok (.aload_n 1, 1) := by decide +kernel
theorem dX7_findCrossing_33 : decode cX7_findCrossing 33 = .ok (.iload_n 2, 1) := by decide +kernel
theorem dX7_findCrossing_34 : decode cX7_findCrossing 34 = .ok (.iload_n 3, 1) := by decide +kernel
theorem dX7_findCrossing_35 : decode cX7_findCrossing 35 = .ok (.invokevirtual 27, 3) := by decide +kernel
theorem dX7_findCrossing_38 : decode cX7_findCrossing 38 = .ok (.iconst 4, 1) := by decide +kernel
theorem dX7_findCrossing_39 : decode cX7_findCrossing 39 = .ok (.if_icmp .ne 15, 3) := by decide +kernel
theorem dX7_findCrossing_42 : decode cX7_findCrossing 42 = .ok (.aload_n 0, 1) := by decide +kernel
theorem dX7_findCrossing_43 : decode cX7_findCrossing 43 = .ok (.getfield 18, 3) := by decide +kernel
theorem dX7_findCrossing_46 : decode cX7_findCrossing 46 = .ok (.iload_n 2, 1) := by decide +kernel
theorem dX7_findCrossing_47 : decode cX7_findCrossing 47 = .ok (.dup2, 1) := by decide +kernel
theorem dX7_findCrossing_48 : decode cX7_findCrossing 48 = .ok (.iaload, 1) := by decide +kernel
theorem dX7_findCrossing_49 : decode cX7_findCrossing 49 = .ok (.iconst 1, 1) := by decide +kernel
theorem dX7_findCrossing_50 : decode cX7_findCrossing 50 = .ok (.iload_n 3, 1) := by decide +kernel
theorem dX7_findCrossing_51 : decode cX7_findCrossing 51 = .ok (.ishl, 1) := by decide +kernel
theorem dX7_findCrossing_52 : decode cX7_findCrossing 52 = .ok (.ior, 1) := by decide +kernel
theorem dX7_findCrossing_53 : decode cX7_findCrossing 53 = .ok (.iastore, 1) := by decide +kernel
theorem dX7_findCrossing_54 : decode cX7_findCrossing 54 = .ok (.iinc 3 1, 3) := by decide +kernel
theorem dX7_findCrossing_57 : decode cX7_findCrossing 57 = .ok (.goto (-38), 3) := by decide +kernel
theorem dX7_findCrossing_60 : decode cX7_findCrossing 60 = .ok (.iinc 2 1, 3) := by decide +kernel
theorem dX7_findCrossing_63 : decode cX7_findCrossing 63 = .ok (.goto (-61), 3) := by decide +kernel
theorem dX7_findCrossing_66 : decode cX7_findCrossing 66 = .ok (.aload_n 0, 1) := by decide +kernel
theorem dX7_findCrossing_67 : decode cX7_findCrossing 67 = .ok (.iconst (-1), 1) := by decide +kernel
theorem dX7_findCrossing_68 : decode cX7_findCrossing 68 = .ok (.putfield 9, 3) := by decide +kernel
theorem dX7_findCrossing_71 : decode cX7_findCrossing 71 = .ok (.aload_n 0, 1) := by decide +kernel
theorem dX7_findCrossing_72 : decode cX7_findCrossing 72 = .ok (.iconst 0, 1) := by decide +kernel
theorem dX7_findCrossing_73 : decode cX7_findCrossing 73 = .ok (.putfield 15, 3) := by decide +kernel
theorem dX7_findCrossing_76 : decode cX7_findCrossing 76 = .ok (.aload_n 0, 1) := by decide +kernel
theorem dX7_findCrossing_77 : decode cX7_findCrossing 77 = .ok (.iconst 0, 1) := by decide +kernel
theorem dX7_findCrossing_78 : decode cX7_findCrossing 78 = .ok (.aload_n 1, 1) := by decide +kernel
theorem dX7_findCrossing_79 : decode cX7_findCrossing 79 = .ok (.getfield 22, 3) := by decide +kernel
theorem dX7_findCrossing_82 : decode cX7_findCrossing 82 = .ok (.invokestatic 31, 3) := by decide +kernel
theorem dX7_findCrossing_85 : decode cX7_findCrossing 85 = .ok (.aload_n 1, 1) := by decide +kernel
theorem dX7_findCrossing_86 : decode cX7_findCrossing 86 = .ok (.getfield 22, 3) := by decide +kernel
theorem dX7_findCrossing_89 : decode cX7_findCrossing 89 = .ok (.invokevirtual 35, 3) := by decide +kernel
theorem dX7_findCrossing_92 : decode cX7_findCrossing 92 = .ok (.return_, 1) := by decide +kernel
theorem dX7_addCrossing_0 : decode cX7_addCrossing 0 = .ok (.iload_n 1, 1) := by decide +kernel
theorem dX7_addCrossing_1 : decode cX7_addCrossing 1 = .ok (.invokestatic 39, 3) := by decide +kernel
theorem dX7_addCrossing_4 : decode cX7_addCrossing 4 = .ok (.istore 4, 2) := by decide +kernel
theorem dX7_addCrossing_6 : decode cX7_addCrossing 6 = .ok (.iload 4, 2) := by decide +kernel
theorem dX7_addCrossing_8 : decode cX7_addCrossing 8 = .ok (.iload_n 2, 1) := by decide +kernel
theorem dX7_addCrossing_9 : decode cX7_addCrossing 9 = .ok (.invokestatic 39, 3) := by decide +kernel
theorem dX7_addCrossing_12 : decode cX7_addCrossing 12 = .ok (.iadd, 1) := by decide +kernel
theorem dX7_addCrossing_13 : decode cX7_addCrossing 13 = .ok (.aload_n 0, 1) := by decide +kernel
theorem dX7_addCrossing_14 : decode cX7_addCrossing 14 = .ok (.getfield 9, 3) := by decide +kernel
theorem dX7_addCrossing_17 : decode cX7_addCrossing 17 = .ok (.if_icmp .gt 4, 3) := by decide +kernel
theorem dX7_addCrossing_20 : decode cX7_addCrossing 20 = .ok (.return_, 1) := by decide +kernel
theorem dX7_addCrossing_21 : decode cX7_addCrossing 21 = .ok (.iload_n 2, 1) := by decide +kernel
theorem dX7_addCrossing_22 : decode cX7_addCrossing 22 = .ok (.ifCond .eq 7, 3) := by decide +kernel
theorem dX7_addCrossing_25 : decode cX7_addCrossing 25 = .ok (.iload_n 3, 1) := by decide +kernel
theorem dX7_addCrossing_26 : decode cX7_addCrossing 26 = .ok (.ifCond .gt 15, 3) := by decide +kernel
theorem dX7_addCrossing_29 : decode cX7_addCrossing 29 = .ok (.aload_n 0, 1) := by decide +kernel
theorem dX7_addCrossing_30 : decode cX7_addCrossing 30 = .ok (.iload 4, 2) := by decide +kernel
theorem dX7_addCrossing_32 : decode cX7_addCrossing 32 = .ok (.putfield 9, 3) := by decide +kernel
theorem dX7_addCrossing_35 : decode cX7_addCrossing 35 = .ok (.aload_n 0, 1) := by decide +kernel
theorem dX7_addCrossing_36 : decode cX7_addCrossing 36 = .ok (.iload_n 1, 1) := by decide +kernel
theorem dX7_addCrossing_37 : decode cX7_addCrossing 37 = .ok (.putfield 15, 3) := by decide +kernel
theorem dX7_addCrossing_40 : decode cX7_addCrossing 40 = .ok (.return_, 1) := by decide +kernel
theorem dX7_addCrossing_41 : decode cX7_addCrossing 41 = .ok (.iload_n 2, 1) := by decide +kernel
theorem dX7_addCrossing_42 : decode cX7_addCrossing 42 = .ok (.invokestatic 44, 3) := by decide +kernel
theorem dX7_addCrossing_45 : decode cX7_addCrossing 45 = .ok (.istore 5, 2) := by decide +kernel
theorem dX7_addCrossing_47 : decode cX7_addCrossing 47 = .ok (.iload_n 2, 1) := by decide +kernel
theorem dX7_addCrossing_48 : decode cX7_addCrossing 48 = .ok (.iconst 1, 1) := by decide +kernel
theorem dX7_addCrossing_49 : decode cX7_addCrossing 49 = .ok (.iload 5, 2) := by decide +kernel
theorem dX7_addCrossing_51 : decode cX7_addCrossing 51 = .ok (.ishl, 1) := by decide +kernel
theorem dX7_addCrossing_52 : decode cX7_addCrossing 52 = .ok (.iconst (-1), 1) := by decide +kernel
theorem dX7_addCrossing_53 : decode cX7_addCrossing 53 = .ok (.ixor, 1) := by decide +kernel
theorem dX7_addCrossing_54 : decode cX7_addCrossing 54 = .ok (.iand, 1) := by decide +kernel
theorem dX7_addCrossing_55 : decode cX7_addCrossing 55 = .ok (.istore 6, 2) := by decide +kernel
theorem dX7_addCrossing_57 : decode cX7_addCrossing 57 = .ok (.aload_n 0, 1) := by decide +kernel
theorem dX7_addCrossing_58 : decode cX7_addCrossing 58 = .ok (.iload_n 1, 1) := by decide +kernel
theorem dX7_addCrossing_59 : decode cX7_addCrossing 59 = .ok (.iload 6, 2) := by decide +kernel
theorem dX7_addCrossing_61 : decode cX7_addCrossing 61 = .ok (.iload_n 3, 1) := by decide +kernel
theorem dX7_addCrossing_62 : decode cX7_addCrossing 62 = .ok (.iconst 1, 1) := by decide +kernel
theorem dX7_addCrossing_63 : decode cX7_addCrossing 63 = .ok (.isub, 1) := by decide +kernel
theorem dX7_addCrossing_64 : decode cX7_addCrossing 64 = .ok (.invokevirtual 35, 3) := by decide +kernel
theorem dX7_addCrossing_67 : decode cX7_addCrossing 67 = .ok (.aload_n 0, 1) := by decide +kernel
theorem dX7_addCrossing_68 : decode cX7_addCrossing 68 = .ok (.iload_n 1, 1) := by decide +kernel
theorem dX7_addCrossing_69 : decode cX7_addCrossing 69 = .ok (.iconst 1, 1) := by decide +kernel
theorem dX7_addCrossing_70 : decode cX7_addCrossing 70 = .ok (.iload 5, 2) := by decide +kernel
theorem dX7_addCrossing_72 : decode cX7_addCrossing 72 = .ok (.ishl, 1) := by decide +kernel
theorem dX7_addCrossing_73 : decode cX7_addCrossing 73 = .ok (.ior, 1) := by decide +kernel
theorem dX7_addCrossing_74 : decode cX7_addCrossing 74 = .ok (.iload 6, 2) := by decide +kernel
theorem dX7_addCrossing_76 : decode cX7_addCrossing 76 = .ok (.aload_n 0, 1) := by decide +kernel
theorem dX7_addCrossing_77 : decode cX7_addCrossing 77 = .ok (.getfield 18, 3) := by decide +kernel
theorem dX7_addCrossing_80 : decode cX7_addCrossing 80 = .ok (.iload 5, 2) := by decide +kernel
theorem dX7_addCrossing_82 : decode cX7_addCrossing 82 = .ok (.iaload, 1) := by decide +kernel
theorem dX7_addCrossing_83 : decode cX7_addCrossing 83 = .ok (.iand, 1) := by decide +kernel
theorem dX7_addCrossing_84 : decode cX7_addCrossing 84 = .ok (.iload_n 3, 1) := by decide +kernel
theorem dX7_addCrossing_85 : decode cX7_addCrossing 85 = .ok (.iconst 1, 1) := by decide +kernel
theorem dX7_addCrossing_86 : decode cX7_addCrossing 86 = .ok (.isub, 1) := by decide +kernel
theorem dX7_addCrossing_87 : decode cX7_addCrossing 87 = .ok (.invokevirtual 35, 3) := by decide +kernel
theorem dX7_addCrossing_90 : decode cX7_addCrossing 90 = .ok (.return_, 1) := by decide +kernel
theorem dX7_highestOf_0 : decode cX7_highestOf 0 = .ok (.iconst 0, 1) := by decide +kernel
theorem dX7_highestOf_1 : decode cX7_highestOf 1 = .ok (.istore_n 1, 1) := by decide +kernel
theorem dX7_highestOf_2 : decode cX7_highestOf 2 = .ok (.iconst 0, 1) := by decide +kernel
theorem dX7_highestOf_3 : decode cX7_highestOf 3 = .ok (.istore_n 2, 1) := by decide +kernel
theorem dX7_highestOf_4 : decode cX7_highestOf 4 = .ok (.iload_n 2, 1) := by decide +kernel
theorem dX7_highestOf_5 : decode cX7_highestOf 5 = .ok (.bipush 24, 2) := by decide +kernel
theorem dX7_highestOf_7 : decode cX7_highestOf 7 = .ok (.if_icmp .ge 19, 3) := by decide +kernel
theorem dX7_highestOf_10 : decode cX7_highestOf 10 = .ok (.iload_n 0, 1) := by decide +kernel
theorem dX7_highestOf_11 : decode cX7_highestOf 11 = .ok (.iload_n 2, 1) := by decide +kernel
theorem dX7_highestOf_12 : decode cX7_highestOf 12 = .ok (.invokestatic 47, 3) := by decide +kernel
theorem dX7_highestOf_15 : decode cX7_highestOf 15 = .ok (.ifCond .eq 5, 3) := by decide +kernel
theorem dX7_highestOf_18 : decode cX7_highestOf 18 = .ok (.iload_n 2, 1) := by decide +kernel
theorem dX7_highestOf_19 : decode cX7_highestOf 19 = .ok (.istore_n 1, 1) := by decide +kernel
theorem dX7_highestOf_20 : decode cX7_highestOf 20 = .ok (.iinc 2 1, 3) := by decide +kernel
theorem dX7_highestOf_23 : decode cX7_highestOf 23 = .ok (.goto (-19), 3) := by decide +kernel
theorem dX7_highestOf_26 : decode cX7_highestOf 26 = .ok (.iload_n 1, 1) := by decide +kernel
theorem dX7_highestOf_27 : decode cX7_highestOf 27 = .ok (.ireturn, 1) := by decide +kernel
theorem dX7_findPairs_0 : decode cX7_findPairs 0 = .ok (.iconst 2, 1) := by decide +kernel
theorem dX7_findPairs_1 : decode cX7_findPairs 1 = .ok (.aload_n 1, 1) := by decide +kernel
theorem dX7_findPairs_2 : decode cX7_findPairs 2 = .ok (.getfield 22, 3) := by decide +kernel
theorem dX7_findPairs_5 : decode cX7_findPairs 5 = .ok (.imul, 1) := by decide +kernel
theorem dX7_findPairs_6 : decode cX7_findPairs 6 = .ok (.istore_n 2, 1) := by decide +kernel
theorem dX7_findPairs_7 : decode cX7_findPairs 7 = .ok (.iconst 0, 1) := by decide +kernel
theorem dX7_findPairs_8 : decode cX7_findPairs 8 = .ok (.istore_n 3, 1) := by decide +kernel
theorem dX7_findPairs_9 : decode cX7_findPairs 9 = .ok (.iload_n 3, 1) := by decide +kernel
theorem dX7_findPairs_10 : decode cX7_findPairs 10 = .ok (.iload_n 2, 1) := by decide +kernel
theorem dX7_findPairs_11 : decode cX7_findPairs 11 = .ok (.if_icmp .ge 60, 3) := by decide +kernel
theorem dX7_findPairs_14 : decode cX7_findPairs 14 = .ok (.aload_n 0, 1) := by decide +kernel
theorem dX7_findPairs_15 : decode cX7_findPairs 15 = .ok (.getfield 18, 3) := by decide +kernel
theorem dX7_findPairs_18 : decode cX7_findPairs 18 = .ok (.iload_n 3, 1) := by decide +kernel
theorem dX7_findPairs_19 : decode cX7_findPairs 19 = .ok (.iconst 0, 1) := by decide +kernel
theorem dX7_findPairs_20 : decode cX7_findPairs 20 = .ok (.iastore, 1) := by decide +kernel
theorem dX7_findPairs_21 : decode cX7_findPairs 21 = .ok (.iconst 0, 1) := by decide +kernel
theorem dX7_findPairs_22 : decode cX7_findPairs 22 = .ok (.istore 4, 2) := by decide +kernel
theorem dX7_findPairs_24 : decode cX7_findPairs 24 = .ok (.iload 4, 2) := by decide +kernel
theorem dX7_findPairs_26 : decode cX7_findPairs 26 = .ok (.iload_n 2, 1) := by decide +kernel
theorem dX7_findPairs_27 : decode cX7_findPairs 27 = .ok (.if_icmp .ge 38, 3) := by decide +kernel
theorem dX7_findPairs_30 : decode cX7_findPairs 30 = .ok (.iload 4, 2) := by decide +kernel
theorem dX7_findPairs_32 : decode cX7_findPairs 32 = .ok (.iload_n 3, 1) := by decide +kernel
theorem dX7_findPairs_33 : decode cX7_findPairs 33 = .ok (.if_icmp .eq 26, 3) := by decide +kernel
theorem dX7_findPairs_36 : decode cX7_findPairs 36 = .ok (.aload_n 1, 1) := by decide +kernel
theorem dX7_findPairs_37 : decode cX7_findPairs 37 = .ok (.iload_n 3, 1) := by decide +kernel
theorem dX7_findPairs_38 : decode cX7_findPairs 38 = .ok (.iload 4, 2) := by decide +kernel
theorem dX7_findPairs_40 : decode cX7_findPairs 40 = .ok (.invokevirtual 51, 3) := by decide +kernel
theorem dX7_findPairs_43 : decode cX7_findPairs 43 = .ok (.ifCond .eq 16, 3) := by decide +kernel
theorem dX7_findPairs_46 : decode cX7_findPairs 46 = .ok (.aload_n 0, 1) := by decide +kernel
theorem dX7_findPairs_47 : decode cX7_findPairs 47 = .ok (.getfield 18, 3) := by decide +kernel
theorem dX7_findPairs_50 : decode cX7_findPairs 50 = .ok (.iload_n 3, 1) := by decide +kernel
theorem dX7_findPairs_51 : decode cX7_findPairs 51 = .ok (.dup2, 1) := by decide +kernel
theorem dX7_findPairs_52 : decode cX7_findPairs 52 = .ok (.iaload, 1) := by decide +kernel
theorem dX7_findPairs_53 : decode cX7_findPairs 53 = .ok (.iconst 1, 1) := by decide +kernel
theorem dX7_findPairs_54 : decode cX7_findPairs 54 = .ok (.iload 4, 2) := by decide +kernel
theorem dX7_findPairs_56 : decode cX7_findPairs 56 = .ok (.ishl, 1) := by decide +kernel
theorem dX7_findPairs_57 : decode cX7_findPairs 57 = .ok (.ior, 1) := by decide +kernel
theorem dX7_findPairs_58 : decode cX7_findPairs 58 = .ok (.iastore, 1) := by decide +kernel
theorem dX7_findPairs_59 : decode cX7_findPairs 59 = .ok (.iinc 4 1, 3) := by decide +kernel
theorem dX7_findPairs_62 : decode cX7_findPairs 62 = .ok (.goto (-38), 3) := by decide +kernel
theorem dX7_findPairs_65 : decode cX7_findPairs 65 = .ok (.iinc 3 1, 3) := by decide +kernel
theorem dX7_findPairs_68 : decode cX7_findPairs 68 = .ok (.goto (-59), 3) := by decide +kernel
theorem dX7_findPairs_71 : decode cX7_findPairs 71 = .ok (.aload_n 0, 1) := by decide +kernel
theorem dX7_findPairs_72 : decode cX7_findPairs 72 = .ok (.iconst 0, 1) := by decide +kernel
theorem dX7_findPairs_73 : decode cX7_findPairs 73 = .ok (.putfield 9, 3) := by decide +kernel
theorem dX7_findPairs_76 : decode cX7_findPairs 76 = .ok (.aload_n 0, 1) := by decide +kernel
theorem dX7_findPairs_77 : decode cX7_findPairs 77 = .ok (.iload_n 2, 1) := by decide +kernel
theorem dX7_findPairs_78 : decode cX7_findPairs 78 = .ok (.invokestatic 31, 3) := by decide +kernel
theorem dX7_findPairs_81 : decode cX7_findPairs 81 = .ok (.iconst 0, 1) := by decide +kernel
theorem dX7_findPairs_82 : decode cX7_findPairs 82 = .ok (.iload_n 2, 1) := by decide +kernel
theorem dX7_findPairs_83 : decode cX7_findPairs 83 = .ok (.invokevirtual 54, 3) := by decide +kernel
theorem dX7_findPairs_86 : decode cX7_findPairs 86 = .ok (.return_, 1) := by decide +kernel
theorem dX7_addPair_0 : decode cX7_addPair 0 = .ok (.aload_n 0, 1) := by decide +kernel
theorem dX7_addPair_1 : decode cX7_addPair 1 = .ok (.aload_n 0, 1) := by decide +kernel
theorem dX7_addPair_2 : decode cX7_addPair 2 = .ok (.getfield 9, 3) := by decide +kernel
theorem dX7_addPair_5 : decode cX7_addPair 5 = .ok (.iload_n 2, 1) := by decide +kernel
theorem dX7_addPair_6 : decode cX7_addPair 6 = .ok (.invokestatic 57, 3) := by decide +kernel
theorem dX7_addPair_9 : decode cX7_addPair 9 = .ok (.putfield 9, 3) := by decide +kernel
theorem dX7_addPair_12 : decode cX7_addPair 12 = .ok (.iconst (-1), 1) := by decide +kernel
theorem dX7_addPair_13 : decode cX7_addPair 13 = .ok (.istore 4, 2) := by decide +kernel
theorem dX7_addPair_15 : decode cX7_addPair 15 = .ok (.iload_n 3, 1) := by decide +kernel
theorem dX7_addPair_16 : decode cX7_addPair 16 = .ok (.istore 5, 2) := by decide +kernel
theorem dX7_addPair_18 : decode cX7_addPair 18 = .ok (.iconst 0, 1) := by decide +kernel
theorem dX7_addPair_19 : decode cX7_addPair 19 = .ok (.istore 6, 2) := by decide +kernel
theorem dX7_addPair_21 : decode cX7_addPair 21 = .ok (.iconst 0, 1) := by decide +kernel
theorem dX7_addPair_22 : decode cX7_addPair 22 = .ok (.istore 7, 2) := by decide +kernel
theorem dX7_addPair_24 : decode cX7_addPair 24 = .ok (.iload 7, 2) := by decide +kernel
theorem dX7_addPair_26 : decode cX7_addPair 26 = .ok (.iload_n 3, 1) := by decide +kernel
theorem dX7_addPair_27 : decode cX7_addPair 27 = .ok (.if_icmp .ge 59, 3) := by decide +kernel
theorem dX7_addPair_30 : decode cX7_addPair 30 = .ok (.iload_n 1, 1) := by decide +kernel
theorem dX7_addPair_31 : decode cX7_addPair 31 = .ok (.iload 7, 2) := by decide +kernel
theorem dX7_addPair_33 : decode cX7_addPair 33 = .ok (.invokestatic 47, 3) := by decide +kernel
theorem dX7_addPair_36 : decode cX7_addPair 36 = .ok (.ifCond .eq 18, 3) := by decide +kernel
theorem dX7_addPair_39 : decode cX7_addPair 39 = .ok (.aload_n 0, 1) := by decide +kernel
theorem dX7_addPair_40 : decode cX7_addPair 40 = .ok (.getfield 18, 3) := by decide +kernel
theorem dX7_addPair_43 : decode cX7_addPair 43 = .ok (.iload 7, 2) := by decide +kernel
theorem dX7_addPair_45 : decode cX7_addPair 45 = .ok (.iaload, 1) := by decide +kernel
theorem dX7_addPair_46 : decode cX7_addPair 46 = .ok (.iload_n 1, 1) := by decide +kernel
theorem dX7_addPair_47 : decode cX7_addPair 47 = .ok (.iand, 1) := by decide +kernel
theorem dX7_addPair_48 : decode cX7_addPair 48 = .ok (.invokestatic 39, 3) := by decide +kernel
theorem dX7_addPair_51 : decode cX7_addPair 51 = .ok (.goto 4, 3) := by decide +kernel
theorem dX7_addPair_54 : decode cX7_addPair 54 = .ok (.iconst 0, 1) := by decide +kernel
theorem dX7_addPair_55 : decode cX7_addPair 55 = .ok (.istore 8, 2) := by decide +kernel
theorem dX7_addPair_57 : decode cX7_addPair 57 = .ok (.iload 8, 2) := by decide +kernel
theorem dX7_addPair_59 : decode cX7_addPair 59 = .ok (.ifCond .le 21, 3) := by decide +kernel
theorem dX7_addPair_62 : decode cX7_addPair 62 = .ok (.iinc 6 1, 3) := by decide +kernel
theorem dX7_addPair_65 : decode cX7_addPair 65 = .ok (.iload 8, 2) := by decide +kernel
theorem dX7_addPair_67 : decode cX7_addPair 67 = .ok (.iload 5, 2) := by decide +kernel
theorem dX7_addPair_69 : decode cX7_addPair 69 = .ok (.if_icmp .ge 11, 3) := by decide +kernel
theorem dX7_addPair_72 : decode cX7_addPair 72 = .ok (.iload 8, 2) := by decide +kernel
theorem dX7_addPair_74 : decode cX7_addPair 74 = .ok (.istore 5, 2) := by decide +kernel
theorem dX7_addPair_76 : decode cX7_addPair 76 = .ok (.iload 7, 2) := by decide +kernel
theorem dX7_addPair_78 : decode cX7_addPair 78 = .ok (.istore 4, 2) := by decide +kernel
theorem dX7_addPair_80 : decode cX7_addPair 80 = .ok (.iinc 7 1, 3) := by decide +kernel
theorem dX7_addPair_83 : decode cX7_addPair 83 = .ok (.goto (-59), 3) := by decide +kernel
theorem dX7_addPair_86 : decode cX7_addPair 86 = .ok (.iload 4, 2) := by decide +kernel
theorem dX7_addPair_88 : decode cX7_addPair 88 = .ok (.iconst (-1), 1) := by decide +kernel
theorem dX7_addPair_89 : decode cX7_addPair 89 = .ok (.if_icmp .eq 9, 3) := by decide +kernel
theorem dX7_addPair_92 : decode cX7_addPair 92 = .ok (.iload_n 2, 1) := by decide +kernel
theorem dX7_addPair_93 : decode cX7_addPair 93 = .ok (.bipush 8, 2) := by decide +kernel
theorem dX7_addPair_95 : decode cX7_addPair 95 = .ok (.if_icmp .le 4, 3) := by decide +kernel
theorem dX7_addPair_98 : decode cX7_addPair 98 = .ok (.return_, 1) := by decide +kernel
theorem dX7_addPair_99 : decode cX7_addPair 99 = .ok (.iconst 0, 1) := by decide +kernel
theorem dX7_addPair_100 : decode cX7_addPair 100 = .ok (.istore 7, 2) := by decide +kernel
theorem dX7_addPair_102 : decode cX7_addPair 102 = .ok (.iload 7, 2) := by decide +kernel
theorem dX7_addPair_104 : decode cX7_addPair 104 = .ok (.iload_n 3, 1) := by decide +kernel
theorem dX7_addPair_105 : decode cX7_addPair 105 = .ok (.if_icmp .ge 62, 3) := by decide +kernel
theorem dX7_addPair_108 : decode cX7_addPair 108 = .ok (.iload_n 2, 1) := by decide +kernel
theorem dX7_addPair_109 : decode cX7_addPair 109 = .ok (.iload 6, 2) := by decide +kernel
theorem dX7_addPair_111 : decode cX7_addPair 111 = .ok (.iconst 2, 1) := by decide +kernel
theorem dX7_addPair_112 : decode cX7_addPair 112 = .ok (.idiv, 1) := by decide +kernel
theorem dX7_addPair_113 : decode cX7_addPair 113 = .ok (.iadd, 1) := by decide +kernel
theorem dX7_addPair_114 : decode cX7_addPair 114 = .ok (.aload_n 0, 1) := by decide +kernel
theorem dX7_addPair_115 : decode cX7_addPair 115 = .ok (.getfield 9, 3) := by decide +kernel
theorem dX7_addPair_118 : decode cX7_addPair 118 = .ok (.if_icmp .le 49, 3) := by decide +kernel
theorem dX7_addPair_121 : decode cX7_addPair 121 = .ok (.aload_n 0, 1) := by decide +kernel
theorem dX7_addPair_122 : decode cX7_addPair 122 = .ok (.getfield 18, 3) := by decide +kernel
theorem dX7_addPair_125 : decode cX7_addPair 125 = .ok (.iload 4, 2) := by decide +kernel
theorem dX7_addPair_127 : decode cX7_addPair 127 = .ok (.iaload, 1) := by decide +kernel
theorem dX7_addPair_128 : decode cX7_addPair 128 = .ok (.iload_n 1, 1) := by decide +kernel
theorem dX7_addPair_129 : decode cX7_addPair 129 = .ok (.iand, 1) := by decide +kernel
theorem dX7_addPair_130 : decode cX7_addPair 130 = .ok (.iload 7, 2) := by decide +kernel
theorem dX7_addPair_132 : decode cX7_addPair 132 = .ok (.invokestatic 47, 3) := by decide +kernel
theorem dX7_addPair_135 : decode cX7_addPair 135 = .ok (.ifCond .eq 26, 3) := by decide +kernel
theorem dX7_addPair_138 : decode cX7_addPair 138 = .ok (.aload_n 0, 1) := by decide +kernel
theorem dX7_addPair_139 : decode cX7_addPair 139 = .ok (.iload_n 1, 1) := by decide +kernel
theorem dX7_addPair_140 : decode cX7_addPair 140 = .ok (.iconst 1, 1) := by decide +kernel
theorem dX7_addPair_141 : decode cX7_addPair 141 = .ok (.iload 4, 2) := by decide +kernel
theorem dX7_addPair_143 : decode cX7_addPair 143 = .ok (.ishl, 1) := by decide +kernel
theorem dX7_addPair_144 : decode cX7_addPair 144 = .ok (.iconst (-1), 1) := by decide +kernel
theorem dX7_addPair_145 : decode cX7_addPair 145 = .ok (.ixor, 1) := by decide +kernel
theorem dX7_addPair_146 : decode cX7_addPair 146 = .ok (.iand, 1) := by decide +kernel
theorem dX7_addPair_147 : decode cX7_addPair 147 = .ok (.iconst 1, 1) := by decide +kernel
theorem dX7_addPair_148 : decode cX7_addPair 148 = .ok (.iload 7, 2) := by decide +kernel
theorem dX7_addPair_150 : decode cX7_addPair 150 = .ok (.ishl, 1) := by decide +kernel
theorem dX7_addPair_151 : decode cX7_addPair 151 = .ok (.iconst (-1), 1) := by decide +kernel
theorem dX7_addPair_152 : decode cX7_addPair 152 = .ok (.ixor, 1) := by decide +kernel
theorem dX7_addPair_153 : decode cX7_addPair 153 = .ok (.iand, 1) := by decide +kernel
theorem dX7_addPair_154 : decode cX7_addPair 154 = .ok (.iload_n 2, 1) := by decide +kernel
theorem dX7_addPair_155 : decode cX7_addPair 155 = .ok (.iconst 1, 1) := by decide +kernel
theorem dX7_addPair_156 : decode cX7_addPair 156 = .ok (.iadd, 1) := by decide +kernel
theorem dX7_addPair_157 : decode cX7_addPair 157 = .ok (.iload_n 3, 1) := by decide +kernel
theorem dX7_addPair_158 : decode cX7_addPair 158 = .ok (.invokevirtual 54, 3) := by decide +kernel
theorem dX7_addPair_161 : decode cX7_addPair 161 = .ok (.iinc 7 1, 3) := by decide +kernel
theorem dX7_addPair_164 : decode cX7_addPair 164 = .ok (.goto (-62), 3) := by decide +kernel
theorem dX7_addPair_167 : decode cX7_addPair 167 = .ok (.return_, 1) := by decide +kernel
theorem dX8_init_0 : decode cX8_init 0 = .ok (.aload_n 0, 1) := by decide +kernel
theorem dX8_init_1 : decode cX8_init 1 = .ok (.invokespecial 3, 3) := by decide +kernel
theorem dX8_init_4 : decode cX8_init 4 = .ok (.aload_n 0, 1) := by decide +kernel
theorem dX8_init_5 : decode cX8_init 5 = .ok (.iconst 0, 1) := by decide +kernel
theorem dX8_init_6 : decode cX8_init 6 = .ok (.putfield 9, 3) := by decide +kernel
theorem dX8_init_9 : decode cX8_init 9 = .ok (.aload_n 0, 1) := by decide +kernel
theorem dX8_init_10 : decode cX8_init 10 = .ok (.iconst 0, 1) := by decide +kernel
theorem dX8_init_11 : decode cX8_init 11 = .ok (.putfield 15, 3) := by decide +kernel
theorem dX8_init_14 : decode cX8_init 14 = .ok (.aload_n 0, 1) := by decide +kernel
theorem dX8_init_15 : decode cX8_init 15 = .ok (.iconst 0, 1) := by decide +kernel
theorem dX8_init_16 : decode cX8_init 16 = .ok (.putfield 18, 3) := by decide +kernel
theorem dX8_init_19 : decode cX8_init 19 = .ok (.aload_n 0, 1) := by decide +kernel
theorem dX8_init_20 : decode cX8_init 20 = .ok (.iconst (-1), 1) := by decide +kernel
theorem dX8_init_21 : decode cX8_init 21 = .ok (.putfield 22, 3) := by decide +kernel
theorem dX8_init_24 : decode cX8_init 24 = .ok (.aload_n 0, 1) := by decide +kernel
theorem dX8_init_25 : decode cX8_init 25 = .ok (.iconst (-1), 1) := by decide +kernel
theorem dX8_init_26 : decode cX8_init 26 = .ok (.putfield 25, 3) := by decide +kernel
theorem dX8_init_29 : decode cX8_init 29 = .ok (.aload_n 0, 1) := by decide +kernel
theorem dX8_init_30 : decode cX8_init 30 = .ok (.iconst 0, 1) := by decide +kernel
theorem dX8_init_31 : decode cX8_init 31 = .ok (.putfield 28, 3) := by decide +kernel
theorem dX8_init_34 : decode cX8_init 34 = .ok (.aload_n 0, 1) := by decide +kernel
theorem dX8_init_35 : decode cX8_init 35 = .ok (.iconst 0, 1) := by decide +kernel
theorem dX8_init_36 : decode cX8_init 36 = .ok (.putfield 31, 3) := by decide +kernel
theorem dX8_init_39 : decode cX8_init 39 = .ok (.aload_n 0, 1) := by decide +kernel
theorem dX8_init_40 : decode cX8_init 40 = .ok (.bipush 24, 2) := by decide +kernel
theorem dX8_init_42 : decode cX8_init 42 = .ok (.newarray .int, 2) := by decide +kernel
theorem dX8_init_44 : decode cX8_init 44 = .ok (.putfield 34, 3) := by decide +kernel
theorem dX8_init_47 : decode cX8_init 47 = .ok (.aload_n 0, 1) := by decide +kernel
theorem dX8_init_48 : decode cX8_init 48 = .ok (.bipush 60, 2) := by decide +kernel
theorem dX8_init_50 : decode cX8_init 50 = .ok (.newarray .int, 2) := by decide +kernel
theorem dX8_init_52 : decode cX8_init 52 = .ok (.putfield 38, 3) := by decide +kernel
theorem dX8_init_55 : decode cX8_init 55 = .ok (.return_, 1) := by decide +kernel
theorem dX8_settle_0 : decode cX8_settle 0 = .ok (.aload_n 0, 1) := by decide +kernel
theorem dX8_settle_1 : decode cX8_settle 1 = .ok (.aload_n 1, 1) := by decide +kernel
theorem dX8_settle_2 : decode cX8_settle 2 = .ok (.getfield 41, 3) := by decide +kernel
theorem dX8_settle_5 : decode cX8_settle 5 = .ok (.putfield 28, 3) := by decide +kernel
theorem dX8_settle_8 : decode cX8_settle 8 = .ok (.aload_n 0, 1) := by decide +kernel
theorem dX8_settle_9 : decode cX8_settle 9 = .ok (.aload_n 1, 1) := by decide +kernel
theorem dX8_settle_10 : decode cX8_settle 10 = .ok (.aload_n 2, 1) := by decide +kernel
theorem dX8_settle_11 : decode cX8_settle 11 = .ok (.aload_n 3, 1) := by decide +kernel
theorem dX8_settle_12 : decode cX8_settle 12 = .ok (.invokevirtual 44, 3) := by decide +kernel
theorem dX8_settle_15 : decode cX8_settle 15 = .ok (.aload_n 0, 1) := by decide +kernel
theorem dX8_settle_16 : decode cX8_settle 16 = .ok (.aload_n 0, 1) := by decide +kernel
theorem dX8_settle_17 : decode cX8_settle 17 = .ok (.getfield 18, 3) := by decide +kernel
theorem dX8_settle_20 : decode cX8_settle 20 = .ok (.ifCond .ne 14, 3) := by decide +kernel
theorem dX8_settle_23 : decode cX8_settle 23 = .ok (.aload_n 0, 1) := by decide +kernel
theorem dX8_settle_24 : decode cX8_settle 24 = .ok (.getfield 28, 3) := by decide +kernel
theorem dX8_settle_27 : decode cX8_settle 27 = .ok (.ifCond .le 7, 3) := by decide +kernel
theorem dX8_settle_30 : decode cX8_settle 30 = .ok (.iconst 1, 1) := by decide +kernel
theorem dX8_settle_31 : decode cX8_settle 31 = .ok (.goto 4, 3) := by decide +kernel
theorem dX8_settle_34 : decode cX8_settle 34 = .ok (.iconst 0, 1) := by decide +kernel
theorem dX8_settle_35 : decode cX8_settle 35 = .ok (.putfield 15, 3) := by decide +kernel
theorem dX8_settle_38 : decode cX8_settle 38 = .ok (.aload_n 0, 1) := by decide +kernel
theorem dX8_settle_39 : decode cX8_settle 39 = .ok (.aload_n 0, 1) := by decide +kernel
theorem dX8_settle_40 : decode cX8_settle 40 = .ok (.getfield 15, 3) := by decide +kernel
theorem dX8_settle_43 : decode cX8_settle 43 = .ok (.ifCond .eq 10, 3) := by decide +kernel
theorem dX8_settle_46 : decode cX8_settle 46 = .ok (.aload_n 3, 1) := by decide +kernel
theorem dX8_settle_47 : decode cX8_settle 47 = .ok (.getfield 48, 3) := by decide +kernel
theorem dX8_settle_50 : decode cX8_settle 50 = .ok (.goto 4, 3) := by decide +kernel
theorem dX8_settle_53 : decode cX8_settle 53 = .ok (.iconst 0, 1) := by decide +kernel
theorem dX8_settle_54 : decode cX8_settle 54 = .ok (.putfield 31, 3) := by decide +kernel
theorem dX8_settle_57 : decode cX8_settle 57 = .ok (.iconst 0, 1) := by decide +kernel
theorem dX8_settle_58 : decode cX8_settle 58 = .ok (.istore 4, 2) := by decide +kernel
theorem dX8_settle_60 : decode cX8_settle 60 = .ok (.iload 4, 2) := by decide +kernel
theorem dX8_settle_62 : decode cX8_settle 62 = .ok (.aload_n 0, 1) := by decide +kernel
theorem dX8_settle_63 : decode cX8_settle 63 = .ok (.getfield 28, 3) := by decide +kernel
theorem dX8_settle_66 : decode cX8_settle 66 = .ok (.if_icmp .ge 17, 3) := by decide +kernel
theorem dX8_settle_69 : decode cX8_settle 69 = .ok (.aload_n 0, 1) := by decide +kernel
theorem dX8_settle_70 : decode cX8_settle 70 = .ok (.getfield 34, 3) := by decide +kernel
theorem dX8_settle_73 : decode cX8_settle 73 = .ok (.iload 4, 2) := by decide +kernel
theorem dX8_settle_75 : decode cX8_settle 75 = .ok (.iconst 0, 1) := by decide +kernel
theorem dX8_settle_76 : decode cX8_settle 76 = .ok (.iastore, 1) := by decide +kernel
theorem dX8_settle_77 : decode cX8_settle 77 = .ok (.iinc 4 1, 3) := by decide +kernel
theorem dX8_settle_80 : decode cX8_settle 80 = .ok (.goto (-20), 3) := by decide +kernel
theorem dX8_settle_83 : decode cX8_settle 83 = .ok (.iconst 0, 1) := by decide +kernel
theorem dX8_settle_84 : decode cX8_settle 84 = .ok (.istore 4, 2) := by decide +kernel
theorem dX8_settle_86 : decode cX8_settle 86 = .ok (.iload 4, 2) := by decide +kernel
theorem dX8_settle_88 : decode cX8_settle 88 = .ok (.aload_n 0, 1) := by decide +kernel
theorem dX8_settle_89 : decode cX8_settle 89 = .ok (.getfield 31, 3) := by decide +kernel
theorem dX8_settle_92 : decode cX8_settle 92 = .ok (.if_icmp .ge 49, 3) := by decide +kernel
theorem dX8_settle_95 : decode cX8_settle 95 = .ok (.aload_n 0, 1) := by decide +kernel
theorem dX8_settle_96 : decode cX8_settle 96 = .ok (.iload 4, 2) := by decide +kernel
theorem dX8_settle_98 : decode cX8_settle 98 = .ok (.aload_n 2, 1) := by decide +kernel
theorem dX8_settle_99 : decode cX8_settle 99 = .ok (.getfield 53, 3) := by decide +kernel
theorem dX8_settle_102 : decode cX8_settle 102 = .ok (.aload_n 1, 1) := by decide +kernel
theorem dX8_settle_103 : decode cX8_settle 103 = .ok (.getfield 59, 3) := by decide +kernel
theorem dX8_settle_106 : decode cX8_settle 106 = .ok (.aload_n 3, 1) := by decide +kernel
theorem dX8_settle_107 : decode cX8_settle 107 = .ok (.getfield 62, 3) := by decide +kernel
theorem dX8_settle_110 : decode cX8_settle 110 = .ok (.iload 4, 2) := by decide +kernel
theorem dX8_settle_112 : decode cX8_settle 112 = .ok (.iaload, 1) := by decide +kernel
theorem dX8_settle_113 : decode cX8_settle 113 = .ok (.iaload, 1) := by decide +kernel
theorem dX8_settle_114 : decode cX8_settle 114 = .ok (.aaload, 1) := by decide +kernel
theorem dX8_settle_115 : decode cX8_settle 115 = .ok (.aload_n 2, 1) := by decide +kernel
theorem dX8_settle_116 : decode cX8_settle 116 = .ok (.getfield 53, 3) := by decide +kernel
theorem dX8_settle_119 : decode cX8_settle 119 = .ok (.aload_n 1, 1) := by decide +kernel
theorem dX8_settle_120 : decode cX8_settle 120 = .ok (.getfield 65, 3) := by decide +kernel
theorem dX8_settle_123 : decode cX8_settle 123 = .ok (.aload_n 3, 1) := by decide +kernel
theorem dX8_settle_124 : decode cX8_settle 124 = .ok (.getfield 62, 3) := by decide +kernel
theorem dX8_settle_127 : decode cX8_settle 127 = .ok (.iload 4, 2) := by decide +kernel
theorem dX8_settle_129 : decode cX8_settle 129 = .ok (.iaload, 1) := by decide +kernel
theorem dX8_settle_130 : decode cX8_settle 130 = .ok (.iaload, 1) := by decide +kernel
theorem dX8_settle_131 : decode cX8_settle 131 = .ok (.aaload, 1) := by decide +kernel
theorem dX8_settle_132 : decode cX8_settle 132 = .ok (.invokevirtual 68, 3) := by decide +kernel
theorem dX8_settle_135 : decode cX8_settle 135 = .ok (.iinc 4 1, 3) := by decide +kernel
theorem dX8_settle_138 : decode cX8_settle 138 = .ok (.goto (-52), 3) := by decide +kernel
theorem dX8_settle_141 : decode cX8_settle 141 = .ok (.aload_n 0, 1) := by decide +kernel
theorem dX8_settle_142 : decode cX8_settle 142 = .ok (.iconst 1, 1) := by decide +kernel
theorem dX8_settle_143 : decode cX8_settle 143 = .ok (.putfield 9, 3) := by decide +kernel
theorem dX8_settle_146 : decode cX8_settle 146 = .ok (.return_, 1) := by decide +kernel
theorem dX8_part_0 : decode cX8_part 0 = .ok (.aload_n 0, 1) := by decide +kernel
theorem dX8_part_1 : decode cX8_part 1 = .ok (.getfield 38, 3) := by decide +kernel
theorem dX8_part_4 : decode cX8_part 4 = .ok (.iload_n 1, 1) := by decide +kernel
theorem dX8_part_5 : decode cX8_part 5 = .ok (.iconst 0, 1) := by decide +kernel
theorem dX8_part_6 : decode cX8_part 6 = .ok (.iastore, 1) := by decide +kernel
theorem dX8_part_7 : decode cX8_part 7 = .ok (.iconst 0, 1) := by decide +kernel
theorem dX8_part_8 : decode cX8_part 8 = .ok (.istore 4, 2) := by decide +kernel
theorem dX8_part_10 : decode cX8_part 10 = .ok (.iload 4, 2) := by decide +kernel
theorem dX8_part_12 : decode cX8_part 12 = .ok (.aload_n 0, 1) := by decide +kernel
theorem dX8_part_13 : decode cX8_part 13 = .ok (.getfield 28, 3) := by decide +kernel
theorem dX8_part_16 : decode cX8_part 16 = .ok (.if_icmp .ge 46, 3) := by decide +kernel
theorem dX8_part_19 : decode cX8_part 19 = .ok (.aload_n 2, 1) := by decide +kernel
theorem dX8_part_20 : decode cX8_part 20 = .ok (.iload 4, 2) := by decide +kernel
theorem dX8_part_22 : decode cX8_part 22 = .ok (.iaload, 1) := by decide +kernel
theorem dX8_part_23 : decode cX8_part 23 = .ok (.aload_n 3, 1) := by decide +kernel
theorem dX8_part_24 : decode cX8_part 24 = .ok (.iload 4, 2) := by decide +kernel
theorem dX8_part_26 : decode cX8_part 26 = .ok (.iaload, 1) := by decide +kernel
theorem dX8_part_27 : decode cX8_part 27 = .ok (.if_icmp .lt 29, 3) := by decide +kernel
theorem dX8_part_30 : decode cX8_part 30 = .ok (.aload_n 0, 1) := by decide +kernel
theorem dX8_part_31 : decode cX8_part 31 = .ok (.getfield 38, 3) := by decide +kernel
theorem dX8_part_34 : decode cX8_part 34 = .ok (.iload_n 1, 1) := by decide +kernel
theorem dX8_part_35 : decode cX8_part 35 = .ok (.dup2, 1) := by decide +kernel
theorem dX8_part_36 : decode cX8_part 36 = .ok (.iaload, 1) := by decide +kernel
theorem dX8_part_37 : decode cX8_part 37 = .ok (.iconst 1, 1) := by decide +kernel
theorem dX8_part_38 : decode cX8_part 38 = .ok (.iload 4, 2) := by decide +kernel
theorem dX8_part_40 : decode cX8_part 40 = .ok (.ishl, 1) := by decide +kernel
theorem dX8_part_41 : decode cX8_part 41 = .ok (.ior, 1) := by decide +kernel
theorem dX8_part_42 : decode cX8_part 42 = .ok (.iastore, 1) := by decide +kernel
theorem dX8_part_43 : decode cX8_part 43 = .ok (.aload_n 0, 1) := by decide +kernel
theorem dX8_part_44 : decode cX8_part 44 = .ok (.getfield 34, 3) := by decide +kernel
theorem dX8_part_47 : decode cX8_part 47 = .ok (.iload 4, 2) := by decide +kernel
theorem dX8_part_49 : decode cX8_part 49 = .ok (.dup2, 1) := by decide +kernel
theorem dX8_part_50 : decode cX8_part 50 = .ok (.iaload, 1) := by decide +kernel
theorem dX8_part_51 : decode cX8_part 51 = .ok (.iconst 1, 1) := by decide +kernel
theorem dX8_part_52 : decode cX8_part 52 = .ok (.iload_n 1, 1) := by decide +kernel
theorem dX8_part_53 : decode cX8_part 53 = .ok (.ishl, 1) := by decide +kernel
theorem dX8_part_54 : decode cX8_part 54 = .ok (.ior, 1) := by decide +kernel
theorem dX8_part_55 : decode cX8_part 55 = .ok (.iastore, 1) := by decide +kernel
theorem dX8_part_56 : decode cX8_part 56 = .ok (.iinc 4 1, 3) := by decide +kernel
theorem dX8_part_59 : decode cX8_part 59 = .ok (.goto (-49), 3) := by decide +kernel
theorem dX8_part_62 : decode cX8_part 62 = .ok (.return_, 1) := by decide +kernel
theorem dX8_findReason_0 : decode cX8_findReason 0 = .ok (.aload_n 0, 1) := by decide +kernel
theorem dX8_findReason_1 : decode cX8_findReason 1 = .ok (.iconst 0, 1) := by decide +kernel
theorem dX8_findReason_2 : decode cX8_findReason 2 = .ok (.putfield 18, 3) := by decide +kernel
theorem dX8_findReason_5 : decode cX8_findReason 5 = .ok (.aload_n 0, 1) := by decide +kernel
theorem dX8_findReason_6 : decode cX8_findReason 6 = .ok (.iconst (-1), 1) := by decide +kernel
theorem dX8_findReason_7 : decode cX8_findReason 7 = .ok (.putfield 22, 3) := by decide +kernel
theorem dX8_findReason_10 : decode cX8_findReason 10 = .ok (.aload_n 0, 1) := by decide +kernel
theorem dX8_findReason_11 : decode cX8_findReason 11 = .ok (.iconst (-1), 1) := by decide +kernel
theorem dX8_findReason_12 : decode cX8_findReason 12 = .ok (.putfield 25, 3) := by decide +kernel
theorem dX8_findReason_15 : decode cX8_findReason 15 = .ok (.aload_n 0, 1) := by decide +kernel
theorem dX8_findReason_16 : decode cX8_findReason 16 = .ok (.aload_n 2, 1) := by decide +kernel
theorem dX8_findReason_17 : decode cX8_findReason 17 = .ok (.invokevirtual 72, 3) := by decide +kernel
theorem dX8_findReason_20 : decode cX8_findReason 20 = .ok (.aload_n 0, 1) := by decide +kernel
theorem dX8_findReason_21 : decode cX8_findReason 21 = .ok (.getfield 18, 3) := by decide +kernel
theorem dX8_findReason_24 : decode cX8_findReason 24 = .ok (.ifCond .ne 9, 3) := by decide +kernel
theorem dX8_findReason_27 : decode cX8_findReason 27 = .ok (.aload_n 0, 1) := by decide +kernel
theorem dX8_findReason_28 : decode cX8_findReason 28 = .ok (.aload_n 1, 1) := by decide +kernel
theorem dX8_findReason_29 : decode cX8_findReason 29 = .ok (.aload_n 2, 1) := by decide +kernel
theorem dX8_findReason_30 : decode cX8_findReason 30 = .ok (.invokevirtual 76, 3) := by decide +kernel
theorem dX8_findReason_33 : decode cX8_findReason 33 = .ok (.aload_n 0, 1) := by decide +kernel
theorem dX8_findReason_34 : decode cX8_findReason 34 = .ok (.getfield 18, 3) := by decide +kernel
theorem dX8_findReason_37 : decode cX8_findReason 37 = .ok (.ifCond .ne 10, 3) := by decide +kernel
theorem dX8_findReason_40 : decode cX8_findReason 40 = .ok (.aload_n 0, 1) := by decide +kernel
theorem dX8_findReason_41 : decode cX8_findReason 41 = .ok (.aload_n 1, 1) := by decide +kernel
theorem dX8_findReason_42 : decode cX8_findReason 42 = .ok (.aload_n 2, 1) := by decide +kernel
theorem dX8_findReason_43 : decode cX8_findReason 43 = .ok (.aload_n 3, 1) := by decide +kernel
theorem dX8_findReason_44 : decode cX8_findReason 44 = .ok (.invokevirtual 80, 3) := by decide +kernel
theorem dX8_findReason_47 : decode cX8_findReason 47 = .ok (.return_, 1) := by decide +kernel
theorem dX8_tell_0 : decode cX8_tell 0 = .ok (.aload_n 0, 1) := by decide +kernel
theorem dX8_tell_1 : decode cX8_tell 1 = .ok (.iload_n 1, 1) := by decide +kernel
theorem dX8_tell_2 : decode cX8_tell 2 = .ok (.putfield 18, 3) := by decide +kernel
theorem dX8_tell_5 : decode cX8_tell 5 = .ok (.aload_n 0, 1) := by decide +kernel
theorem dX8_tell_6 : decode cX8_tell 6 = .ok (.iload_n 2, 1) := by decide +kernel
theorem dX8_tell_7 : decode cX8_tell 7 = .ok (.putfield 22, 3) := by decide +kernel
theorem dX8_tell_10 : decode cX8_tell 10 = .ok (.aload_n 0, 1) := by decide +kernel
theorem dX8_tell_11 : decode cX8_tell 11 = .ok (.iload_n 3, 1) := by decide +kernel
theorem dX8_tell_12 : decode cX8_tell 12 = .ok (.putfield 25, 3) := by decide +kernel
theorem dX8_tell_15 : decode cX8_tell 15 = .ok (.return_, 1) := by decide +kernel
theorem dX8_findApart_0 : decode cX8_findApart 0 = .ok (.iconst 0, 1) := by decide +kernel
theorem dX8_findApart_1 : decode cX8_findApart 1 = .ok (.istore_n 2, 1) := by decide +kernel
theorem dX8_findApart_2 : decode cX8_findApart 2 = .ok (.aload_n 0, 1) := by decide +kernel
theorem dX8_findApart_3 : decode cX8_findApart 3 = .ok (.getfield 18, 3) := by decide +kernel
theorem dX8_findApart_6 : decode cX8_findApart 6 = .ok (.ifCond .ne 61, 3) := by decide +kernel
theorem dX8_findApart_9 : decode cX8_findApart 9 = .ok (.iload_n 2, 1) := by decide +kernel
theorem dX8_findApart_10 : decode cX8_findApart 10 = .ok (.aload_n 0, 1) := by decide +kernel
theorem dX8_findApart_11 : decode cX8_findApart 11 = .ok (.getfield 28, 3) := by decide +kernel
theorem dX8_findApart_14 : decode cX8_findApart 14 = .ok (.if_icmp .ge 53, 3) := by decide +kernel
theorem dX8_findApart_17 : decode cX8_findApart 17 = .ok (.iload_n 2, 1) := by decide +kernel
theorem dX8_findApart_18 : decode cX8_findApart 18 = .ok (.iconst 1, 1) := by decide +kernel
theorem dX8_findApart_19 : decode cX8_findApart 19 = .ok (.iadd, 1) := by decide +kernel
theorem dX8_findApart_20 : decode cX8_findApart 20 = .ok (.istore_n 3, 1) := by decide +kernel
theorem dX8_findApart_21 : decode cX8_findApart 21 = .ok (.aload_n 0, 1) := by decide +kernel
theorem dX8_findApart_22 : decode cX8_findApart 22 = .ok (.getfield 18, 3) := by decide +kernel
theorem dX8_findApart_25 : decode cX8_findApart 25 = .ok (.ifCond .ne 36, 3) := by decide +kernel
theorem dX8_findApart_28 : decode cX8_findApart 28 = .ok (.iload_n 3, 1) := by decide +kernel
theorem dX8_findApart_29 : decode cX8_findApart 29 = .ok (.aload_n 0, 1) := by decide +kernel
theorem dX8_findApart_30 : decode cX8_findApart 30 = .ok (.getfield 28, 3) := by decide +kernel
theorem dX8_findApart_33 : decode cX8_findApart 33 = .ok (.if_icmp .ge 28, 3) := by decide +kernel
theorem dX8_findApart_36 : decode cX8_findApart 36 = .ok (.aload_n 1, 1) := by decide +kernel
theorem dX8_findApart_37 : decode cX8_findApart 37 = .ok (.getfield 53, 3) := by decide +kernel
theorem dX8_findApart_40 : decode cX8_findApart 40 = .ok (.iload_n 2, 1) := by decide +kernel
theorem dX8_findApart_41 : decode cX8_findApart 41 = .ok (.aaload, 1) := by decide +kernel
theorem dX8_findApart_42 : decode cX8_findApart 42 = .ok (.iload_n 3, 1) := by decide +kernel
theorem dX8_findApart_43 : decode cX8_findApart 43 = .ok (.iaload, 1) := by decide +kernel
theorem dX8_findApart_44 : decode cX8_findApart 44 = .ok (.iconst (-1), 1) := by decide +kernel
theorem dX8_findApart_45 : decode cX8_findApart 45 = .ok (.if_icmp .ne 10, 3) := by decide +kernel
theorem dX8_findApart_48 : decode cX8_findApart 48 = .ok (.aload_n 0, 1) := by decide +kernel
theorem dX8_findApart_49 : decode cX8_findApart 49 = .ok (.iconst 1, 1) := by decide +kernel
theorem dX8_findApart_50 : decode cX8_findApart 50 = .ok (.iload_n 2, 1) := by decide +kernel
theorem dX8_findApart_51 : decode cX8_findApart 51 = .ok (.iload_n 3, 1) := by decide +kernel
theorem dX8_findApart_52 : decode cX8_findApart 52 = .ok (.invokevirtual 83, 3) := by decide +kernel
theorem dX8_findApart_55 : decode cX8_findApart 55 = .ok (.iinc 3 1, 3) := by decide +kernel
theorem dX8_findApart_58 : decode cX8_findApart 58 = .ok (.goto (-37), 3) := by decide +kernel
theorem dX8_findApart_61 : decode cX8_findApart 61 = .ok (.iinc 2 1, 3) := by decide +kernel
theorem dX8_findApart_64 : decode cX8_findApart 64 = .ok (.goto (-62), 3) := by decide +kernel
theorem dX8_findApart_67 : decode cX8_findApart 67 = .ok (.return_, 1) := by decide +kernel
theorem dX8_findEquallyFar_0 : decode cX8_findEquallyFar 0 = .ok (.iconst 0, 1) := by decide +kernel
theorem dX8_findEquallyFar_1 : decode cX8_findEquallyFar 1 = .ok (.istore_n 3, 1) := by decide +kernel
theorem dX8_findEquallyFar_2 : decode cX8_findEquallyFar 2 = .ok (.aload_n 0, 1) := by decide +kernel
theorem dX8_findEquallyFar_3 : decode cX8_findEquallyFar 3 = .ok (.getfield 18, 3) := by decide +kernel
theorem dX8_findEquallyFar_6 : decode cX8_findEquallyFar 6 = .ok (.ifCond .ne 89, 3) := by decide +kernel
theorem dX8_findEquallyFar_9 : decode cX8_findEquallyFar 9 = .ok (.iload_n 3, 1) := by decide +kernel
theorem dX8_findEquallyFar_10 : decode cX8_findEquallyFar 10 = .ok (.aload_n 1, 1) := by decide +kernel
theorem dX8_findEquallyFar_11 : decode cX8_findEquallyFar 11 = .ok (.getfield 87, 3) := by decide +kernel
theorem dX8_findEquallyFar_14 : decode cX8_findEquallyFar 14 = .ok (.if_icmp .ge 81, 3) := by decide +kernel
theorem dX8_findEquallyFar_17 : decode cX8_findEquallyFar 17 = .ok (.aload_n 2, 1) := by decide +kernel
theorem dX8_findEquallyFar_18 : decode cX8_findEquallyFar 18 = .ok (.getfield 53, 3) := by decide +kernel
theorem dX8_findEquallyFar_21 : decode cX8_findEquallyFar 21 = .ok (.aload_n 1, 1) := by decide +kernel
theorem dX8_findEquallyFar_22 : decode cX8_findEquallyFar 22 = .ok (.getfield 59, 3) := by decide +kernel
theorem dX8_findEquallyFar_25 : decode cX8_findEquallyFar 25 = .ok (.iload_n 3, 1) := by decide +kernel
theorem dX8_findEquallyFar_26 : decode cX8_findEquallyFar 26 = .ok (.iaload, 1) := by decide +kernel
theorem dX8_findEquallyFar_27 : decode cX8_findEquallyFar 27 = .ok (.aaload, 1) := by decide +kernel
theorem dX8_findEquallyFar_28 : decode cX8_findEquallyFar 28 = .ok (.astore 4, 2) := by decide +kernel
theorem dX8_findEquallyFar_30 : decode cX8_findEquallyFar 30 = .ok (.aload_n 2, 1) := by decide +kernel
theorem dX8_findEquallyFar_31 : decode cX8_findEquallyFar 31 = .ok (.getfield 53, 3) := by decide +kernel
theorem dX8_findEquallyFar_34 : decode cX8_findEquallyFar 34 = .ok (.aload_n 1, 1) := by decide +kernel
theorem dX8_findEquallyFar_35 : decode cX8_findEquallyFar 35 = .ok (.getfield 65, 3) := by decide +kernel
theorem dX8_findEquallyFar_38 : decode cX8_findEquallyFar 38 = .ok (.iload_n 3, 1) := by decide +kernel
theorem dX8_findEquallyFar_39 : decode cX8_findEquallyFar 39 = .ok (.iaload, 1) := by decide +kernel
theorem dX8_findEquallyFar_40 : decode cX8_findEquallyFar 40 = .ok (.aaload, 1) := by decide +kernel
theorem dX8_findEquallyFar_41 : decode cX8_findEquallyFar 41 = .ok (.astore 5, 2) := by decide +kernel
theorem dX8_findEquallyFar_43 : decode cX8_findEquallyFar 43 = .ok (.iconst 0, 1) := by decide +kernel
theorem dX8_findEquallyFar_44 : decode cX8_findEquallyFar 44 = .ok (.istore 6, 2) := by decide +kernel
theorem dX8_findEquallyFar_46 : decode cX8_findEquallyFar 46 = .ok (.aload_n 0, 1) := by decide +kernel
theorem dX8_findEquallyFar_47 : decode cX8_findEquallyFar 47 = .ok (.getfield 18, 3) := by decide +kernel
theorem dX8_findEquallyFar_50 : decode cX8_findEquallyFar 50 = .ok (.ifCond .ne 39, 3) := by decide +kernel
theorem dX8_findEquallyFar_53 : decode cX8_findEquallyFar 53 = .ok (.iload 6, 2) := by decide +kernel
theorem dX8_findEquallyFar_55 : decode cX8_findEquallyFar 55 = .ok (.aload_n 0, 1) := by decide +kernel
theorem dX8_findEquallyFar_56 : decode cX8_findEquallyFar 56 = .ok (.getfield 28, 3) := by decide +kernel
theorem dX8_findEquallyFar_59 : decode cX8_findEquallyFar 59 = .ok (.if_icmp .ge 30, 3) := by decide +kernel
theorem dX8_findEquallyFar_62 : decode cX8_findEquallyFar 62 = .ok (.aload 4, 2) := by decide +kernel
theorem dX8_findEquallyFar_64 : decode cX8_findEquallyFar 64 = .ok (.iload 6, 2) := by decide +kernel
theorem dX8_findEquallyFar_66 : decode cX8_findEquallyFar 66 = .ok (.iaload, 1) := by decide +kernel
theorem dX8_findEquallyFar_67 : decode cX8_findEquallyFar 67 = .ok (.aload 5, 2) := by decide +kernel
theorem dX8_findEquallyFar_69 : decode cX8_findEquallyFar 69 = .ok (.iload 6, 2) := by decide +kernel
theorem dX8_findEquallyFar_71 : decode cX8_findEquallyFar 71 = .ok (.iaload, 1) := by decide +kernel
theorem dX8_findEquallyFar_72 : decode cX8_findEquallyFar 72 = .ok (.if_icmp .ne 11, 3) := by decide +kernel
theorem dX8_findEquallyFar_75 : decode cX8_findEquallyFar 75 = .ok (.aload_n 0, 1) := by decide +kernel
theorem dX8_findEquallyFar_76 : decode cX8_findEquallyFar 76 = .ok (.iconst 2, 1) := by decide +kernel
theorem dX8_findEquallyFar_77 : decode cX8_findEquallyFar 77 = .ok (.iload_n 3, 1) := by decide +kernel
theorem dX8_findEquallyFar_78 : decode cX8_findEquallyFar 78 = .ok (.iload 6, 2) := by decide +kernel
theorem dX8_findEquallyFar_80 : decode cX8_findEquallyFar 80 = .ok (.invokevirtual 83, 3) := by decide +kernel
theorem dX8_findEquallyFar_83 : decode cX8_findEquallyFar 83 = .ok (.iinc 6 1, 3) := by decide +kernel
theorem dX8_findEquallyFar_86 : decode cX8_findEquallyFar 86 = .ok (.goto (-40), 3) := by decide +kernel
theorem dX8_findEquallyFar_89 : decode cX8_findEquallyFar 89 = .ok (.iinc 3 1, 3) := by decide +kernel
theorem dX8_findEquallyFar_92 : decode cX8_findEquallyFar 92 = .ok (.goto (-90), 3) := by decide +kernel
theorem dX8_findEquallyFar_95 : decode cX8_findEquallyFar 95 = .ok (.return_, 1) := by decide +kernel
theorem dX8_findNotAlike_0 : decode cX8_findNotAlike 0 = .ok (.iconst 0, 1) := by decide +kernel
theorem dX8_findNotAlike_1 : decode cX8_findNotAlike 1 = .ok (.istore 4, 2) := by decide +kernel
theorem dX8_findNotAlike_3 : decode cX8_findNotAlike 3 = .ok (.aload_n 0, 1) := by decide +kernel
theorem dX8_findNotAlike_4 : decode cX8_findNotAlike 4 = .ok (.getfield 18, 3) := by decide +kernel
theorem dX8_findNotAlike_7 : decode cX8_findNotAlike 7 = .ok (.ifCond .ne 84, 3) := by decide +kernel
theorem dX8_findNotAlike_10 : decode cX8_findNotAlike 10 = .ok (.iload 4, 2) := by decide +kernel
theorem dX8_findNotAlike_12 : decode cX8_findNotAlike 12 = .ok (.aload_n 1, 1) := by decide +kernel
theorem dX8_findNotAlike_13 : decode cX8_findNotAlike 13 = .ok (.getfield 87, 3) := by decide +kernel
theorem dX8_findNotAlike_16 : decode cX8_findNotAlike 16 = .ok (.if_icmp .ge 75, 3) := by decide +kernel
theorem dX8_findNotAlike_19 : decode cX8_findNotAlike 19 = .ok (.iload 4, 2) := by decide +kernel
theorem dX8_findNotAlike_21 : decode cX8_findNotAlike 21 = .ok (.iconst 1, 1) := by decide +kernel
theorem dX8_findNotAlike_22 : decode cX8_findNotAlike 22 = .ok (.iadd, 1) := by decide +kernel
theorem dX8_findNotAlike_23 : decode cX8_findNotAlike 23 = .ok (.istore 5, 2) := by decide +kernel
theorem dX8_findNotAlike_25 : decode cX8_findNotAlike 25 = .ok (.aload_n 0, 1) := by decide +kernel
theorem dX8_findNotAlike_26 : decode cX8_findNotAlike 26 = .ok (.getfield 18, 3) := by decide +kernel
theorem dX8_findNotAlike_29 : decode cX8_findNotAlike 29 = .ok (.ifCond .ne 56, 3) := by decide +kernel
theorem dX8_findNotAlike_32 : decode cX8_findNotAlike 32 = .ok (.iload 5, 2) := by decide +kernel
theorem dX8_findNotAlike_34 : decode cX8_findNotAlike 34 = .ok (.aload_n 1, 1) := by decide +kernel
theorem dX8_findNotAlike_35 : decode cX8_findNotAlike 35 = .ok (.getfield 87, 3) := by decide +kernel
theorem dX8_findNotAlike_38 : decode cX8_findNotAlike 38 = .ok (.if_icmp .ge 47, 3) := by decide +kernel
theorem dX8_findNotAlike_41 : decode cX8_findNotAlike 41 = .ok (.aload_n 3, 1) := by decide +kernel
theorem dX8_findNotAlike_42 : decode cX8_findNotAlike 42 = .ok (.getfield 90, 3) := by decide +kernel
theorem dX8_findNotAlike_45 : decode cX8_findNotAlike 45 = .ok (.iload 4, 2) := by decide +kernel
theorem dX8_findNotAlike_47 : decode cX8_findNotAlike 47 = .ok (.iaload, 1) := by decide +kernel
theorem dX8_findNotAlike_48 : decode cX8_findNotAlike 48 = .ok (.aload_n 3, 1) := by decide +kernel
theorem dX8_findNotAlike_49 : decode cX8_findNotAlike 49 = .ok (.getfield 90, 3) := by decide +kernel
theorem dX8_findNotAlike_52 : decode cX8_findNotAlike 52 = .ok (.iload 5, 2) := by decide +kernel
theorem dX8_findNotAlike_54 : decode cX8_findNotAlike 54 = .ok (.iaload, 1) := by decide +kernel
theorem dX8_findNotAlike_55 : decode cX8_findNotAlike 55 = .ok (.if_icmp .ne 24, 3) := by decide +kernel
theorem dX8_findNotAlike_58 : decode cX8_findNotAlike 58 = .ok (.aload_n 2, 1) := by decide +kernel
theorem dX8_findNotAlike_59 : decode cX8_findNotAlike 59 = .ok (.aload_n 1, 1) := by decide +kernel
theorem dX8_findNotAlike_60 : decode cX8_findNotAlike 60 = .ok (.iload 4, 2) := by decide +kernel
theorem dX8_findNotAlike_62 : decode cX8_findNotAlike 62 = .ok (.iload 5, 2) := by decide +kernel
theorem dX8_findNotAlike_64 : decode cX8_findNotAlike 64 = .ok (.invokevirtual 93, 3) := by decide +kernel
theorem dX8_findNotAlike_67 : decode cX8_findNotAlike 67 = .ok (.ifCond .ne 12, 3) := by decide +kernel
theorem dX8_findNotAlike_70 : decode cX8_findNotAlike 70 = .ok (.aload_n 0, 1) := by decide +kernel
theorem dX8_findNotAlike_71 : decode cX8_findNotAlike 71 = .ok (.iconst 3, 1) := by decide +kernel
theorem dX8_findNotAlike_72 : decode cX8_findNotAlike 72 = .ok (.iload 4, 2) := by decide +kernel
theorem dX8_findNotAlike_74 : decode cX8_findNotAlike 74 = .ok (.iload 5, 2) := by decide +kernel
theorem dX8_findNotAlike_76 : decode cX8_findNotAlike 76 = .ok (.invokevirtual 83, 3) := by decide +kernel
theorem dX8_findNotAlike_79 : decode cX8_findNotAlike 79 = .ok (.iinc 5 1, 3) := by decide +kernel
theorem dX8_findNotAlike_82 : decode cX8_findNotAlike 82 = .ok (.goto (-57), 3) := by decide +kernel
theorem dX8_findNotAlike_85 : decode cX8_findNotAlike 85 = .ok (.iinc 4 1, 3) := by decide +kernel
theorem dX8_findNotAlike_88 : decode cX8_findNotAlike 88 = .ok (.goto (-85), 3) := by decide +kernel
theorem dX8_findNotAlike_91 : decode cX8_findNotAlike 91 = .ok (.return_, 1) := by decide +kernel
theorem dX8_nodeAt_0 : decode cX8_nodeAt 0 = .ok (.iconst 0, 1) := by decide +kernel
theorem dX8_nodeAt_1 : decode cX8_nodeAt 1 = .ok (.istore_n 2, 1) := by decide +kernel
theorem dX8_nodeAt_2 : decode cX8_nodeAt 2 = .ok (.iload_n 2, 1) := by decide +kernel
theorem dX8_nodeAt_3 : decode cX8_nodeAt 3 = .ok (.aload_n 0, 1) := by decide +kernel
theorem dX8_nodeAt_4 : decode cX8_nodeAt 4 = .ok (.getfield 28, 3) := by decide +kernel
theorem dX8_nodeAt_7 : decode cX8_nodeAt 7 = .ok (.if_icmp .ge 21, 3) := by decide +kernel
theorem dX8_nodeAt_10 : decode cX8_nodeAt 10 = .ok (.aload_n 0, 1) := by decide +kernel
theorem dX8_nodeAt_11 : decode cX8_nodeAt 11 = .ok (.getfield 34, 3) := by decide +kernel
theorem dX8_nodeAt_14 : decode cX8_nodeAt 14 = .ok (.iload_n 2, 1) := by decide +kernel
theorem dX8_nodeAt_15 : decode cX8_nodeAt 15 = .ok (.iaload, 1) := by decide +kernel
theorem dX8_nodeAt_16 : decode cX8_nodeAt 16 = .ok (.iload_n 1, 1) := by decide +kernel
theorem dX8_nodeAt_17 : decode cX8_nodeAt 17 = .ok (.if_icmp .ne 5, 3) := by decide +kernel
theorem dX8_nodeAt_20 : decode cX8_nodeAt 20 = .ok (.iload_n 2, 1) := by decide +kernel
theorem dX8_nodeAt_21 : decode cX8_nodeAt 21 = .ok (.ireturn, 1) := by decide +kernel
theorem dX8_nodeAt_22 : decode cX8_nodeAt 22 = .ok (.iinc 2 1, 3) := by decide +kernel
theorem dX8_nodeAt_25 : decode cX8_nodeAt 25 = .ok (.goto (-23), 3) := by decide +kernel
theorem dX8_nodeAt_28 : decode cX8_nodeAt 28 = .ok (.iconst (-1), 1) := by decide +kernel
theorem dX8_nodeAt_29 : decode cX8_nodeAt 29 = .ok (.ireturn, 1) := by decide +kernel
theorem dX8_halfOf_0 : decode cX8_halfOf 0 = .ok (.iload_n 1, 1) := by decide +kernel
theorem dX8_halfOf_1 : decode cX8_halfOf 1 = .ok (.iconst 2, 1) := by decide +kernel
theorem dX8_halfOf_2 : decode cX8_halfOf 2 = .ok (.idiv, 1) := by decide +kernel
theorem dX8_halfOf_3 : decode cX8_halfOf 3 = .ok (.istore_n 2, 1) := by decide +kernel
theorem dX8_halfOf_4 : decode cX8_halfOf 4 = .ok (.iload_n 1, 1) := by decide +kernel
theorem dX8_halfOf_5 : decode cX8_halfOf 5 = .ok (.iconst 2, 1) := by decide +kernel
theorem dX8_halfOf_6 : decode cX8_halfOf 6 = .ok (.irem, 1) := by decide +kernel
theorem dX8_halfOf_7 : decode cX8_halfOf 7 = .ok (.iconst 1, 1) := by decide +kernel
theorem dX8_halfOf_8 : decode cX8_halfOf 8 = .ok (.if_icmp .ne 12, 3) := by decide +kernel
theorem dX8_halfOf_11 : decode cX8_halfOf 11 = .ok (.aload_n 0, 1) := by decide +kernel
theorem dX8_halfOf_12 : decode cX8_halfOf 12 = .ok (.getfield 38, 3) := by decide +kernel
theorem dX8_halfOf_15 : decode cX8_halfOf 15 = .ok (.iload_n 2, 1) := by decide +kernel
theorem dX8_halfOf_16 : decode cX8_halfOf 16 = .ok (.iaload, 1) := by decide +kernel
theorem dX8_halfOf_17 : decode cX8_halfOf 17 = .ok (.goto 19, 3) := by decide +kernel
theorem dX8_halfOf_20 : decode cX8_halfOf 20 = .ok (.aload_n 0, 1) := by decide +kernel
theorem dX8_halfOf_21 : decode cX8_halfOf 21 = .ok (.getfield 28, 3) := by decide +kernel
theorem dX8_halfOf_24 : decode cX8_halfOf 24 = .ok (.invokestatic 97, 3) := by decide +kernel
theorem dX8_halfOf_27 : decode cX8_halfOf 27 = .ok (.aload_n 0, 1) := by decide +kernel
theorem dX8_halfOf_28 : decode cX8_halfOf 28 = .ok (.getfield 38, 3) := by decide +kernel
theorem dX8_halfOf_31 : decode cX8_halfOf 31 = .ok (.iload_n 2, 1) := by decide +kernel
theorem dX8_halfOf_32 : decode cX8_halfOf 32 = .ok (.iaload, 1) := by decide +kernel
theorem dX8_halfOf_33 : decode cX8_halfOf 33 = .ok (.iconst (-1), 1) := by decide +kernel
theorem dX8_halfOf_34 : decode cX8_halfOf 34 = .ok (.ixor, 1) := by decide +kernel
theorem dX8_halfOf_35 : decode cX8_halfOf 35 = .ok (.iand, 1) := by decide +kernel
theorem dX8_halfOf_36 : decode cX8_halfOf 36 = .ok (.ireturn, 1) := by decide +kernel
theorem dX8_costOf_0 : decode cX8_costOf 0 = .ok (.aload_n 0, 1) := by decide +kernel
theorem dX8_costOf_1 : decode cX8_costOf 1 = .ok (.getfield 38, 3) := by decide +kernel
theorem dX8_costOf_4 : decode cX8_costOf 4 = .ok (.iload_n 1, 1) := by decide +kernel
theorem dX8_costOf_5 : decode cX8_costOf 5 = .ok (.iaload, 1) := by decide +kernel
theorem dX8_costOf_6 : decode cX8_costOf 6 = .ok (.invokestatic 101, 3) := by decide +kernel
theorem dX8_costOf_9 : decode cX8_costOf 9 = .ok (.istore_n 2, 1) := by decide +kernel
theorem dX8_costOf_10 : decode cX8_costOf 10 = .ok (.iload_n 2, 1) := by decide +kernel
theorem dX8_costOf_11 : decode cX8_costOf 11 = .ok (.aload_n 0, 1) := by decide +kernel
theorem dX8_costOf_12 : decode cX8_costOf 12 = .ok (.getfield 28, 3) := by decide +kernel
theorem dX8_costOf_15 : decode cX8_costOf 15 = .ok (.iload_n 2, 1) := by decide +kernel
theorem dX8_costOf_16 : decode cX8_costOf 16 = .ok (.isub, 1) := by decide +kernel
theorem dX8_costOf_17 : decode cX8_costOf 17 = .ok (.imul, 1) := by decide +kernel
theorem dX8_costOf_18 : decode cX8_costOf 18 = .ok (.ireturn, 1) := by decide +kernel
theorem dX8_countPairs_0 : decode cX8_countPairs 0 = .ok (.iconst 0, 1) := by decide +kernel
theorem dX8_countPairs_1 : decode cX8_countPairs 1 = .ok (.istore_n 3, 1) := by decide +kernel
theorem dX8_countPairs_2 : decode cX8_countPairs 2 = .ok (.iconst 0, 1) := by decide +kernel
theorem dX8_countPairs_3 : decode cX8_countPairs 3 = .ok (.istore 4, 2) := by decide +kernel
theorem dX8_countPairs_5 : decode cX8_countPairs 5 = .ok (.iload 4, 2) := by decide +kernel
theorem dX8_countPairs_7 : decode cX8_countPairs 7 = .ok (.iconst 4, 1) := by decide +kernel
theorem dX8_countPairs_8 : decode cX8_countPairs 8 = .ok (.if_icmp .ge 40, 3) := by decide +kernel
theorem dX8_countPairs_11 : decode cX8_countPairs 11 = .ok (.aload_n 0, 1) := by decide +kernel
theorem dX8_countPairs_12 : decode cX8_countPairs 12 = .ok (.iconst 2, 1) := by decide +kernel
theorem dX8_countPairs_13 : decode cX8_countPairs 13 = .ok (.iload_n 1, 1) := by decide +kernel
theorem dX8_countPairs_14 : decode cX8_countPairs 14 = .ok (.imul, 1) := by decide +kernel
theorem dX8_countPairs_15 : decode cX8_countPairs 15 = .ok (.iload 4, 2) := by decide +kernel
theorem dX8_countPairs_17 : decode cX8_countPairs 17 = .ok (.iconst 2, 1) := by decide +kernel
theorem dX8_countPairs_18 : decode cX8_countPairs 18 = .ok (.idiv, 1) := by decide +kernel
theorem dX8_countPairs_19 : decode cX8_countPairs 19 = .ok (.iadd, 1) := by decide +kernel
theorem dX8_countPairs_20 : decode cX8_countPairs 20 = .ok (.invokevirtual 106, 3) := by decide +kernel
theorem dX8_countPairs_23 : decode cX8_countPairs 23 = .ok (.aload_n 0, 1) := by decide +kernel
theorem dX8_countPairs_24 : decode cX8_countPairs 24 = .ok (.iconst 2, 1) := by decide +kernel
theorem dX8_countPairs_25 : decode cX8_countPairs 25 = .ok (.iload_n 2, 1) := by decide +kernel
theorem dX8_countPairs_26 : decode cX8_countPairs 26 = .ok (.imul, 1) := by decide +kernel
theorem dX8_countPairs_27 : decode cX8_countPairs 27 = .ok (.iload 4, 2) := by decide +kernel
theorem dX8_countPairs_29 : decode cX8_countPairs 29 = .ok (.iconst 2, 1) := by decide +kernel
theorem dX8_countPairs_30 : decode cX8_countPairs 30 = .ok (.irem, 1) := by decide +kernel
theorem dX8_countPairs_31 : decode cX8_countPairs 31 = .ok (.iadd, 1) := by decide +kernel
theorem dX8_countPairs_32 : decode cX8_countPairs 32 = .ok (.invokevirtual 106, 3) := by decide +kernel
theorem dX8_countPairs_35 : decode cX8_countPairs 35 = .ok (.iand, 1) := by decide +kernel
theorem dX8_countPairs_36 : decode cX8_countPairs 36 = .ok (.ifCond .eq 6, 3) := by decide +kernel
theorem dX8_countPairs_39 : decode cX8_countPairs 39 = .ok (.iinc 3 1, 3) := by decide +kernel
theorem dX8_countPairs_42 : decode cX8_countPairs 42 = .ok (.iinc 4 1, 3) := by decide +kernel
theorem dX8_countPairs_45 : decode cX8_countPairs 45 = .ok (.goto (-40), 3) := by decide +kernel
theorem dX8_countPairs_48 : decode cX8_countPairs 48 = .ok (.iload_n 3, 1) := by decide +kernel
theorem dX8_countPairs_49 : decode cX8_countPairs 49 = .ok (.ireturn, 1) := by decide +kernel
theorem dX8_doFit_0 : decode cX8_doFit 0 = .ok (.aload_n 0, 1) := by decide +kernel
theorem dX8_doFit_1 : decode cX8_doFit 1 = .ok (.iload_n 1, 1) := by decide +kernel
theorem dX8_doFit_2 : decode cX8_doFit 2 = .ok (.invokevirtual 106, 3) := by decide +kernel
theorem dX8_doFit_5 : decode cX8_doFit 5 = .ok (.istore_n 3, 1) := by decide +kernel
theorem dX8_doFit_6 : decode cX8_doFit 6 = .ok (.aload_n 0, 1) := by decide +kernel
theorem dX8_doFit_7 : decode cX8_doFit 7 = .ok (.iload_n 2, 1) := by decide +kernel
theorem dX8_doFit_8 : decode cX8_doFit 8 = .ok (.invokevirtual 106, 3) := by decide +kernel
theorem dX8_doFit_11 : decode cX8_doFit 11 = .ok (.istore 4, 2) := by decide +kernel
theorem dX8_doFit_13 : decode cX8_doFit 13 = .ok (.iload_n 3, 1) := by decide +kernel
theorem dX8_doFit_14 : decode cX8_doFit 14 = .ok (.iload 4, 2) := by decide +kernel
theorem dX8_doFit_16 : decode cX8_doFit 16 = .ok (.ior, 1) := by decide +kernel
theorem dX8_doFit_17 : decode cX8_doFit 17 = .ok (.aload_n 0, 1) := by decide +kernel
theorem dX8_doFit_18 : decode cX8_doFit 18 = .ok (.getfield 28, 3) := by decide +kernel
theorem dX8_doFit_21 : decode cX8_doFit 21 = .ok (.invokestatic 97, 3) := by decide +kernel
theorem dX8_doFit_24 : decode cX8_doFit 24 = .ok (.if_icmp .ne 14, 3) := by decide +kernel
theorem dX8_doFit_27 : decode cX8_doFit 27 = .ok (.iload_n 3, 1) := by decide +kernel
theorem dX8_doFit_28 : decode cX8_doFit 28 = .ok (.iload 4, 2) := by decide +kernel
theorem dX8_doFit_30 : decode cX8_doFit 30 = .ok (.iand, 1) := by decide +kernel
theorem dX8_doFit_31 : decode cX8_doFit 31 = .ok (.ifCond .eq 7, 3) := by decide +kernel
theorem dX8_doFit_34 : decode cX8_doFit 34 = .ok (.iconst 1, 1) := by decide +kernel
theorem dX8_doFit_35 : decode cX8_doFit 35 = .ok (.goto 4, 3) := by decide +kernel
theorem dX8_doFit_38 : decode cX8_doFit 38 = .ok (.iconst 0, 1) := by decide +kernel
theorem dX8_doFit_39 : decode cX8_doFit 39 = .ok (.ireturn, 1) := by decide +kernel
theorem dX8_countCubes_0 : decode cX8_countCubes 0 = .ok (.iconst 0, 1) := by decide +kernel
theorem dX8_countCubes_1 : decode cX8_countCubes 1 = .ok (.istore_n 2, 1) := by decide +kernel
theorem dX8_countCubes_2 : decode cX8_countCubes 2 = .ok (.iconst 0, 1) := by decide +kernel
theorem dX8_countCubes_3 : decode cX8_countCubes 3 = .ok (.istore_n 3, 1) := by decide +kernel
theorem dX8_countCubes_4 : decode cX8_countCubes 4 = .ok (.iload_n 1, 1) := by decide +kernel
theorem dX8_countCubes_5 : decode cX8_countCubes 5 = .ok (.iconst 4, 1) := by decide +kernel
theorem dX8_countCubes_6 : decode cX8_countCubes 6 = .ok (.if_icmp .gt 29, 3) := by decide +kernel
theorem dX8_countCubes_9 : decode cX8_countCubes 9 = .ok (.iload_n 3, 1) := by decide +kernel
theorem dX8_countCubes_10 : decode cX8_countCubes 10 = .ok (.aload_n 0, 1) := by decide +kernel
theorem dX8_countCubes_11 : decode cX8_countCubes 11 = .ok (.getfield 28, 3) := by decide +kernel
theorem dX8_countCubes_14 : decode cX8_countCubes 14 = .ok (.if_icmp .ge 21, 3) := by decide +kernel
theorem dX8_countCubes_17 : decode cX8_countCubes 17 = .ok (.iload_n 2, 1) := by decide +kernel
theorem dX8_countCubes_18 : decode cX8_countCubes 18 = .ok (.aload_n 0, 1) := by decide +kernel
theorem dX8_countCubes_19 : decode cX8_countCubes 19 = .ok (.iconst 1, 1) := by decide +kernel
theorem dX8_countCubes_20 : decode cX8_countCubes 20 = .ok (.iload_n 3, 1) := by decide +kernel
theorem dX8_countCubes_21 : decode cX8_countCubes 21 = .ok (.ishl, 1) := by decide +kernel
theorem dX8_countCubes_22 : decode cX8_countCubes 22 = .ok (.iconst 0, 1) := by decide +kernel
theorem dX8_countCubes_23 : decode cX8_countCubes 23 = .ok (.iload_n 1, 1) := by decide +kernel
theorem dX8_countCubes_24 : decode cX8_countCubes 24 = .ok (.invokevirtual 109, 3) := by decide +kernel
theorem dX8_countCubes_27 : decode cX8_countCubes 27 = .ok (.iadd, 1) := by decide +kernel
theorem dX8_countCubes_28 : decode cX8_countCubes 28 = .ok (.istore_n 2, 1) := by decide +kernel
theorem dX8_countCubes_29 : decode cX8_countCubes 29 = .ok (.iinc 3 1, 3) := by decide +kernel
theorem dX8_countCubes_32 : decode cX8_countCubes 32 = .ok (.goto (-28), 3) := by decide +kernel
theorem dX8_countCubes_35 : decode cX8_countCubes 35 = .ok (.iload_n 2, 1) := by decide +kernel
theorem dX8_countCubes_36 : decode cX8_countCubes 36 = .ok (.ireturn, 1) := by decide +kernel
theorem dX8_cubesOn_0 : decode cX8_cubesOn 0 = .ok (.iload_n 3, 1) := by decide +kernel
theorem dX8_cubesOn_1 : decode cX8_cubesOn 1 = .ok (.ifCond .gt 5, 3) := by decide +kernel
theorem dX8_cubesOn_4 : decode cX8_cubesOn 4 = .ok (.iconst 1, 1) := by decide +kernel
theorem dX8_cubesOn_5 : decode cX8_cubesOn 5 = .ok (.ireturn, 1) := by decide +kernel
theorem dX8_cubesOn_6 : decode cX8_cubesOn 6 = .ok (.iconst 0, 1) := by decide +kernel
theorem dX8_cubesOn_7 : decode cX8_cubesOn 7 = .ok (.istore 4, 2) := by decide +kernel
theorem dX8_cubesOn_9 : decode cX8_cubesOn 9 = .ok (.iload_n 2, 1) := by decide +kernel
theorem dX8_cubesOn_10 : decode cX8_cubesOn 10 = .ok (.istore 5, 2) := by decide +kernel
theorem dX8_cubesOn_12 : decode cX8_cubesOn 12 = .ok (.iload 5, 2) := by decide +kernel
theorem dX8_cubesOn_14 : decode cX8_cubesOn 14 = .ok (.aload_n 0, 1) := by decide +kernel
theorem dX8_cubesOn_15 : decode cX8_cubesOn 15 = .ok (.getfield 31, 3) := by decide +kernel
theorem dX8_cubesOn_18 : decode cX8_cubesOn 18 = .ok (.if_icmp .ge 43, 3) := by decide +kernel
theorem dX8_cubesOn_21 : decode cX8_cubesOn 21 = .ok (.aload_n 0, 1) := by decide +kernel
theorem dX8_cubesOn_22 : decode cX8_cubesOn 22 = .ok (.iload_n 1, 1) := by decide +kernel
theorem dX8_cubesOn_23 : decode cX8_cubesOn 23 = .ok (.iload 5, 2) := by decide +kernel
theorem dX8_cubesOn_25 : decode cX8_cubesOn 25 = .ok (.invokevirtual 113, 3) := by decide +kernel
theorem dX8_cubesOn_28 : decode cX8_cubesOn 28 = .ok (.istore 6, 2) := by decide +kernel
theorem dX8_cubesOn_30 : decode cX8_cubesOn 30 = .ok (.iload 6, 2) := by decide +kernel
theorem dX8_cubesOn_32 : decode cX8_cubesOn 32 = .ok (.ifCond .eq 23, 3) := by decide +kernel
theorem dX8_cubesOn_35 : decode cX8_cubesOn 35 = .ok (.iload 4, 2) := by decide +kernel
theorem dX8_cubesOn_37 : decode cX8_cubesOn 37 = .ok (.aload_n 0, 1) := by decide +kernel
theorem dX8_cubesOn_38 : decode cX8_cubesOn 38 = .ok (.iload_n 1, 1) := by decide +kernel
theorem dX8_cubesOn_39 : decode cX8_cubesOn 39 = .ok (.iload 6, 2) := by decide +kernel
theorem dX8_cubesOn_41 : decode cX8_cubesOn 41 = .ok (.ior, 1) := by decide +kernel
theorem dX8_cubesOn_42 : decode cX8_cubesOn 42 = .ok (.iload 5, 2) := by decide +kernel
theorem dX8_cubesOn_44 : decode cX8_cubesOn 44 = .ok (.iconst 1, 1) := by decide +kernel
theorem dX8_cubesOn_45 : decode cX8_cubesOn 45 = .ok (.iadd, 1) := by decide +kernel
theorem dX8_cubesOn_46 : decode cX8_cubesOn 46 = .ok (.iload_n 3, 1) := by decide +kernel
theorem dX8_cubesOn_47 : decode cX8_cubesOn 47 = .ok (.iconst 1, 1) := by decide +kernel
theorem dX8_cubesOn_48 : decode cX8_cubesOn 48 = .ok (.isub, 1) := by decide +kernel
theorem dX8_cubesOn_49 : decode cX8_cubesOn 49 = .ok (.invokevirtual 109, 3) := by decide +kernel
theorem dX8_cubesOn_52 : decode cX8_cubesOn 52 = .ok (.iadd, 1) := by decide +kernel
theorem dX8_cubesOn_53 : decode cX8_cubesOn 53 = .ok (.istore 4, 2) := by decide +kernel
theorem dX8_cubesOn_55 : decode cX8_cubesOn 55 = .ok (.iinc 5 1, 3) := by decide +kernel
theorem dX8_cubesOn_58 : decode cX8_cubesOn 58 = .ok (.goto (-46), 3) := by decide +kernel
theorem dX8_cubesOn_61 : decode cX8_cubesOn 61 = .ok (.iload 4, 2) := by decide +kernel
theorem dX8_cubesOn_63 : decode cX8_cubesOn 63 = .ok (.ireturn, 1) := by decide +kernel
theorem dX8_acrossFrom_0 : decode cX8_acrossFrom 0 = .ok (.iload_n 1, 1) := by decide +kernel
theorem dX8_acrossFrom_1 : decode cX8_acrossFrom 1 = .ok (.aload_n 0, 1) := by decide +kernel
theorem dX8_acrossFrom_2 : decode cX8_acrossFrom 2 = .ok (.getfield 38, 3) := by decide +kernel
theorem dX8_acrossFrom_5 : decode cX8_acrossFrom 5 = .ok (.iload_n 2, 1) := by decide +kernel
theorem dX8_acrossFrom_6 : decode cX8_acrossFrom 6 = .ok (.iaload, 1) := by decide +kernel
theorem dX8_acrossFrom_7 : decode cX8_acrossFrom 7 = .ok (.iand, 1) := by decide +kernel
theorem dX8_acrossFrom_8 : decode cX8_acrossFrom 8 = .ok (.ifCond .eq 5, 3) := by decide +kernel
theorem dX8_acrossFrom_11 : decode cX8_acrossFrom 11 = .ok (.iconst 0, 1) := by decide +kernel
theorem dX8_acrossFrom_12 : decode cX8_acrossFrom 12 = .ok (.ireturn, 1) := by decide +kernel
theorem dX8_acrossFrom_13 : decode cX8_acrossFrom 13 = .ok (.iconst 0, 1) := by decide +kernel
theorem dX8_acrossFrom_14 : decode cX8_acrossFrom 14 = .ok (.istore_n 3, 1) := by decide +kernel
theorem dX8_acrossFrom_15 : decode cX8_acrossFrom 15 = .ok (.iconst 0, 1) := by decide +kernel
theorem dX8_acrossFrom_16 : decode cX8_acrossFrom 16 = .ok (.istore 4, 2) := by decide +kernel
theorem dX8_acrossFrom_18 : decode cX8_acrossFrom 18 = .ok (.iload 4, 2) := by decide +kernel
theorem dX8_acrossFrom_20 : decode cX8_acrossFrom 20 = .ok (.aload_n 0, 1) := by decide +kernel
theorem dX8_acrossFrom_21 : decode cX8_acrossFrom 21 = .ok (.getfield 28, 3) := by decide +kernel
theorem dX8_acrossFrom_24 : decode cX8_acrossFrom 24 = .ok (.if_icmp .ge 50, 3) := by decide +kernel
theorem dX8_acrossFrom_27 : decode cX8_acrossFrom 27 = .ok (.iload_n 1, 1) := by decide +kernel
theorem dX8_acrossFrom_28 : decode cX8_acrossFrom 28 = .ok (.iload 4, 2) := by decide +kernel
theorem dX8_acrossFrom_30 : decode cX8_acrossFrom 30 = .ok (.invokestatic 117, 3) := by decide +kernel
theorem dX8_acrossFrom_33 : decode cX8_acrossFrom 33 = .ok (.ifCond .eq 35, 3) := by decide +kernel
theorem dX8_acrossFrom_36 : decode cX8_acrossFrom 36 = .ok (.aload_n 0, 1) := by decide +kernel
theorem dX8_acrossFrom_37 : decode cX8_acrossFrom 37 = .ok (.aload_n 0, 1) := by decide +kernel
theorem dX8_acrossFrom_38 : decode cX8_acrossFrom 38 = .ok (.getfield 34, 3) := by decide +kernel
theorem dX8_acrossFrom_41 : decode cX8_acrossFrom 41 = .ok (.iload 4, 2) := by decide +kernel
theorem dX8_acrossFrom_43 : decode cX8_acrossFrom 43 = .ok (.iaload, 1) := by decide +kernel
theorem dX8_acrossFrom_44 : decode cX8_acrossFrom 44 = .ok (.iconst 1, 1) := by decide +kernel
theorem dX8_acrossFrom_45 : decode cX8_acrossFrom 45 = .ok (.iload_n 2, 1) := by decide +kernel
theorem dX8_acrossFrom_46 : decode cX8_acrossFrom 46 = .ok (.ishl, 1) := by decide +kernel
theorem dX8_acrossFrom_47 : decode cX8_acrossFrom 47 = .ok (.ior, 1) := by decide +kernel
theorem dX8_acrossFrom_48 : decode cX8_acrossFrom 48 = .ok (.invokevirtual 121, 3) := by decide +kernel
theorem dX8_acrossFrom_51 : decode cX8_acrossFrom 51 = .ok (.istore 5, 2) := by decide +kernel
theorem dX8_acrossFrom_53 : decode cX8_acrossFrom 53 = .ok (.iload 5, 2) := by decide +kernel
theorem dX8_acrossFrom_55 : decode cX8_acrossFrom 55 = .ok (.iconst (-1), 1) := by decide +kernel
theorem dX8_acrossFrom_56 : decode cX8_acrossFrom 56 = .ok (.if_icmp .ne 5, 3) := by decide +kernel
theorem dX8_acrossFrom_59 : decode cX8_acrossFrom 59 = .ok (.iconst 0, 1) := by decide +kernel
theorem dX8_acrossFrom_60 : decode cX8_acrossFrom 60 = .ok (.ireturn, 1) := by decide +kernel
theorem dX8_acrossFrom_61 : decode cX8_acrossFrom 61 = .ok (.iload_n 3, 1) := by decide +kernel
theorem dX8_acrossFrom_62 : decode cX8_acrossFrom 62 = .ok (.iconst 1, 1) := by decide +kernel
theorem dX8_acrossFrom_63 : decode cX8_acrossFrom 63 = .ok (.iload 5, 2) := by decide +kernel
theorem dX8_acrossFrom_65 : decode cX8_acrossFrom 65 = .ok (.ishl, 1) := by decide +kernel
theorem dX8_acrossFrom_66 : decode cX8_acrossFrom 66 = .ok (.ior, 1) := by decide +kernel
theorem dX8_acrossFrom_67 : decode cX8_acrossFrom 67 = .ok (.istore_n 3, 1) := by decide +kernel
theorem dX8_acrossFrom_68 : decode cX8_acrossFrom 68 = .ok (.iinc 4 1, 3) := by decide +kernel
theorem dX8_acrossFrom_71 : decode cX8_acrossFrom 71 = .ok (.goto (-53), 3) := by decide +kernel
theorem dX8_acrossFrom_74 : decode cX8_acrossFrom 74 = .ok (.iload_n 3, 1) := by decide +kernel
theorem dX8_acrossFrom_75 : decode cX8_acrossFrom 75 = .ok (.ireturn, 1) := by decide +kernel
theorem dX9_init_0 : decode cX9_init 0 = .ok (.aload_n 0, 1) := by decide +kernel
theorem dX9_init_1 : decode cX9_init 1 = .ok (.invokespecial 3, 3) := by decide +kernel
theorem dX9_init_4 : decode cX9_init 4 = .ok (.aload_n 0, 1) := by decide +kernel
theorem dX9_init_5 : decode cX9_init 5 = .ok (.sipush 800, 3) := by decide +kernel
theorem dX9_init_8 : decode cX9_init 8 = .ok (.newarray .int, 2) := by decide +kernel
theorem dX9_init_10 : decode cX9_init 10 = .ok (.putfield 9, 3) := by decide +kernel
theorem dX9_init_13 : decode cX9_init 13 = .ok (.aload_n 0, 1) := by decide +kernel
theorem dX9_init_14 : decode cX9_init 14 = .ok (.iconst 0, 1) := by decide +kernel
theorem dX9_init_15 : decode cX9_init 15 = .ok (.putfield 15, 3) := by decide +kernel
theorem dX9_init_18 : decode cX9_init 18 = .ok (.return_, 1) := by decide +kernel
theorem dX9_put_0 : decode cX9_put 0 = .ok (.bipush 24, 2) := by decide +kernel
theorem dX9_put_2 : decode cX9_put 2 = .ok (.istore_n 2, 1) := by decide +kernel
theorem dX9_put_3 : decode cX9_put 3 = .ok (.iload_n 2, 1) := by decide +kernel
theorem dX9_put_4 : decode cX9_put 4 = .ok (.ifCond .lt 45, 3) := by decide +kernel
theorem dX9_put_7 : decode cX9_put 7 = .ok (.aload_n 0, 1) := by decide +kernel
theorem dX9_put_8 : decode cX9_put 8 = .ok (.getfield 15, 3) := by decide +kernel
theorem dX9_put_11 : decode cX9_put 11 = .ok (.sipush 800, 3) := by decide +kernel
theorem dX9_put_14 : decode cX9_put 14 = .ok (.if_icmp .ge 35, 3) := by decide +kernel
theorem dX9_put_17 : decode cX9_put 17 = .ok (.aload_n 0, 1) := by decide +kernel
theorem dX9_put_18 : decode cX9_put 18 = .ok (.getfield 9, 3) := by decide +kernel
theorem dX9_put_21 : decode cX9_put 21 = .ok (.aload_n 0, 1) := by decide +kernel
theorem dX9_put_22 : decode cX9_put 22 = .ok (.getfield 15, 3) := by decide +kernel
theorem dX9_put_25 : decode cX9_put 25 = .ok (.iload_n 1, 1) := by decide +kernel
theorem dX9_put_26 : decode cX9_put 26 = .ok (.iload_n 2, 1) := by decide +kernel
theorem dX9_put_27 : decode cX9_put 27 = .ok (.ishr, 1) := by decide +kernel
theorem dX9_put_28 : decode cX9_put 28 = .ok (.sipush 255, 3) := by decide +kernel
theorem dX9_put_31 : decode cX9_put 31 = .ok (.iand, 1) := by decide +kernel
theorem dX9_put_32 : decode cX9_put 32 = .ok (.iastore, 1) := by decide +kernel
theorem dX9_put_33 : decode cX9_put 33 = .ok (.aload_n 0, 1) := by decide +kernel
theorem dX9_put_34 : decode cX9_put 34 = .ok (.dup, 1) := by decide +kernel
theorem dX9_put_35 : decode cX9_put 35 = .ok (.getfield 15, 3) := by decide +kernel
theorem dX9_put_38 : decode cX9_put 38 = .ok (.iconst 1, 1) := by decide +kernel
theorem dX9_put_39 : decode cX9_put 39 = .ok (.iadd, 1) := by decide +kernel
theorem dX9_put_40 : decode cX9_put 40 = .ok (.putfield 15, 3) := by decide +kernel
theorem dX9_put_43 : decode cX9_put 43 = .ok (.iinc 2 (-8), 3) := by decide +kernel
theorem dX9_put_46 : decode cX9_put 46 = .ok (.goto (-43), 3) := by decide +kernel
theorem dX9_put_49 : decode cX9_put 49 = .ok (.return_, 1) := by decide +kernel
theorem dX9_byteAt_0 : decode cX9_byteAt 0 = .ok (.iload_n 1, 1) := by decide +kernel
theorem dX9_byteAt_1 : decode cX9_byteAt 1 = .ok (.ifCond .lt 20, 3) := by decide +kernel
theorem dX9_byteAt_4 : decode cX9_byteAt 4 = .ok (.iload_n 1, 1) := by decide +kernel
theorem dX9_byteAt_5 : decode cX9_byteAt 5 = .ok (.aload_n 0, 1) := by decide +kernel
theorem dX9_byteAt_6 : decode cX9_byteAt 6 = .ok (.getfield 15, 3) := by decide +kernel
theorem dX9_byteAt_9 : decode cX9_byteAt 9 = .ok (.if_icmp .ge 12, 3) := by decide +kernel
theorem dX9_byteAt_12 : decode cX9_byteAt 12 = .ok (.aload_n 0, 1) := by decide +kernel
theorem dX9_byteAt_13 : decode cX9_byteAt 13 = .ok (.getfield 9, 3) := by decide +kernel
theorem dX9_byteAt_16 : decode cX9_byteAt 16 = .ok (.iload_n 1, 1) := by decide +kernel
theorem dX9_byteAt_17 : decode cX9_byteAt 17 = .ok (.iaload, 1) := by decide +kernel
theorem dX9_byteAt_18 : decode cX9_byteAt 18 = .ok (.goto 4, 3) := by decide +kernel
theorem dX9_byteAt_21 : decode cX9_byteAt 21 = .ok (.iconst (-1), 1) := by decide +kernel
theorem dX9_byteAt_22 : decode cX9_byteAt 22 = .ok (.ireturn, 1) := by decide +kernel
theorem dJ0_length_8abf5_0 : decode cJ0_length_8abf5 0 = .ok (.aload_n 0, 1) := by decide +kernel
theorem dJ0_length_8abf5_1 : decode cJ0_length_8abf5 1 = .ok (.getfield 9, 3) := by decide +kernel
theorem dJ0_length_8abf5_4 : decode cJ0_length_8abf5 4 = .ok (.arraylength, 1) := by decide +kernel
theorem dJ0_length_8abf5_5 : decode cJ0_length_8abf5 5 = .ok (.aload_n 0, 1) := by decide +kernel
theorem dJ0_length_8abf5_6 : decode cJ0_length_8abf5 6 = .ok (.invokevirtual 335, 3) := by decide +kernel
theorem dJ0_length_8abf5_9 : decode cJ0_length_8abf5 9 = .ok (.ishr, 1) := by decide +kernel
theorem dJ0_length_8abf5_10 : decode cJ0_length_8abf5 10 = .ok (.ireturn, 1) := by decide +kernel
theorem dJ0_charAt_5068e_0 : decode cJ0_charAt_5068e 0 = .ok (.aload_n 0, 1) := by decide +kernel
theorem dJ0_charAt_5068e_1 : decode cJ0_charAt_5068e 1 = .ok (.invokevirtual 492, 3) := by decide +kernel
theorem dJ0_charAt_5068e_4 : decode cJ0_charAt_5068e 4 = .ok (.ifCond .eq 12, 3) := by decide +kernel
theorem dJ0_charAt_5068e_7 : decode cJ0_charAt_5068e 7 = .ok (.aload_n 0, 1) := by decide +kernel
theorem dJ0_charAt_5068e_8 : decode cJ0_charAt_5068e 8 = .ok (.getfield 9, 3) := by decide +kernel
theorem dJ0_charAt_5068e_11 : decode cJ0_charAt_5068e 11 = .ok (.iload_n 1, 1) := by decide +kernel
theorem dJ0_charAt_5068e_12 : decode cJ0_charAt_5068e 12 = .ok (.invokestatic 495, 3) := by decide +kernel
theorem dJ0_charAt_5068e_15 : decode cJ0_charAt_5068e 15 = .ok (.ireturn, 1) := by decide +kernel
theorem dJ0_charAt_5068e_16 : decode cJ0_charAt_5068e 16 = .ok (.aload_n 0, 1) := by decide +kernel
theorem dJ0_charAt_5068e_17 : decode cJ0_charAt_5068e 17 = .ok (.getfield 9, 3) := by decide +kernel
theorem dJ0_charAt_5068e_20 : decode cJ0_charAt_5068e 20 = .ok (.iload_n 1, 1) := by decide +kernel
theorem dJ0_charAt_5068e_21 : decode cJ0_charAt_5068e 21 = .ok (.invokestatic 498, 3) := by decide +kernel
theorem dJ0_charAt_5068e_24 : decode cJ0_charAt_5068e 24 = .ok (.ireturn, 1) := by decide +kernel
theorem dJ0_coder_7d493_0 : decode cJ0_coder_7d493 0 = .ok (.getstatic 38, 3) := by decide +kernel
theorem dJ0_coder_7d493_3 : decode cJ0_coder_7d493 3 = .ok (.ifCond .eq 10, 3) := by decide +kernel
theorem dJ0_coder_7d493_6 : decode cJ0_coder_7d493 6 = .ok (.aload_n 0, 1) := by decide +kernel
theorem dJ0_coder_7d493_7 : decode cJ0_coder_7d493 7 = .ok (.getfield 15, 3) := by decide +kernel
theorem dJ0_coder_7d493_10 : decode cJ0_coder_7d493 10 = .ok (.goto 4, 3) := by decide +kernel
theorem dJ0_coder_7d493_13 : decode cJ0_coder_7d493 13 = .ok (.iconst 1, 1) := by decide +kernel
theorem dJ0_coder_7d493_14 : decode cJ0_coder_7d493 14 = .ok (.ireturn, 1) := by decide +kernel
theorem dJ0_isLatin1_aae02_0 : decode cJ0_isLatin1_aae02 0 = .ok (.getstatic 38, 3) := by decide +kernel
theorem dJ0_isLatin1_aae02_3 : decode cJ0_isLatin1_aae02 3 = .ok (.ifCond .eq 14, 3) := by decide +kernel
theorem dJ0_isLatin1_aae02_6 : decode cJ0_isLatin1_aae02 6 = .ok (.aload_n 0, 1) := by decide +kernel
theorem dJ0_isLatin1_aae02_7 : decode cJ0_isLatin1_aae02 7 = .ok (.getfield 15, 3) := by decide +kernel
theorem dJ0_isLatin1_aae02_10 : decode cJ0_isLatin1_aae02 10 = .ok (.ifCond .ne 7, 3) := by decide +kernel
theorem dJ0_isLatin1_aae02_13 : decode cJ0_isLatin1_aae02 13 = .ok (.iconst 1, 1) := by decide +kernel
theorem dJ0_isLatin1_aae02_14 : decode cJ0_isLatin1_aae02 14 = .ok (.goto 4, 3) := by decide +kernel
theorem dJ0_isLatin1_aae02_17 : decode cJ0_isLatin1_aae02 17 = .ok (.iconst 0, 1) := by decide +kernel
theorem dJ0_isLatin1_aae02_18 : decode cJ0_isLatin1_aae02 18 = .ok (.ireturn, 1) := by decide +kernel
theorem dJ0_checkIndex_df160_0 : decode cJ0_checkIndex_df160 0 = .ok (.iload_n 0, 1) := by decide +kernel
theorem dJ0_checkIndex_df160_1 : decode cJ0_checkIndex_df160 1 = .ok (.iload_n 1, 1) := by decide +kernel
theorem dJ0_checkIndex_df160_2 : decode cJ0_checkIndex_df160 2 = .ok (.getstatic 1053, 3) := by decide +kernel
theorem dJ0_checkIndex_df160_5 : decode cJ0_checkIndex_df160 5 = .ok (.invokestatic 1059, 3) := by decide +kernel
theorem dJ0_checkIndex_df160_8 : decode cJ0_checkIndex_df160 8 = .ok (.pop, 1) := by decide +kernel
theorem dJ0_checkIndex_df160_9 : decode cJ0_checkIndex_df160 9 = .ok (.return_, 1) := by decide +kernel
theorem dJ1_charAt_3b067_0 : decode cJ1_charAt_3b067 0 = .ok (.iload_n 1, 1) := by decide +kernel
theorem dJ1_charAt_3b067_1 : decode cJ1_charAt_3b067 1 = .ok (.aload_n 0, 1) := by decide +kernel
theorem dJ1_charAt_3b067_2 : decode cJ1_charAt_3b067 2 = .ok (.arraylength, 1) := by decide +kernel
theorem dJ1_charAt_3b067_3 : decode cJ1_charAt_3b067 3 = .ok (.invokestatic 9, 3) := by decide +kernel
theorem dJ1_charAt_3b067_6 : decode cJ1_charAt_3b067 6 = .ok (.aload_n 0, 1) := by decide +kernel
theorem dJ1_charAt_3b067_7 : decode cJ1_charAt_3b067 7 = .ok (.iload_n 1, 1) := by decide +kernel
theorem dJ1_charAt_3b067_8 : decode cJ1_charAt_3b067 8 = .ok (.baload, 1) := by decide +kernel
theorem dJ1_charAt_3b067_9 : decode cJ1_charAt_3b067 9 = .ok (.sipush 255, 3) := by decide +kernel
theorem dJ1_charAt_3b067_12 : decode cJ1_charAt_3b067 12 = .ok (.iand, 1) := by decide +kernel
theorem dJ1_charAt_3b067_13 : decode cJ1_charAt_3b067 13 = .ok (.i2c, 1) := by decide +kernel
theorem dJ1_charAt_3b067_14 : decode cJ1_charAt_3b067 14 = .ok (.ireturn, 1) := by decide +kernel
theorem dJ2_getChar_3b067_0 : decode cJ2_getChar_3b067 0 = .ok (.getstatic 44, 3) := by decide +kernel
theorem dJ2_getChar_3b067_3 : decode cJ2_getChar_3b067 3 = .ok (.ifCond .ne 25, 3) := by decide +kernel
theorem dJ2_getChar_3b067_6 : decode cJ2_getChar_3b067 6 = .ok (.iload_n 1, 1) := by decide +kernel
theorem dJ2_getChar_3b067_7 : decode cJ2_getChar_3b067 7 = .ok (.ifCond .lt 11, 3) := by decide +kernel
theorem dJ2_getChar_3b067_10 : decode cJ2_getChar_3b067 10 = .ok (.iload_n 1, 1) := by decide +kernel
theorem dJ2_getChar_3b067_11 : decode cJ2_getChar_3b067 11 = .ok (.aload_n 0, 1) := by decide +kernel
theorem dJ2_getChar_3b067_12 : decode cJ2_getChar_3b067 12 = .ok (.invokestatic 48, 3) := by decide +kernel
theorem dJ2_getChar_3b067_15 : decode cJ2_getChar_3b067 15 = .ok (.if_icmp .lt 13, 3) := by decide +kernel
theorem dJ2_getChar_3b067_18 : decode cJ2_getChar_3b067 18 = .ok (.new 52, 3) := by decide +kernel
theorem dJ2_getChar_3b067_21 : decode cJ2_getChar_3b067 21 = .ok (.dup, 1) := by decide +kernel
theorem dJ2_getChar_3b067_22 : decode cJ2_getChar_3b067 22 = .ok (.ldc 54, 2) := by decide +kernel
theorem dJ2_getChar_3b067_24 : decode cJ2_getChar_3b067 24 = .ok (.invokespecial 56, 3) := by decide +kernel
theorem dJ2_getChar_3b067_27 : decode cJ2_getChar_3b067 27 = .ok (.athrow, 1) := by decide +kernel
theorem dJ2_getChar_3b067_28 : decode cJ2_getChar_3b067 28 = .ok (.iload_n 1, 1) := by decide +kernel
theorem dJ2_getChar_3b067_29 : decode cJ2_getChar_3b067 29 = .ok (.iconst 1, 1) := by decide +kernel
theorem dJ2_getChar_3b067_30 : decode cJ2_getChar_3b067 30 = .ok (.ishl, 1) := by decide +kernel
theorem dJ2_getChar_3b067_31 : decode cJ2_getChar_3b067 31 = .ok (.istore_n 1, 1) := by decide +kernel
theorem dJ2_getChar_3b067_32 : decode cJ2_getChar_3b067 32 = .ok (.aload_n 0, 1) := by decide +kernel
theorem dJ2_getChar_3b067_33 : decode cJ2_getChar_3b067 33 = .ok (.iload_n 1, 1) := by decide +kernel
theorem dJ2_getChar_3b067_34 : decode cJ2_getChar_3b067 34 = .ok (.iinc 1 1, 3) := by decide +kernel
theorem dJ2_getChar_3b067_37 : decode cJ2_getChar_3b067 37 = .ok (.baload, 1) := by decide +kernel
theorem dJ2_getChar_3b067_38 : decode cJ2_getChar_3b067 38 = .ok (.sipush 255, 3) := by decide +kernel
theorem dJ2_getChar_3b067_41 : decode cJ2_getChar_3b067 41 = .ok (.iand, 1) := by decide +kernel
theorem dJ2_getChar_3b067_42 : decode cJ2_getChar_3b067 42 = .ok (.getstatic 59, 3) := by decide +kernel
theorem dJ2_getChar_3b067_45 : decode cJ2_getChar_3b067 45 = .ok (.ishl, 1) := by decide +kernel
theorem dJ2_getChar_3b067_46 : decode cJ2_getChar_3b067 46 = .ok (.aload_n 0, 1) := by decide +kernel
theorem dJ2_getChar_3b067_47 : decode cJ2_getChar_3b067 47 = .ok (.iload_n 1, 1) := by decide +kernel
theorem dJ2_getChar_3b067_48 : decode cJ2_getChar_3b067 48 = .ok (.baload, 1) := by decide +kernel
theorem dJ2_getChar_3b067_49 : decode cJ2_getChar_3b067 49 = .ok (.sipush 255, 3) := by decide +kernel
theorem dJ2_getChar_3b067_52 : decode cJ2_getChar_3b067 52 = .ok (.iand, 1) := by decide +kernel
theorem dJ2_getChar_3b067_53 : decode cJ2_getChar_3b067 53 = .ok (.getstatic 63, 3) := by decide +kernel
theorem dJ2_getChar_3b067_56 : decode cJ2_getChar_3b067 56 = .ok (.ishl, 1) := by decide +kernel
theorem dJ2_getChar_3b067_57 : decode cJ2_getChar_3b067 57 = .ok (.ior, 1) := by decide +kernel
theorem dJ2_getChar_3b067_58 : decode cJ2_getChar_3b067 58 = .ok (.i2c, 1) := by decide +kernel
theorem dJ2_getChar_3b067_59 : decode cJ2_getChar_3b067 59 = .ok (.ireturn, 1) := by decide +kernel
theorem dJ2_length_9d52b_0 : decode cJ2_length_9d52b 0 = .ok (.aload_n 0, 1) := by decide +kernel
theorem dJ2_length_9d52b_1 : decode cJ2_length_9d52b 1 = .ok (.arraylength, 1) := by decide +kernel
theorem dJ2_length_9d52b_2 : decode cJ2_length_9d52b 2 = .ok (.iconst 1, 1) := by decide +kernel
theorem dJ2_length_9d52b_3 : decode cJ2_length_9d52b 3 = .ok (.ishr, 1) := by decide +kernel
theorem dJ2_length_9d52b_4 : decode cJ2_length_9d52b 4 = .ok (.ireturn, 1) := by decide +kernel
theorem dJ2_charAt_3b067_0 : decode cJ2_charAt_3b067 0 = .ok (.iload_n 1, 1) := by decide +kernel
theorem dJ2_charAt_3b067_1 : decode cJ2_charAt_3b067 1 = .ok (.aload_n 0, 1) := by decide +kernel
theorem dJ2_charAt_3b067_2 : decode cJ2_charAt_3b067 2 = .ok (.invokestatic 67, 3) := by decide +kernel
theorem dJ2_charAt_3b067_5 : decode cJ2_charAt_3b067 5 = .ok (.aload_n 0, 1) := by decide +kernel
theorem dJ2_charAt_3b067_6 : decode cJ2_charAt_3b067 6 = .ok (.iload_n 1, 1) := by decide +kernel
theorem dJ2_charAt_3b067_7 : decode cJ2_charAt_3b067 7 = .ok (.invokestatic 71, 3) := by decide +kernel
theorem dJ2_charAt_3b067_10 : decode cJ2_charAt_3b067 10 = .ok (.ireturn, 1) := by decide +kernel
theorem dJ2_checkIndex_2214a_0 : decode cJ2_checkIndex_2214a 0 = .ok (.iload_n 0, 1) := by decide +kernel
theorem dJ2_checkIndex_2214a_1 : decode cJ2_checkIndex_2214a 1 = .ok (.aload_n 1, 1) := by decide +kernel
theorem dJ2_checkIndex_2214a_2 : decode cJ2_checkIndex_2214a 2 = .ok (.invokestatic 48, 3) := by decide +kernel
theorem dJ2_checkIndex_2214a_5 : decode cJ2_checkIndex_2214a 5 = .ok (.invokestatic 414, 3) := by decide +kernel
theorem dJ2_checkIndex_2214a_8 : decode cJ2_checkIndex_2214a 8 = .ok (.return_, 1) := by decide +kernel
theorem dJ3_checkIndex_8e157_0 : decode cJ3_checkIndex_8e157 0 = .ok (.iload_n 0, 1) := by decide +kernel
theorem dJ3_checkIndex_8e157_1 : decode cJ3_checkIndex_8e157 1 = .ok (.ifCond .lt 8, 3) := by decide +kernel
theorem dJ3_checkIndex_8e157_4 : decode cJ3_checkIndex_8e157 4 = .ok (.iload_n 0, 1) := by decide +kernel
theorem dJ3_checkIndex_8e157_5 : decode cJ3_checkIndex_8e157 5 = .ok (.iload_n 1, 1) := by decide +kernel
theorem dJ3_checkIndex_8e157_6 : decode cJ3_checkIndex_8e157 6 = .ok (.if_icmp .lt 10, 3) := by decide +kernel
theorem dJ3_checkIndex_8e157_9 : decode cJ3_checkIndex_8e157 9 = .ok (.aload_n 2, 1) := by decide +kernel
theorem dJ3_checkIndex_8e157_10 : decode cJ3_checkIndex_8e157 10 = .ok (.iload_n 0, 1) := by decide +kernel
theorem dJ3_checkIndex_8e157_11 : decode cJ3_checkIndex_8e157 11 = .ok (.iload_n 1, 1) := by decide +kernel
theorem dJ3_checkIndex_8e157_12 : decode cJ3_checkIndex_8e157 12 = .ok (.invokestatic 95, 3) := by decide +kernel
theorem dJ3_checkIndex_8e157_15 : decode cJ3_checkIndex_8e157 15 = .ok (.athrow, 1) := by decide +kernel
theorem dJ3_checkIndex_8e157_16 : decode cJ3_checkIndex_8e157 16 = .ok (.iload_n 0, 1) := by decide +kernel
theorem dJ3_checkIndex_8e157_17 : decode cJ3_checkIndex_8e157 17 = .ok (.ireturn, 1) := by decide +kernel
theorem dJ6_bitCount_0f7a4_0 : decode cJ6_bitCount_0f7a4 0 = .ok (.iload_n 0, 1) := by decide +kernel
theorem dJ6_bitCount_0f7a4_1 : decode cJ6_bitCount_0f7a4 1 = .ok (.iload_n 0, 1) := by decide +kernel
theorem dJ6_bitCount_0f7a4_2 : decode cJ6_bitCount_0f7a4 2 = .ok (.iconst 1, 1) := by decide +kernel
theorem dJ6_bitCount_0f7a4_3 : decode cJ6_bitCount_0f7a4 3 = .ok (.iushr, 1) := by decide +kernel
theorem dJ6_bitCount_0f7a4_4 : decode cJ6_bitCount_0f7a4 4 = .ok (.ldc_w 265, 3) := by decide +kernel
theorem dJ6_bitCount_0f7a4_7 : decode cJ6_bitCount_0f7a4 7 = .ok (.iand, 1) := by decide +kernel
theorem dJ6_bitCount_0f7a4_8 : decode cJ6_bitCount_0f7a4 8 = .ok (.isub, 1) := by decide +kernel
theorem dJ6_bitCount_0f7a4_9 : decode cJ6_bitCount_0f7a4 9 = .ok (.istore_n 0, 1) := by decide +kernel
theorem dJ6_bitCount_0f7a4_10 : decode cJ6_bitCount_0f7a4 10 = .ok (.iload_n 0, 1) := by decide +kernel
theorem dJ6_bitCount_0f7a4_11 : decode cJ6_bitCount_0f7a4 11 = .ok (.ldc_w 266, 3) := by decide +kernel
theorem dJ6_bitCount_0f7a4_14 : decode cJ6_bitCount_0f7a4 14 = .ok (.iand, 1) := by decide +kernel
theorem dJ6_bitCount_0f7a4_15 : decode cJ6_bitCount_0f7a4 15 = .ok (.iload_n 0, 1) := by decide +kernel
theorem dJ6_bitCount_0f7a4_16 : decode cJ6_bitCount_0f7a4 16 = .ok (.iconst 2, 1) := by decide +kernel
theorem dJ6_bitCount_0f7a4_17 : decode cJ6_bitCount_0f7a4 17 = .ok (.iushr, 1) := by decide +kernel
theorem dJ6_bitCount_0f7a4_18 : decode cJ6_bitCount_0f7a4 18 = .ok (.ldc_w 266, 3) := by decide +kernel
theorem dJ6_bitCount_0f7a4_21 : decode cJ6_bitCount_0f7a4 21 = .ok (.iand, 1) := by decide +kernel
theorem dJ6_bitCount_0f7a4_22 : decode cJ6_bitCount_0f7a4 22 = .ok (.iadd, 1) := by decide +kernel
theorem dJ6_bitCount_0f7a4_23 : decode cJ6_bitCount_0f7a4 23 = .ok (.istore_n 0, 1) := by decide +kernel
theorem dJ6_bitCount_0f7a4_24 : decode cJ6_bitCount_0f7a4 24 = .ok (.iload_n 0, 1) := by decide +kernel
theorem dJ6_bitCount_0f7a4_25 : decode cJ6_bitCount_0f7a4 25 = .ok (.iload_n 0, 1) := by decide +kernel
theorem dJ6_bitCount_0f7a4_26 : decode cJ6_bitCount_0f7a4 26 = .ok (.iconst 4, 1) := by decide +kernel
theorem dJ6_bitCount_0f7a4_27 : decode cJ6_bitCount_0f7a4 27 = .ok (.iushr, 1) := by decide +kernel
theorem dJ6_bitCount_0f7a4_28 : decode cJ6_bitCount_0f7a4 28 = .ok (.iadd, 1) := by decide +kernel
theorem dJ6_bitCount_0f7a4_29 : decode cJ6_bitCount_0f7a4 29 = .ok (.ldc_w 267, 3) := by decide +kernel
theorem dJ6_bitCount_0f7a4_32 : decode cJ6_bitCount_0f7a4 32 = .ok (.iand, 1) := by decide +kernel
theorem dJ6_bitCount_0f7a4_33 : decode cJ6_bitCount_0f7a4 33 = .ok (.istore_n 0, 1) := by decide +kernel
theorem dJ6_bitCount_0f7a4_34 : decode cJ6_bitCount_0f7a4 34 = .ok (.iload_n 0, 1) := by decide +kernel
theorem dJ6_bitCount_0f7a4_35 : decode cJ6_bitCount_0f7a4 35 = .ok (.iload_n 0, 1) := by decide +kernel
theorem dJ6_bitCount_0f7a4_36 : decode cJ6_bitCount_0f7a4 36 = .ok (.bipush 8, 2) := by decide +kernel
theorem dJ6_bitCount_0f7a4_38 : decode cJ6_bitCount_0f7a4 38 = .ok (.iushr, 1) := by decide +kernel
theorem dJ6_bitCount_0f7a4_39 : decode cJ6_bitCount_0f7a4 39 = .ok (.iadd, 1) := by decide +kernel
theorem dJ6_bitCount_0f7a4_40 : decode cJ6_bitCount_0f7a4 40 = .ok (.istore_n 0, 1) := by decide +kernel
theorem dJ6_bitCount_0f7a4_41 : decode cJ6_bitCount_0f7a4 41 = .ok (.iload_n 0, 1) := by decide +kernel
theorem dJ6_bitCount_0f7a4_42 : decode cJ6_bitCount_0f7a4 42 = .ok (.iload_n 0, 1) := by decide +kernel
theorem dJ6_bitCount_0f7a4_43 : decode cJ6_bitCount_0f7a4 43 = .ok (.bipush 16, 2) := by decide +kernel
theorem dJ6_bitCount_0f7a4_45 : decode cJ6_bitCount_0f7a4 45 = .ok (.iushr, 1) := by decide +kernel
theorem dJ6_bitCount_0f7a4_46 : decode cJ6_bitCount_0f7a4 46 = .ok (.iadd, 1) := by decide +kernel
theorem dJ6_bitCount_0f7a4_47 : decode cJ6_bitCount_0f7a4 47 = .ok (.istore_n 0, 1) := by decide +kernel
theorem dJ6_bitCount_0f7a4_48 : decode cJ6_bitCount_0f7a4 48 = .ok (.iload_n 0, 1) := by decide +kernel
theorem dJ6_bitCount_0f7a4_49 : decode cJ6_bitCount_0f7a4 49 = .ok (.bipush 63, 2) := by decide +kernel
theorem dJ6_bitCount_0f7a4_51 : decode cJ6_bitCount_0f7a4 51 = .ok (.iand, 1) := by decide +kernel
theorem dJ6_bitCount_0f7a4_52 : decode cJ6_bitCount_0f7a4 52 = .ok (.ireturn, 1) := by decide +kernel
theorem dJ9_max_7cf53_0 : decode cJ9_max_7cf53 0 = .ok (.iload_n 0, 1) := by decide +kernel
theorem dJ9_max_7cf53_1 : decode cJ9_max_7cf53 1 = .ok (.iload_n 1, 1) := by decide +kernel
theorem dJ9_max_7cf53_2 : decode cJ9_max_7cf53 2 = .ok (.if_icmp .lt 7, 3) := by decide +kernel
theorem dJ9_max_7cf53_5 : decode cJ9_max_7cf53 5 = .ok (.iload_n 0, 1) := by decide +kernel
theorem dJ9_max_7cf53_6 : decode cJ9_max_7cf53 6 = .ok (.goto 4, 3) := by decide +kernel
theorem dJ9_max_7cf53_9 : decode cJ9_max_7cf53 9 = .ok (.iload_n 1, 1) := by decide +kernel
theorem dJ9_max_7cf53_10 : decode cJ9_max_7cf53 10 = .ok (.ireturn, 1) := by decide +kernel
theorem dJ9_min_7cf53_0 : decode cJ9_min_7cf53 0 = .ok (.iload_n 0, 1) := by decide +kernel
theorem dJ9_min_7cf53_1 : decode cJ9_min_7cf53 1 = .ok (.iload_n 1, 1) := by decide +kernel
theorem dJ9_min_7cf53_2 : decode cJ9_min_7cf53 2 = .ok (.if_icmp .gt 7, 3) := by decide +kernel
theorem dJ9_min_7cf53_5 : decode cJ9_min_7cf53 5 = .ok (.iload_n 0, 1) := by decide +kernel
theorem dJ9_min_7cf53_6 : decode cJ9_min_7cf53 6 = .ok (.goto 4, 3) := by decide +kernel
theorem dJ9_min_7cf53_9 : decode cJ9_min_7cf53 9 = .ok (.iload_n 1, 1) := by decide +kernel
theorem dJ9_min_7cf53_10 : decode cJ9_min_7cf53 10 = .ok (.ireturn, 1) := by decide +kernel
theorem dJ9_min_f86c9_0 : decode cJ9_min_f86c9 0 = .ok (.lload_n 0, 1) := by decide +kernel
theorem dJ9_min_f86c9_1 : decode cJ9_min_f86c9 1 = .ok (.lload_n 2, 1) := by decide +kernel
theorem dJ9_min_f86c9_2 : decode cJ9_min_f86c9 2 = .ok (.lcmp, 1) := by decide +kernel
theorem dJ9_min_f86c9_3 : decode cJ9_min_f86c9 3 = .ok (.ifCond .gt 7, 3) := by decide +kernel
theorem dJ9_min_f86c9_6 : decode cJ9_min_f86c9 6 = .ok (.lload_n 0, 1) := by decide +kernel
theorem dJ9_min_f86c9_7 : decode cJ9_min_f86c9 7 = .ok (.goto 4, 3) := by decide +kernel
theorem dJ9_min_f86c9_10 : decode cJ9_min_f86c9 10 = .ok (.lload_n 2, 1) := by decide +kernel
theorem dJ9_min_f86c9_11 : decode cJ9_min_f86c9 11 = .ok (.lreturn, 1) := by decide +kernel
