theorem dX0_init_0 : decode cX0_init 0 = .ok (.aload_n 0, 1) := by decide +kernel
theorem dX0_init_1 : decode cX0_init 1 = .ok (.invokespecial 1, 3) := by decide +kernel
theorem dX0_init_4 : decode cX0_init 4 = .ok (.aload_n 0, 1) := by decide +kernel
theorem dX0_init_5 : decode cX0_init 5 = .ok (.iload_n 1, 1) := by decide +kernel
theorem dX0_init_6 : decode cX0_init 6 = .ok (.putfield 7, 3) := by decide +kernel
theorem dX0_init_9 : decode cX0_init 9 = .ok (.aload_n 0, 1) := by decide +kernel
theorem dX0_init_10 : decode cX0_init 10 = .ok (.iload_n 2, 1) := by decide +kernel
theorem dX0_init_11 : decode cX0_init 11 = .ok (.putfield 13, 3) := by decide +kernel
theorem dX0_init_14 : decode cX0_init 14 = .ok (.aload_n 0, 1) := by decide +kernel
theorem dX0_init_15 : decode cX0_init 15 = .ok (.iload_n 3, 1) := by decide +kernel
theorem dX0_init_16 : decode cX0_init 16 = .ok (.putfield 16, 3) := by decide +kernel
theorem dX0_init_19 : decode cX0_init 19 = .ok (.aload_n 0, 1) := by decide +kernel
theorem dX0_init_20 : decode cX0_init 20 = .ok (.iload_n 3, 1) := by decide +kernel
theorem dX0_init_21 : decode cX0_init 21 = .ok (.putfield 19, 3) := by decide +kernel
theorem dX0_init_24 : decode cX0_init 24 = .ok (.aload_n 0, 1) := by decide +kernel
theorem dX0_init_25 : decode cX0_init 25 = .ok (.iload 4, 2) := by decide +kernel
theorem dX0_init_27 : decode cX0_init 27 = .ok (.putfield 22, 3) := by decide +kernel
theorem dX0_init_30 : decode cX0_init 30 = .ok (.aload_n 0, 1) := by decide +kernel
theorem dX0_init_31 : decode cX0_init 31 = .ok (.iload 5, 2) := by decide +kernel
theorem dX0_init_33 : decode cX0_init 33 = .ok (.putfield 25, 3) := by decide +kernel
theorem dX0_init_36 : decode cX0_init 36 = .ok (.return_, 1) := by decide +kernel
theorem dX1_init_0 : decode cX1_init 0 = .ok (.aload_n 0, 1) := by decide +kernel
theorem dX1_init_1 : decode cX1_init 1 = .ok (.invokespecial 3, 3) := by decide +kernel
theorem dX1_init_4 : decode cX1_init 4 = .ok (.aload_n 0, 1) := by decide +kernel
theorem dX1_init_5 : decode cX1_init 5 = .ok (.bipush 60, 2) := by decide +kernel
theorem dX1_init_7 : decode cX1_init 7 = .ok (.newarray .int, 2) := by decide +kernel
theorem dX1_init_9 : decode cX1_init 9 = .ok (.putfield 9, 3) := by decide +kernel
theorem dX1_init_12 : decode cX1_init 12 = .ok (.aload_n 0, 1) := by decide +kernel
theorem dX1_init_13 : decode cX1_init 13 = .ok (.bipush 60, 2) := by decide +kernel
theorem dX1_init_15 : decode cX1_init 15 = .ok (.newarray .int, 2) := by decide +kernel
theorem dX1_init_17 : decode cX1_init 17 = .ok (.putfield 15, 3) := by decide +kernel
theorem dX1_init_20 : decode cX1_init 20 = .ok (.aload_n 0, 1) := by decide +kernel
theorem dX1_init_21 : decode cX1_init 21 = .ok (.getfield 9, 3) := by decide +kernel
theorem dX1_init_24 : decode cX1_init 24 = .ok (.iload_n 1, 1) := by decide +kernel
theorem dX1_init_25 : decode cX1_init 25 = .ok (.invokestatic 18, 3) := by decide +kernel
theorem dX1_init_28 : decode cX1_init 28 = .ok (.aload_n 0, 1) := by decide +kernel
theorem dX1_init_29 : decode cX1_init 29 = .ok (.getfield 15, 3) := by decide +kernel
theorem dX1_init_32 : decode cX1_init 32 = .ok (.iload_n 2, 1) := by decide +kernel
theorem dX1_init_33 : decode cX1_init 33 = .ok (.invokestatic 18, 3) := by decide +kernel
theorem dX1_init_36 : decode cX1_init 36 = .ok (.return_, 1) := by decide +kernel
theorem dX1_weightAt_0 : decode cX1_weightAt 0 = .ok (.iload_n 1, 1) := by decide +kernel
theorem dX1_weightAt_1 : decode cX1_weightAt 1 = .ok (.invokestatic 24, 3) := by decide +kernel
theorem dX1_weightAt_4 : decode cX1_weightAt 4 = .ok (.ifCond .eq 21, 3) := by decide +kernel
theorem dX1_weightAt_7 : decode cX1_weightAt 7 = .ok (.iconst 5, 1) := by decide +kernel
theorem dX1_weightAt_8 : decode cX1_weightAt 8 = .ok (.aload_n 0, 1) := by decide +kernel
theorem dX1_weightAt_9 : decode cX1_weightAt 9 = .ok (.getfield 15, 3) := by decide +kernel
theorem dX1_weightAt_12 : decode cX1_weightAt 12 = .ok (.iload_n 1, 1) := by decide +kernel
theorem dX1_weightAt_13 : decode cX1_weightAt 13 = .ok (.iaload, 1) := by decide +kernel
theorem dX1_weightAt_14 : decode cX1_weightAt 14 = .ok (.imul, 1) := by decide +kernel
theorem dX1_weightAt_15 : decode cX1_weightAt 15 = .ok (.aload_n 0, 1) := by decide +kernel
theorem dX1_weightAt_16 : decode cX1_weightAt 16 = .ok (.getfield 9, 3) := by decide +kernel
theorem dX1_weightAt_19 : decode cX1_weightAt 19 = .ok (.iload_n 1, 1) := by decide +kernel
theorem dX1_weightAt_20 : decode cX1_weightAt 20 = .ok (.iaload, 1) := by decide +kernel
theorem dX1_weightAt_21 : decode cX1_weightAt 21 = .ok (.isub, 1) := by decide +kernel
theorem dX1_weightAt_22 : decode cX1_weightAt 22 = .ok (.goto 4, 3) := by decide +kernel
theorem dX1_weightAt_25 : decode cX1_weightAt 25 = .ok (.iconst 0, 1) := by decide +kernel
theorem dX1_weightAt_26 : decode cX1_weightAt 26 = .ok (.ireturn, 1) := by decide +kernel
theorem dX1_emptyAt_0 : decode cX1_emptyAt 0 = .ok (.iload_n 1, 1) := by decide +kernel
theorem dX1_emptyAt_1 : decode cX1_emptyAt 1 = .ok (.invokestatic 24, 3) := by decide +kernel
theorem dX1_emptyAt_4 : decode cX1_emptyAt 4 = .ok (.ifCond .eq 17, 3) := by decide +kernel
theorem dX1_emptyAt_7 : decode cX1_emptyAt 7 = .ok (.aload_n 0, 1) := by decide +kernel
theorem dX1_emptyAt_8 : decode cX1_emptyAt 8 = .ok (.getfield 9, 3) := by decide +kernel
theorem dX1_emptyAt_11 : decode cX1_emptyAt 11 = .ok (.iload_n 1, 1) := by decide +kernel
theorem dX1_emptyAt_12 : decode cX1_emptyAt 12 = .ok (.iconst 0, 1) := by decide +kernel
theorem dX1_emptyAt_13 : decode cX1_emptyAt 13 = .ok (.iastore, 1) := by decide +kernel
theorem dX1_emptyAt_14 : decode cX1_emptyAt 14 = .ok (.aload_n 0, 1) := by decide +kernel
theorem dX1_emptyAt_15 : decode cX1_emptyAt 15 = .ok (.getfield 15, 3) := by decide +kernel
theorem dX1_emptyAt_18 : decode cX1_emptyAt 18 = .ok (.iload_n 1, 1) := by decide +kernel
theorem dX1_emptyAt_19 : decode cX1_emptyAt 19 = .ok (.iconst 0, 1) := by decide +kernel
theorem dX1_emptyAt_20 : decode cX1_emptyAt 20 = .ok (.iastore, 1) := by decide +kernel
theorem dX1_emptyAt_21 : decode cX1_emptyAt 21 = .ok (.return_, 1) := by decide +kernel
theorem dX2_init_0 : decode cX2_init 0 = .ok (.aload_n 0, 1) := by decide +kernel
theorem dX2_init_1 : decode cX2_init 1 = .ok (.invokespecial 3, 3) := by decide +kernel
theorem dX2_init_4 : decode cX2_init 4 = .ok (.aload_n 0, 1) := by decide +kernel
theorem dX2_init_5 : decode cX2_init 5 = .ok (.bipush 100, 2) := by decide +kernel
theorem dX2_init_7 : decode cX2_init 7 = .ok (.anewarray 9, 3) := by decide +kernel
theorem dX2_init_10 : decode cX2_init 10 = .ok (.putfield 11, 3) := by decide +kernel
theorem dX2_init_13 : decode cX2_init 13 = .ok (.aload_n 0, 1) := by decide +kernel
theorem dX2_init_14 : decode cX2_init 14 = .ok (.bipush 100, 2) := by decide +kernel
theorem dX2_init_16 : decode cX2_init 16 = .ok (.putfield 17, 3) := by decide +kernel
theorem dX2_init_19 : decode cX2_init 19 = .ok (.return_, 1) := by decide +kernel
theorem dX2_keep_0 : decode cX2_keep 0 = .ok (.aload_n 0, 1) := by decide +kernel
theorem dX2_keep_1 : decode cX2_keep 1 = .ok (.getfield 21, 3) := by decide +kernel
theorem dX2_keep_4 : decode cX2_keep 4 = .ok (.aload_n 0, 1) := by decide +kernel
theorem dX2_keep_5 : decode cX2_keep 5 = .ok (.getfield 11, 3) := by decide +kernel
theorem dX2_keep_8 : decode cX2_keep 8 = .ok (.arraylength, 1) := by decide +kernel
theorem dX2_keep_9 : decode cX2_keep 9 = .ok (.invokestatic 24, 3) := by decide +kernel
theorem dX2_keep_12 : decode cX2_keep 12 = .ok (.ifCond .ne 4, 3) := by decide +kernel
theorem dX2_keep_15 : decode cX2_keep 15 = .ok (.return_, 1) := by decide +kernel
theorem dX2_keep_16 : decode cX2_keep 16 = .ok (.new 9, 3) := by decide +kernel
theorem dX2_keep_19 : decode cX2_keep 19 = .ok (.dup, 1) := by decide +kernel
theorem dX2_keep_20 : decode cX2_keep 20 = .ok (.iload_n 1, 1) := by decide +kernel
theorem dX2_keep_21 : decode cX2_keep 21 = .ok (.iload_n 2, 1) := by decide +kernel
theorem dX2_keep_22 : decode cX2_keep 22 = .ok (.iload_n 3, 1) := by decide +kernel
theorem dX2_keep_23 : decode cX2_keep 23 = .ok (.aload 4, 2) := by decide +kernel
theorem dX2_keep_25 : decode cX2_keep 25 = .ok (.invokespecial 28, 3) := by decide +kernel
theorem dX2_keep_28 : decode cX2_keep 28 = .ok (.astore 5, 2) := by decide +kernel
theorem dX2_keep_30 : decode cX2_keep 30 = .ok (.aload_n 0, 1) := by decide +kernel
theorem dX2_keep_31 : decode cX2_keep 31 = .ok (.getfield 11, 3) := by decide +kernel
theorem dX2_keep_34 : decode cX2_keep 34 = .ok (.aload_n 0, 1) := by decide +kernel
theorem dX2_keep_35 : decode cX2_keep 35 = .ok (.getfield 21, 3) := by decide +kernel
theorem dX2_keep_38 : decode cX2_keep 38 = .ok (.aload 5, 2) := by decide +kernel
theorem dX2_keep_40 : decode cX2_keep 40 = .ok (.aastore, 1) := by decide +kernel
theorem dX2_keep_41 : decode cX2_keep 41 = .ok (.aload_n 0, 1) := by decide +kernel
theorem dX2_keep_42 : decode cX2_keep 42 = .ok (.dup, 1) := by decide +kernel
theorem dX2_keep_43 : decode cX2_keep 43 = .ok (.getfield 21, 3) := by decide +kernel
theorem dX2_keep_46 : decode cX2_keep 46 = .ok (.iconst 1, 1) := by decide +kernel
theorem dX2_keep_47 : decode cX2_keep 47 = .ok (.iadd, 1) := by decide +kernel
theorem dX2_keep_48 : decode cX2_keep 48 = .ok (.putfield 21, 3) := by decide +kernel
theorem dX2_keep_51 : decode cX2_keep 51 = .ok (.aload 4, 2) := by decide +kernel
theorem dX2_keep_53 : decode cX2_keep 53 = .ok (.ifnull 10, 3) := by decide +kernel
theorem dX2_keep_56 : decode cX2_keep 56 = .ok (.aload 5, 2) := by decide +kernel
theorem dX2_keep_58 : decode cX2_keep 58 = .ok (.aload 4, 2) := by decide +kernel
theorem dX2_keep_60 : decode cX2_keep 60 = .ok (.invokestatic 31, 3) := by decide +kernel
theorem dX2_keep_63 : decode cX2_keep 63 = .ok (.return_, 1) := by decide +kernel
theorem dX2_chain_0 : decode cX2_chain 0 = .ok (.aload_n 0, 1) := by decide +kernel
theorem dX2_chain_1 : decode cX2_chain 1 = .ok (.aload_n 1, 1) := by decide +kernel
theorem dX2_chain_2 : decode cX2_chain 2 = .ok (.getfield 35, 3) := by decide +kernel
theorem dX2_chain_5 : decode cX2_chain 5 = .ok (.putfield 41, 3) := by decide +kernel
theorem dX2_chain_8 : decode cX2_chain 8 = .ok (.aload_n 1, 1) := by decide +kernel
theorem dX2_chain_9 : decode cX2_chain 9 = .ok (.getfield 35, 3) := by decide +kernel
theorem dX2_chain_12 : decode cX2_chain 12 = .ok (.ifnull 11, 3) := by decide +kernel
theorem dX2_chain_15 : decode cX2_chain 15 = .ok (.aload_n 1, 1) := by decide +kernel
theorem dX2_chain_16 : decode cX2_chain 16 = .ok (.getfield 35, 3) := by decide +kernel
theorem dX2_chain_19 : decode cX2_chain 19 = .ok (.aload_n 0, 1) := by decide +kernel
theorem dX2_chain_20 : decode cX2_chain 20 = .ok (.putfield 44, 3) := by decide +kernel
theorem dX2_chain_23 : decode cX2_chain 23 = .ok (.aload_n 1, 1) := by decide +kernel
theorem dX2_chain_24 : decode cX2_chain 24 = .ok (.aload_n 0, 1) := by decide +kernel
theorem dX2_chain_25 : decode cX2_chain 25 = .ok (.putfield 35, 3) := by decide +kernel
theorem dX2_chain_28 : decode cX2_chain 28 = .ok (.aload_n 1, 1) := by decide +kernel
theorem dX2_chain_29 : decode cX2_chain 29 = .ok (.dup, 1) := by decide +kernel
theorem dX2_chain_30 : decode cX2_chain 30 = .ok (.getfield 47, 3) := by decide +kernel
theorem dX2_chain_33 : decode cX2_chain 33 = .ok (.iconst 1, 1) := by decide +kernel
theorem dX2_chain_34 : decode cX2_chain 34 = .ok (.iadd, 1) := by decide +kernel
theorem dX2_chain_35 : decode cX2_chain 35 = .ok (.putfield 47, 3) := by decide +kernel
theorem dX2_chain_38 : decode cX2_chain 38 = .ok (.return_, 1) := by decide +kernel
theorem dX2_nearestOfShip_0 : decode cX2_nearestOfShip 0 = .ok (.aconst_null, 1) := by decide +kernel
theorem dX2_nearestOfShip_1 : decode cX2_nearestOfShip 1 = .ok (.astore_n 2, 1) := by decide +kernel
theorem dX2_nearestOfShip_2 : decode cX2_nearestOfShip 2 = .ok (.iconst 3, 1) := by decide +kernel
theorem dX2_nearestOfShip_3 : decode cX2_nearestOfShip 3 = .ok (.istore_n 3, 1) := by decide +kernel
theorem dX2_nearestOfShip_4 : decode cX2_nearestOfShip 4 = .ok (.aload_n 0, 1) := by decide +kernel
theorem dX2_nearestOfShip_5 : decode cX2_nearestOfShip 5 = .ok (.getfield 11, 3) := by decide +kernel
theorem dX2_nearestOfShip_8 : decode cX2_nearestOfShip 8 = .ok (.astore 4, 2) := by decide +kernel
theorem dX2_nearestOfShip_10 : decode cX2_nearestOfShip 10 = .ok (.aload 4, 2) := by decide +kernel
theorem dX2_nearestOfShip_12 : decode cX2_nearestOfShip 12 = .ok (.arraylength, 1) := by decide +kernel
theorem dX2_nearestOfShip_13 : decode cX2_nearestOfShip 13 = .ok (.istore 5, 2) := by decide +kernel
theorem dX2_nearestOfShip_15 : decode cX2_nearestOfShip 15 = .ok (.iconst 0, 1) := by decide +kernel
theorem dX2_nearestOfShip_16 : decode cX2_nearestOfShip 16 = .ok (.istore 6, 2) := by decide +kernel
theorem dX2_nearestOfShip_18 : decode cX2_nearestOfShip 18 = .ok (.iload 6, 2) := by decide +kernel
theorem dX2_nearestOfShip_20 : decode cX2_nearestOfShip 20 = .ok (.iload 5, 2) := by decide +kernel
theorem dX2_nearestOfShip_22 : decode cX2_nearestOfShip 22 = .ok (.if_icmp .ge 67, 3) := by decide +kernel
theorem dX2_nearestOfShip_25 : decode cX2_nearestOfShip 25 = .ok (.aload 4, 2) := by decide +kernel
theorem dX2_nearestOfShip_27 : decode cX2_nearestOfShip 27 = .ok (.iload 6, 2) := by decide +kernel
theorem dX2_nearestOfShip_29 : decode cX2_nearestOfShip 29 = .ok (.aaload, 1) := by decide +kernel
theorem dX2_nearestOfShip_30 : decode cX2_nearestOfShip 30 = .ok (.astore 7, 2) := by decide +kernel
theorem dX2_nearestOfShip_32 : decode cX2_nearestOfShip 32 = .ok (.aload 7, 2) := by decide +kernel
theorem dX2_nearestOfShip_34 : decode cX2_nearestOfShip 34 = .ok (.ifnull 49, 3) := by decide +kernel
theorem dX2_nearestOfShip_37 : decode cX2_nearestOfShip 37 = .ok (.aload 7, 2) := by decide +kernel
theorem dX2_nearestOfShip_39 : decode cX2_nearestOfShip 39 = .ok (.getfield 50, 3) := by decide +kernel
theorem dX2_nearestOfShip_42 : decode cX2_nearestOfShip 42 = .ok (.ifnonnull 41, 3) := by decide +kernel
theorem dX2_nearestOfShip_45 : decode cX2_nearestOfShip 45 = .ok (.aload 7, 2) := by decide +kernel
theorem dX2_nearestOfShip_47 : decode cX2_nearestOfShip 47 = .ok (.getfield 54, 3) := by decide +kernel
theorem dX2_nearestOfShip_50 : decode cX2_nearestOfShip 50 = .ok (.aload_n 1, 1) := by decide +kernel
theorem dX2_nearestOfShip_51 : decode cX2_nearestOfShip 51 = .ok (.getfield 54, 3) := by decide +kernel
theorem dX2_nearestOfShip_54 : decode cX2_nearestOfShip 54 = .ok (.if_icmp .ne 29, 3) := by decide +kernel
theorem dX2_nearestOfShip_57 : decode cX2_nearestOfShip 57 = .ok (.aload 7, 2) := by decide +kernel
theorem dX2_nearestOfShip_59 : decode cX2_nearestOfShip 59 = .ok (.aload_n 1, 1) := by decide +kernel
theorem dX2_nearestOfShip_60 : decode cX2_nearestOfShip 60 = .ok (.getfield 57, 3) := by decide +kernel
theorem dX2_nearestOfShip_63 : decode cX2_nearestOfShip 63 = .ok (.invokevirtual 60, 3) := by decide +kernel
theorem dX2_nearestOfShip_66 : decode cX2_nearestOfShip 66 = .ok (.iload_n 3, 1) := by decide +kernel
theorem dX2_nearestOfShip_67 : decode cX2_nearestOfShip 67 = .ok (.if_icmp .ge 16, 3) := by decide +kernel
theorem dX2_nearestOfShip_70 : decode cX2_nearestOfShip 70 = .ok (.aload 7, 2) := by decide +kernel
theorem dX2_nearestOfShip_72 : decode cX2_nearestOfShip 72 = .ok (.astore_n 2, 1) := by decide +kernel
theorem dX2_nearestOfShip_73 : decode cX2_nearestOfShip 73 = .ok (.aload 7, 2) := by decide +kernel
theorem dX2_nearestOfShip_75 : decode cX2_nearestOfShip 75 = .ok (.aload_n 1, 1) := by decide +kernel
theorem dX2_nearestOfShip_76 : decode cX2_nearestOfShip 76 = .ok (.getfield 57, 3) := by decide +kernel
theorem dX2_nearestOfShip_79 : decode cX2_nearestOfShip 79 = .ok (.invokevirtual 60, 3) := by decide +kernel
theorem dX2_nearestOfShip_82 : decode cX2_nearestOfShip 82 = .ok (.istore_n 3, 1) := by decide +kernel
theorem dX2_nearestOfShip_83 : decode cX2_nearestOfShip 83 = .ok (.iinc 6 1, 3) := by decide +kernel
theorem dX2_nearestOfShip_86 : decode cX2_nearestOfShip 86 = .ok (.goto (-68), 3) := by decide +kernel
theorem dX2_nearestOfShip_89 : decode cX2_nearestOfShip 89 = .ok (.aload_n 2, 1) := by decide +kernel
theorem dX2_nearestOfShip_90 : decode cX2_nearestOfShip 90 = .ok (.areturn, 1) := by decide +kernel
theorem dX2_weightsWithout_0 : decode cX2_weightsWithout 0 = .ok (.iconst 0, 1) := by decide +kernel
theorem dX2_weightsWithout_1 : decode cX2_weightsWithout 1 = .ok (.istore 5, 2) := by decide +kernel
theorem dX2_weightsWithout_3 : decode cX2_weightsWithout 3 = .ok (.aload_n 0, 1) := by decide +kernel
theorem dX2_weightsWithout_4 : decode cX2_weightsWithout 4 = .ok (.getfield 11, 3) := by decide +kernel
theorem dX2_weightsWithout_7 : decode cX2_weightsWithout 7 = .ok (.astore 6, 2) := by decide +kernel
theorem dX2_weightsWithout_9 : decode cX2_weightsWithout 9 = .ok (.aload 6, 2) := by decide +kernel
theorem dX2_weightsWithout_11 : decode cX2_weightsWithout 11 = .ok (.arraylength, 1) := by decide +kernel
theorem dX2_weightsWithout_12 : decode cX2_weightsWithout 12 = .ok (.istore 7, 2) := by decide +kernel
theorem dX2_weightsWithout_14 : decode cX2_weightsWithout 14 = .ok (.iconst 0, 1) := by decide +kernel
theorem dX2_weightsWithout_15 : decode cX2_weightsWithout 15 = .ok (.istore 8, 2) := by decide +kernel
theorem dX2_weightsWithout_17 : decode cX2_weightsWithout 17 = .ok (.iload 8, 2) := by decide +kernel
theorem dX2_weightsWithout_19 : decode cX2_weightsWithout 19 = .ok (.iload 7, 2) := by decide +kernel
theorem dX2_weightsWithout_21 : decode cX2_weightsWithout 21 = .ok (.if_icmp .ge 45, 3) := by decide +kernel
theorem dX2_weightsWithout_24 : decode cX2_weightsWithout 24 = .ok (.aload 6, 2) := by decide +kernel
theorem dX2_weightsWithout_26 : decode cX2_weightsWithout 26 = .ok (.iload 8, 2) := by decide +kernel
theorem dX2_weightsWithout_28 : decode cX2_weightsWithout 28 = .ok (.aaload, 1) := by decide +kernel
theorem dX2_weightsWithout_29 : decode cX2_weightsWithout 29 = .ok (.astore 9, 2) := by decide +kernel
theorem dX2_weightsWithout_31 : decode cX2_weightsWithout 31 = .ok (.aload 9, 2) := by decide +kernel
theorem dX2_weightsWithout_33 : decode cX2_weightsWithout 33 = .ok (.aload_n 1, 1) := by decide +kernel
theorem dX2_weightsWithout_34 : decode cX2_weightsWithout 34 = .ok (.if_acmp .eq 26, 3) := by decide +kernel
theorem dX2_weightsWithout_37 : decode cX2_weightsWithout 37 = .ok (.aload_n 0, 1) := by decide +kernel
theorem dX2_weightsWithout_38 : decode cX2_weightsWithout 38 = .ok (.aload 9, 2) := by decide +kernel
theorem dX2_weightsWithout_40 : decode cX2_weightsWithout 40 = .ok (.iload_n 3, 1) := by decide +kernel
theorem dX2_weightsWithout_41 : decode cX2_weightsWithout 41 = .ok (.iload 4, 2) := by decide +kernel
theorem dX2_weightsWithout_43 : decode cX2_weightsWithout 43 = .ok (.invokevirtual 64, 3) := by decide +kernel
theorem dX2_weightsWithout_46 : decode cX2_weightsWithout 46 = .ok (.ifCond .eq 14, 3) := by decide +kernel
theorem dX2_weightsWithout_49 : decode cX2_weightsWithout 49 = .ok (.iload 5, 2) := by decide +kernel
theorem dX2_weightsWithout_51 : decode cX2_weightsWithout 51 = .ok (.aload 9, 2) := by decide +kernel
theorem dX2_weightsWithout_53 : decode cX2_weightsWithout 53 = .ok (.iload_n 2, 1) := by decide +kernel
theorem dX2_weightsWithout_54 : decode cX2_weightsWithout 54 = .ok (.invokevirtual 68, 3) := by decide +kernel
theorem dX2_weightsWithout_57 : decode cX2_weightsWithout 57 = .ok (.iadd, 1) := by decide +kernel
theorem dX2_weightsWithout_58 : decode cX2_weightsWithout 58 = .ok (.istore 5, 2) := by decide +kernel
theorem dX2_weightsWithout_60 : decode cX2_weightsWithout 60 = .ok (.iinc 8 1, 3) := by decide +kernel
theorem dX2_weightsWithout_63 : decode cX2_weightsWithout 63 = .ok (.goto (-46), 3) := by decide +kernel
theorem dX2_weightsWithout_66 : decode cX2_weightsWithout 66 = .ok (.iload 5, 2) := by decide +kernel
theorem dX2_weightsWithout_68 : decode cX2_weightsWithout 68 = .ok (.ireturn, 1) := by decide +kernel
theorem dX2_weighedValuesWithout_0 : decode cX2_weighedValuesWithout 0 = .ok (.lconst 0, 1) := by decide +kernel
theorem dX2_weighedValuesWithout_1 : decode cX2_weighedValuesWithout 1 = .ok (.lstore 5, 2) := by decide +kernel
theorem dX2_weighedValuesWithout_3 : decode cX2_weighedValuesWithout 3 = .ok (.aload_n 0, 1) := by decide +kernel
theorem dX2_weighedValuesWithout_4 : decode cX2_weighedValuesWithout 4 = .ok (.getfield 11, 3) := by decide +kernel
theorem dX2_weighedValuesWithout_7 : decode cX2_weighedValuesWithout 7 = .ok (.astore 7, 2) := by decide +kernel
theorem dX2_weighedValuesWithout_9 : decode cX2_weighedValuesWithout 9 = .ok (.aload 7, 2) := by decide +kernel
theorem dX2_weighedValuesWithout_11 : decode cX2_weighedValuesWithout 11 = .ok (.arraylength, 1) := by decide +kernel
theorem dX2_weighedValuesWithout_12 : decode cX2_weighedValuesWithout 12 = .ok (.istore 8, 2) := by decide +kernel
theorem dX2_weighedValuesWithout_14 : decode cX2_weighedValuesWithout 14 = .ok (.iconst 0, 1) := by decide +kernel
theorem dX2_weighedValuesWithout_15 : decode cX2_weighedValuesWithout 15 = .ok (.istore 9, 2) := by decide +kernel
theorem dX2_weighedValuesWithout_17 : decode cX2_weighedValuesWithout 17 = .ok (.iload 9, 2) := by decide +kernel
theorem dX2_weighedValuesWithout_19 : decode cX2_weighedValuesWithout 19 = .ok (.iload 8, 2) := by decide +kernel
theorem dX2_weighedValuesWithout_21 : decode cX2_weighedValuesWithout 21 = .ok (.if_icmp .ge 53, 3) := by decide +kernel
theorem dX2_weighedValuesWithout_24 : decode cX2_weighedValuesWithout 24 = .ok (.aload 7, 2) := by decide +kernel
theorem dX2_weighedValuesWithout_26 : decode cX2_weighedValuesWithout 26 = .ok (.iload 9, 2) := by decide +kernel
theorem dX2_weighedValuesWithout_28 : decode cX2_weighedValuesWithout 28 = .ok (.aaload, 1) := by decide +kernel
theorem dX2_weighedValuesWithout_29 : decode cX2_weighedValuesWithout 29 = .ok (.astore 10, 2) := by decide +kernel
theorem dX2_weighedValuesWithout_31 : decode cX2_weighedValuesWithout 31 = .ok (.aload 10, 2) := by decide +kernel
theorem dX2_weighedValuesWithout_33 : decode cX2_weighedValuesWithout 33 = .ok (.aload_n 1, 1) := by decide +kernel
theorem dX2_weighedValuesWithout_34 : decode cX2_weighedValuesWithout 34 = .ok (.if_acmp .eq 34, 3) := by decide +kernel
theorem dX2_weighedValuesWithout_37 : decode cX2_weighedValuesWithout 37 = .ok (.aload_n 0, 1) := by decide +kernel
theorem dX2_weighedValuesWithout_38 : decode cX2_weighedValuesWithout 38 = .ok (.aload 10, 2) := by decide +kernel
theorem dX2_weighedValuesWithout_40 : decode cX2_weighedValuesWithout 40 = .ok (.iload_n 3, 1) := by decide +kernel
theorem dX2_weighedValuesWithout_41 : decode cX2_weighedValuesWithout 41 = .ok (.iload 4, 2) := by decide +kernel
theorem dX2_weighedValuesWithout_43 : decode cX2_weighedValuesWithout 43 = .ok (.invokevirtual 64, 3) := by decide +kernel
theorem dX2_weighedValuesWithout_46 : decode cX2_weighedValuesWithout 46 = .ok (.ifCond .eq 22, 3) := by decide +kernel
theorem dX2_weighedValuesWithout_49 : decode cX2_weighedValuesWithout 49 = .ok (.lload 5, 2) := by decide +kernel
theorem dX2_weighedValuesWithout_51 : decode cX2_weighedValuesWithout 51 = .ok (.aload 10, 2) := by decide +kernel
theorem dX2_weighedValuesWithout_53 : decode cX2_weighedValuesWithout 53 = .ok (.invokevirtual 71, 3) := by decide +kernel
theorem dX2_weighedValuesWithout_56 : decode cX2_weighedValuesWithout 56 = .ok (.i2l, 1) := by decide +kernel
theorem dX2_weighedValuesWithout_57 : decode cX2_weighedValuesWithout 57 = .ok (.aload 10, 2) := by decide +kernel
theorem dX2_weighedValuesWithout_59 : decode cX2_weighedValuesWithout 59 = .ok (.iload_n 2, 1) := by decide +kernel
theorem dX2_weighedValuesWithout_60 : decode cX2_weighedValuesWithout 60 = .ok (.invokevirtual 68, 3) := by decide +kernel
theorem dX2_weighedValuesWithout_63 : decode cX2_weighedValuesWithout 63 = .ok (.i2l, 1) := by decide +kernel
theorem dX2_weighedValuesWithout_64 : decode cX2_weighedValuesWithout 64 = .ok (.lmul, 1) := by decide +kernel
theorem dX2_weighedValuesWithout_65 : decode cX2_weighedValuesWithout 65 = .ok (.ladd, 1) := by decide +kernel
theorem dX2_weighedValuesWithout_66 : decode cX2_weighedValuesWithout 66 = .ok (.lstore 5, 2) := by decide +kernel
theorem dX2_weighedValuesWithout_68 : decode cX2_weighedValuesWithout 68 = .ok (.iinc 9 1, 3) := by decide +kernel
theorem dX2_weighedValuesWithout_71 : decode cX2_weighedValuesWithout 71 = .ok (.goto (-54), 3) := by decide +kernel
theorem dX2_weighedValuesWithout_74 : decode cX2_weighedValuesWithout 74 = .ok (.lload 5, 2) := by decide +kernel
theorem dX2_weighedValuesWithout_76 : decode cX2_weighedValuesWithout 76 = .ok (.lreturn, 1) := by decide +kernel
theorem dX2_isInSpan_0 : decode cX2_isInSpan 0 = .ok (.aload_n 1, 1) := by decide +kernel
theorem dX2_isInSpan_1 : decode cX2_isInSpan 1 = .ok (.ifnull 27, 3) := by decide +kernel
theorem dX2_isInSpan_4 : decode cX2_isInSpan 4 = .ok (.aload_n 1, 1) := by decide +kernel
theorem dX2_isInSpan_5 : decode cX2_isInSpan 5 = .ok (.iload_n 2, 1) := by decide +kernel
theorem dX2_isInSpan_6 : decode cX2_isInSpan 6 = .ok (.invokevirtual 60, 3) := by decide +kernel
theorem dX2_isInSpan_9 : decode cX2_isInSpan 9 = .ok (.iload_n 3, 1) := by decide +kernel
theorem dX2_isInSpan_10 : decode cX2_isInSpan 10 = .ok (.if_icmp .gt 18, 3) := by decide +kernel
theorem dX2_isInSpan_13 : decode cX2_isInSpan 13 = .ok (.aload_n 1, 1) := by decide +kernel
theorem dX2_isInSpan_14 : decode cX2_isInSpan 14 = .ok (.aload_n 0, 1) := by decide +kernel
theorem dX2_isInSpan_15 : decode cX2_isInSpan 15 = .ok (.getfield 17, 3) := by decide +kernel
theorem dX2_isInSpan_18 : decode cX2_isInSpan 18 = .ok (.invokevirtual 75, 3) := by decide +kernel
theorem dX2_isInSpan_21 : decode cX2_isInSpan 21 = .ok (.ifCond .ne 7, 3) := by decide +kernel
theorem dX2_isInSpan_24 : decode cX2_isInSpan 24 = .ok (.iconst 1, 1) := by decide +kernel
theorem dX2_isInSpan_25 : decode cX2_isInSpan 25 = .ok (.goto 4, 3) := by decide +kernel
theorem dX2_isInSpan_28 : decode cX2_isInSpan 28 = .ok (.iconst 0, 1) := by decide +kernel
theorem dX2_isInSpan_29 : decode cX2_isInSpan 29 = .ok (.ireturn, 1) := by decide +kernel
theorem dX4_init_0 : decode cX4_init 0 = .ok (.aload_n 0, 1) := by decide +kernel
theorem dX4_init_1 : decode cX4_init 1 = .ok (.invokespecial 3, 3) := by decide +kernel
theorem dX4_init_4 : decode cX4_init 4 = .ok (.aload_n 0, 1) := by decide +kernel
theorem dX4_init_5 : decode cX4_init 5 = .ok (.iconst (-1), 1) := by decide +kernel
theorem dX4_init_6 : decode cX4_init 6 = .ok (.putfield 9, 3) := by decide +kernel
theorem dX4_init_9 : decode cX4_init 9 = .ok (.aload_n 0, 1) := by decide +kernel
theorem dX4_init_10 : decode cX4_init 10 = .ok (.iload_n 1, 1) := by decide +kernel
theorem dX4_init_11 : decode cX4_init 11 = .ok (.putfield 15, 3) := by decide +kernel
theorem dX4_init_14 : decode cX4_init 14 = .ok (.aload_n 0, 1) := by decide +kernel
theorem dX4_init_15 : decode cX4_init 15 = .ok (.iload_n 2, 1) := by decide +kernel
theorem dX4_init_16 : decode cX4_init 16 = .ok (.putfield 18, 3) := by decide +kernel
theorem dX4_init_19 : decode cX4_init 19 = .ok (.aload_n 0, 1) := by decide +kernel
theorem dX4_init_20 : decode cX4_init 20 = .ok (.iload_n 3, 1) := by decide +kernel
theorem dX4_init_21 : decode cX4_init 21 = .ok (.putfield 21, 3) := by decide +kernel
theorem dX4_init_24 : decode cX4_init 24 = .ok (.aload_n 0, 1) := by decide +kernel
theorem dX4_init_25 : decode cX4_init 25 = .ok (.aload 4, 2) := by decide +kernel
theorem dX4_init_27 : decode cX4_init 27 = .ok (.putfield 24, 3) := by decide +kernel
theorem dX4_init_30 : decode cX4_init 30 = .ok (.return_, 1) := by decide +kernel
theorem dX4_corrected_0 : decode cX4_corrected 0 = .ok (.aload_n 0, 1) := by decide +kernel
theorem dX4_corrected_1 : decode cX4_corrected 1 = .ok (.getfield 24, 3) := by decide +kernel
theorem dX4_corrected_4 : decode cX4_corrected 4 = .ok (.ifnonnull 10, 3) := by decide +kernel
theorem dX4_corrected_7 : decode cX4_corrected 7 = .ok (.aload_n 0, 1) := by decide +kernel
theorem dX4_corrected_8 : decode cX4_corrected 8 = .ok (.getfield 21, 3) := by decide +kernel
theorem dX4_corrected_11 : decode cX4_corrected 11 = .ok (.goto 15, 3) := by decide +kernel
theorem dX4_corrected_14 : decode cX4_corrected 14 = .ok (.aload_n 0, 1) := by decide +kernel
theorem dX4_corrected_15 : decode cX4_corrected 15 = .ok (.getfield 21, 3) := by decide +kernel
theorem dX4_corrected_18 : decode cX4_corrected 18 = .ok (.aload_n 0, 1) := by decide +kernel
theorem dX4_corrected_19 : decode cX4_corrected 19 = .ok (.getfield 24, 3) := by decide +kernel
theorem dX4_corrected_22 : decode cX4_corrected 22 = .ok (.getfield 28, 3) := by decide +kernel
theorem dX4_corrected_25 : decode cX4_corrected 25 = .ok (.isub, 1) := by decide +kernel
theorem dX4_corrected_26 : decode cX4_corrected 26 = .ok (.ireturn, 1) := by decide +kernel
theorem dX4_flagBy_0 : decode cX4_flagBy 0 = .ok (.aload_n 0, 1) := by decide +kernel
theorem dX4_flagBy_1 : decode cX4_flagBy 1 = .ok (.getfield 9, 3) := by decide +kernel
theorem dX4_flagBy_4 : decode cX4_flagBy 4 = .ok (.iconst (-1), 1) := by decide +kernel
theorem dX4_flagBy_5 : decode cX4_flagBy 5 = .ok (.if_icmp .eq 8, 3) := by decide +kernel
theorem dX4_flagBy_8 : decode cX4_flagBy 8 = .ok (.aload_n 0, 1) := by decide +kernel
theorem dX4_flagBy_9 : decode cX4_flagBy 9 = .ok (.getfield 9, 3) := by decide +kernel
theorem dX4_flagBy_12 : decode cX4_flagBy 12 = .ok (.ireturn, 1) := by decide +kernel
theorem dX4_flagBy_13 : decode cX4_flagBy 13 = .ok (.aload_n 0, 1) := by decide +kernel
theorem dX4_flagBy_14 : decode cX4_flagBy 14 = .ok (.iload_n 1, 1) := by decide +kernel
theorem dX4_flagBy_15 : decode cX4_flagBy 15 = .ok (.invokevirtual 33, 3) := by decide +kernel
theorem dX4_flagBy_18 : decode cX4_flagBy 18 = .ok (.ifCond .eq 7, 3) := by decide +kernel
theorem dX4_flagBy_21 : decode cX4_flagBy 21 = .ok (.iconst 1, 1) := by decide +kernel
theorem dX4_flagBy_22 : decode cX4_flagBy 22 = .ok (.goto 4, 3) := by decide +kernel
theorem dX4_flagBy_25 : decode cX4_flagBy 25 = .ok (.iconst 0, 1) := by decide +kernel
theorem dX4_flagBy_26 : decode cX4_flagBy 26 = .ok (.ireturn, 1) := by decide +kernel
theorem dX4_isSpike_0 : decode cX4_isSpike 0 = .ok (.aload_n 0, 1) := by decide +kernel
theorem dX4_isSpike_1 : decode cX4_isSpike 1 = .ok (.getfield 37, 3) := by decide +kernel
theorem dX4_isSpike_4 : decode cX4_isSpike 4 = .ok (.ifnull 10, 3) := by decide +kernel
theorem dX4_isSpike_7 : decode cX4_isSpike 7 = .ok (.aload_n 0, 1) := by decide +kernel
theorem dX4_isSpike_8 : decode cX4_isSpike 8 = .ok (.getfield 41, 3) := by decide +kernel
theorem dX4_isSpike_11 : decode cX4_isSpike 11 = .ok (.ifnonnull 5, 3) := by decide +kernel
theorem dX4_isSpike_14 : decode cX4_isSpike 14 = .ok (.iconst 0, 1) := by decide +kernel
theorem dX4_isSpike_15 : decode cX4_isSpike 15 = .ok (.ireturn, 1) := by decide +kernel
theorem dX4_isSpike_16 : decode cX4_isSpike 16 = .ok (.aload_n 0, 1) := by decide +kernel
theorem dX4_isSpike_17 : decode cX4_isSpike 17 = .ok (.invokevirtual 44, 3) := by decide +kernel
theorem dX4_isSpike_20 : decode cX4_isSpike 20 = .ok (.aload_n 0, 1) := by decide +kernel
theorem dX4_isSpike_21 : decode cX4_isSpike 21 = .ok (.getfield 37, 3) := by decide +kernel
theorem dX4_isSpike_24 : decode cX4_isSpike 24 = .ok (.invokevirtual 44, 3) := by decide +kernel
theorem dX4_isSpike_27 : decode cX4_isSpike 27 = .ok (.isub, 1) := by decide +kernel
theorem dX4_isSpike_28 : decode cX4_isSpike 28 = .ok (.istore_n 2, 1) := by decide +kernel
theorem dX4_isSpike_29 : decode cX4_isSpike 29 = .ok (.aload_n 0, 1) := by decide +kernel
theorem dX4_isSpike_30 : decode cX4_isSpike 30 = .ok (.invokevirtual 44, 3) := by decide +kernel
theorem dX4_isSpike_33 : decode cX4_isSpike 33 = .ok (.aload_n 0, 1) := by decide +kernel
theorem dX4_isSpike_34 : decode cX4_isSpike 34 = .ok (.getfield 41, 3) := by decide +kernel
theorem dX4_isSpike_37 : decode cX4_isSpike 37 = .ok (.invokevirtual 44, 3) := by decide +kernel
theorem dX4_isSpike_40 : decode cX4_isSpike 40 = .ok (.isub, 1) := by decide +kernel
theorem dX4_isSpike_41 : decode cX4_isSpike 41 = .ok (.istore_n 3, 1) := by decide +kernel
theorem dX4_isSpike_42 : decode cX4_isSpike 42 = .ok (.iload_n 2, 1) := by decide +kernel
theorem dX4_isSpike_43 : decode cX4_isSpike 43 = .ok (.iload_n 1, 1) := by decide +kernel
theorem dX4_isSpike_44 : decode cX4_isSpike 44 = .ok (.if_icmp .le 8, 3) := by decide +kernel
theorem dX4_isSpike_47 : decode cX4_isSpike 47 = .ok (.iload_n 3, 1) := by decide +kernel
theorem dX4_isSpike_48 : decode cX4_isSpike 48 = .ok (.iload_n 1, 1) := by decide +kernel
theorem dX4_isSpike_49 : decode cX4_isSpike 49 = .ok (.if_icmp .gt 15, 3) := by decide +kernel
theorem dX4_isSpike_52 : decode cX4_isSpike 52 = .ok (.iload_n 2, 1) := by decide +kernel
theorem dX4_isSpike_53 : decode cX4_isSpike 53 = .ok (.iload_n 1, 1) := by decide +kernel
theorem dX4_isSpike_54 : decode cX4_isSpike 54 = .ok (.ineg, 1) := by decide +kernel
theorem dX4_isSpike_55 : decode cX4_isSpike 55 = .ok (.if_icmp .ge 13, 3) := by decide +kernel
theorem dX4_isSpike_58 : decode cX4_isSpike 58 = .ok (.iload_n 3, 1) := by decide +kernel
theorem dX4_isSpike_59 : decode cX4_isSpike 59 = .ok (.iload_n 1, 1) := by decide +kernel
theorem dX4_isSpike_60 : decode cX4_isSpike 60 = .ok (.ineg, 1) := by decide +kernel
theorem dX4_isSpike_61 : decode cX4_isSpike 61 = .ok (.if_icmp .ge 7, 3) := by decide +kernel
theorem dX4_isSpike_64 : decode cX4_isSpike 64 = .ok (.iconst 1, 1) := by decide +kernel
theorem dX4_isSpike_65 : decode cX4_isSpike 65 = .ok (.goto 4, 3) := by decide +kernel
theorem dX4_isSpike_68 : decode cX4_isSpike 68 = .ok (.iconst 0, 1) := by decide +kernel
theorem dX4_isSpike_69 : decode cX4_isSpike 69 = .ok (.ireturn, 1) := by decide +kernel
theorem dX4_daysFrom_0 : decode cX4_daysFrom 0 = .ok (.aload_n 0, 1) := by decide +kernel
theorem dX4_daysFrom_1 : decode cX4_daysFrom 1 = .ok (.getfield 15, 3) := by decide +kernel
theorem dX4_daysFrom_4 : decode cX4_daysFrom 4 = .ok (.iload_n 1, 1) := by decide +kernel
theorem dX4_daysFrom_5 : decode cX4_daysFrom 5 = .ok (.isub, 1) := by decide +kernel
theorem dX4_daysFrom_6 : decode cX4_daysFrom 6 = .ok (.invokestatic 48, 3) := by decide +kernel
theorem dX4_daysFrom_9 : decode cX4_daysFrom 9 = .ok (.ireturn, 1) := by decide +kernel
theorem dX4_weightIn_0 : decode cX4_weightIn 0 = .ok (.aload_n 0, 1) := by decide +kernel
theorem dX4_weightIn_1 : decode cX4_weightIn 1 = .ok (.getfield 18, 3) := by decide +kernel
theorem dX4_weightIn_4 : decode cX4_weightIn 4 = .ok (.bipush 10, 2) := by decide +kernel
theorem dX4_weightIn_6 : decode cX4_weightIn 6 = .ok (.irem, 1) := by decide +kernel
theorem dX4_weightIn_7 : decode cX4_weightIn 7 = .ok (.iload_n 1, 1) := by decide +kernel
theorem dX4_weightIn_8 : decode cX4_weightIn 8 = .ok (.bipush 10, 2) := by decide +kernel
theorem dX4_weightIn_10 : decode cX4_weightIn 10 = .ok (.irem, 1) := by decide +kernel
theorem dX4_weightIn_11 : decode cX4_weightIn 11 = .ok (.isub, 1) := by decide +kernel
theorem dX4_weightIn_12 : decode cX4_weightIn 12 = .ok (.invokestatic 48, 3) := by decide +kernel
theorem dX4_weightIn_15 : decode cX4_weightIn 15 = .ok (.aload_n 0, 1) := by decide +kernel
theorem dX4_weightIn_16 : decode cX4_weightIn 16 = .ok (.getfield 18, 3) := by decide +kernel
theorem dX4_weightIn_19 : decode cX4_weightIn 19 = .ok (.bipush 10, 2) := by decide +kernel
theorem dX4_weightIn_21 : decode cX4_weightIn 21 = .ok (.idiv, 1) := by decide +kernel
theorem dX4_weightIn_22 : decode cX4_weightIn 22 = .ok (.iload_n 1, 1) := by decide +kernel
theorem dX4_weightIn_23 : decode cX4_weightIn 23 = .ok (.bipush 10, 2) := by decide +kernel
theorem dX4_weightIn_25 : decode cX4_weightIn 25 = .ok (.idiv, 1) := by decide +kernel
theorem dX4_weightIn_26 : decode cX4_weightIn 26 = .ok (.isub, 1) := by decide +kernel
theorem dX4_weightIn_27 : decode cX4_weightIn 27 = .ok (.invokestatic 48, 3) := by decide +kernel
theorem dX4_weightIn_30 : decode cX4_weightIn 30 = .ok (.iadd, 1) := by decide +kernel
theorem dX4_weightIn_31 : decode cX4_weightIn 31 = .ok (.istore_n 2, 1) := by decide +kernel
theorem dX4_weightIn_32 : decode cX4_weightIn 32 = .ok (.iconst 0, 1) := by decide +kernel
theorem dX4_weightIn_33 : decode cX4_weightIn 33 = .ok (.bipush 8, 2) := by decide +kernel
theorem dX4_weightIn_35 : decode cX4_weightIn 35 = .ok (.iload_n 2, 1) := by decide +kernel
theorem dX4_weightIn_36 : decode cX4_weightIn 36 = .ok (.isub, 1) := by decide +kernel
theorem dX4_weightIn_37 : decode cX4_weightIn 37 = .ok (.invokestatic 54, 3) := by decide +kernel
theorem dX4_weightIn_40 : decode cX4_weightIn 40 = .ok (.ireturn, 1) := by decide +kernel
theorem dX5_init_0 : decode cX5_init 0 = .ok (.aload_n 0, 1) := by decide +kernel
theorem dX5_init_1 : decode cX5_init 1 = .ok (.invokespecial 3, 3) := by decide +kernel
theorem dX5_init_4 : decode cX5_init 4 = .ok (.aload_n 0, 1) := by decide +kernel
theorem dX5_init_5 : decode cX5_init 5 = .ok (.new 9, 3) := by decide +kernel
theorem dX5_init_8 : decode cX5_init 8 = .ok (.dup, 1) := by decide +kernel
theorem dX5_init_9 : decode cX5_init 9 = .ok (.sipush 1000, 3) := by decide +kernel
theorem dX5_init_12 : decode cX5_init 12 = .ok (.sipush 350, 3) := by decide +kernel
theorem dX5_init_15 : decode cX5_init 15 = .ok (.invokespecial 11, 3) := by decide +kernel
theorem dX5_init_18 : decode cX5_init 18 = .ok (.putfield 14, 3) := by decide +kernel
theorem dX5_init_21 : decode cX5_init 21 = .ok (.aload_n 0, 1) := by decide +kernel
theorem dX5_init_22 : decode cX5_init 22 = .ok (.new 9, 3) := by decide +kernel
theorem dX5_init_25 : decode cX5_init 25 = .ok (.dup, 1) := by decide +kernel
theorem dX5_init_26 : decode cX5_init 26 = .ok (.sipush 400, 3) := by decide +kernel
theorem dX5_init_29 : decode cX5_init 29 = .ok (.sipush 360, 3) := by decide +kernel
theorem dX5_init_32 : decode cX5_init 32 = .ok (.invokespecial 11, 3) := by decide +kernel
theorem dX5_init_35 : decode cX5_init 35 = .ok (.putfield 20, 3) := by decide +kernel
theorem dX5_init_38 : decode cX5_init 38 = .ok (.aload_n 0, 1) := by decide +kernel
theorem dX5_init_39 : decode cX5_init 39 = .ok (.bipush 60, 2) := by decide +kernel
theorem dX5_init_41 : decode cX5_init 41 = .ok (.newarray .int, 2) := by decide +kernel
theorem dX5_init_43 : decode cX5_init 43 = .ok (.putfield 23, 3) := by decide +kernel
theorem dX5_init_46 : decode cX5_init 46 = .ok (.aload_n 0, 1) := by decide +kernel
theorem dX5_init_47 : decode cX5_init 47 = .ok (.bipush 6, 2) := by decide +kernel
theorem dX5_init_49 : decode cX5_init 49 = .ok (.newarray .int, 2) := by decide +kernel
theorem dX5_init_51 : decode cX5_init 51 = .ok (.putfield 27, 3) := by decide +kernel
theorem dX5_init_54 : decode cX5_init 54 = .ok (.aload_n 0, 1) := by decide +kernel
theorem dX5_init_55 : decode cX5_init 55 = .ok (.bipush 60, 2) := by decide +kernel
theorem dX5_init_57 : decode cX5_init 57 = .ok (.newarray .boolean, 2) := by decide +kernel
theorem dX5_init_59 : decode cX5_init 59 = .ok (.putfield 30, 3) := by decide +kernel
theorem dX5_init_62 : decode cX5_init 62 = .ok (.aload_n 0, 1) := by decide +kernel
theorem dX5_init_63 : decode cX5_init 63 = .ok (.bipush 60, 2) := by decide +kernel
theorem dX5_init_65 : decode cX5_init 65 = .ok (.newarray .int, 2) := by decide +kernel
theorem dX5_init_67 : decode cX5_init 67 = .ok (.putfield 34, 3) := by decide +kernel
theorem dX5_init_70 : decode cX5_init 70 = .ok (.return_, 1) := by decide +kernel
theorem dX5_isLand_0 : decode cX5_isLand 0 = .ok (.iload_n 1, 1) := by decide +kernel
theorem dX5_isLand_1 : decode cX5_isLand 1 = .ok (.invokestatic 37, 3) := by decide +kernel
theorem dX5_isLand_4 : decode cX5_isLand 4 = .ok (.ifCond .eq 16, 3) := by decide +kernel
theorem dX5_isLand_7 : decode cX5_isLand 7 = .ok (.aload_n 0, 1) := by decide +kernel
theorem dX5_isLand_8 : decode cX5_isLand 8 = .ok (.getfield 30, 3) := by decide +kernel
theorem dX5_isLand_11 : decode cX5_isLand 11 = .ok (.iload_n 1, 1) := by decide +kernel
theorem dX5_isLand_12 : decode cX5_isLand 12 = .ok (.baload, 1) := by decide +kernel
theorem dX5_isLand_13 : decode cX5_isLand 13 = .ok (.ifCond .eq 7, 3) := by decide +kernel
theorem dX5_isLand_16 : decode cX5_isLand 16 = .ok (.iconst 1, 1) := by decide +kernel
theorem dX5_isLand_17 : decode cX5_isLand 17 = .ok (.goto 4, 3) := by decide +kernel
theorem dX5_isLand_20 : decode cX5_isLand 20 = .ok (.iconst 0, 1) := by decide +kernel
theorem dX5_isLand_21 : decode cX5_isLand 21 = .ok (.ireturn, 1) := by decide +kernel
theorem dX5_upperHeat_0 : decode cX5_upperHeat 0 = .ok (.iload_n 1, 1) := by decide +kernel
theorem dX5_upperHeat_1 : decode cX5_upperHeat 1 = .ok (.invokestatic 37, 3) := by decide +kernel
theorem dX5_upperHeat_4 : decode cX5_upperHeat 4 = .ok (.ifCond .eq 15, 3) := by decide +kernel
theorem dX5_upperHeat_7 : decode cX5_upperHeat 7 = .ok (.aload_n 0, 1) := by decide +kernel
theorem dX5_upperHeat_8 : decode cX5_upperHeat 8 = .ok (.getfield 14, 3) := by decide +kernel
theorem dX5_upperHeat_11 : decode cX5_upperHeat 11 = .ok (.getfield 41, 3) := by decide +kernel
theorem dX5_upperHeat_14 : decode cX5_upperHeat 14 = .ok (.iload_n 1, 1) := by decide +kernel
theorem dX5_upperHeat_15 : decode cX5_upperHeat 15 = .ok (.iaload, 1) := by decide +kernel
theorem dX5_upperHeat_16 : decode cX5_upperHeat 16 = .ok (.goto 4, 3) := by decide +kernel
theorem dX5_upperHeat_19 : decode cX5_upperHeat 19 = .ok (.iconst 0, 1) := by decide +kernel
theorem dX5_upperHeat_20 : decode cX5_upperHeat 20 = .ok (.ireturn, 1) := by decide +kernel
theorem dX5_makeLand_0 : decode cX5_makeLand 0 = .ok (.iload_n 1, 1) := by decide +kernel
theorem dX5_makeLand_1 : decode cX5_makeLand 1 = .ok (.invokestatic 37, 3) := by decide +kernel
theorem dX5_makeLand_4 : decode cX5_makeLand 4 = .ok (.ifCond .eq 45, 3) := by decide +kernel
theorem dX5_makeLand_7 : decode cX5_makeLand 7 = .ok (.aload_n 0, 1) := by decide +kernel
theorem dX5_makeLand_8 : decode cX5_makeLand 8 = .ok (.getfield 30, 3) := by decide +kernel
theorem dX5_makeLand_11 : decode cX5_makeLand 11 = .ok (.iload_n 1, 1) := by decide +kernel
theorem dX5_makeLand_12 : decode cX5_makeLand 12 = .ok (.baload, 1) := by decide +kernel
theorem dX5_makeLand_13 : decode cX5_makeLand 13 = .ok (.ifCond .ne 36, 3) := by decide +kernel
theorem dX5_makeLand_16 : decode cX5_makeLand 16 = .ok (.aload_n 0, 1) := by decide +kernel
theorem dX5_makeLand_17 : decode cX5_makeLand 17 = .ok (.getfield 30, 3) := by decide +kernel
theorem dX5_makeLand_20 : decode cX5_makeLand 20 = .ok (.iload_n 1, 1) := by decide +kernel
theorem dX5_makeLand_21 : decode cX5_makeLand 21 = .ok (.iconst 1, 1) := by decide +kernel
theorem dX5_makeLand_22 : decode cX5_makeLand 22 = .ok (.bastore, 1) := by decide +kernel
theorem dX5_makeLand_23 : decode cX5_makeLand 23 = .ok (.aload_n 0, 1) := by decide +kernel
theorem dX5_makeLand_24 : decode cX5_makeLand 24 = .ok (.dup, 1) := by decide +kernel
theorem dX5_makeLand_25 : decode cX5_makeLand 25 = .ok (.getfield 44, 3) := by decide +kernel
theorem dX5_makeLand_28 : decode cX5_makeLand 28 = .ok (.iconst 1, 1) := by decide +kernel
theorem dX5_makeLand_29 : decode cX5_makeLand 29 = .ok (.iadd, 1) := by decide +kernel
theorem dX5_makeLand_30 : decode cX5_makeLand 30 = .ok (.putfield 44, 3) := by decide +kernel
theorem dX5_makeLand_33 : decode cX5_makeLand 33 = .ok (.aload_n 0, 1) := by decide +kernel
theorem dX5_makeLand_34 : decode cX5_makeLand 34 = .ok (.getfield 14, 3) := by decide +kernel
theorem dX5_makeLand_37 : decode cX5_makeLand 37 = .ok (.iload_n 1, 1) := by decide +kernel
theorem dX5_makeLand_38 : decode cX5_makeLand 38 = .ok (.invokevirtual 48, 3) := by decide +kernel
theorem dX5_makeLand_41 : decode cX5_makeLand 41 = .ok (.aload_n 0, 1) := by decide +kernel
theorem dX5_makeLand_42 : decode cX5_makeLand 42 = .ok (.getfield 20, 3) := by decide +kernel
theorem dX5_makeLand_45 : decode cX5_makeLand 45 = .ok (.iload_n 1, 1) := by decide +kernel
theorem dX5_makeLand_46 : decode cX5_makeLand 46 = .ok (.invokevirtual 48, 3) := by decide +kernel
theorem dX5_makeLand_49 : decode cX5_makeLand 49 = .ok (.aload_n 0, 1) := by decide +kernel
theorem dX5_makeLand_50 : decode cX5_makeLand 50 = .ok (.getfield 44, 3) := by decide +kernel
theorem dX5_makeLand_53 : decode cX5_makeLand 53 = .ok (.ireturn, 1) := by decide +kernel
theorem dX5_seaBeside_0 : decode cX5_seaBeside 0 = .ok (.iload_n 1, 1) := by decide +kernel
theorem dX5_seaBeside_1 : decode cX5_seaBeside 1 = .ok (.invokestatic 37, 3) := by decide +kernel
theorem dX5_seaBeside_4 : decode cX5_seaBeside 4 = .ok (.ifCond .ne 5, 3) := by decide +kernel
theorem dX5_seaBeside_7 : decode cX5_seaBeside 7 = .ok (.iconst (-1), 1) := by decide +kernel
theorem dX5_seaBeside_8 : decode cX5_seaBeside 8 = .ok (.ireturn, 1) := by decide +kernel
theorem dX5_seaBeside_9 : decode cX5_seaBeside 9 = .ok (.iload_n 1, 1) := by decide +kernel
theorem dX5_seaBeside_10 : decode cX5_seaBeside 10 = .ok (.bipush 10, 2) := by decide +kernel
theorem dX5_seaBeside_12 : decode cX5_seaBeside 12 = .ok (.irem, 1) := by decide +kernel
theorem dX5_seaBeside_13 : decode cX5_seaBeside 13 = .ok (.istore_n 3, 1) := by decide +kernel
theorem dX5_seaBeside_14 : decode cX5_seaBeside 14 = .ok (.iload_n 1, 1) := by decide +kernel
theorem dX5_seaBeside_15 : decode cX5_seaBeside 15 = .ok (.bipush 10, 2) := by decide +kernel
theorem dX5_seaBeside_17 : decode cX5_seaBeside 17 = .ok (.idiv, 1) := by decide +kernel
theorem dX5_seaBeside_18 : decode cX5_seaBeside 18 = .ok (.istore 4, 2) := by decide +kernel
theorem dX5_seaBeside_20 : decode cX5_seaBeside 20 = .ok (.iload_n 2, 1) := by decide +kernel
theorem dX5_seaBeside_21 : decode cX5_seaBeside 21 = .ok (.tableswitch 55 1 4 #[31, 37, 43, 49], 31) := by decide +kernel
theorem dX5_seaBeside_52 : decode cX5_seaBeside 52 = .ok (.iinc 3 1, 3) := by decide +kernel
theorem dX5_seaBeside_55 : decode cX5_seaBeside 55 = .ok (.goto 23, 3) := by decide +kernel
theorem dX5_seaBeside_58 : decode cX5_seaBeside 58 = .ok (.iinc 3 (-1), 3) := by decide +kernel
theorem dX5_seaBeside_61 : decode cX5_seaBeside 61 = .ok (.goto 17, 3) := by decide +kernel
theorem dX5_seaBeside_64 : decode cX5_seaBeside 64 = .ok (.iinc 4 1, 3) := by decide +kernel
theorem dX5_seaBeside_67 : decode cX5_seaBeside 67 = .ok (.goto 11, 3) := by decide +kernel
theorem dX5_seaBeside_70 : decode cX5_seaBeside 70 = .ok (.iinc 4 (-1), 3) := by decide +kernel
theorem dX5_seaBeside_73 : decode cX5_seaBeside 73 = .ok (.goto 5, 3) := by decide +kernel
theorem dX5_seaBeside_76 : decode cX5_seaBeside 76 = .ok (.iconst (-1), 1) := by decide +kernel
theorem dX5_seaBeside_77 : decode cX5_seaBeside 77 = .ok (.ireturn, 1) := by decide +kernel
theorem dX5_seaBeside_78 : decode cX5_seaBeside 78 = .ok (.iload_n 3, 1) := by decide +kernel
theorem dX5_seaBeside_79 : decode cX5_seaBeside 79 = .ok (.bipush 10, 2) := by decide +kernel
theorem dX5_seaBeside_81 : decode cX5_seaBeside 81 = .ok (.invokestatic 52, 3) := by decide +kernel
theorem dX5_seaBeside_84 : decode cX5_seaBeside 84 = .ok (.ifCond .eq 13, 3) := by decide +kernel
theorem dX5_seaBeside_87 : decode cX5_seaBeside 87 = .ok (.iload 4, 2) := by decide +kernel
theorem dX5_seaBeside_89 : decode cX5_seaBeside 89 = .ok (.bipush 6, 2) := by decide +kernel
theorem dX5_seaBeside_91 : decode cX5_seaBeside 91 = .ok (.invokestatic 52, 3) := by decide +kernel
theorem dX5_seaBeside_94 : decode cX5_seaBeside 94 = .ok (.ifCond .ne 5, 3) := by decide +kernel
theorem dX5_seaBeside_97 : decode cX5_seaBeside 97 = .ok (.iconst (-1), 1) := by decide +kernel
theorem dX5_seaBeside_98 : decode cX5_seaBeside 98 = .ok (.ireturn, 1) := by decide +kernel
theorem dX5_seaBeside_99 : decode cX5_seaBeside 99 = .ok (.bipush 10, 2) := by decide +kernel
theorem dX5_seaBeside_101 : decode cX5_seaBeside 101 = .ok (.iload 4, 2) := by decide +kernel
theorem dX5_seaBeside_103 : decode cX5_seaBeside 103 = .ok (.imul, 1) := by decide +kernel
theorem dX5_seaBeside_104 : decode cX5_seaBeside 104 = .ok (.iload_n 3, 1) := by decide +kernel
theorem dX5_seaBeside_105 : decode cX5_seaBeside 105 = .ok (.iadd, 1) := by decide +kernel
theorem dX5_seaBeside_106 : decode cX5_seaBeside 106 = .ok (.istore 5, 2) := by decide +kernel
theorem dX5_seaBeside_108 : decode cX5_seaBeside 108 = .ok (.iload 5, 2) := by decide +kernel
theorem dX5_seaBeside_110 : decode cX5_seaBeside 110 = .ok (.invokestatic 37, 3) := by decide +kernel
theorem dX5_seaBeside_113 : decode cX5_seaBeside 113 = .ok (.ifCond .eq 18, 3) := by decide +kernel
theorem dX5_seaBeside_116 : decode cX5_seaBeside 116 = .ok (.aload_n 0, 1) := by decide +kernel
theorem dX5_seaBeside_117 : decode cX5_seaBeside 117 = .ok (.getfield 30, 3) := by decide +kernel
theorem dX5_seaBeside_120 : decode cX5_seaBeside 120 = .ok (.iload 5, 2) := by decide +kernel
theorem dX5_seaBeside_122 : decode cX5_seaBeside 122 = .ok (.baload, 1) := by decide +kernel
theorem dX5_seaBeside_123 : decode cX5_seaBeside 123 = .ok (.ifCond .ne 8, 3) := by decide +kernel
theorem dX5_seaBeside_126 : decode cX5_seaBeside 126 = .ok (.iload 5, 2) := by decide +kernel
theorem dX5_seaBeside_128 : decode cX5_seaBeside 128 = .ok (.goto 4, 3) := by decide +kernel
theorem dX5_seaBeside_131 : decode cX5_seaBeside 131 = .ok (.iconst (-1), 1) := by decide +kernel
theorem dX5_seaBeside_132 : decode cX5_seaBeside 132 = .ok (.ireturn, 1) := by decide +kernel
theorem dX5_leadsTo_0 : decode cX5_leadsTo 0 = .ok (.iload_n 1, 1) := by decide +kernel
theorem dX5_leadsTo_1 : decode cX5_leadsTo 1 = .ok (.invokestatic 37, 3) := by decide +kernel
theorem dX5_leadsTo_4 : decode cX5_leadsTo 4 = .ok (.ifCond .eq 17, 3) := by decide +kernel
theorem dX5_leadsTo_7 : decode cX5_leadsTo 7 = .ok (.aload_n 0, 1) := by decide +kernel
theorem dX5_leadsTo_8 : decode cX5_leadsTo 8 = .ok (.iload_n 1, 1) := by decide +kernel
theorem dX5_leadsTo_9 : decode cX5_leadsTo 9 = .ok (.aload_n 0, 1) := by decide +kernel
theorem dX5_leadsTo_10 : decode cX5_leadsTo 10 = .ok (.getfield 23, 3) := by decide +kernel
theorem dX5_leadsTo_13 : decode cX5_leadsTo 13 = .ok (.iload_n 1, 1) := by decide +kernel
theorem dX5_leadsTo_14 : decode cX5_leadsTo 14 = .ok (.iaload, 1) := by decide +kernel
theorem dX5_leadsTo_15 : decode cX5_leadsTo 15 = .ok (.invokevirtual 56, 3) := by decide +kernel
theorem dX5_leadsTo_18 : decode cX5_leadsTo 18 = .ok (.goto 4, 3) := by decide +kernel
theorem dX5_leadsTo_21 : decode cX5_leadsTo 21 = .ok (.iconst (-1), 1) := by decide +kernel
theorem dX5_leadsTo_22 : decode cX5_leadsTo 22 = .ok (.ireturn, 1) := by decide +kernel
theorem dX5_flow_0 : decode cX5_flow 0 = .ok (.aload_n 0, 1) := by decide +kernel
theorem dX5_flow_1 : decode cX5_flow 1 = .ok (.aload_n 0, 1) := by decide +kernel
theorem dX5_flow_2 : decode cX5_flow 2 = .ok (.getfield 14, 3) := by decide +kernel
theorem dX5_flow_5 : decode cX5_flow 5 = .ok (.getfield 41, 3) := by decide +kernel
theorem dX5_flow_8 : decode cX5_flow 8 = .ok (.invokevirtual 60, 3) := by decide +kernel
theorem dX5_flow_11 : decode cX5_flow 11 = .ok (.aload_n 0, 1) := by decide +kernel
theorem dX5_flow_12 : decode cX5_flow 12 = .ok (.aload_n 0, 1) := by decide +kernel
theorem dX5_flow_13 : decode cX5_flow 13 = .ok (.getfield 14, 3) := by decide +kernel
theorem dX5_flow_16 : decode cX5_flow 16 = .ok (.getfield 64, 3) := by decide +kernel
theorem dX5_flow_19 : decode cX5_flow 19 = .ok (.invokevirtual 60, 3) := by decide +kernel
theorem dX5_flow_22 : decode cX5_flow 22 = .ok (.return_, 1) := by decide +kernel
theorem dX5_carry_0 : decode cX5_carry 0 = .ok (.aload_n 1, 1) := by decide +kernel
theorem dX5_carry_1 : decode cX5_carry 1 = .ok (.arraylength, 1) := by decide +kernel
theorem dX5_carry_2 : decode cX5_carry 2 = .ok (.bipush 60, 2) := by decide +kernel
theorem dX5_carry_4 : decode cX5_carry 4 = .ok (.invokestatic 67, 3) := by decide +kernel
theorem dX5_carry_7 : decode cX5_carry 7 = .ok (.istore_n 2, 1) := by decide +kernel
theorem dX5_carry_8 : decode cX5_carry 8 = .ok (.aload_n 1, 1) := by decide +kernel
theorem dX5_carry_9 : decode cX5_carry 9 = .ok (.iconst 0, 1) := by decide +kernel
theorem dX5_carry_10 : decode cX5_carry 10 = .ok (.aload_n 0, 1) := by decide +kernel
theorem dX5_carry_11 : decode cX5_carry 11 = .ok (.getfield 34, 3) := by decide +kernel
theorem dX5_carry_14 : decode cX5_carry 14 = .ok (.iconst 0, 1) := by decide +kernel
theorem dX5_carry_15 : decode cX5_carry 15 = .ok (.iload_n 2, 1) := by decide +kernel
theorem dX5_carry_16 : decode cX5_carry 16 = .ok (.invokestatic 72, 3) := by decide +kernel
theorem dX5_carry_19 : decode cX5_carry 19 = .ok (.iconst 0, 1) := by decide +kernel
theorem dX5_carry_20 : decode cX5_carry 20 = .ok (.istore_n 3, 1) := by decide +kernel
theorem dX5_carry_21 : decode cX5_carry 21 = .ok (.iload_n 3, 1) := by decide +kernel
theorem dX5_carry_22 : decode cX5_carry 22 = .ok (.iload_n 2, 1) := by decide +kernel
theorem dX5_carry_23 : decode cX5_carry 23 = .ok (.if_icmp .ge 53, 3) := by decide +kernel
theorem dX5_carry_26 : decode cX5_carry 26 = .ok (.aload_n 0, 1) := by decide +kernel
theorem dX5_carry_27 : decode cX5_carry 27 = .ok (.iload_n 3, 1) := by decide +kernel
theorem dX5_carry_28 : decode cX5_carry 28 = .ok (.invokevirtual 78, 3) := by decide +kernel
theorem dX5_carry_31 : decode cX5_carry 31 = .ok (.istore 4, 2) := by decide +kernel
theorem dX5_carry_33 : decode cX5_carry 33 = .ok (.iload 4, 2) := by decide +kernel
theorem dX5_carry_35 : decode cX5_carry 35 = .ok (.iload_n 2, 1) := by decide +kernel
theorem dX5_carry_36 : decode cX5_carry 36 = .ok (.invokestatic 52, 3) := by decide +kernel
theorem dX5_carry_39 : decode cX5_carry 39 = .ok (.ifCond .eq 31, 3) := by decide +kernel
theorem dX5_carry_42 : decode cX5_carry 42 = .ok (.aload_n 0, 1) := by decide +kernel
theorem dX5_carry_43 : decode cX5_carry 43 = .ok (.getfield 34, 3) := by decide +kernel
theorem dX5_carry_46 : decode cX5_carry 46 = .ok (.iload_n 3, 1) := by decide +kernel
theorem dX5_carry_47 : decode cX5_carry 47 = .ok (.iaload, 1) := by decide +kernel
theorem dX5_carry_48 : decode cX5_carry 48 = .ok (.bipush 10, 2) := by decide +kernel
theorem dX5_carry_50 : decode cX5_carry 50 = .ok (.idiv, 1) := by decide +kernel
theorem dX5_carry_51 : decode cX5_carry 51 = .ok (.istore 5, 2) := by decide +kernel
theorem dX5_carry_53 : decode cX5_carry 53 = .ok (.aload_n 1, 1) := by decide +kernel
theorem dX5_carry_54 : decode cX5_carry 54 = .ok (.iload_n 3, 1) := by decide +kernel
theorem dX5_carry_55 : decode cX5_carry 55 = .ok (.dup2, 1) := by decide +kernel
theorem dX5_carry_56 : decode cX5_carry 56 = .ok (.iaload, 1) := by decide +kernel
theorem dX5_carry_57 : decode cX5_carry 57 = .ok (.iload 5, 2) := by decide +kernel
theorem dX5_carry_59 : decode cX5_carry 59 = .ok (.isub, 1) := by decide +kernel
theorem dX5_carry_60 : decode cX5_carry 60 = .ok (.iastore, 1) := by decide +kernel
theorem dX5_carry_61 : decode cX5_carry 61 = .ok (.aload_n 1, 1) := by decide +kernel
theorem dX5_carry_62 : decode cX5_carry 62 = .ok (.iload 4, 2) := by decide +kernel
theorem dX5_carry_64 : decode cX5_carry 64 = .ok (.dup2, 1) := by decide +kernel
theorem dX5_carry_65 : decode cX5_carry 65 = .ok (.iaload, 1) := by decide +kernel
theorem dX5_carry_66 : decode cX5_carry 66 = .ok (.iload 5, 2) := by decide +kernel
theorem dX5_carry_68 : decode cX5_carry 68 = .ok (.iadd, 1) := by decide +kernel
theorem dX5_carry_69 : decode cX5_carry 69 = .ok (.iastore, 1) := by decide +kernel
theorem dX5_carry_70 : decode cX5_carry 70 = .ok (.iinc 3 1, 3) := by decide +kernel
theorem dX5_carry_73 : decode cX5_carry 73 = .ok (.goto (-52), 3) := by decide +kernel
theorem dX5_carry_76 : decode cX5_carry 76 = .ok (.return_, 1) := by decide +kernel
theorem dX5_shine_0 : decode cX5_shine 0 = .ok (.iconst 0, 1) := by decide +kernel
theorem dX5_shine_1 : decode cX5_shine 1 = .ok (.istore_n 1, 1) := by decide +kernel
theorem dX5_shine_2 : decode cX5_shine 2 = .ok (.iload_n 1, 1) := by decide +kernel
theorem dX5_shine_3 : decode cX5_shine 3 = .ok (.bipush 60, 2) := by decide +kernel
theorem dX5_shine_5 : decode cX5_shine 5 = .ok (.if_icmp .ge 72, 3) := by decide +kernel
theorem dX5_shine_8 : decode cX5_shine 8 = .ok (.aload_n 0, 1) := by decide +kernel
theorem dX5_shine_9 : decode cX5_shine 9 = .ok (.getfield 30, 3) := by decide +kernel
theorem dX5_shine_12 : decode cX5_shine 12 = .ok (.iload_n 1, 1) := by decide +kernel
theorem dX5_shine_13 : decode cX5_shine 13 = .ok (.baload, 1) := by decide +kernel
theorem dX5_shine_14 : decode cX5_shine 14 = .ok (.ifCond .ne 57, 3) := by decide +kernel
theorem dX5_shine_17 : decode cX5_shine 17 = .ok (.aload_n 0, 1) := by decide +kernel
theorem dX5_shine_18 : decode cX5_shine 18 = .ok (.getfield 14, 3) := by decide +kernel
theorem dX5_shine_21 : decode cX5_shine 21 = .ok (.getfield 41, 3) := by decide +kernel
theorem dX5_shine_24 : decode cX5_shine 24 = .ok (.iload_n 1, 1) := by decide +kernel
theorem dX5_shine_25 : decode cX5_shine 25 = .ok (.iaload, 1) := by decide +kernel
theorem dX5_shine_26 : decode cX5_shine 26 = .ok (.istore_n 2, 1) := by decide +kernel
theorem dX5_shine_27 : decode cX5_shine 27 = .ok (.aload_n 0, 1) := by decide +kernel
theorem dX5_shine_28 : decode cX5_shine 28 = .ok (.getfield 14, 3) := by decide +kernel
theorem dX5_shine_31 : decode cX5_shine 31 = .ok (.getfield 41, 3) := by decide +kernel
theorem dX5_shine_34 : decode cX5_shine 34 = .ok (.iload_n 1, 1) := by decide +kernel
theorem dX5_shine_35 : decode cX5_shine 35 = .ok (.iconst 0, 1) := by decide +kernel
theorem dX5_shine_36 : decode cX5_shine 36 = .ok (.iload_n 2, 1) := by decide +kernel
theorem dX5_shine_37 : decode cX5_shine 37 = .ok (.aload_n 0, 1) := by decide +kernel
theorem dX5_shine_38 : decode cX5_shine 38 = .ok (.getfield 27, 3) := by decide +kernel
theorem dX5_shine_41 : decode cX5_shine 41 = .ok (.iload_n 1, 1) := by decide +kernel
theorem dX5_shine_42 : decode cX5_shine 42 = .ok (.bipush 10, 2) := by decide +kernel
theorem dX5_shine_44 : decode cX5_shine 44 = .ok (.idiv, 1) := by decide +kernel
theorem dX5_shine_45 : decode cX5_shine 45 = .ok (.iaload, 1) := by decide +kernel
theorem dX5_shine_46 : decode cX5_shine 46 = .ok (.iadd, 1) := by decide +kernel
theorem dX5_shine_47 : decode cX5_shine 47 = .ok (.invokestatic 82, 3) := by decide +kernel
theorem dX5_shine_50 : decode cX5_shine 50 = .ok (.iastore, 1) := by decide +kernel
theorem dX5_shine_51 : decode cX5_shine 51 = .ok (.aload_n 0, 1) := by decide +kernel
theorem dX5_shine_52 : decode cX5_shine 52 = .ok (.dup, 1) := by decide +kernel
theorem dX5_shine_53 : decode cX5_shine 53 = .ok (.getfield 85, 3) := by decide +kernel
theorem dX5_shine_56 : decode cX5_shine 56 = .ok (.aload_n 0, 1) := by decide +kernel
theorem dX5_shine_57 : decode cX5_shine 57 = .ok (.getfield 14, 3) := by decide +kernel
theorem dX5_shine_60 : decode cX5_shine 60 = .ok (.getfield 41, 3) := by decide +kernel
theorem dX5_shine_63 : decode cX5_shine 63 = .ok (.iload_n 1, 1) := by decide +kernel
theorem dX5_shine_64 : decode cX5_shine 64 = .ok (.iaload, 1) := by decide +kernel
theorem dX5_shine_65 : decode cX5_shine 65 = .ok (.iload_n 2, 1) := by decide +kernel
theorem dX5_shine_66 : decode cX5_shine 66 = .ok (.isub, 1) := by decide +kernel
theorem dX5_shine_67 : decode cX5_shine 67 = .ok (.iadd, 1) := by decide +kernel
theorem dX5_shine_68 : decode cX5_shine 68 = .ok (.putfield 85, 3) := by decide +kernel
theorem dX5_shine_71 : decode cX5_shine 71 = .ok (.iinc 1 1, 3) := by decide +kernel
theorem dX5_shine_74 : decode cX5_shine 74 = .ok (.goto (-72), 3) := by decide +kernel
theorem dX5_shine_77 : decode cX5_shine 77 = .ok (.return_, 1) := by decide +kernel
theorem dX5_turnOver_0 : decode cX5_turnOver 0 = .ok (.iconst 0, 1) := by decide +kernel
theorem dX5_turnOver_1 : decode cX5_turnOver 1 = .ok (.istore_n 1, 1) := by decide +kernel
theorem dX5_turnOver_2 : decode cX5_turnOver 2 = .ok (.iload_n 1, 1) := by decide +kernel
theorem dX5_turnOver_3 : decode cX5_turnOver 3 = .ok (.bipush 60, 2) := by decide +kernel
theorem dX5_turnOver_5 : decode cX5_turnOver 5 = .ok (.if_icmp .ge 64, 3) := by decide +kernel
theorem dX5_turnOver_8 : decode cX5_turnOver 8 = .ok (.aload_n 0, 1) := by decide +kernel
theorem dX5_turnOver_9 : decode cX5_turnOver 9 = .ok (.getfield 14, 3) := by decide +kernel
theorem dX5_turnOver_12 : decode cX5_turnOver 12 = .ok (.iload_n 1, 1) := by decide +kernel
theorem dX5_turnOver_13 : decode cX5_turnOver 13 = .ok (.invokevirtual 88, 3) := by decide +kernel
theorem dX5_turnOver_16 : decode cX5_turnOver 16 = .ok (.aload_n 0, 1) := by decide +kernel
theorem dX5_turnOver_17 : decode cX5_turnOver 17 = .ok (.getfield 20, 3) := by decide +kernel
theorem dX5_turnOver_20 : decode cX5_turnOver 20 = .ok (.iload_n 1, 1) := by decide +kernel
theorem dX5_turnOver_21 : decode cX5_turnOver 21 = .ok (.invokevirtual 88, 3) := by decide +kernel
theorem dX5_turnOver_24 : decode cX5_turnOver 24 = .ok (.if_icmp .le 39, 3) := by decide +kernel
theorem dX5_turnOver_27 : decode cX5_turnOver 27 = .ok (.aload_n 0, 1) := by decide +kernel
theorem dX5_turnOver_28 : decode cX5_turnOver 28 = .ok (.getfield 14, 3) := by decide +kernel
theorem dX5_turnOver_31 : decode cX5_turnOver 31 = .ok (.getfield 41, 3) := by decide +kernel
theorem dX5_turnOver_34 : decode cX5_turnOver 34 = .ok (.aload_n 0, 1) := by decide +kernel
theorem dX5_turnOver_35 : decode cX5_turnOver 35 = .ok (.getfield 20, 3) := by decide +kernel
theorem dX5_turnOver_38 : decode cX5_turnOver 38 = .ok (.getfield 41, 3) := by decide +kernel
theorem dX5_turnOver_41 : decode cX5_turnOver 41 = .ok (.iload_n 1, 1) := by decide +kernel
theorem dX5_turnOver_42 : decode cX5_turnOver 42 = .ok (.invokestatic 91, 3) := by decide +kernel
theorem dX5_turnOver_45 : decode cX5_turnOver 45 = .ok (.aload_n 0, 1) := by decide +kernel
theorem dX5_turnOver_46 : decode cX5_turnOver 46 = .ok (.getfield 14, 3) := by decide +kernel
theorem dX5_turnOver_49 : decode cX5_turnOver 49 = .ok (.getfield 64, 3) := by decide +kernel
theorem dX5_turnOver_52 : decode cX5_turnOver 52 = .ok (.aload_n 0, 1) := by decide +kernel
theorem dX5_turnOver_53 : decode cX5_turnOver 53 = .ok (.getfield 20, 3) := by decide +kernel
theorem dX5_turnOver_56 : decode cX5_turnOver 56 = .ok (.getfield 64, 3) := by decide +kernel
theorem dX5_turnOver_59 : decode cX5_turnOver 59 = .ok (.iload_n 1, 1) := by decide +kernel
theorem dX5_turnOver_60 : decode cX5_turnOver 60 = .ok (.invokestatic 91, 3) := by decide +kernel
theorem dX5_turnOver_63 : decode cX5_turnOver 63 = .ok (.iinc 1 1, 3) := by decide +kernel
theorem dX5_turnOver_66 : decode cX5_turnOver 66 = .ok (.goto (-64), 3) := by decide +kernel
theorem dX5_turnOver_69 : decode cX5_turnOver 69 = .ok (.return_, 1) := by decide +kernel
theorem dX5_share_0 : decode cX5_share 0 = .ok (.iload_n 2, 1) := by decide +kernel
theorem dX5_share_1 : decode cX5_share 1 = .ok (.aload_n 0, 1) := by decide +kernel
theorem dX5_share_2 : decode cX5_share 2 = .ok (.arraylength, 1) := by decide +kernel
theorem dX5_share_3 : decode cX5_share 3 = .ok (.invokestatic 52, 3) := by decide +kernel
theorem dX5_share_6 : decode cX5_share 6 = .ok (.ifCond .eq 34, 3) := by decide +kernel
theorem dX5_share_9 : decode cX5_share 9 = .ok (.iload_n 2, 1) := by decide +kernel
theorem dX5_share_10 : decode cX5_share 10 = .ok (.aload_n 1, 1) := by decide +kernel
theorem dX5_share_11 : decode cX5_share 11 = .ok (.arraylength, 1) := by decide +kernel
theorem dX5_share_12 : decode cX5_share 12 = .ok (.invokestatic 52, 3) := by decide +kernel
theorem dX5_share_15 : decode cX5_share 15 = .ok (.ifCond .eq 25, 3) := by decide +kernel
theorem dX5_share_18 : decode cX5_share 18 = .ok (.aload_n 0, 1) := by decide +kernel
theorem dX5_share_19 : decode cX5_share 19 = .ok (.iload_n 2, 1) := by decide +kernel
theorem dX5_share_20 : decode cX5_share 20 = .ok (.iaload, 1) := by decide +kernel
theorem dX5_share_21 : decode cX5_share 21 = .ok (.aload_n 1, 1) := by decide +kernel
theorem dX5_share_22 : decode cX5_share 22 = .ok (.iload_n 2, 1) := by decide +kernel
theorem dX5_share_23 : decode cX5_share 23 = .ok (.iaload, 1) := by decide +kernel
theorem dX5_share_24 : decode cX5_share 24 = .ok (.iadd, 1) := by decide +kernel
theorem dX5_share_25 : decode cX5_share 25 = .ok (.istore_n 3, 1) := by decide +kernel
theorem dX5_share_26 : decode cX5_share 26 = .ok (.aload_n 0, 1) := by decide +kernel
theorem dX5_share_27 : decode cX5_share 27 = .ok (.iload_n 2, 1) := by decide +kernel
theorem dX5_share_28 : decode cX5_share 28 = .ok (.iload_n 3, 1) := by decide +kernel
theorem dX5_share_29 : decode cX5_share 29 = .ok (.iconst 2, 1) := by decide +kernel
theorem dX5_share_30 : decode cX5_share 30 = .ok (.idiv, 1) := by decide +kernel
theorem dX5_share_31 : decode cX5_share 31 = .ok (.iastore, 1) := by decide +kernel
theorem dX5_share_32 : decode cX5_share 32 = .ok (.aload_n 1, 1) := by decide +kernel
theorem dX5_share_33 : decode cX5_share 33 = .ok (.iload_n 2, 1) := by decide +kernel
theorem dX5_share_34 : decode cX5_share 34 = .ok (.iload_n 3, 1) := by decide +kernel
theorem dX5_share_35 : decode cX5_share 35 = .ok (.aload_n 0, 1) := by decide +kernel
theorem dX5_share_36 : decode cX5_share 36 = .ok (.iload_n 2, 1) := by decide +kernel
theorem dX5_share_37 : decode cX5_share 37 = .ok (.iaload, 1) := by decide +kernel
theorem dX5_share_38 : decode cX5_share 38 = .ok (.isub, 1) := by decide +kernel
theorem dX5_share_39 : decode cX5_share 39 = .ok (.iastore, 1) := by decide +kernel
theorem dX5_share_40 : decode cX5_share 40 = .ok (.return_, 1) := by decide +kernel
theorem dX6_init_0 : decode cX6_init 0 = .ok (.aload_n 0, 1) := by decide +kernel
theorem dX6_init_1 : decode cX6_init 1 = .ok (.invokespecial 3, 3) := by decide +kernel
theorem dX6_init_4 : decode cX6_init 4 = .ok (.aload_n 0, 1) := by decide +kernel
theorem dX6_init_5 : decode cX6_init 5 = .ok (.bipush 60, 2) := by decide +kernel
theorem dX6_init_7 : decode cX6_init 7 = .ok (.newarray .int, 2) := by decide +kernel
theorem dX6_init_9 : decode cX6_init 9 = .ok (.putfield 9, 3) := by decide +kernel
theorem dX6_init_12 : decode cX6_init 12 = .ok (.aload_n 0, 1) := by decide +kernel
theorem dX6_init_13 : decode cX6_init 13 = .ok (.bipush 60, 2) := by decide +kernel
theorem dX6_init_15 : decode cX6_init 15 = .ok (.newarray .int, 2) := by decide +kernel
theorem dX6_init_17 : decode cX6_init 17 = .ok (.putfield 15, 3) := by decide +kernel
theorem dX6_init_20 : decode cX6_init 20 = .ok (.aload_n 0, 1) := by decide +kernel
theorem dX6_init_21 : decode cX6_init 21 = .ok (.iload_n 1, 1) := by decide +kernel
theorem dX6_init_22 : decode cX6_init 22 = .ok (.putfield 18, 3) := by decide +kernel
theorem dX6_init_25 : decode cX6_init 25 = .ok (.iload_n 1, 1) := by decide +kernel
theorem dX6_init_26 : decode cX6_init 26 = .ok (.invokestatic 22, 3) := by decide +kernel
theorem dX6_init_29 : decode cX6_init 29 = .ok (.ifCond .eq 12, 3) := by decide +kernel
theorem dX6_init_32 : decode cX6_init 32 = .ok (.aload_n 0, 1) := by decide +kernel
theorem dX6_init_33 : decode cX6_init 33 = .ok (.getfield 9, 3) := by decide +kernel
theorem dX6_init_36 : decode cX6_init 36 = .ok (.iload_n 1, 1) := by decide +kernel
theorem dX6_init_37 : decode cX6_init 37 = .ok (.sipush 10000, 3) := by decide +kernel
theorem dX6_init_40 : decode cX6_init 40 = .ok (.iastore, 1) := by decide +kernel
theorem dX6_init_41 : decode cX6_init 41 = .ok (.return_, 1) := by decide +kernel
theorem dX6_goOn_0 : decode cX6_goOn 0 = .ok (.aload_n 0, 1) := by decide +kernel
theorem dX6_goOn_1 : decode cX6_goOn 1 = .ok (.getfield 9, 3) := by decide +kernel
theorem dX6_goOn_4 : decode cX6_goOn 4 = .ok (.iconst 0, 1) := by decide +kernel
theorem dX6_goOn_5 : decode cX6_goOn 5 = .ok (.aload_n 0, 1) := by decide +kernel
theorem dX6_goOn_6 : decode cX6_goOn 6 = .ok (.getfield 15, 3) := by decide +kernel
theorem dX6_goOn_9 : decode cX6_goOn 9 = .ok (.iconst 0, 1) := by decide +kernel
theorem dX6_goOn_10 : decode cX6_goOn 10 = .ok (.bipush 60, 2) := by decide +kernel
theorem dX6_goOn_12 : decode cX6_goOn 12 = .ok (.invokestatic 26, 3) := by decide +kernel
theorem dX6_goOn_15 : decode cX6_goOn 15 = .ok (.iconst 0, 1) := by decide +kernel
theorem dX6_goOn_16 : decode cX6_goOn 16 = .ok (.istore_n 2, 1) := by decide +kernel
theorem dX6_goOn_17 : decode cX6_goOn 17 = .ok (.iload_n 2, 1) := by decide +kernel
theorem dX6_goOn_18 : decode cX6_goOn 18 = .ok (.bipush 60, 2) := by decide +kernel
theorem dX6_goOn_20 : decode cX6_goOn 20 = .ok (.if_icmp .ge 63, 3) := by decide +kernel
theorem dX6_goOn_23 : decode cX6_goOn 23 = .ok (.aload_n 0, 1) := by decide +kernel
theorem dX6_goOn_24 : decode cX6_goOn 24 = .ok (.getfield 15, 3) := by decide +kernel
theorem dX6_goOn_27 : decode cX6_goOn 27 = .ok (.iload_n 2, 1) := by decide +kernel
theorem dX6_goOn_28 : decode cX6_goOn 28 = .ok (.iaload, 1) := by decide +kernel
theorem dX6_goOn_29 : decode cX6_goOn 29 = .ok (.istore_n 3, 1) := by decide +kernel
theorem dX6_goOn_30 : decode cX6_goOn 30 = .ok (.iconst 1, 1) := by decide +kernel
theorem dX6_goOn_31 : decode cX6_goOn 31 = .ok (.istore 4, 2) := by decide +kernel
theorem dX6_goOn_33 : decode cX6_goOn 33 = .ok (.iload 4, 2) := by decide +kernel
theorem dX6_goOn_35 : decode cX6_goOn 35 = .ok (.iconst 4, 1) := by decide +kernel
theorem dX6_goOn_36 : decode cX6_goOn 36 = .ok (.if_icmp .gt 25, 3) := by decide +kernel
theorem dX6_goOn_39 : decode cX6_goOn 39 = .ok (.aload_n 0, 1) := by decide +kernel
theorem dX6_goOn_40 : decode cX6_goOn 40 = .ok (.iload_n 2, 1) := by decide +kernel
theorem dX6_goOn_41 : decode cX6_goOn 41 = .ok (.aload_n 1, 1) := by decide +kernel
theorem dX6_goOn_42 : decode cX6_goOn 42 = .ok (.iload_n 2, 1) := by decide +kernel
theorem dX6_goOn_43 : decode cX6_goOn 43 = .ok (.iload 4, 2) := by decide +kernel
theorem dX6_goOn_45 : decode cX6_goOn 45 = .ok (.invokevirtual 32, 3) := by decide +kernel
theorem dX6_goOn_48 : decode cX6_goOn 48 = .ok (.iload_n 3, 1) := by decide +kernel
theorem dX6_goOn_49 : decode cX6_goOn 49 = .ok (.bipush 10, 2) := by decide +kernel
theorem dX6_goOn_51 : decode cX6_goOn 51 = .ok (.idiv, 1) := by decide +kernel
theorem dX6_goOn_52 : decode cX6_goOn 52 = .ok (.invokevirtual 38, 3) := by decide +kernel
theorem dX6_goOn_55 : decode cX6_goOn 55 = .ok (.iinc 4 1, 3) := by decide +kernel
theorem dX6_goOn_58 : decode cX6_goOn 58 = .ok (.goto (-25), 3) := by decide +kernel
theorem dX6_goOn_61 : decode cX6_goOn 61 = .ok (.aload_n 0, 1) := by decide +kernel
theorem dX6_goOn_62 : decode cX6_goOn 62 = .ok (.iload_n 2, 1) := by decide +kernel
theorem dX6_goOn_63 : decode cX6_goOn 63 = .ok (.aload_n 1, 1) := by decide +kernel
theorem dX6_goOn_64 : decode cX6_goOn 64 = .ok (.iload_n 2, 1) := by decide +kernel
theorem dX6_goOn_65 : decode cX6_goOn 65 = .ok (.invokevirtual 42, 3) := by decide +kernel
theorem dX6_goOn_68 : decode cX6_goOn 68 = .ok (.iconst 4, 1) := by decide +kernel
theorem dX6_goOn_69 : decode cX6_goOn 69 = .ok (.iload_n 3, 1) := by decide +kernel
theorem dX6_goOn_70 : decode cX6_goOn 70 = .ok (.imul, 1) := by decide +kernel
theorem dX6_goOn_71 : decode cX6_goOn 71 = .ok (.bipush 10, 2) := by decide +kernel
theorem dX6_goOn_73 : decode cX6_goOn 73 = .ok (.idiv, 1) := by decide +kernel
theorem dX6_goOn_74 : decode cX6_goOn 74 = .ok (.invokevirtual 38, 3) := by decide +kernel
theorem dX6_goOn_77 : decode cX6_goOn 77 = .ok (.iinc 2 1, 3) := by decide +kernel
theorem dX6_goOn_80 : decode cX6_goOn 80 = .ok (.goto (-63), 3) := by decide +kernel
theorem dX6_goOn_83 : decode cX6_goOn 83 = .ok (.return_, 1) := by decide +kernel
theorem dX6_give_0 : decode cX6_give 0 = .ok (.iload_n 1, 1) := by decide +kernel
theorem dX6_give_1 : decode cX6_give 1 = .ok (.invokestatic 22, 3) := by decide +kernel
theorem dX6_give_4 : decode cX6_give 4 = .ok (.ifCond .eq 30, 3) := by decide +kernel
theorem dX6_give_7 : decode cX6_give 7 = .ok (.iload_n 2, 1) := by decide +kernel
theorem dX6_give_8 : decode cX6_give 8 = .ok (.invokestatic 22, 3) := by decide +kernel
theorem dX6_give_11 : decode cX6_give 11 = .ok (.ifCond .eq 23, 3) := by decide +kernel
theorem dX6_give_14 : decode cX6_give 14 = .ok (.aload_n 0, 1) := by decide +kernel
theorem dX6_give_15 : decode cX6_give 15 = .ok (.getfield 9, 3) := by decide +kernel
theorem dX6_give_18 : decode cX6_give 18 = .ok (.iload_n 1, 1) := by decide +kernel
theorem dX6_give_19 : decode cX6_give 19 = .ok (.dup2, 1) := by decide +kernel
theorem dX6_give_20 : decode cX6_give 20 = .ok (.iaload, 1) := by decide +kernel
theorem dX6_give_21 : decode cX6_give 21 = .ok (.iload_n 3, 1) := by decide +kernel
theorem dX6_give_22 : decode cX6_give 22 = .ok (.isub, 1) := by decide +kernel
theorem dX6_give_23 : decode cX6_give 23 = .ok (.iastore, 1) := by decide +kernel
theorem dX6_give_24 : decode cX6_give 24 = .ok (.aload_n 0, 1) := by decide +kernel
theorem dX6_give_25 : decode cX6_give 25 = .ok (.getfield 9, 3) := by decide +kernel
theorem dX6_give_28 : decode cX6_give 28 = .ok (.iload_n 2, 1) := by decide +kernel
theorem dX6_give_29 : decode cX6_give 29 = .ok (.dup2, 1) := by decide +kernel
theorem dX6_give_30 : decode cX6_give 30 = .ok (.iaload, 1) := by decide +kernel
theorem dX6_give_31 : decode cX6_give 31 = .ok (.iload_n 3, 1) := by decide +kernel
theorem dX6_give_32 : decode cX6_give 32 = .ok (.iadd, 1) := by decide +kernel
theorem dX6_give_33 : decode cX6_give 33 = .ok (.iastore, 1) := by decide +kernel
theorem dX6_give_34 : decode cX6_give 34 = .ok (.return_, 1) := by decide +kernel
theorem dX6_tryLegs_0 : decode cX6_tryLegs 0 = .ok (.aload_n 0, 1) := by decide +kernel
theorem dX6_tryLegs_1 : decode cX6_tryLegs 1 = .ok (.getfield 9, 3) := by decide +kernel
theorem dX6_tryLegs_4 : decode cX6_tryLegs 4 = .ok (.iconst 0, 1) := by decide +kernel
theorem dX6_tryLegs_5 : decode cX6_tryLegs 5 = .ok (.aload_n 0, 1) := by decide +kernel
theorem dX6_tryLegs_6 : decode cX6_tryLegs 6 = .ok (.getfield 15, 3) := by decide +kernel
theorem dX6_tryLegs_9 : decode cX6_tryLegs 9 = .ok (.iconst 0, 1) := by decide +kernel
theorem dX6_tryLegs_10 : decode cX6_tryLegs 10 = .ok (.bipush 60, 2) := by decide +kernel
theorem dX6_tryLegs_12 : decode cX6_tryLegs 12 = .ok (.invokestatic 26, 3) := by decide +kernel
theorem dX6_tryLegs_15 : decode cX6_tryLegs 15 = .ok (.iconst 0, 1) := by decide +kernel
theorem dX6_tryLegs_16 : decode cX6_tryLegs 16 = .ok (.istore_n 3, 1) := by decide +kernel
theorem dX6_tryLegs_17 : decode cX6_tryLegs 17 = .ok (.iconst 0, 1) := by decide +kernel
theorem dX6_tryLegs_18 : decode cX6_tryLegs 18 = .ok (.istore 4, 2) := by decide +kernel
theorem dX6_tryLegs_20 : decode cX6_tryLegs 20 = .ok (.iload 4, 2) := by decide +kernel
theorem dX6_tryLegs_22 : decode cX6_tryLegs 22 = .ok (.iload_n 1, 1) := by decide +kernel
theorem dX6_tryLegs_23 : decode cX6_tryLegs 23 = .ok (.if_icmp .ge 27, 3) := by decide +kernel
theorem dX6_tryLegs_26 : decode cX6_tryLegs 26 = .ok (.iload_n 3, 1) := by decide +kernel
theorem dX6_tryLegs_27 : decode cX6_tryLegs 27 = .ok (.aload_n 0, 1) := by decide +kernel
theorem dX6_tryLegs_28 : decode cX6_tryLegs 28 = .ok (.getfield 15, 3) := by decide +kernel
theorem dX6_tryLegs_31 : decode cX6_tryLegs 31 = .ok (.aload_n 0, 1) := by decide +kernel
theorem dX6_tryLegs_32 : decode cX6_tryLegs 32 = .ok (.getfield 15, 3) := by decide +kernel
theorem dX6_tryLegs_35 : decode cX6_tryLegs 35 = .ok (.invokestatic 46, 3) := by decide +kernel
theorem dX6_tryLegs_38 : decode cX6_tryLegs 38 = .ok (.iload_n 2, 1) := by decide +kernel
theorem dX6_tryLegs_39 : decode cX6_tryLegs 39 = .ok (.invokestatic 50, 3) := by decide +kernel
theorem dX6_tryLegs_42 : decode cX6_tryLegs 42 = .ok (.iadd, 1) := by decide +kernel
theorem dX6_tryLegs_43 : decode cX6_tryLegs 43 = .ok (.istore_n 3, 1) := by decide +kernel
theorem dX6_tryLegs_44 : decode cX6_tryLegs 44 = .ok (.iinc 4 1, 3) := by decide +kernel
theorem dX6_tryLegs_47 : decode cX6_tryLegs 47 = .ok (.goto (-27), 3) := by decide +kernel
theorem dX6_tryLegs_50 : decode cX6_tryLegs 50 = .ok (.iload_n 3, 1) := by decide +kernel
theorem dX6_tryLegs_51 : decode cX6_tryLegs 51 = .ok (.ireturn, 1) := by decide +kernel
theorem dX6_lookAt_0 : decode cX6_lookAt 0 = .ok (.iload_n 1, 1) := by decide +kernel
theorem dX6_lookAt_1 : decode cX6_lookAt 1 = .ok (.aload_n 0, 1) := by decide +kernel
theorem dX6_lookAt_2 : decode cX6_lookAt 2 = .ok (.arraylength, 1) := by decide +kernel
theorem dX6_lookAt_3 : decode cX6_lookAt 3 = .ok (.invokestatic 54, 3) := by decide +kernel
theorem dX6_lookAt_6 : decode cX6_lookAt 6 = .ok (.ifCond .ne 5, 3) := by decide +kernel
theorem dX6_lookAt_9 : decode cX6_lookAt 9 = .ok (.iconst 0, 1) := by decide +kernel
theorem dX6_lookAt_10 : decode cX6_lookAt 10 = .ok (.ireturn, 1) := by decide +kernel
theorem dX6_lookAt_11 : decode cX6_lookAt 11 = .ok (.aload_n 0, 1) := by decide +kernel
theorem dX6_lookAt_12 : decode cX6_lookAt 12 = .ok (.iload_n 1, 1) := by decide +kernel
theorem dX6_lookAt_13 : decode cX6_lookAt 13 = .ok (.iaload, 1) := by decide +kernel
theorem dX6_lookAt_14 : decode cX6_lookAt 14 = .ok (.iload_n 2, 1) := by decide +kernel
theorem dX6_lookAt_15 : decode cX6_lookAt 15 = .ok (.imul, 1) := by decide +kernel
theorem dX6_lookAt_16 : decode cX6_lookAt 16 = .ok (.bipush 100, 2) := by decide +kernel
theorem dX6_lookAt_18 : decode cX6_lookAt 18 = .ok (.idiv, 1) := by decide +kernel
theorem dX6_lookAt_19 : decode cX6_lookAt 19 = .ok (.istore_n 3, 1) := by decide +kernel
theorem dX6_lookAt_20 : decode cX6_lookAt 20 = .ok (.aload_n 0, 1) := by decide +kernel
theorem dX6_lookAt_21 : decode cX6_lookAt 21 = .ok (.iload_n 1, 1) := by decide +kernel
theorem dX6_lookAt_22 : decode cX6_lookAt 22 = .ok (.dup2, 1) := by decide +kernel
theorem dX6_lookAt_23 : decode cX6_lookAt 23 = .ok (.iaload, 1) := by decide +kernel
theorem dX6_lookAt_24 : decode cX6_lookAt 24 = .ok (.iload_n 3, 1) := by decide +kernel
theorem dX6_lookAt_25 : decode cX6_lookAt 25 = .ok (.isub, 1) := by decide +kernel
theorem dX6_lookAt_26 : decode cX6_lookAt 26 = .ok (.iastore, 1) := by decide +kernel
theorem dX6_lookAt_27 : decode cX6_lookAt 27 = .ok (.iload_n 3, 1) := by decide +kernel
theorem dX6_lookAt_28 : decode cX6_lookAt 28 = .ok (.ireturn, 1) := by decide +kernel
theorem dX6_bestOf_0 : decode cX6_bestOf 0 = .ok (.iconst 0, 1) := by decide +kernel
theorem dX6_bestOf_1 : decode cX6_bestOf 1 = .ok (.istore_n 1, 1) := by decide +kernel
theorem dX6_bestOf_2 : decode cX6_bestOf 2 = .ok (.iconst 1, 1) := by decide +kernel
theorem dX6_bestOf_3 : decode cX6_bestOf 3 = .ok (.istore_n 2, 1) := by decide +kernel
theorem dX6_bestOf_4 : decode cX6_bestOf 4 = .ok (.iload_n 2, 1) := by decide +kernel
theorem dX6_bestOf_5 : decode cX6_bestOf 5 = .ok (.aload_n 0, 1) := by decide +kernel
theorem dX6_bestOf_6 : decode cX6_bestOf 6 = .ok (.arraylength, 1) := by decide +kernel
theorem dX6_bestOf_7 : decode cX6_bestOf 7 = .ok (.if_icmp .ge 20, 3) := by decide +kernel
theorem dX6_bestOf_10 : decode cX6_bestOf 10 = .ok (.aload_n 0, 1) := by decide +kernel
theorem dX6_bestOf_11 : decode cX6_bestOf 11 = .ok (.iload_n 2, 1) := by decide +kernel
theorem dX6_bestOf_12 : decode cX6_bestOf 12 = .ok (.iaload, 1) := by decide +kernel
theorem dX6_bestOf_13 : decode cX6_bestOf 13 = .ok (.aload_n 0, 1) := by decide +kernel
theorem dX6_bestOf_14 : decode cX6_bestOf 14 = .ok (.iload_n 1, 1) := by decide +kernel
theorem dX6_bestOf_15 : decode cX6_bestOf 15 = .ok (.iaload, 1) := by decide +kernel
theorem dX6_bestOf_16 : decode cX6_bestOf 16 = .ok (.if_icmp .le 5, 3) := by decide +kernel
theorem dX6_bestOf_19 : decode cX6_bestOf 19 = .ok (.iload_n 2, 1) := by decide +kernel
theorem dX6_bestOf_20 : decode cX6_bestOf 20 = .ok (.istore_n 1, 1) := by decide +kernel
theorem dX6_bestOf_21 : decode cX6_bestOf 21 = .ok (.iinc 2 1, 3) := by decide +kernel
theorem dX6_bestOf_24 : decode cX6_bestOf 24 = .ok (.goto (-20), 3) := by decide +kernel
theorem dX6_bestOf_27 : decode cX6_bestOf 27 = .ok (.iload_n 1, 1) := by decide +kernel
theorem dX6_bestOf_28 : decode cX6_bestOf 28 = .ok (.ireturn, 1) := by decide +kernel
theorem dX7_init_0 : decode cX7_init 0 = .ok (.aload_n 0, 1) := by decide +kernel
theorem dX7_init_1 : decode cX7_init 1 = .ok (.invokespecial 3, 3) := by decide +kernel
theorem dX7_init_4 : decode cX7_init 4 = .ok (.aload_n 0, 1) := by decide +kernel
theorem dX7_init_5 : decode cX7_init 5 = .ok (.bipush 30, 2) := by decide +kernel
theorem dX7_init_7 : decode cX7_init 7 = .ok (.newarray .int, 2) := by decide +kernel
theorem dX7_init_9 : decode cX7_init 9 = .ok (.putfield 9, 3) := by decide +kernel
theorem dX7_init_12 : decode cX7_init 12 = .ok (.aload_n 0, 1) := by decide +kernel
theorem dX7_init_13 : decode cX7_init 13 = .ok (.bipush 20, 2) := by decide +kernel
theorem dX7_init_15 : decode cX7_init 15 = .ok (.newarray .int, 2) := by decide +kernel
theorem dX7_init_17 : decode cX7_init 17 = .ok (.putfield 15, 3) := by decide +kernel
theorem dX7_init_20 : decode cX7_init 20 = .ok (.aload_n 0, 1) := by decide +kernel
theorem dX7_init_21 : decode cX7_init 21 = .ok (.bipush 20, 2) := by decide +kernel
theorem dX7_init_23 : decode cX7_init 23 = .ok (.newarray .int, 2) := by decide +kernel
theorem dX7_init_25 : decode cX7_init 25 = .ok (.putfield 18, 3) := by decide +kernel
theorem dX7_init_28 : decode cX7_init 28 = .ok (.return_, 1) := by decide +kernel
theorem dX7_stationOf_0 : decode cX7_stationOf 0 = .ok (.iload_n 0, 1) := by decide +kernel
theorem dX7_stationOf_1 : decode cX7_stationOf 1 = .ok (.bipush 60, 2) := by decide +kernel
theorem dX7_stationOf_3 : decode cX7_stationOf 3 = .ok (.imul, 1) := by decide +kernel
theorem dX7_stationOf_4 : decode cX7_stationOf 4 = .ok (.iload_n 1, 1) := by decide +kernel
theorem dX7_stationOf_5 : decode cX7_stationOf 5 = .ok (.iadd, 1) := by decide +kernel
theorem dX7_stationOf_6 : decode cX7_stationOf 6 = .ok (.ireturn, 1) := by decide +kernel
theorem dX7_dayOf_0 : decode cX7_dayOf 0 = .ok (.iload_n 0, 1) := by decide +kernel
theorem dX7_dayOf_1 : decode cX7_dayOf 1 = .ok (.bipush 60, 2) := by decide +kernel
theorem dX7_dayOf_3 : decode cX7_dayOf 3 = .ok (.idiv, 1) := by decide +kernel
theorem dX7_dayOf_4 : decode cX7_dayOf 4 = .ok (.ireturn, 1) := by decide +kernel
theorem dX7_cellOf_0 : decode cX7_cellOf 0 = .ok (.iload_n 1, 1) := by decide +kernel
theorem dX7_cellOf_1 : decode cX7_cellOf 1 = .ok (.aload_n 0, 1) := by decide +kernel
theorem dX7_cellOf_2 : decode cX7_cellOf 2 = .ok (.getfield 9, 3) := by decide +kernel
theorem dX7_cellOf_5 : decode cX7_cellOf 5 = .ok (.arraylength, 1) := by decide +kernel
theorem dX7_cellOf_6 : decode cX7_cellOf 6 = .ok (.invokestatic 21, 3) := by decide +kernel
theorem dX7_cellOf_9 : decode cX7_cellOf 9 = .ok (.ifCond .eq 15, 3) := by decide +kernel
theorem dX7_cellOf_12 : decode cX7_cellOf 12 = .ok (.aload_n 0, 1) := by decide +kernel
theorem dX7_cellOf_13 : decode cX7_cellOf 13 = .ok (.getfield 9, 3) := by decide +kernel
theorem dX7_cellOf_16 : decode cX7_cellOf 16 = .ok (.iload_n 1, 1) := by decide +kernel
theorem dX7_cellOf_17 : decode cX7_cellOf 17 = .ok (.iaload, 1) := by decide +kernel
theorem dX7_cellOf_18 : decode cX7_cellOf 18 = .ok (.bipush 60, 2) := by decide +kernel
theorem dX7_cellOf_20 : decode cX7_cellOf 20 = .ok (.irem, 1) := by decide +kernel
theorem dX7_cellOf_21 : decode cX7_cellOf 21 = .ok (.goto 4, 3) := by decide +kernel
theorem dX7_cellOf_24 : decode cX7_cellOf 24 = .ok (.iconst 0, 1) := by decide +kernel
theorem dX7_cellOf_25 : decode cX7_cellOf 25 = .ok (.ireturn, 1) := by decide +kernel
theorem dX7_hasStation_0 : decode cX7_hasStation 0 = .ok (.iload_n 1, 1) := by decide +kernel
theorem dX7_hasStation_1 : decode cX7_hasStation 1 = .ok (.iload_n 2, 1) := by decide +kernel
theorem dX7_hasStation_2 : decode cX7_hasStation 2 = .ok (.invokestatic 25, 3) := by decide +kernel
theorem dX7_hasStation_5 : decode cX7_hasStation 5 = .ok (.istore_n 3, 1) := by decide +kernel
theorem dX7_hasStation_6 : decode cX7_hasStation 6 = .ok (.iconst 0, 1) := by decide +kernel
theorem dX7_hasStation_7 : decode cX7_hasStation 7 = .ok (.istore 4, 2) := by decide +kernel
theorem dX7_hasStation_9 : decode cX7_hasStation 9 = .ok (.iload 4, 2) := by decide +kernel
theorem dX7_hasStation_11 : decode cX7_hasStation 11 = .ok (.aload_n 0, 1) := by decide +kernel
theorem dX7_hasStation_12 : decode cX7_hasStation 12 = .ok (.getfield 29, 3) := by decide +kernel
theorem dX7_hasStation_15 : decode cX7_hasStation 15 = .ok (.if_icmp .ge 32, 3) := by decide +kernel
theorem dX7_hasStation_18 : decode cX7_hasStation 18 = .ok (.iload 4, 2) := by decide +kernel
theorem dX7_hasStation_20 : decode cX7_hasStation 20 = .ok (.aload_n 0, 1) := by decide +kernel
theorem dX7_hasStation_21 : decode cX7_hasStation 21 = .ok (.getfield 9, 3) := by decide +kernel
theorem dX7_hasStation_24 : decode cX7_hasStation 24 = .ok (.arraylength, 1) := by decide +kernel
theorem dX7_hasStation_25 : decode cX7_hasStation 25 = .ok (.if_icmp .ge 22, 3) := by decide +kernel
theorem dX7_hasStation_28 : decode cX7_hasStation 28 = .ok (.aload_n 0, 1) := by decide +kernel
theorem dX7_hasStation_29 : decode cX7_hasStation 29 = .ok (.getfield 9, 3) := by decide +kernel
theorem dX7_hasStation_32 : decode cX7_hasStation 32 = .ok (.iload 4, 2) := by decide +kernel
theorem dX7_hasStation_34 : decode cX7_hasStation 34 = .ok (.iaload, 1) := by decide +kernel
theorem dX7_hasStation_35 : decode cX7_hasStation 35 = .ok (.iload_n 3, 1) := by decide +kernel
theorem dX7_hasStation_36 : decode cX7_hasStation 36 = .ok (.if_icmp .ne 5, 3) := by decide +kernel
theorem dX7_hasStation_39 : decode cX7_hasStation 39 = .ok (.iconst 1, 1) := by decide +kernel
theorem dX7_hasStation_40 : decode cX7_hasStation 40 = .ok (.ireturn, 1) := by decide +kernel
theorem dX7_hasStation_41 : decode cX7_hasStation 41 = .ok (.iinc 4 1, 3) := by decide +kernel
theorem dX7_hasStation_44 : decode cX7_hasStation 44 = .ok (.goto (-35), 3) := by decide +kernel
theorem dX7_hasStation_47 : decode cX7_hasStation 47 = .ok (.iconst 0, 1) := by decide +kernel
theorem dX7_hasStation_48 : decode cX7_hasStation 48 = .ok (.ireturn, 1) := by decide +kernel
theorem dX7_hasStationIn_0 : decode cX7_hasStationIn 0 = .ok (.iconst 0, 1) := by decide +kernel
theorem dX7_hasStationIn_1 : decode cX7_hasStationIn 1 = .ok (.istore_n 2, 1) := by decide +kernel
theorem dX7_hasStationIn_2 : decode cX7_hasStationIn 2 = .ok (.iload_n 2, 1) := by decide +kernel
theorem dX7_hasStationIn_3 : decode cX7_hasStationIn 3 = .ok (.aload_n 0, 1) := by decide +kernel
theorem dX7_hasStationIn_4 : decode cX7_hasStationIn 4 = .ok (.getfield 29, 3) := by decide +kernel
theorem dX7_hasStationIn_7 : decode cX7_hasStationIn 7 = .ok (.if_icmp .ge 29, 3) := by decide +kernel
theorem dX7_hasStationIn_10 : decode cX7_hasStationIn 10 = .ok (.iload_n 2, 1) := by decide +kernel
theorem dX7_hasStationIn_11 : decode cX7_hasStationIn 11 = .ok (.aload_n 0, 1) := by decide +kernel
theorem dX7_hasStationIn_12 : decode cX7_hasStationIn 12 = .ok (.getfield 9, 3) := by decide +kernel
theorem dX7_hasStationIn_15 : decode cX7_hasStationIn 15 = .ok (.arraylength, 1) := by decide +kernel
theorem dX7_hasStationIn_16 : decode cX7_hasStationIn 16 = .ok (.if_icmp .ge 20, 3) := by decide +kernel
theorem dX7_hasStationIn_19 : decode cX7_hasStationIn 19 = .ok (.aload_n 0, 1) := by decide +kernel
theorem dX7_hasStationIn_20 : decode cX7_hasStationIn 20 = .ok (.iload_n 2, 1) := by decide +kernel
theorem dX7_hasStationIn_21 : decode cX7_hasStationIn 21 = .ok (.invokevirtual 33, 3) := by decide +kernel
theorem dX7_hasStationIn_24 : decode cX7_hasStationIn 24 = .ok (.iload_n 1, 1) := by decide +kernel
theorem dX7_hasStationIn_25 : decode cX7_hasStationIn 25 = .ok (.if_icmp .ne 5, 3) := by decide +kernel
theorem dX7_hasStationIn_28 : decode cX7_hasStationIn 28 = .ok (.iconst 1, 1) := by decide +kernel
theorem dX7_hasStationIn_29 : decode cX7_hasStationIn 29 = .ok (.ireturn, 1) := by decide +kernel
theorem dX7_hasStationIn_30 : decode cX7_hasStationIn 30 = .ok (.iinc 2 1, 3) := by decide +kernel
theorem dX7_hasStationIn_33 : decode cX7_hasStationIn 33 = .ok (.goto (-31), 3) := by decide +kernel
theorem dX7_hasStationIn_36 : decode cX7_hasStationIn 36 = .ok (.iconst 0, 1) := by decide +kernel
theorem dX7_hasStationIn_37 : decode cX7_hasStationIn 37 = .ok (.ireturn, 1) := by decide +kernel
theorem dX7_areAllStationsTold_0 : decode cX7_areAllStationsTold 0 = .ok (.aload_n 0, 1) := by decide +kernel
theorem dX7_areAllStationsTold_1 : decode cX7_areAllStationsTold 1 = .ok (.getfield 29, 3) := by decide +kernel
theorem dX7_areAllStationsTold_4 : decode cX7_areAllStationsTold 4 = .ok (.aload_n 0, 1) := by decide +kernel
theorem dX7_areAllStationsTold_5 : decode cX7_areAllStationsTold 5 = .ok (.getfield 9, 3) := by decide +kernel
theorem dX7_areAllStationsTold_8 : decode cX7_areAllStationsTold 8 = .ok (.arraylength, 1) := by decide +kernel
theorem dX7_areAllStationsTold_9 : decode cX7_areAllStationsTold 9 = .ok (.invokestatic 21, 3) := by decide +kernel
theorem dX7_areAllStationsTold_12 : decode cX7_areAllStationsTold 12 = .ok (.ifCond .ne 7, 3) := by decide +kernel
theorem dX7_areAllStationsTold_15 : decode cX7_areAllStationsTold 15 = .ok (.iconst 1, 1) := by decide +kernel
theorem dX7_areAllStationsTold_16 : decode cX7_areAllStationsTold 16 = .ok (.goto 4, 3) := by decide +kernel
theorem dX7_areAllStationsTold_19 : decode cX7_areAllStationsTold 19 = .ok (.iconst 0, 1) := by decide +kernel
theorem dX7_areAllStationsTold_20 : decode cX7_areAllStationsTold 20 = .ok (.ireturn, 1) := by decide +kernel
theorem dX7_tellStation_0 : decode cX7_tellStation 0 = .ok (.aload_n 0, 1) := by decide +kernel
theorem dX7_tellStation_1 : decode cX7_tellStation 1 = .ok (.invokevirtual 37, 3) := by decide +kernel
theorem dX7_tellStation_4 : decode cX7_tellStation 4 = .ok (.ifCond .eq 8, 3) := by decide +kernel
theorem dX7_tellStation_7 : decode cX7_tellStation 7 = .ok (.aload_n 0, 1) := by decide +kernel
theorem dX7_tellStation_8 : decode cX7_tellStation 8 = .ok (.getfield 29, 3) := by decide +kernel
theorem dX7_tellStation_11 : decode cX7_tellStation 11 = .ok (.ireturn, 1) := by decide +kernel
theorem dX7_tellStation_12 : decode cX7_tellStation 12 = .ok (.iload_n 1, 1) := by decide +kernel
theorem dX7_tellStation_13 : decode cX7_tellStation 13 = .ok (.iload_n 2, 1) := by decide +kernel
theorem dX7_tellStation_14 : decode cX7_tellStation 14 = .ok (.invokestatic 25, 3) := by decide +kernel
theorem dX7_tellStation_17 : decode cX7_tellStation 17 = .ok (.istore_n 3, 1) := by decide +kernel
theorem dX7_tellStation_18 : decode cX7_tellStation 18 = .ok (.aload_n 0, 1) := by decide +kernel
theorem dX7_tellStation_19 : decode cX7_tellStation 19 = .ok (.getfield 29, 3) := by decide +kernel
theorem dX7_tellStation_22 : decode cX7_tellStation 22 = .ok (.istore 4, 2) := by decide +kernel
theorem dX7_tellStation_24 : decode cX7_tellStation 24 = .ok (.iload 4, 2) := by decide +kernel
theorem dX7_tellStation_26 : decode cX7_tellStation 26 = .ok (.ifCond .le 38, 3) := by decide +kernel
theorem dX7_tellStation_29 : decode cX7_tellStation 29 = .ok (.aload_n 0, 1) := by decide +kernel
theorem dX7_tellStation_30 : decode cX7_tellStation 30 = .ok (.getfield 9, 3) := by decide +kernel
theorem dX7_tellStation_33 : decode cX7_tellStation 33 = .ok (.iload 4, 2) := by decide +kernel
theorem dX7_tellStation_35 : decode cX7_tellStation 35 = .ok (.iconst 1, 1) := by decide +kernel
theorem dX7_tellStation_36 : decode cX7_tellStation 36 = .ok (.isub, 1) := by decide +kernel
theorem dX7_tellStation_37 : decode cX7_tellStation 37 = .ok (.iaload, 1) := by decide +kernel
theorem dX7_tellStation_38 : decode cX7_tellStation 38 = .ok (.iload_n 3, 1) := by decide +kernel
theorem dX7_tellStation_39 : decode cX7_tellStation 39 = .ok (.if_icmp .le 25, 3) := by decide +kernel
theorem dX7_tellStation_42 : decode cX7_tellStation 42 = .ok (.aload_n 0, 1) := by decide +kernel
theorem dX7_tellStation_43 : decode cX7_tellStation 43 = .ok (.getfield 9, 3) := by decide +kernel
theorem dX7_tellStation_46 : decode cX7_tellStation 46 = .ok (.iload 4, 2) := by decide +kernel
theorem dX7_tellStation_48 : decode cX7_tellStation 48 = .ok (.aload_n 0, 1) := by decide +kernel
theorem dX7_tellStation_49 : decode cX7_tellStation 49 = .ok (.getfield 9, 3) := by decide +kernel
theorem dX7_tellStation_52 : decode cX7_tellStation 52 = .ok (.iload 4, 2) := by decide +kernel
theorem dX7_tellStation_54 : decode cX7_tellStation 54 = .ok (.iconst 1, 1) := by decide +kernel
theorem dX7_tellStation_55 : decode cX7_tellStation 55 = .ok (.isub, 1) := by decide +kernel
theorem dX7_tellStation_56 : decode cX7_tellStation 56 = .ok (.iaload, 1) := by decide +kernel
theorem dX7_tellStation_57 : decode cX7_tellStation 57 = .ok (.iastore, 1) := by decide +kernel
theorem dX7_tellStation_58 : decode cX7_tellStation 58 = .ok (.iinc 4 (-1), 3) := by decide +kernel
theorem dX7_tellStation_61 : decode cX7_tellStation 61 = .ok (.goto (-37), 3) := by decide +kernel
theorem dX7_tellStation_64 : decode cX7_tellStation 64 = .ok (.aload_n 0, 1) := by decide +kernel
theorem dX7_tellStation_65 : decode cX7_tellStation 65 = .ok (.getfield 9, 3) := by decide +kernel
theorem dX7_tellStation_68 : decode cX7_tellStation 68 = .ok (.iload 4, 2) := by decide +kernel
theorem dX7_tellStation_70 : decode cX7_tellStation 70 = .ok (.iload_n 3, 1) := by decide +kernel
theorem dX7_tellStation_71 : decode cX7_tellStation 71 = .ok (.iastore, 1) := by decide +kernel
theorem dX7_tellStation_72 : decode cX7_tellStation 72 = .ok (.aload_n 0, 1) := by decide +kernel
theorem dX7_tellStation_73 : decode cX7_tellStation 73 = .ok (.dup, 1) := by decide +kernel
theorem dX7_tellStation_74 : decode cX7_tellStation 74 = .ok (.getfield 29, 3) := by decide +kernel
theorem dX7_tellStation_77 : decode cX7_tellStation 77 = .ok (.iconst 1, 1) := by decide +kernel
theorem dX7_tellStation_78 : decode cX7_tellStation 78 = .ok (.iadd, 1) := by decide +kernel
theorem dX7_tellStation_79 : decode cX7_tellStation 79 = .ok (.putfield 29, 3) := by decide +kernel
theorem dX7_tellStation_82 : decode cX7_tellStation 82 = .ok (.aload_n 0, 1) := by decide +kernel
theorem dX7_tellStation_83 : decode cX7_tellStation 83 = .ok (.getfield 29, 3) := by decide +kernel
theorem dX7_tellStation_86 : decode cX7_tellStation 86 = .ok (.ireturn, 1) := by decide +kernel
theorem dX7_countDue_0 : decode cX7_countDue 0 = .ok (.iconst 0, 1) := by decide +kernel
theorem dX7_countDue_1 : decode cX7_countDue 1 = .ok (.istore_n 2, 1) := by decide +kernel
theorem dX7_countDue_2 : decode cX7_countDue 2 = .ok (.iload_n 2, 1) := by decide +kernel
theorem dX7_countDue_3 : decode cX7_countDue 3 = .ok (.aload_n 0, 1) := by decide +kernel
theorem dX7_countDue_4 : decode cX7_countDue 4 = .ok (.getfield 29, 3) := by decide +kernel
theorem dX7_countDue_7 : decode cX7_countDue 7 = .ok (.if_icmp .ge 31, 3) := by decide +kernel
theorem dX7_countDue_10 : decode cX7_countDue 10 = .ok (.iload_n 2, 1) := by decide +kernel
theorem dX7_countDue_11 : decode cX7_countDue 11 = .ok (.aload_n 0, 1) := by decide +kernel
theorem dX7_countDue_12 : decode cX7_countDue 12 = .ok (.getfield 9, 3) := by decide +kernel
theorem dX7_countDue_15 : decode cX7_countDue 15 = .ok (.arraylength, 1) := by decide +kernel
theorem dX7_countDue_16 : decode cX7_countDue 16 = .ok (.if_icmp .ge 22, 3) := by decide +kernel
theorem dX7_countDue_19 : decode cX7_countDue 19 = .ok (.aload_n 0, 1) := by decide +kernel
theorem dX7_countDue_20 : decode cX7_countDue 20 = .ok (.getfield 9, 3) := by decide +kernel
theorem dX7_countDue_23 : decode cX7_countDue 23 = .ok (.iload_n 2, 1) := by decide +kernel
theorem dX7_countDue_24 : decode cX7_countDue 24 = .ok (.iaload, 1) := by decide +kernel
theorem dX7_countDue_25 : decode cX7_countDue 25 = .ok (.invokestatic 41, 3) := by decide +kernel
theorem dX7_countDue_28 : decode cX7_countDue 28 = .ok (.iload_n 1, 1) := by decide +kernel
theorem dX7_countDue_29 : decode cX7_countDue 29 = .ok (.if_icmp .gt 9, 3) := by decide +kernel
theorem dX7_countDue_32 : decode cX7_countDue 32 = .ok (.iinc 2 1, 3) := by decide +kernel
theorem dX7_countDue_35 : decode cX7_countDue 35 = .ok (.goto (-33), 3) := by decide +kernel
theorem dX7_countDue_38 : decode cX7_countDue 38 = .ok (.iload_n 2, 1) := by decide +kernel
theorem dX7_countDue_39 : decode cX7_countDue 39 = .ok (.ireturn, 1) := by decide +kernel
theorem dX7_dropFirst_0 : decode cX7_dropFirst 0 = .ok (.iload_n 1, 1) := by decide +kernel
theorem dX7_dropFirst_1 : decode cX7_dropFirst 1 = .ok (.ifCond .le 23, 3) := by decide +kernel
theorem dX7_dropFirst_4 : decode cX7_dropFirst 4 = .ok (.iload_n 1, 1) := by decide +kernel
theorem dX7_dropFirst_5 : decode cX7_dropFirst 5 = .ok (.aload_n 0, 1) := by decide +kernel
theorem dX7_dropFirst_6 : decode cX7_dropFirst 6 = .ok (.getfield 29, 3) := by decide +kernel
theorem dX7_dropFirst_9 : decode cX7_dropFirst 9 = .ok (.if_icmp .gt 15, 3) := by decide +kernel
theorem dX7_dropFirst_12 : decode cX7_dropFirst 12 = .ok (.aload_n 0, 1) := by decide +kernel
theorem dX7_dropFirst_13 : decode cX7_dropFirst 13 = .ok (.getfield 29, 3) := by decide +kernel
theorem dX7_dropFirst_16 : decode cX7_dropFirst 16 = .ok (.aload_n 0, 1) := by decide +kernel
theorem dX7_dropFirst_17 : decode cX7_dropFirst 17 = .ok (.getfield 9, 3) := by decide +kernel
theorem dX7_dropFirst_20 : decode cX7_dropFirst 20 = .ok (.arraylength, 1) := by decide +kernel
theorem dX7_dropFirst_21 : decode cX7_dropFirst 21 = .ok (.if_icmp .le 4, 3) := by decide +kernel
theorem dX7_dropFirst_24 : decode cX7_dropFirst 24 = .ok (.return_, 1) := by decide +kernel
theorem dX7_dropFirst_25 : decode cX7_dropFirst 25 = .ok (.aload_n 0, 1) := by decide +kernel
theorem dX7_dropFirst_26 : decode cX7_dropFirst 26 = .ok (.dup, 1) := by decide +kernel
theorem dX7_dropFirst_27 : decode cX7_dropFirst 27 = .ok (.getfield 29, 3) := by decide +kernel
theorem dX7_dropFirst_30 : decode cX7_dropFirst 30 = .ok (.iload_n 1, 1) := by decide +kernel
theorem dX7_dropFirst_31 : decode cX7_dropFirst 31 = .ok (.isub, 1) := by decide +kernel
theorem dX7_dropFirst_32 : decode cX7_dropFirst 32 = .ok (.putfield 29, 3) := by decide +kernel
theorem dX7_dropFirst_35 : decode cX7_dropFirst 35 = .ok (.aload_n 0, 1) := by decide +kernel
theorem dX7_dropFirst_36 : decode cX7_dropFirst 36 = .ok (.getfield 9, 3) := by decide +kernel
theorem dX7_dropFirst_39 : decode cX7_dropFirst 39 = .ok (.iload_n 1, 1) := by decide +kernel
theorem dX7_dropFirst_40 : decode cX7_dropFirst 40 = .ok (.aload_n 0, 1) := by decide +kernel
theorem dX7_dropFirst_41 : decode cX7_dropFirst 41 = .ok (.getfield 9, 3) := by decide +kernel
theorem dX7_dropFirst_44 : decode cX7_dropFirst 44 = .ok (.iconst 0, 1) := by decide +kernel
theorem dX7_dropFirst_45 : decode cX7_dropFirst 45 = .ok (.aload_n 0, 1) := by decide +kernel
theorem dX7_dropFirst_46 : decode cX7_dropFirst 46 = .ok (.getfield 29, 3) := by decide +kernel
theorem dX7_dropFirst_49 : decode cX7_dropFirst 49 = .ok (.invokestatic 44, 3) := by decide +kernel
theorem dX7_dropFirst_52 : decode cX7_dropFirst 52 = .ok (.return_, 1) := by decide +kernel
theorem dX7_areAllStormsTold_0 : decode cX7_areAllStormsTold 0 = .ok (.aload_n 0, 1) := by decide +kernel
theorem dX7_areAllStormsTold_1 : decode cX7_areAllStormsTold 1 = .ok (.getfield 50, 3) := by decide +kernel
theorem dX7_areAllStormsTold_4 : decode cX7_areAllStormsTold 4 = .ok (.bipush 20, 2) := by decide +kernel
theorem dX7_areAllStormsTold_6 : decode cX7_areAllStormsTold 6 = .ok (.invokestatic 21, 3) := by decide +kernel
theorem dX7_areAllStormsTold_9 : decode cX7_areAllStormsTold 9 = .ok (.ifCond .ne 7, 3) := by decide +kernel
theorem dX7_areAllStormsTold_12 : decode cX7_areAllStormsTold 12 = .ok (.iconst 1, 1) := by decide +kernel
theorem dX7_areAllStormsTold_13 : decode cX7_areAllStormsTold 13 = .ok (.goto 4, 3) := by decide +kernel
theorem dX7_areAllStormsTold_16 : decode cX7_areAllStormsTold 16 = .ok (.iconst 0, 1) := by decide +kernel
theorem dX7_areAllStormsTold_17 : decode cX7_areAllStormsTold 17 = .ok (.ireturn, 1) := by decide +kernel
theorem dX7_tellStorm_0 : decode cX7_tellStorm 0 = .ok (.aload_n 0, 1) := by decide +kernel
theorem dX7_tellStorm_1 : decode cX7_tellStorm 1 = .ok (.invokevirtual 53, 3) := by decide +kernel
theorem dX7_tellStorm_4 : decode cX7_tellStorm 4 = .ok (.ifCond .ne 33, 3) := by decide +kernel
theorem dX7_tellStorm_7 : decode cX7_tellStorm 7 = .ok (.aload_n 0, 1) := by decide +kernel
theorem dX7_tellStorm_8 : decode cX7_tellStorm 8 = .ok (.getfield 15, 3) := by decide +kernel
theorem dX7_tellStorm_11 : decode cX7_tellStorm 11 = .ok (.aload_n 0, 1) := by decide +kernel
theorem dX7_tellStorm_12 : decode cX7_tellStorm 12 = .ok (.getfield 50, 3) := by decide +kernel
theorem dX7_tellStorm_15 : decode cX7_tellStorm 15 = .ok (.iload_n 1, 1) := by decide +kernel
theorem dX7_tellStorm_16 : decode cX7_tellStorm 16 = .ok (.iastore, 1) := by decide +kernel
theorem dX7_tellStorm_17 : decode cX7_tellStorm 17 = .ok (.aload_n 0, 1) := by decide +kernel
theorem dX7_tellStorm_18 : decode cX7_tellStorm 18 = .ok (.getfield 18, 3) := by decide +kernel
theorem dX7_tellStorm_21 : decode cX7_tellStorm 21 = .ok (.aload_n 0, 1) := by decide +kernel
theorem dX7_tellStorm_22 : decode cX7_tellStorm 22 = .ok (.getfield 50, 3) := by decide +kernel
theorem dX7_tellStorm_25 : decode cX7_tellStorm 25 = .ok (.iload_n 2, 1) := by decide +kernel
theorem dX7_tellStorm_26 : decode cX7_tellStorm 26 = .ok (.iastore, 1) := by decide +kernel
theorem dX7_tellStorm_27 : decode cX7_tellStorm 27 = .ok (.aload_n 0, 1) := by decide +kernel
theorem dX7_tellStorm_28 : decode cX7_tellStorm 28 = .ok (.dup, 1) := by decide +kernel
theorem dX7_tellStorm_29 : decode cX7_tellStorm 29 = .ok (.getfield 50, 3) := by decide +kernel
theorem dX7_tellStorm_32 : decode cX7_tellStorm 32 = .ok (.iconst 1, 1) := by decide +kernel
theorem dX7_tellStorm_33 : decode cX7_tellStorm 33 = .ok (.iadd, 1) := by decide +kernel
theorem dX7_tellStorm_34 : decode cX7_tellStorm 34 = .ok (.putfield 50, 3) := by decide +kernel
theorem dX7_tellStorm_37 : decode cX7_tellStorm 37 = .ok (.return_, 1) := by decide +kernel
theorem dX7_hasStorm_0 : decode cX7_hasStorm 0 = .ok (.iconst 0, 1) := by decide +kernel
theorem dX7_hasStorm_1 : decode cX7_hasStorm 1 = .ok (.istore_n 2, 1) := by decide +kernel
theorem dX7_hasStorm_2 : decode cX7_hasStorm 2 = .ok (.iload_n 2, 1) := by decide +kernel
theorem dX7_hasStorm_3 : decode cX7_hasStorm 3 = .ok (.aload_n 0, 1) := by decide +kernel
theorem dX7_hasStorm_4 : decode cX7_hasStorm 4 = .ok (.getfield 50, 3) := by decide +kernel
theorem dX7_hasStorm_7 : decode cX7_hasStorm 7 = .ok (.if_icmp .ge 37, 3) := by decide +kernel
theorem dX7_hasStorm_10 : decode cX7_hasStorm 10 = .ok (.iload_n 2, 1) := by decide +kernel
theorem dX7_hasStorm_11 : decode cX7_hasStorm 11 = .ok (.bipush 20, 2) := by decide +kernel
theorem dX7_hasStorm_13 : decode cX7_hasStorm 13 = .ok (.if_icmp .ge 31, 3) := by decide +kernel
theorem dX7_hasStorm_16 : decode cX7_hasStorm 16 = .ok (.aload_n 0, 1) := by decide +kernel
theorem dX7_hasStorm_17 : decode cX7_hasStorm 17 = .ok (.getfield 15, 3) := by decide +kernel
theorem dX7_hasStorm_20 : decode cX7_hasStorm 20 = .ok (.iload_n 2, 1) := by decide +kernel
theorem dX7_hasStorm_21 : decode cX7_hasStorm 21 = .ok (.iaload, 1) := by decide +kernel
theorem dX7_hasStorm_22 : decode cX7_hasStorm 22 = .ok (.iload_n 1, 1) := by decide +kernel
theorem dX7_hasStorm_23 : decode cX7_hasStorm 23 = .ok (.if_icmp .gt 15, 3) := by decide +kernel
theorem dX7_hasStorm_26 : decode cX7_hasStorm 26 = .ok (.iload_n 1, 1) := by decide +kernel
theorem dX7_hasStorm_27 : decode cX7_hasStorm 27 = .ok (.aload_n 0, 1) := by decide +kernel
theorem dX7_hasStorm_28 : decode cX7_hasStorm 28 = .ok (.getfield 18, 3) := by decide +kernel
theorem dX7_hasStorm_31 : decode cX7_hasStorm 31 = .ok (.iload_n 2, 1) := by decide +kernel
theorem dX7_hasStorm_32 : decode cX7_hasStorm 32 = .ok (.iaload, 1) := by decide +kernel
theorem dX7_hasStorm_33 : decode cX7_hasStorm 33 = .ok (.if_icmp .gt 5, 3) := by decide +kernel
theorem dX7_hasStorm_36 : decode cX7_hasStorm 36 = .ok (.iconst 1, 1) := by decide +kernel
theorem dX7_hasStorm_37 : decode cX7_hasStorm 37 = .ok (.ireturn, 1) := by decide +kernel
theorem dX7_hasStorm_38 : decode cX7_hasStorm 38 = .ok (.iinc 2 1, 3) := by decide +kernel
theorem dX7_hasStorm_41 : decode cX7_hasStorm 41 = .ok (.goto (-39), 3) := by decide +kernel
theorem dX7_hasStorm_44 : decode cX7_hasStorm 44 = .ok (.iconst 0, 1) := by decide +kernel
theorem dX7_hasStorm_45 : decode cX7_hasStorm 45 = .ok (.ireturn, 1) := by decide +kernel
theorem dX7_calmStations_0 : decode cX7_calmStations 0 = .ok (.iconst 0, 1) := by decide +kernel
theorem dX7_calmStations_1 : decode cX7_calmStations 1 = .ok (.istore_n 3, 1) := by decide +kernel
theorem dX7_calmStations_2 : decode cX7_calmStations 2 = .ok (.iconst 0, 1) := by decide +kernel
theorem dX7_calmStations_3 : decode cX7_calmStations 3 = .ok (.istore 4, 2) := by decide +kernel
theorem dX7_calmStations_5 : decode cX7_calmStations 5 = .ok (.iload 4, 2) := by decide +kernel
theorem dX7_calmStations_7 : decode cX7_calmStations 7 = .ok (.aload_n 0, 1) := by decide +kernel
theorem dX7_calmStations_8 : decode cX7_calmStations 8 = .ok (.getfield 29, 3) := by decide +kernel
theorem dX7_calmStations_11 : decode cX7_calmStations 11 = .ok (.if_icmp .ge 55, 3) := by decide +kernel
theorem dX7_calmStations_14 : decode cX7_calmStations 14 = .ok (.iload 4, 2) := by decide +kernel
theorem dX7_calmStations_16 : decode cX7_calmStations 16 = .ok (.aload_n 0, 1) := by decide +kernel
theorem dX7_calmStations_17 : decode cX7_calmStations 17 = .ok (.getfield 9, 3) := by decide +kernel
theorem dX7_calmStations_20 : decode cX7_calmStations 20 = .ok (.arraylength, 1) := by decide +kernel
theorem dX7_calmStations_21 : decode cX7_calmStations 21 = .ok (.if_icmp .ge 45, 3) := by decide +kernel
theorem dX7_calmStations_24 : decode cX7_calmStations 24 = .ok (.aload_n 0, 1) := by decide +kernel
theorem dX7_calmStations_25 : decode cX7_calmStations 25 = .ok (.getfield 9, 3) := by decide +kernel
theorem dX7_calmStations_28 : decode cX7_calmStations 28 = .ok (.iload 4, 2) := by decide +kernel
theorem dX7_calmStations_30 : decode cX7_calmStations 30 = .ok (.iaload, 1) := by decide +kernel
theorem dX7_calmStations_31 : decode cX7_calmStations 31 = .ok (.invokestatic 41, 3) := by decide +kernel
theorem dX7_calmStations_34 : decode cX7_calmStations 34 = .ok (.istore 5, 2) := by decide +kernel
theorem dX7_calmStations_36 : decode cX7_calmStations 36 = .ok (.iload_n 1, 1) := by decide +kernel
theorem dX7_calmStations_37 : decode cX7_calmStations 37 = .ok (.iload 5, 2) := by decide +kernel
theorem dX7_calmStations_39 : decode cX7_calmStations 39 = .ok (.if_icmp .gt 21, 3) := by decide +kernel
theorem dX7_calmStations_42 : decode cX7_calmStations 42 = .ok (.iload 5, 2) := by decide +kernel
theorem dX7_calmStations_44 : decode cX7_calmStations 44 = .ok (.iload_n 2, 1) := by decide +kernel
theorem dX7_calmStations_45 : decode cX7_calmStations 45 = .ok (.if_icmp .gt 15, 3) := by decide +kernel
theorem dX7_calmStations_48 : decode cX7_calmStations 48 = .ok (.aload_n 0, 1) := by decide +kernel
theorem dX7_calmStations_49 : decode cX7_calmStations 49 = .ok (.iload 5, 2) := by decide +kernel
theorem dX7_calmStations_51 : decode cX7_calmStations 51 = .ok (.invokevirtual 56, 3) := by decide +kernel
theorem dX7_calmStations_54 : decode cX7_calmStations 54 = .ok (.ifCond .ne 6, 3) := by decide +kernel
theorem dX7_calmStations_57 : decode cX7_calmStations 57 = .ok (.iinc 3 1, 3) := by decide +kernel
theorem dX7_calmStations_60 : decode cX7_calmStations 60 = .ok (.iinc 4 1, 3) := by decide +kernel
theorem dX7_calmStations_63 : decode cX7_calmStations 63 = .ok (.goto (-58), 3) := by decide +kernel
theorem dX7_calmStations_66 : decode cX7_calmStations 66 = .ok (.iload_n 3, 1) := by decide +kernel
theorem dX7_calmStations_67 : decode cX7_calmStations 67 = .ok (.ireturn, 1) := by decide +kernel
theorem dX8_init_0 : decode cX8_init 0 = .ok (.aload_n 0, 1) := by decide +kernel
theorem dX8_init_1 : decode cX8_init 1 = .ok (.invokespecial 3, 3) := by decide +kernel
theorem dX8_init_4 : decode cX8_init 4 = .ok (.aload_n 0, 1) := by decide +kernel
theorem dX8_init_5 : decode cX8_init 5 = .ok (.new 9, 3) := by decide +kernel
theorem dX8_init_8 : decode cX8_init 8 = .ok (.dup, 1) := by decide +kernel
theorem dX8_init_9 : decode cX8_init 9 = .ok (.invokespecial 11, 3) := by decide +kernel
theorem dX8_init_12 : decode cX8_init 12 = .ok (.putfield 12, 3) := by decide +kernel
theorem dX8_init_15 : decode cX8_init 15 = .ok (.aload_n 0, 1) := by decide +kernel
theorem dX8_init_16 : decode cX8_init 16 = .ok (.bipush 8, 2) := by decide +kernel
theorem dX8_init_18 : decode cX8_init 18 = .ok (.anewarray 16, 3) := by decide +kernel
theorem dX8_init_21 : decode cX8_init 21 = .ok (.putfield 18, 3) := by decide +kernel
theorem dX8_init_24 : decode cX8_init 24 = .ok (.aload_n 0, 1) := by decide +kernel
theorem dX8_init_25 : decode cX8_init 25 = .ok (.new 22, 3) := by decide +kernel
theorem dX8_init_28 : decode cX8_init 28 = .ok (.dup, 1) := by decide +kernel
theorem dX8_init_29 : decode cX8_init 29 = .ok (.invokespecial 24, 3) := by decide +kernel
theorem dX8_init_32 : decode cX8_init 32 = .ok (.putfield 25, 3) := by decide +kernel
theorem dX8_init_35 : decode cX8_init 35 = .ok (.aload_n 0, 1) := by decide +kernel
theorem dX8_init_36 : decode cX8_init 36 = .ok (.new 29, 3) := by decide +kernel
theorem dX8_init_39 : decode cX8_init 39 = .ok (.dup, 1) := by decide +kernel
theorem dX8_init_40 : decode cX8_init 40 = .ok (.invokespecial 31, 3) := by decide +kernel
theorem dX8_init_43 : decode cX8_init 43 = .ok (.putfield 32, 3) := by decide +kernel
theorem dX8_init_46 : decode cX8_init 46 = .ok (.aload_n 0, 1) := by decide +kernel
theorem dX8_init_47 : decode cX8_init 47 = .ok (.iconst 4, 1) := by decide +kernel
theorem dX8_init_48 : decode cX8_init 48 = .ok (.anewarray 36, 3) := by decide +kernel
theorem dX8_init_51 : decode cX8_init 51 = .ok (.putfield 38, 3) := by decide +kernel
theorem dX8_init_54 : decode cX8_init 54 = .ok (.aload_n 0, 1) := by decide +kernel
theorem dX8_init_55 : decode cX8_init 55 = .ok (.bipush 6, 2) := by decide +kernel
theorem dX8_init_57 : decode cX8_init 57 = .ok (.anewarray 42, 3) := by decide +kernel
theorem dX8_init_60 : decode cX8_init 60 = .ok (.putfield 44, 3) := by decide +kernel
theorem dX8_init_63 : decode cX8_init 63 = .ok (.return_, 1) := by decide +kernel
theorem dX8_land_0 : decode cX8_land 0 = .ok (.iload_n 1, 1) := by decide +kernel
theorem dX8_land_1 : decode cX8_land 1 = .ok (.invokestatic 48, 3) := by decide +kernel
theorem dX8_land_4 : decode cX8_land 4 = .ok (.aload_n 0, 1) := by decide +kernel
theorem dX8_land_5 : decode cX8_land 5 = .ok (.getfield 52, 3) := by decide +kernel
theorem dX8_land_8 : decode cX8_land 8 = .ok (.ifCond .ne 22, 3) := by decide +kernel
theorem dX8_land_11 : decode cX8_land 11 = .ok (.aload_n 0, 1) := by decide +kernel
theorem dX8_land_12 : decode cX8_land 12 = .ok (.getfield 12, 3) := by decide +kernel
theorem dX8_land_15 : decode cX8_land 15 = .ok (.iload_n 1, 1) := by decide +kernel
theorem dX8_land_16 : decode cX8_land 16 = .ok (.invokevirtual 56, 3) := by decide +kernel
theorem dX8_land_19 : decode cX8_land 19 = .ok (.ifCond .ne 11, 3) := by decide +kernel
theorem dX8_land_22 : decode cX8_land 22 = .ok (.aload_n 0, 1) := by decide +kernel
theorem dX8_land_23 : decode cX8_land 23 = .ok (.iload_n 1, 1) := by decide +kernel
theorem dX8_land_24 : decode cX8_land 24 = .ok (.invokevirtual 60, 3) := by decide +kernel
theorem dX8_land_27 : decode cX8_land 27 = .ok (.ifCond .eq 13, 3) := by decide +kernel
theorem dX8_land_30 : decode cX8_land 30 = .ok (.new 63, 3) := by decide +kernel
theorem dX8_land_33 : decode cX8_land 33 = .ok (.dup, 1) := by decide +kernel
theorem dX8_land_34 : decode cX8_land 34 = .ok (.ldc 65, 2) := by decide +kernel
theorem dX8_land_36 : decode cX8_land 36 = .ok (.invokespecial 67, 3) := by decide +kernel
theorem dX8_land_39 : decode cX8_land 39 = .ok (.athrow, 1) := by decide +kernel
theorem dX8_land_40 : decode cX8_land 40 = .ok (.aload_n 0, 1) := by decide +kernel
theorem dX8_land_41 : decode cX8_land 41 = .ok (.getfield 12, 3) := by decide +kernel
theorem dX8_land_44 : decode cX8_land 44 = .ok (.iload_n 1, 1) := by decide +kernel
theorem dX8_land_45 : decode cX8_land 45 = .ok (.invokevirtual 70, 3) := by decide +kernel
theorem dX8_land_48 : decode cX8_land 48 = .ok (.ireturn, 1) := by decide +kernel
theorem dX8_current_0 : decode cX8_current 0 = .ok (.iload_n 1, 1) := by decide +kernel
theorem dX8_current_1 : decode cX8_current 1 = .ok (.invokestatic 48, 3) := by decide +kernel
theorem dX8_current_4 : decode cX8_current 4 = .ok (.iload_n 2, 1) := by decide +kernel
theorem dX8_current_5 : decode cX8_current 5 = .ok (.iconst 0, 1) := by decide +kernel
theorem dX8_current_6 : decode cX8_current 6 = .ok (.iconst 4, 1) := by decide +kernel
theorem dX8_current_7 : decode cX8_current 7 = .ok (.invokestatic 74, 3) := by decide +kernel
theorem dX8_current_10 : decode cX8_current 10 = .ok (.aload_n 0, 1) := by decide +kernel
theorem dX8_current_11 : decode cX8_current 11 = .ok (.getfield 12, 3) := by decide +kernel
theorem dX8_current_14 : decode cX8_current 14 = .ok (.getfield 78, 3) := by decide +kernel
theorem dX8_current_17 : decode cX8_current 17 = .ok (.iload_n 1, 1) := by decide +kernel
theorem dX8_current_18 : decode cX8_current 18 = .ok (.iaload, 1) := by decide +kernel
theorem dX8_current_19 : decode cX8_current 19 = .ok (.istore_n 3, 1) := by decide +kernel
theorem dX8_current_20 : decode cX8_current 20 = .ok (.aload_n 0, 1) := by decide +kernel
theorem dX8_current_21 : decode cX8_current 21 = .ok (.getfield 12, 3) := by decide +kernel
theorem dX8_current_24 : decode cX8_current 24 = .ok (.getfield 78, 3) := by decide +kernel
theorem dX8_current_27 : decode cX8_current 27 = .ok (.iload_n 1, 1) := by decide +kernel
theorem dX8_current_28 : decode cX8_current 28 = .ok (.iload_n 2, 1) := by decide +kernel
theorem dX8_current_29 : decode cX8_current 29 = .ok (.iastore, 1) := by decide +kernel
theorem dX8_current_30 : decode cX8_current 30 = .ok (.iload_n 3, 1) := by decide +kernel
theorem dX8_current_31 : decode cX8_current 31 = .ok (.ireturn, 1) := by decide +kernel
theorem dX8_sun_0 : decode cX8_sun 0 = .ok (.iload_n 1, 1) := by decide +kernel
theorem dX8_sun_1 : decode cX8_sun 1 = .ok (.iconst 0, 1) := by decide +kernel
theorem dX8_sun_2 : decode cX8_sun 2 = .ok (.iconst 5, 1) := by decide +kernel
theorem dX8_sun_3 : decode cX8_sun 3 = .ok (.invokestatic 74, 3) := by decide +kernel
theorem dX8_sun_6 : decode cX8_sun 6 = .ok (.iload_n 2, 1) := by decide +kernel
theorem dX8_sun_7 : decode cX8_sun 7 = .ok (.bipush (-50), 2) := by decide +kernel
theorem dX8_sun_9 : decode cX8_sun 9 = .ok (.bipush 50, 2) := by decide +kernel
theorem dX8_sun_11 : decode cX8_sun 11 = .ok (.invokestatic 74, 3) := by decide +kernel
theorem dX8_sun_14 : decode cX8_sun 14 = .ok (.aload_n 0, 1) := by decide +kernel
theorem dX8_sun_15 : decode cX8_sun 15 = .ok (.getfield 12, 3) := by decide +kernel
theorem dX8_sun_18 : decode cX8_sun 18 = .ok (.getfield 82, 3) := by decide +kernel
theorem dX8_sun_21 : decode cX8_sun 21 = .ok (.iload_n 1, 1) := by decide +kernel
theorem dX8_sun_22 : decode cX8_sun 22 = .ok (.iaload, 1) := by decide +kernel
theorem dX8_sun_23 : decode cX8_sun 23 = .ok (.istore_n 3, 1) := by decide +kernel
theorem dX8_sun_24 : decode cX8_sun 24 = .ok (.aload_n 0, 1) := by decide +kernel
theorem dX8_sun_25 : decode cX8_sun 25 = .ok (.getfield 12, 3) := by decide +kernel
theorem dX8_sun_28 : decode cX8_sun 28 = .ok (.getfield 82, 3) := by decide +kernel
theorem dX8_sun_31 : decode cX8_sun 31 = .ok (.iload_n 1, 1) := by decide +kernel
theorem dX8_sun_32 : decode cX8_sun 32 = .ok (.iload_n 2, 1) := by decide +kernel
theorem dX8_sun_33 : decode cX8_sun 33 = .ok (.iastore, 1) := by decide +kernel
theorem dX8_sun_34 : decode cX8_sun 34 = .ok (.iload_n 3, 1) := by decide +kernel
theorem dX8_sun_35 : decode cX8_sun 35 = .ok (.ireturn, 1) := by decide +kernel
theorem dX8_pass_0 : decode cX8_pass 0 = .ok (.iload_n 1, 1) := by decide +kernel
theorem dX8_pass_1 : decode cX8_pass 1 = .ok (.iconst 1, 1) := by decide +kernel
theorem dX8_pass_2 : decode cX8_pass 2 = .ok (.bipush 50, 2) := by decide +kernel
theorem dX8_pass_4 : decode cX8_pass 4 = .ok (.invokestatic 74, 3) := by decide +kernel
theorem dX8_pass_7 : decode cX8_pass 7 = .ok (.iload_n 1, 1) := by decide +kernel
theorem dX8_pass_8 : decode cX8_pass 8 = .ok (.sipush 1000, 3) := by decide +kernel
theorem dX8_pass_11 : decode cX8_pass 11 = .ok (.aload_n 0, 1) := by decide +kernel
theorem dX8_pass_12 : decode cX8_pass 12 = .ok (.getfield 52, 3) := by decide +kernel
theorem dX8_pass_15 : decode cX8_pass 15 = .ok (.isub, 1) := by decide +kernel
theorem dX8_pass_16 : decode cX8_pass 16 = .ok (.if_icmp .le 13, 3) := by decide +kernel
theorem dX8_pass_19 : decode cX8_pass 19 = .ok (.new 63, 3) := by decide +kernel
theorem dX8_pass_22 : decode cX8_pass 22 = .ok (.dup, 1) := by decide +kernel
theorem dX8_pass_23 : decode cX8_pass 23 = .ok (.ldc 85, 2) := by decide +kernel
theorem dX8_pass_25 : decode cX8_pass 25 = .ok (.invokespecial 67, 3) := by decide +kernel
theorem dX8_pass_28 : decode cX8_pass 28 = .ok (.athrow, 1) := by decide +kernel
theorem dX8_pass_29 : decode cX8_pass 29 = .ok (.iconst 0, 1) := by decide +kernel
theorem dX8_pass_30 : decode cX8_pass 30 = .ok (.istore_n 2, 1) := by decide +kernel
theorem dX8_pass_31 : decode cX8_pass 31 = .ok (.iload_n 2, 1) := by decide +kernel
theorem dX8_pass_32 : decode cX8_pass 32 = .ok (.iload_n 1, 1) := by decide +kernel
theorem dX8_pass_33 : decode cX8_pass 33 = .ok (.if_icmp .ge 13, 3) := by decide +kernel
theorem dX8_pass_36 : decode cX8_pass 36 = .ok (.aload_n 0, 1) := by decide +kernel
theorem dX8_pass_37 : decode cX8_pass 37 = .ok (.invokevirtual 87, 3) := by decide +kernel
theorem dX8_pass_40 : decode cX8_pass 40 = .ok (.iinc 2 1, 3) := by decide +kernel
theorem dX8_pass_43 : decode cX8_pass 43 = .ok (.goto (-12), 3) := by decide +kernel
theorem dX8_pass_46 : decode cX8_pass 46 = .ok (.aload_n 0, 1) := by decide +kernel
theorem dX8_pass_47 : decode cX8_pass 47 = .ok (.getfield 52, 3) := by decide +kernel
theorem dX8_pass_50 : decode cX8_pass 50 = .ok (.ireturn, 1) := by decide +kernel
theorem dX8_lay_0 : decode cX8_lay 0 = .ok (.iload_n 1, 1) := by decide +kernel
theorem dX8_lay_1 : decode cX8_lay 1 = .ok (.invokestatic 48, 3) := by decide +kernel
theorem dX8_lay_4 : decode cX8_lay 4 = .ok (.iload_n 2, 1) := by decide +kernel
theorem dX8_lay_5 : decode cX8_lay 5 = .ok (.iconst 1, 1) := by decide +kernel
theorem dX8_lay_6 : decode cX8_lay 6 = .ok (.bipush 20, 2) := by decide +kernel
theorem dX8_lay_8 : decode cX8_lay 8 = .ok (.invokestatic 74, 3) := by decide +kernel
theorem dX8_lay_11 : decode cX8_lay 11 = .ok (.iload_n 3, 1) := by decide +kernel
theorem dX8_lay_12 : decode cX8_lay 12 = .ok (.iconst 1, 1) := by decide +kernel
theorem dX8_lay_13 : decode cX8_lay 13 = .ok (.bipush 100, 2) := by decide +kernel
theorem dX8_lay_15 : decode cX8_lay 15 = .ok (.invokestatic 74, 3) := by decide +kernel
theorem dX8_lay_18 : decode cX8_lay 18 = .ok (.iload 4, 2) := by decide +kernel
theorem dX8_lay_20 : decode cX8_lay 20 = .ok (.bipush (-50), 2) := by decide +kernel
theorem dX8_lay_22 : decode cX8_lay 22 = .ok (.bipush 50, 2) := by decide +kernel
theorem dX8_lay_24 : decode cX8_lay 24 = .ok (.invokestatic 74, 3) := by decide +kernel
theorem dX8_lay_27 : decode cX8_lay 27 = .ok (.aload_n 0, 1) := by decide +kernel
theorem dX8_lay_28 : decode cX8_lay 28 = .ok (.getfield 90, 3) := by decide +kernel
theorem dX8_lay_31 : decode cX8_lay 31 = .ok (.istore 5, 2) := by decide +kernel
theorem dX8_lay_33 : decode cX8_lay 33 = .ok (.aload_n 0, 1) := by decide +kernel
theorem dX8_lay_34 : decode cX8_lay 34 = .ok (.getfield 12, 3) := by decide +kernel
theorem dX8_lay_37 : decode cX8_lay 37 = .ok (.iload_n 1, 1) := by decide +kernel
theorem dX8_lay_38 : decode cX8_lay 38 = .ok (.invokevirtual 56, 3) := by decide +kernel
theorem dX8_lay_41 : decode cX8_lay 41 = .ok (.ifCond .ne 16, 3) := by decide +kernel
theorem dX8_lay_44 : decode cX8_lay 44 = .ok (.iload 5, 2) := by decide +kernel
theorem dX8_lay_46 : decode cX8_lay 46 = .ok (.aload_n 0, 1) := by decide +kernel
theorem dX8_lay_47 : decode cX8_lay 47 = .ok (.getfield 18, 3) := by decide +kernel
theorem dX8_lay_50 : decode cX8_lay 50 = .ok (.arraylength, 1) := by decide +kernel
theorem dX8_lay_51 : decode cX8_lay 51 = .ok (.invokestatic 93, 3) := by decide +kernel
theorem dX8_lay_54 : decode cX8_lay 54 = .ok (.ifCond .ne 13, 3) := by decide +kernel
theorem dX8_lay_57 : decode cX8_lay 57 = .ok (.new 63, 3) := by decide +kernel
theorem dX8_lay_60 : decode cX8_lay 60 = .ok (.dup, 1) := by decide +kernel
theorem dX8_lay_61 : decode cX8_lay 61 = .ok (.ldc 97, 2) := by decide +kernel
theorem dX8_lay_63 : decode cX8_lay 63 = .ok (.invokespecial 67, 3) := by decide +kernel
theorem dX8_lay_66 : decode cX8_lay 66 = .ok (.athrow, 1) := by decide +kernel
theorem dX8_lay_67 : decode cX8_lay 67 = .ok (.aload_n 0, 1) := by decide +kernel
theorem dX8_lay_68 : decode cX8_lay 68 = .ok (.getfield 18, 3) := by decide +kernel
theorem dX8_lay_71 : decode cX8_lay 71 = .ok (.iload 5, 2) := by decide +kernel
theorem dX8_lay_73 : decode cX8_lay 73 = .ok (.new 16, 3) := by decide +kernel
theorem dX8_lay_76 : decode cX8_lay 76 = .ok (.dup, 1) := by decide +kernel
theorem dX8_lay_77 : decode cX8_lay 77 = .ok (.iload 5, 2) := by decide +kernel
theorem dX8_lay_79 : decode cX8_lay 79 = .ok (.iload_n 1, 1) := by decide +kernel
theorem dX8_lay_80 : decode cX8_lay 80 = .ok (.iload_n 2, 1) := by decide +kernel
theorem dX8_lay_81 : decode cX8_lay 81 = .ok (.iload_n 3, 1) := by decide +kernel
theorem dX8_lay_82 : decode cX8_lay 82 = .ok (.iload 4, 2) := by decide +kernel
theorem dX8_lay_84 : decode cX8_lay 84 = .ok (.invokespecial 99, 3) := by decide +kernel
theorem dX8_lay_87 : decode cX8_lay 87 = .ok (.aastore, 1) := by decide +kernel
theorem dX8_lay_88 : decode cX8_lay 88 = .ok (.aload_n 0, 1) := by decide +kernel
theorem dX8_lay_89 : decode cX8_lay 89 = .ok (.iload 5, 2) := by decide +kernel
theorem dX8_lay_91 : decode cX8_lay 91 = .ok (.iconst 1, 1) := by decide +kernel
theorem dX8_lay_92 : decode cX8_lay 92 = .ok (.iadd, 1) := by decide +kernel
theorem dX8_lay_93 : decode cX8_lay 93 = .ok (.putfield 90, 3) := by decide +kernel
theorem dX8_lay_96 : decode cX8_lay 96 = .ok (.iload 5, 2) := by decide +kernel
theorem dX8_lay_98 : decode cX8_lay 98 = .ok (.ireturn, 1) := by decide +kernel
theorem dX8_station_0 : decode cX8_station 0 = .ok (.iload_n 2, 1) := by decide +kernel
theorem dX8_station_1 : decode cX8_station 1 = .ok (.invokestatic 48, 3) := by decide +kernel
theorem dX8_station_4 : decode cX8_station 4 = .ok (.iload_n 1, 1) := by decide +kernel
theorem dX8_station_5 : decode cX8_station 5 = .ok (.aload_n 0, 1) := by decide +kernel
theorem dX8_station_6 : decode cX8_station 6 = .ok (.getfield 52, 3) := by decide +kernel
theorem dX8_station_9 : decode cX8_station 9 = .ok (.iconst 1, 1) := by decide +kernel
theorem dX8_station_10 : decode cX8_station 10 = .ok (.iadd, 1) := by decide +kernel
theorem dX8_station_11 : decode cX8_station 11 = .ok (.sipush 1000, 3) := by decide +kernel
theorem dX8_station_14 : decode cX8_station 14 = .ok (.invokestatic 74, 3) := by decide +kernel
theorem dX8_station_17 : decode cX8_station 17 = .ok (.aload_n 0, 1) := by decide +kernel
theorem dX8_station_18 : decode cX8_station 18 = .ok (.getfield 12, 3) := by decide +kernel
theorem dX8_station_21 : decode cX8_station 21 = .ok (.iload_n 2, 1) := by decide +kernel
theorem dX8_station_22 : decode cX8_station 22 = .ok (.invokevirtual 56, 3) := by decide +kernel
theorem dX8_station_25 : decode cX8_station 25 = .ok (.ifCond .ne 25, 3) := by decide +kernel
theorem dX8_station_28 : decode cX8_station 28 = .ok (.aload_n 0, 1) := by decide +kernel
theorem dX8_station_29 : decode cX8_station 29 = .ok (.getfield 32, 3) := by decide +kernel
theorem dX8_station_32 : decode cX8_station 32 = .ok (.iload_n 1, 1) := by decide +kernel
theorem dX8_station_33 : decode cX8_station 33 = .ok (.iload_n 2, 1) := by decide +kernel
theorem dX8_station_34 : decode cX8_station 34 = .ok (.invokevirtual 102, 3) := by decide +kernel
theorem dX8_station_37 : decode cX8_station 37 = .ok (.ifCond .ne 13, 3) := by decide +kernel
theorem dX8_station_40 : decode cX8_station 40 = .ok (.aload_n 0, 1) := by decide +kernel
theorem dX8_station_41 : decode cX8_station 41 = .ok (.getfield 32, 3) := by decide +kernel
theorem dX8_station_44 : decode cX8_station 44 = .ok (.invokevirtual 105, 3) := by decide +kernel
theorem dX8_station_47 : decode cX8_station 47 = .ok (.ifCond .eq 13, 3) := by decide +kernel
theorem dX8_station_50 : decode cX8_station 50 = .ok (.new 63, 3) := by decide +kernel
theorem dX8_station_53 : decode cX8_station 53 = .ok (.dup, 1) := by decide +kernel
theorem dX8_station_54 : decode cX8_station 54 = .ok (.ldc 109, 2) := by decide +kernel
theorem dX8_station_56 : decode cX8_station 56 = .ok (.invokespecial 67, 3) := by decide +kernel
theorem dX8_station_59 : decode cX8_station 59 = .ok (.athrow, 1) := by decide +kernel
theorem dX8_station_60 : decode cX8_station 60 = .ok (.aload_n 0, 1) := by decide +kernel
theorem dX8_station_61 : decode cX8_station 61 = .ok (.getfield 32, 3) := by decide +kernel
theorem dX8_station_64 : decode cX8_station 64 = .ok (.iload_n 1, 1) := by decide +kernel
theorem dX8_station_65 : decode cX8_station 65 = .ok (.iload_n 2, 1) := by decide +kernel
theorem dX8_station_66 : decode cX8_station 66 = .ok (.invokevirtual 111, 3) := by decide +kernel
theorem dX8_station_69 : decode cX8_station 69 = .ok (.ireturn, 1) := by decide +kernel
theorem dX8_storm_0 : decode cX8_storm 0 = .ok (.iload_n 1, 1) := by decide +kernel
theorem dX8_storm_1 : decode cX8_storm 1 = .ok (.aload_n 0, 1) := by decide +kernel
theorem dX8_storm_2 : decode cX8_storm 2 = .ok (.getfield 52, 3) := by decide +kernel
theorem dX8_storm_5 : decode cX8_storm 5 = .ok (.iconst 1, 1) := by decide +kernel
theorem dX8_storm_6 : decode cX8_storm 6 = .ok (.iadd, 1) := by decide +kernel
theorem dX8_storm_7 : decode cX8_storm 7 = .ok (.sipush 1000, 3) := by decide +kernel
theorem dX8_storm_10 : decode cX8_storm 10 = .ok (.invokestatic 74, 3) := by decide +kernel
theorem dX8_storm_13 : decode cX8_storm 13 = .ok (.iload_n 2, 1) := by decide +kernel
theorem dX8_storm_14 : decode cX8_storm 14 = .ok (.iload_n 1, 1) := by decide +kernel
theorem dX8_storm_15 : decode cX8_storm 15 = .ok (.sipush 1000, 3) := by decide +kernel
theorem dX8_storm_18 : decode cX8_storm 18 = .ok (.invokestatic 74, 3) := by decide +kernel
theorem dX8_storm_21 : decode cX8_storm 21 = .ok (.aload_n 0, 1) := by decide +kernel
theorem dX8_storm_22 : decode cX8_storm 22 = .ok (.getfield 32, 3) := by decide +kernel
theorem dX8_storm_25 : decode cX8_storm 25 = .ok (.invokevirtual 115, 3) := by decide +kernel
theorem dX8_storm_28 : decode cX8_storm 28 = .ok (.ifCond .eq 13, 3) := by decide +kernel
theorem dX8_storm_31 : decode cX8_storm 31 = .ok (.new 63, 3) := by decide +kernel
theorem dX8_storm_34 : decode cX8_storm 34 = .ok (.dup, 1) := by decide +kernel
theorem dX8_storm_35 : decode cX8_storm 35 = .ok (.ldc 118, 2) := by decide +kernel
theorem dX8_storm_37 : decode cX8_storm 37 = .ok (.invokespecial 67, 3) := by decide +kernel
theorem dX8_storm_40 : decode cX8_storm 40 = .ok (.athrow, 1) := by decide +kernel
theorem dX8_storm_41 : decode cX8_storm 41 = .ok (.aload_n 0, 1) := by decide +kernel
theorem dX8_storm_42 : decode cX8_storm 42 = .ok (.getfield 32, 3) := by decide +kernel
theorem dX8_storm_45 : decode cX8_storm 45 = .ok (.iload_n 1, 1) := by decide +kernel
theorem dX8_storm_46 : decode cX8_storm 46 = .ok (.iload_n 2, 1) := by decide +kernel
theorem dX8_storm_47 : decode cX8_storm 47 = .ok (.invokevirtual 120, 3) := by decide +kernel
theorem dX8_storm_50 : decode cX8_storm 50 = .ok (.istore_n 3, 1) := by decide +kernel
theorem dX8_storm_51 : decode cX8_storm 51 = .ok (.aload_n 0, 1) := by decide +kernel
theorem dX8_storm_52 : decode cX8_storm 52 = .ok (.getfield 32, 3) := by decide +kernel
theorem dX8_storm_55 : decode cX8_storm 55 = .ok (.iload_n 1, 1) := by decide +kernel
theorem dX8_storm_56 : decode cX8_storm 56 = .ok (.iload_n 2, 1) := by decide +kernel
theorem dX8_storm_57 : decode cX8_storm 57 = .ok (.invokevirtual 123, 3) := by decide +kernel
theorem dX8_storm_60 : decode cX8_storm 60 = .ok (.iload_n 3, 1) := by decide +kernel
theorem dX8_storm_61 : decode cX8_storm 61 = .ok (.ireturn, 1) := by decide +kernel
theorem dX8_calibrate_0 : decode cX8_calibrate 0 = .ok (.aload_n 0, 1) := by decide +kernel
theorem dX8_calibrate_1 : decode cX8_calibrate 1 = .ok (.iload_n 1, 1) := by decide +kernel
theorem dX8_calibrate_2 : decode cX8_calibrate 2 = .ok (.invokevirtual 127, 3) := by decide +kernel
theorem dX8_calibrate_5 : decode cX8_calibrate 5 = .ok (.astore_n 2, 1) := by decide +kernel
theorem dX8_calibrate_6 : decode cX8_calibrate 6 = .ok (.aload_n 2, 1) := by decide +kernel
theorem dX8_calibrate_7 : decode cX8_calibrate 7 = .ok (.getfield 131, 3) := by decide +kernel
theorem dX8_calibrate_10 : decode cX8_calibrate 10 = .ok (.astore_n 3, 1) := by decide +kernel
theorem dX8_calibrate_11 : decode cX8_calibrate 11 = .ok (.aload_n 3, 1) := by decide +kernel
theorem dX8_calibrate_12 : decode cX8_calibrate 12 = .ok (.ifnull 45, 3) := by decide +kernel
theorem dX8_calibrate_15 : decode cX8_calibrate 15 = .ok (.aload_n 0, 1) := by decide +kernel
theorem dX8_calibrate_16 : decode cX8_calibrate 16 = .ok (.getfield 25, 3) := by decide +kernel
theorem dX8_calibrate_19 : decode cX8_calibrate 19 = .ok (.aload_n 3, 1) := by decide +kernel
theorem dX8_calibrate_20 : decode cX8_calibrate 20 = .ok (.invokevirtual 135, 3) := by decide +kernel
theorem dX8_calibrate_23 : decode cX8_calibrate 23 = .ok (.astore 4, 2) := by decide +kernel
theorem dX8_calibrate_25 : decode cX8_calibrate 25 = .ok (.aload 4, 2) := by decide +kernel
theorem dX8_calibrate_27 : decode cX8_calibrate 27 = .ok (.ifnull 22, 3) := by decide +kernel
theorem dX8_calibrate_30 : decode cX8_calibrate 30 = .ok (.aload_n 2, 1) := by decide +kernel
theorem dX8_calibrate_31 : decode cX8_calibrate 31 = .ok (.aload_n 3, 1) := by decide +kernel
theorem dX8_calibrate_32 : decode cX8_calibrate 32 = .ok (.getfield 139, 3) := by decide +kernel
theorem dX8_calibrate_35 : decode cX8_calibrate 35 = .ok (.aload 4, 2) := by decide +kernel
theorem dX8_calibrate_37 : decode cX8_calibrate 37 = .ok (.getfield 139, 3) := by decide +kernel
theorem dX8_calibrate_40 : decode cX8_calibrate 40 = .ok (.isub, 1) := by decide +kernel
theorem dX8_calibrate_41 : decode cX8_calibrate 41 = .ok (.putfield 144, 3) := by decide +kernel
theorem dX8_calibrate_44 : decode cX8_calibrate 44 = .ok (.aload_n 2, 1) := by decide +kernel
theorem dX8_calibrate_45 : decode cX8_calibrate 45 = .ok (.getfield 144, 3) := by decide +kernel
theorem dX8_calibrate_48 : decode cX8_calibrate 48 = .ok (.ireturn, 1) := by decide +kernel
theorem dX8_calibrate_49 : decode cX8_calibrate 49 = .ok (.aload_n 3, 1) := by decide +kernel
theorem dX8_calibrate_50 : decode cX8_calibrate 50 = .ok (.getfield 147, 3) := by decide +kernel
theorem dX8_calibrate_53 : decode cX8_calibrate 53 = .ok (.astore_n 3, 1) := by decide +kernel
theorem dX8_calibrate_54 : decode cX8_calibrate 54 = .ok (.goto (-43), 3) := by decide +kernel
theorem dX8_calibrate_57 : decode cX8_calibrate 57 = .ok (.new 63, 3) := by decide +kernel
theorem dX8_calibrate_60 : decode cX8_calibrate 60 = .ok (.dup, 1) := by decide +kernel
theorem dX8_calibrate_61 : decode cX8_calibrate 61 = .ok (.ldc 150, 2) := by decide +kernel
theorem dX8_calibrate_63 : decode cX8_calibrate 63 = .ok (.invokespecial 67, 3) := by decide +kernel
theorem dX8_calibrate_66 : decode cX8_calibrate 66 = .ok (.athrow, 1) := by decide +kernel
theorem dX8_flag_0 : decode cX8_flag 0 = .ok (.aload_n 0, 1) := by decide +kernel
theorem dX8_flag_1 : decode cX8_flag 1 = .ok (.iload_n 1, 1) := by decide +kernel
theorem dX8_flag_2 : decode cX8_flag 2 = .ok (.invokevirtual 152, 3) := by decide +kernel
theorem dX8_flag_5 : decode cX8_flag 5 = .ok (.astore_n 3, 1) := by decide +kernel
theorem dX8_flag_6 : decode cX8_flag 6 = .ok (.iload_n 2, 1) := by decide +kernel
theorem dX8_flag_7 : decode cX8_flag 7 = .ok (.iconst (-1), 1) := by decide +kernel
theorem dX8_flag_8 : decode cX8_flag 8 = .ok (.iconst 2, 1) := by decide +kernel
theorem dX8_flag_9 : decode cX8_flag 9 = .ok (.invokestatic 74, 3) := by decide +kernel
theorem dX8_flag_12 : decode cX8_flag 12 = .ok (.aload_n 3, 1) := by decide +kernel
theorem dX8_flag_13 : decode cX8_flag 13 = .ok (.aload_n 0, 1) := by decide +kernel
theorem dX8_flag_14 : decode cX8_flag 14 = .ok (.getfield 25, 3) := by decide +kernel
theorem dX8_flag_17 : decode cX8_flag 17 = .ok (.getfield 156, 3) := by decide +kernel
theorem dX8_flag_20 : decode cX8_flag 20 = .ok (.invokevirtual 159, 3) := by decide +kernel
theorem dX8_flag_23 : decode cX8_flag 23 = .ok (.istore 4, 2) := by decide +kernel
theorem dX8_flag_25 : decode cX8_flag 25 = .ok (.aload_n 3, 1) := by decide +kernel
theorem dX8_flag_26 : decode cX8_flag 26 = .ok (.iload_n 2, 1) := by decide +kernel
theorem dX8_flag_27 : decode cX8_flag 27 = .ok (.putfield 162, 3) := by decide +kernel
theorem dX8_flag_30 : decode cX8_flag 30 = .ok (.iload 4, 2) := by decide +kernel
theorem dX8_flag_32 : decode cX8_flag 32 = .ok (.ireturn, 1) := by decide +kernel
theorem dX8_bound_0 : decode cX8_bound 0 = .ok (.iload_n 1, 1) := by decide +kernel
theorem dX8_bound_1 : decode cX8_bound 1 = .ok (.iconst 0, 1) := by decide +kernel
theorem dX8_bound_2 : decode cX8_bound 2 = .ok (.sipush 1000, 3) := by decide +kernel
theorem dX8_bound_5 : decode cX8_bound 5 = .ok (.invokestatic 74, 3) := by decide +kernel
theorem dX8_bound_8 : decode cX8_bound 8 = .ok (.aload_n 0, 1) := by decide +kernel
theorem dX8_bound_9 : decode cX8_bound 9 = .ok (.getfield 25, 3) := by decide +kernel
theorem dX8_bound_12 : decode cX8_bound 12 = .ok (.getfield 156, 3) := by decide +kernel
theorem dX8_bound_15 : decode cX8_bound 15 = .ok (.istore_n 2, 1) := by decide +kernel
theorem dX8_bound_16 : decode cX8_bound 16 = .ok (.aload_n 0, 1) := by decide +kernel
theorem dX8_bound_17 : decode cX8_bound 17 = .ok (.getfield 25, 3) := by decide +kernel
theorem dX8_bound_20 : decode cX8_bound 20 = .ok (.iload_n 1, 1) := by decide +kernel
theorem dX8_bound_21 : decode cX8_bound 21 = .ok (.putfield 156, 3) := by decide +kernel
theorem dX8_bound_24 : decode cX8_bound 24 = .ok (.iload_n 2, 1) := by decide +kernel
theorem dX8_bound_25 : decode cX8_bound 25 = .ok (.ireturn, 1) := by decide +kernel
theorem dX8_search_0 : decode cX8_search 0 = .ok (.iload_n 1, 1) := by decide +kernel
theorem dX8_search_1 : decode cX8_search 1 = .ok (.invokestatic 48, 3) := by decide +kernel
theorem dX8_search_4 : decode cX8_search 4 = .ok (.aload_n 0, 1) := by decide +kernel
theorem dX8_search_5 : decode cX8_search 5 = .ok (.getfield 165, 3) := by decide +kernel
theorem dX8_search_8 : decode cX8_search 8 = .ok (.istore_n 2, 1) := by decide +kernel
theorem dX8_search_9 : decode cX8_search 9 = .ok (.aload_n 0, 1) := by decide +kernel
theorem dX8_search_10 : decode cX8_search 10 = .ok (.getfield 12, 3) := by decide +kernel
theorem dX8_search_13 : decode cX8_search 13 = .ok (.iload_n 1, 1) := by decide +kernel
theorem dX8_search_14 : decode cX8_search 14 = .ok (.invokevirtual 56, 3) := by decide +kernel
theorem dX8_search_17 : decode cX8_search 17 = .ok (.ifCond .ne 15, 3) := by decide +kernel
theorem dX8_search_20 : decode cX8_search 20 = .ok (.iload_n 2, 1) := by decide +kernel
theorem dX8_search_21 : decode cX8_search 21 = .ok (.aload_n 0, 1) := by decide +kernel
theorem dX8_search_22 : decode cX8_search 22 = .ok (.getfield 38, 3) := by decide +kernel
theorem dX8_search_25 : decode cX8_search 25 = .ok (.arraylength, 1) := by decide +kernel
theorem dX8_search_26 : decode cX8_search 26 = .ok (.invokestatic 93, 3) := by decide +kernel
theorem dX8_search_29 : decode cX8_search 29 = .ok (.ifCond .ne 13, 3) := by decide +kernel
theorem dX8_search_32 : decode cX8_search 32 = .ok (.new 63, 3) := by decide +kernel
theorem dX8_search_35 : decode cX8_search 35 = .ok (.dup, 1) := by decide +kernel
theorem dX8_search_36 : decode cX8_search 36 = .ok (.ldc 168, 2) := by decide +kernel
theorem dX8_search_38 : decode cX8_search 38 = .ok (.invokespecial 67, 3) := by decide +kernel
theorem dX8_search_41 : decode cX8_search 41 = .ok (.athrow, 1) := by decide +kernel
theorem dX8_search_42 : decode cX8_search 42 = .ok (.aload_n 0, 1) := by decide +kernel
theorem dX8_search_43 : decode cX8_search 43 = .ok (.getfield 38, 3) := by decide +kernel
theorem dX8_search_46 : decode cX8_search 46 = .ok (.iload_n 2, 1) := by decide +kernel
theorem dX8_search_47 : decode cX8_search 47 = .ok (.new 36, 3) := by decide +kernel
theorem dX8_search_50 : decode cX8_search 50 = .ok (.dup, 1) := by decide +kernel
theorem dX8_search_51 : decode cX8_search 51 = .ok (.iload_n 1, 1) := by decide +kernel
theorem dX8_search_52 : decode cX8_search 52 = .ok (.invokespecial 170, 3) := by decide +kernel
theorem dX8_search_55 : decode cX8_search 55 = .ok (.aastore, 1) := by decide +kernel
theorem dX8_search_56 : decode cX8_search 56 = .ok (.aload_n 0, 1) := by decide +kernel
theorem dX8_search_57 : decode cX8_search 57 = .ok (.iload_n 2, 1) := by decide +kernel
theorem dX8_search_58 : decode cX8_search 58 = .ok (.iconst 1, 1) := by decide +kernel
theorem dX8_search_59 : decode cX8_search 59 = .ok (.iadd, 1) := by decide +kernel
theorem dX8_search_60 : decode cX8_search 60 = .ok (.putfield 165, 3) := by decide +kernel
theorem dX8_search_63 : decode cX8_search 63 = .ok (.iload_n 2, 1) := by decide +kernel
theorem dX8_search_64 : decode cX8_search 64 = .ok (.ireturn, 1) := by decide +kernel
theorem dX8_leg_0 : decode cX8_leg 0 = .ok (.aload_n 0, 1) := by decide +kernel
theorem dX8_leg_1 : decode cX8_leg 1 = .ok (.iload_n 1, 1) := by decide +kernel
theorem dX8_leg_2 : decode cX8_leg 2 = .ok (.invokevirtual 172, 3) := by decide +kernel
theorem dX8_leg_5 : decode cX8_leg 5 = .ok (.astore 4, 2) := by decide +kernel
theorem dX8_leg_7 : decode cX8_leg 7 = .ok (.iload_n 2, 1) := by decide +kernel
theorem dX8_leg_8 : decode cX8_leg 8 = .ok (.invokestatic 48, 3) := by decide +kernel
theorem dX8_leg_11 : decode cX8_leg 11 = .ok (.iload_n 3, 1) := by decide +kernel
theorem dX8_leg_12 : decode cX8_leg 12 = .ok (.iconst 1, 1) := by decide +kernel
theorem dX8_leg_13 : decode cX8_leg 13 = .ok (.bipush 100, 2) := by decide +kernel
theorem dX8_leg_15 : decode cX8_leg 15 = .ok (.invokestatic 74, 3) := by decide +kernel
theorem dX8_leg_18 : decode cX8_leg 18 = .ok (.aload 4, 2) := by decide +kernel
theorem dX8_leg_20 : decode cX8_leg 20 = .ok (.getfield 176, 3) := by decide +kernel
theorem dX8_leg_23 : decode cX8_leg 23 = .ok (.iload_n 2, 1) := by decide +kernel
theorem dX8_leg_24 : decode cX8_leg 24 = .ok (.iload_n 3, 1) := by decide +kernel
theorem dX8_leg_25 : decode cX8_leg 25 = .ok (.invokestatic 179, 3) := by decide +kernel
theorem dX8_leg_28 : decode cX8_leg 28 = .ok (.ireturn, 1) := by decide +kernel
theorem dX8_day_0 : decode cX8_day 0 = .ok (.aload_n 0, 1) := by decide +kernel
theorem dX8_day_1 : decode cX8_day 1 = .ok (.getfield 52, 3) := by decide +kernel
theorem dX8_day_4 : decode cX8_day 4 = .ok (.ireturn, 1) := by decide +kernel
theorem dX8_ofLayer_0 : decode cX8_ofLayer 0 = .ok (.iload_n 1, 1) := by decide +kernel
theorem dX8_ofLayer_1 : decode cX8_ofLayer 1 = .ok (.invokestatic 48, 3) := by decide +kernel
theorem dX8_ofLayer_4 : decode cX8_ofLayer 4 = .ok (.iload_n 2, 1) := by decide +kernel
theorem dX8_ofLayer_5 : decode cX8_ofLayer 5 = .ok (.iconst 0, 1) := by decide +kernel
theorem dX8_ofLayer_6 : decode cX8_ofLayer 6 = .ok (.iconst 1, 1) := by decide +kernel
theorem dX8_ofLayer_7 : decode cX8_ofLayer 7 = .ok (.invokestatic 74, 3) := by decide +kernel
theorem dX8_ofLayer_10 : decode cX8_ofLayer 10 = .ok (.iload_n 3, 1) := by decide +kernel
theorem dX8_ofLayer_11 : decode cX8_ofLayer 11 = .ok (.iconst 0, 1) := by decide +kernel
theorem dX8_ofLayer_12 : decode cX8_ofLayer 12 = .ok (.iconst 2, 1) := by decide +kernel
theorem dX8_ofLayer_13 : decode cX8_ofLayer 13 = .ok (.invokestatic 74, 3) := by decide +kernel
theorem dX8_ofLayer_16 : decode cX8_ofLayer 16 = .ok (.iload_n 2, 1) := by decide +kernel
theorem dX8_ofLayer_17 : decode cX8_ofLayer 17 = .ok (.ifCond .ne 13, 3) := by decide +kernel
theorem dX8_ofLayer_20 : decode cX8_ofLayer 20 = .ok (.aload_n 0, 1) := by decide +kernel
theorem dX8_ofLayer_21 : decode cX8_ofLayer 21 = .ok (.getfield 12, 3) := by decide +kernel
theorem dX8_ofLayer_24 : decode cX8_ofLayer 24 = .ok (.getfield 190, 3) := by decide +kernel
theorem dX8_ofLayer_27 : decode cX8_ofLayer 27 = .ok (.goto 10, 3) := by decide +kernel
theorem dX8_ofLayer_30 : decode cX8_ofLayer 30 = .ok (.aload_n 0, 1) := by decide +kernel
theorem dX8_ofLayer_31 : decode cX8_ofLayer 31 = .ok (.getfield 12, 3) := by decide +kernel
theorem dX8_ofLayer_34 : decode cX8_ofLayer 34 = .ok (.getfield 194, 3) := by decide +kernel
theorem dX8_ofLayer_37 : decode cX8_ofLayer 37 = .ok (.astore 4, 2) := by decide +kernel
theorem dX8_ofLayer_39 : decode cX8_ofLayer 39 = .ok (.iload_n 3, 1) := by decide +kernel
theorem dX8_ofLayer_40 : decode cX8_ofLayer 40 = .ok (.lookupswitch 44 #[(0, 28), (1, 36)], 28) := by decide +kernel
theorem dX8_ofLayer_68 : decode cX8_ofLayer 68 = .ok (.aload 4, 2) := by decide +kernel
theorem dX8_ofLayer_70 : decode cX8_ofLayer 70 = .ok (.getfield 197, 3) := by decide +kernel
theorem dX8_ofLayer_73 : decode cX8_ofLayer 73 = .ok (.iload_n 1, 1) := by decide +kernel
theorem dX8_ofLayer_74 : decode cX8_ofLayer 74 = .ok (.iaload, 1) := by decide +kernel
theorem dX8_ofLayer_75 : decode cX8_ofLayer 75 = .ok (.ireturn, 1) := by decide +kernel
theorem dX8_ofLayer_76 : decode cX8_ofLayer 76 = .ok (.aload 4, 2) := by decide +kernel
theorem dX8_ofLayer_78 : decode cX8_ofLayer 78 = .ok (.getfield 202, 3) := by decide +kernel
theorem dX8_ofLayer_81 : decode cX8_ofLayer 81 = .ok (.iload_n 1, 1) := by decide +kernel
theorem dX8_ofLayer_82 : decode cX8_ofLayer 82 = .ok (.iaload, 1) := by decide +kernel
theorem dX8_ofLayer_83 : decode cX8_ofLayer 83 = .ok (.ireturn, 1) := by decide +kernel
theorem dX8_ofLayer_84 : decode cX8_ofLayer 84 = .ok (.aload 4, 2) := by decide +kernel
theorem dX8_ofLayer_86 : decode cX8_ofLayer 86 = .ok (.iload_n 1, 1) := by decide +kernel
theorem dX8_ofLayer_87 : decode cX8_ofLayer 87 = .ok (.invokevirtual 205, 3) := by decide +kernel
theorem dX8_ofLayer_90 : decode cX8_ofLayer 90 = .ok (.ireturn, 1) := by decide +kernel
theorem dX8_total_0 : decode cX8_total 0 = .ok (.iload_n 1, 1) := by decide +kernel
theorem dX8_total_1 : decode cX8_total 1 = .ok (.iconst 0, 1) := by decide +kernel
theorem dX8_total_2 : decode cX8_total 2 = .ok (.iconst 2, 1) := by decide +kernel
theorem dX8_total_3 : decode cX8_total 3 = .ok (.invokestatic 74, 3) := by decide +kernel
theorem dX8_total_6 : decode cX8_total 6 = .ok (.iload_n 1, 1) := by decide +kernel
theorem dX8_total_7 : decode cX8_total 7 = .ok (.lookupswitch 81 #[(0, 25), (1, 53)], 25) := by decide +kernel
theorem dX8_total_32 : decode cX8_total 32 = .ok (.aload_n 0, 1) := by decide +kernel
theorem dX8_total_33 : decode cX8_total 33 = .ok (.getfield 12, 3) := by decide +kernel
theorem dX8_total_36 : decode cX8_total 36 = .ok (.getfield 190, 3) := by decide +kernel
theorem dX8_total_39 : decode cX8_total 39 = .ok (.getfield 197, 3) := by decide +kernel
theorem dX8_total_42 : decode cX8_total 42 = .ok (.invokestatic 208, 3) := by decide +kernel
theorem dX8_total_45 : decode cX8_total 45 = .ok (.aload_n 0, 1) := by decide +kernel
theorem dX8_total_46 : decode cX8_total 46 = .ok (.getfield 12, 3) := by decide +kernel
theorem dX8_total_49 : decode cX8_total 49 = .ok (.getfield 194, 3) := by decide +kernel
theorem dX8_total_52 : decode cX8_total 52 = .ok (.getfield 197, 3) := by decide +kernel
theorem dX8_total_55 : decode cX8_total 55 = .ok (.invokestatic 208, 3) := by decide +kernel
theorem dX8_total_58 : decode cX8_total 58 = .ok (.iadd, 1) := by decide +kernel
theorem dX8_total_59 : decode cX8_total 59 = .ok (.ireturn, 1) := by decide +kernel
theorem dX8_total_60 : decode cX8_total 60 = .ok (.aload_n 0, 1) := by decide +kernel
theorem dX8_total_61 : decode cX8_total 61 = .ok (.getfield 12, 3) := by decide +kernel
theorem dX8_total_64 : decode cX8_total 64 = .ok (.getfield 190, 3) := by decide +kernel
theorem dX8_total_67 : decode cX8_total 67 = .ok (.getfield 202, 3) := by decide +kernel
theorem dX8_total_70 : decode cX8_total 70 = .ok (.invokestatic 208, 3) := by decide +kernel
theorem dX8_total_73 : decode cX8_total 73 = .ok (.aload_n 0, 1) := by decide +kernel
theorem dX8_total_74 : decode cX8_total 74 = .ok (.getfield 12, 3) := by decide +kernel
theorem dX8_total_77 : decode cX8_total 77 = .ok (.getfield 194, 3) := by decide +kernel
theorem dX8_total_80 : decode cX8_total 80 = .ok (.getfield 202, 3) := by decide +kernel
theorem dX8_total_83 : decode cX8_total 83 = .ok (.invokestatic 208, 3) := by decide +kernel
theorem dX8_total_86 : decode cX8_total 86 = .ok (.iadd, 1) := by decide +kernel
theorem dX8_total_87 : decode cX8_total 87 = .ok (.ireturn, 1) := by decide +kernel
theorem dX8_total_88 : decode cX8_total 88 = .ok (.aload_n 0, 1) := by decide +kernel
theorem dX8_total_89 : decode cX8_total 89 = .ok (.getfield 12, 3) := by decide +kernel
theorem dX8_total_92 : decode cX8_total 92 = .ok (.getfield 212, 3) := by decide +kernel
theorem dX8_total_95 : decode cX8_total 95 = .ok (.ireturn, 1) := by decide +kernel
theorem dX8_ofFloat_0 : decode cX8_ofFloat 0 = .ok (.aload_n 0, 1) := by decide +kernel
theorem dX8_ofFloat_1 : decode cX8_ofFloat 1 = .ok (.iload_n 1, 1) := by decide +kernel
theorem dX8_ofFloat_2 : decode cX8_ofFloat 2 = .ok (.invokevirtual 127, 3) := by decide +kernel
theorem dX8_ofFloat_5 : decode cX8_ofFloat 5 = .ok (.astore_n 3, 1) := by decide +kernel
theorem dX8_ofFloat_6 : decode cX8_ofFloat 6 = .ok (.iload_n 2, 1) := by decide +kernel
theorem dX8_ofFloat_7 : decode cX8_ofFloat 7 = .ok (.iconst 0, 1) := by decide +kernel
theorem dX8_ofFloat_8 : decode cX8_ofFloat 8 = .ok (.iconst 4, 1) := by decide +kernel
theorem dX8_ofFloat_9 : decode cX8_ofFloat 9 = .ok (.invokestatic 74, 3) := by decide +kernel
theorem dX8_ofFloat_12 : decode cX8_ofFloat 12 = .ok (.iload_n 2, 1) := by decide +kernel
theorem dX8_ofFloat_13 : decode cX8_ofFloat 13 = .ok (.tableswitch 51 0 3 #[31, 36, 41, 46], 31) := by decide +kernel
theorem dX8_ofFloat_44 : decode cX8_ofFloat 44 = .ok (.aload_n 3, 1) := by decide +kernel
theorem dX8_ofFloat_45 : decode cX8_ofFloat 45 = .ok (.getfield 215, 3) := by decide +kernel
theorem dX8_ofFloat_48 : decode cX8_ofFloat 48 = .ok (.ireturn, 1) := by decide +kernel
theorem dX8_ofFloat_49 : decode cX8_ofFloat 49 = .ok (.aload_n 3, 1) := by decide +kernel
theorem dX8_ofFloat_50 : decode cX8_ofFloat 50 = .ok (.getfield 218, 3) := by decide +kernel
theorem dX8_ofFloat_53 : decode cX8_ofFloat 53 = .ok (.ireturn, 1) := by decide +kernel
theorem dX8_ofFloat_54 : decode cX8_ofFloat 54 = .ok (.aload_n 3, 1) := by decide +kernel
theorem dX8_ofFloat_55 : decode cX8_ofFloat 55 = .ok (.getfield 221, 3) := by decide +kernel
theorem dX8_ofFloat_58 : decode cX8_ofFloat 58 = .ok (.ireturn, 1) := by decide +kernel
theorem dX8_ofFloat_59 : decode cX8_ofFloat 59 = .ok (.aload_n 3, 1) := by decide +kernel
theorem dX8_ofFloat_60 : decode cX8_ofFloat 60 = .ok (.getfield 144, 3) := by decide +kernel
theorem dX8_ofFloat_63 : decode cX8_ofFloat 63 = .ok (.ireturn, 1) := by decide +kernel
theorem dX8_ofFloat_64 : decode cX8_ofFloat 64 = .ok (.aload_n 3, 1) := by decide +kernel
theorem dX8_ofFloat_65 : decode cX8_ofFloat 65 = .ok (.getfield 224, 3) := by decide +kernel
theorem dX8_ofFloat_68 : decode cX8_ofFloat 68 = .ok (.ireturn, 1) := by decide +kernel
theorem dX8_stations_0 : decode cX8_stations 0 = .ok (.aload_n 0, 1) := by decide +kernel
theorem dX8_stations_1 : decode cX8_stations 1 = .ok (.getfield 32, 3) := by decide +kernel
theorem dX8_stations_4 : decode cX8_stations 4 = .ok (.getfield 227, 3) := by decide +kernel
theorem dX8_stations_7 : decode cX8_stations 7 = .ok (.ireturn, 1) := by decide +kernel
theorem dX8_readings_0 : decode cX8_readings 0 = .ok (.aload_n 0, 1) := by decide +kernel
theorem dX8_readings_1 : decode cX8_readings 1 = .ok (.getfield 25, 3) := by decide +kernel
theorem dX8_readings_4 : decode cX8_readings 4 = .ok (.getfield 230, 3) := by decide +kernel
theorem dX8_readings_7 : decode cX8_readings 7 = .ok (.ireturn, 1) := by decide +kernel
theorem dX8_ofReading_0 : decode cX8_ofReading 0 = .ok (.aload_n 0, 1) := by decide +kernel
theorem dX8_ofReading_1 : decode cX8_ofReading 1 = .ok (.iload_n 1, 1) := by decide +kernel
theorem dX8_ofReading_2 : decode cX8_ofReading 2 = .ok (.invokevirtual 152, 3) := by decide +kernel
theorem dX8_ofReading_5 : decode cX8_ofReading 5 = .ok (.astore_n 3, 1) := by decide +kernel
theorem dX8_ofReading_6 : decode cX8_ofReading 6 = .ok (.iload_n 2, 1) := by decide +kernel
theorem dX8_ofReading_7 : decode cX8_ofReading 7 = .ok (.iconst 0, 1) := by decide +kernel
theorem dX8_ofReading_8 : decode cX8_ofReading 8 = .ok (.iconst 5, 1) := by decide +kernel
theorem dX8_ofReading_9 : decode cX8_ofReading 9 = .ok (.invokestatic 74, 3) := by decide +kernel
theorem dX8_ofReading_12 : decode cX8_ofReading 12 = .ok (.iload_n 2, 1) := by decide +kernel
theorem dX8_ofReading_13 : decode cX8_ofReading 13 = .ok (.tableswitch 67 0 4 #[35, 40, 45, 50, 55], 35) := by decide +kernel
theorem dX8_ofReading_48 : decode cX8_ofReading 48 = .ok (.aload_n 3, 1) := by decide +kernel
theorem dX8_ofReading_49 : decode cX8_ofReading 49 = .ok (.getfield 233, 3) := by decide +kernel
theorem dX8_ofReading_52 : decode cX8_ofReading 52 = .ok (.ireturn, 1) := by decide +kernel
theorem dX8_ofReading_53 : decode cX8_ofReading 53 = .ok (.aload_n 3, 1) := by decide +kernel
theorem dX8_ofReading_54 : decode cX8_ofReading 54 = .ok (.getfield 236, 3) := by decide +kernel
theorem dX8_ofReading_57 : decode cX8_ofReading 57 = .ok (.ireturn, 1) := by decide +kernel
theorem dX8_ofReading_58 : decode cX8_ofReading 58 = .ok (.aload_n 3, 1) := by decide +kernel
theorem dX8_ofReading_59 : decode cX8_ofReading 59 = .ok (.getfield 139, 3) := by decide +kernel
theorem dX8_ofReading_62 : decode cX8_ofReading 62 = .ok (.ireturn, 1) := by decide +kernel
theorem dX8_ofReading_63 : decode cX8_ofReading 63 = .ok (.aload_n 3, 1) := by decide +kernel
theorem dX8_ofReading_64 : decode cX8_ofReading 64 = .ok (.invokevirtual 237, 3) := by decide +kernel
theorem dX8_ofReading_67 : decode cX8_ofReading 67 = .ok (.ireturn, 1) := by decide +kernel
theorem dX8_ofReading_68 : decode cX8_ofReading 68 = .ok (.aload_n 3, 1) := by decide +kernel
theorem dX8_ofReading_69 : decode cX8_ofReading 69 = .ok (.aload_n 0, 1) := by decide +kernel
theorem dX8_ofReading_70 : decode cX8_ofReading 70 = .ok (.getfield 25, 3) := by decide +kernel
theorem dX8_ofReading_73 : decode cX8_ofReading 73 = .ok (.getfield 156, 3) := by decide +kernel
theorem dX8_ofReading_76 : decode cX8_ofReading 76 = .ok (.invokevirtual 159, 3) := by decide +kernel
theorem dX8_ofReading_79 : decode cX8_ofReading 79 = .ok (.ireturn, 1) := by decide +kernel
theorem dX8_ofReading_80 : decode cX8_ofReading 80 = .ok (.aload_n 3, 1) := by decide +kernel
theorem dX8_ofReading_81 : decode cX8_ofReading 81 = .ok (.getfield 241, 3) := by decide +kernel
theorem dX8_ofReading_84 : decode cX8_ofReading 84 = .ok (.ifnonnull 7, 3) := by decide +kernel
theorem dX8_ofReading_87 : decode cX8_ofReading 87 = .ok (.iconst (-1), 1) := by decide +kernel
theorem dX8_ofReading_88 : decode cX8_ofReading 88 = .ok (.goto 10, 3) := by decide +kernel
theorem dX8_ofReading_91 : decode cX8_ofReading 91 = .ok (.aload_n 3, 1) := by decide +kernel
theorem dX8_ofReading_92 : decode cX8_ofReading 92 = .ok (.getfield 241, 3) := by decide +kernel
theorem dX8_ofReading_95 : decode cX8_ofReading 95 = .ok (.getfield 245, 3) := by decide +kernel
theorem dX8_ofReading_98 : decode cX8_ofReading 98 = .ok (.ireturn, 1) := by decide +kernel
theorem dX8_mean_0 : decode cX8_mean 0 = .ok (.iload_n 1, 1) := by decide +kernel
theorem dX8_mean_1 : decode cX8_mean 1 = .ok (.iload_n 2, 1) := by decide +kernel
theorem dX8_mean_2 : decode cX8_mean 2 = .ok (.iload_n 3, 1) := by decide +kernel
theorem dX8_mean_3 : decode cX8_mean 3 = .ok (.invokestatic 248, 3) := by decide +kernel
theorem dX8_mean_6 : decode cX8_mean 6 = .ok (.aload_n 0, 1) := by decide +kernel
theorem dX8_mean_7 : decode cX8_mean 7 = .ok (.iload_n 1, 1) := by decide +kernel
theorem dX8_mean_8 : decode cX8_mean 8 = .ok (.invokevirtual 251, 3) := by decide +kernel
theorem dX8_mean_11 : decode cX8_mean 11 = .ok (.aload_n 0, 1) := by decide +kernel
theorem dX8_mean_12 : decode cX8_mean 12 = .ok (.aconst_null, 1) := by decide +kernel
theorem dX8_mean_13 : decode cX8_mean 13 = .ok (.iload_n 1, 1) := by decide +kernel
theorem dX8_mean_14 : decode cX8_mean 14 = .ok (.iload_n 2, 1) := by decide +kernel
theorem dX8_mean_15 : decode cX8_mean 15 = .ok (.iload_n 3, 1) := by decide +kernel
theorem dX8_mean_16 : decode cX8_mean 16 = .ok (.invokevirtual 254, 3) := by decide +kernel
theorem dX8_mean_19 : decode cX8_mean 19 = .ok (.ireturn, 1) := by decide +kernel
theorem dX8_error_0 : decode cX8_error 0 = .ok (.iload_n 1, 1) := by decide +kernel
theorem dX8_error_1 : decode cX8_error 1 = .ok (.iload_n 2, 1) := by decide +kernel
theorem dX8_error_2 : decode cX8_error 2 = .ok (.iload_n 3, 1) := by decide +kernel
