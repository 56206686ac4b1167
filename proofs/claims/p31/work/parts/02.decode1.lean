theorem dX8_error_3 : decode cX8_error 3 = .ok (.invokestatic 248, 3) := by decide +kernel
theorem dX8_error_6 : decode cX8_error 6 = .ok (.aload_n 0, 1) := by decide +kernel
theorem dX8_error_7 : decode cX8_error 7 = .ok (.iload_n 1, 1) := by decide +kernel
theorem dX8_error_8 : decode cX8_error 8 = .ok (.invokevirtual 251, 3) := by decide +kernel
theorem dX8_error_11 : decode cX8_error 11 = .ok (.iconst 1, 1) := by decide +kernel
theorem dX8_error_12 : decode cX8_error 12 = .ok (.aload_n 0, 1) := by decide +kernel
theorem dX8_error_13 : decode cX8_error 13 = .ok (.getfield 25, 3) := by decide +kernel
theorem dX8_error_16 : decode cX8_error 16 = .ok (.aconst_null, 1) := by decide +kernel
theorem dX8_error_17 : decode cX8_error 17 = .ok (.iload_n 1, 1) := by decide +kernel
theorem dX8_error_18 : decode cX8_error 18 = .ok (.iload_n 2, 1) := by decide +kernel
theorem dX8_error_19 : decode cX8_error 19 = .ok (.iload_n 3, 1) := by decide +kernel
theorem dX8_error_20 : decode cX8_error 20 = .ok (.invokevirtual 258, 3) := by decide +kernel
theorem dX8_error_23 : decode cX8_error 23 = .ok (.iadd, 1) := by decide +kernel
theorem dX8_error_24 : decode cX8_error 24 = .ok (.istore 4, 2) := by decide +kernel
theorem dX8_error_26 : decode cX8_error 26 = .ok (.iload 4, 2) := by decide +kernel
theorem dX8_error_28 : decode cX8_error 28 = .ok (.ifCond .le 12, 3) := by decide +kernel
theorem dX8_error_31 : decode cX8_error 31 = .ok (.sipush 1000, 3) := by decide +kernel
theorem dX8_error_34 : decode cX8_error 34 = .ok (.iload 4, 2) := by decide +kernel
theorem dX8_error_36 : decode cX8_error 36 = .ok (.idiv, 1) := by decide +kernel
theorem dX8_error_37 : decode cX8_error 37 = .ok (.goto 4, 3) := by decide +kernel
theorem dX8_error_40 : decode cX8_error 40 = .ok (.iconst 0, 1) := by decide +kernel
theorem dX8_error_41 : decode cX8_error 41 = .ok (.ireturn, 1) := by decide +kernel
theorem dX8_residual_0 : decode cX8_residual 0 = .ok (.aload_n 0, 1) := by decide +kernel
theorem dX8_residual_1 : decode cX8_residual 1 = .ok (.iload_n 1, 1) := by decide +kernel
theorem dX8_residual_2 : decode cX8_residual 2 = .ok (.invokevirtual 152, 3) := by decide +kernel
theorem dX8_residual_5 : decode cX8_residual 5 = .ok (.astore_n 3, 1) := by decide +kernel
theorem dX8_residual_6 : decode cX8_residual 6 = .ok (.iload_n 2, 1) := by decide +kernel
theorem dX8_residual_7 : decode cX8_residual 7 = .ok (.iconst 0, 1) := by decide +kernel
theorem dX8_residual_8 : decode cX8_residual 8 = .ok (.sipush 1000, 3) := by decide +kernel
theorem dX8_residual_11 : decode cX8_residual 11 = .ok (.invokestatic 74, 3) := by decide +kernel
theorem dX8_residual_14 : decode cX8_residual 14 = .ok (.aload_n 3, 1) := by decide +kernel
theorem dX8_residual_15 : decode cX8_residual 15 = .ok (.invokevirtual 237, 3) := by decide +kernel
theorem dX8_residual_18 : decode cX8_residual 18 = .ok (.aload_n 0, 1) := by decide +kernel
theorem dX8_residual_19 : decode cX8_residual 19 = .ok (.aload_n 3, 1) := by decide +kernel
theorem dX8_residual_20 : decode cX8_residual 20 = .ok (.aload_n 3, 1) := by decide +kernel
theorem dX8_residual_21 : decode cX8_residual 21 = .ok (.getfield 236, 3) := by decide +kernel
theorem dX8_residual_24 : decode cX8_residual 24 = .ok (.aload_n 3, 1) := by decide +kernel
theorem dX8_residual_25 : decode cX8_residual 25 = .ok (.getfield 233, 3) := by decide +kernel
theorem dX8_residual_28 : decode cX8_residual 28 = .ok (.iload_n 2, 1) := by decide +kernel
theorem dX8_residual_29 : decode cX8_residual 29 = .ok (.invokevirtual 254, 3) := by decide +kernel
theorem dX8_residual_32 : decode cX8_residual 32 = .ok (.isub, 1) := by decide +kernel
theorem dX8_residual_33 : decode cX8_residual 33 = .ok (.ireturn, 1) := by decide +kernel
theorem dX8_chance_0 : decode cX8_chance 0 = .ok (.aload_n 0, 1) := by decide +kernel
theorem dX8_chance_1 : decode cX8_chance 1 = .ok (.iload_n 1, 1) := by decide +kernel
theorem dX8_chance_2 : decode cX8_chance 2 = .ok (.invokevirtual 172, 3) := by decide +kernel
theorem dX8_chance_5 : decode cX8_chance 5 = .ok (.astore_n 3, 1) := by decide +kernel
theorem dX8_chance_6 : decode cX8_chance 6 = .ok (.iload_n 2, 1) := by decide +kernel
theorem dX8_chance_7 : decode cX8_chance 7 = .ok (.invokestatic 48, 3) := by decide +kernel
theorem dX8_chance_10 : decode cX8_chance 10 = .ok (.aload_n 3, 1) := by decide +kernel
theorem dX8_chance_11 : decode cX8_chance 11 = .ok (.getfield 176, 3) := by decide +kernel
theorem dX8_chance_14 : decode cX8_chance 14 = .ok (.iload_n 2, 1) := by decide +kernel
theorem dX8_chance_15 : decode cX8_chance 15 = .ok (.iaload, 1) := by decide +kernel
theorem dX8_chance_16 : decode cX8_chance 16 = .ok (.ireturn, 1) := by decide +kernel
theorem dX8_best_0 : decode cX8_best 0 = .ok (.aload_n 0, 1) := by decide +kernel
theorem dX8_best_1 : decode cX8_best 1 = .ok (.iload_n 1, 1) := by decide +kernel
theorem dX8_best_2 : decode cX8_best 2 = .ok (.invokevirtual 172, 3) := by decide +kernel
theorem dX8_best_5 : decode cX8_best 5 = .ok (.getfield 176, 3) := by decide +kernel
theorem dX8_best_8 : decode cX8_best 8 = .ok (.invokestatic 261, 3) := by decide +kernel
theorem dX8_best_11 : decode cX8_best 11 = .ok (.ireturn, 1) := by decide +kernel
theorem dX8_plan_0 : decode cX8_plan 0 = .ok (.aload_n 0, 1) := by decide +kernel
theorem dX8_plan_1 : decode cX8_plan 1 = .ok (.iload_n 1, 1) := by decide +kernel
theorem dX8_plan_2 : decode cX8_plan 2 = .ok (.invokevirtual 172, 3) := by decide +kernel
theorem dX8_plan_5 : decode cX8_plan 5 = .ok (.astore 4, 2) := by decide +kernel
theorem dX8_plan_7 : decode cX8_plan 7 = .ok (.iload_n 2, 1) := by decide +kernel
theorem dX8_plan_8 : decode cX8_plan 8 = .ok (.iconst 1, 1) := by decide +kernel
theorem dX8_plan_9 : decode cX8_plan 9 = .ok (.bipush 20, 2) := by decide +kernel
theorem dX8_plan_11 : decode cX8_plan 11 = .ok (.invokestatic 74, 3) := by decide +kernel
theorem dX8_plan_14 : decode cX8_plan 14 = .ok (.iload_n 3, 1) := by decide +kernel
theorem dX8_plan_15 : decode cX8_plan 15 = .ok (.iconst 1, 1) := by decide +kernel
theorem dX8_plan_16 : decode cX8_plan 16 = .ok (.bipush 100, 2) := by decide +kernel
theorem dX8_plan_18 : decode cX8_plan 18 = .ok (.invokestatic 74, 3) := by decide +kernel
theorem dX8_plan_21 : decode cX8_plan 21 = .ok (.aload 4, 2) := by decide +kernel
theorem dX8_plan_23 : decode cX8_plan 23 = .ok (.iload_n 2, 1) := by decide +kernel
theorem dX8_plan_24 : decode cX8_plan 24 = .ok (.iload_n 3, 1) := by decide +kernel
theorem dX8_plan_25 : decode cX8_plan 25 = .ok (.invokevirtual 264, 3) := by decide +kernel
theorem dX8_plan_28 : decode cX8_plan 28 = .ok (.ireturn, 1) := by decide +kernel
theorem dX8_isIndex_0 : decode cX8_isIndex 0 = .ok (.iload_n 0, 1) := by decide +kernel
theorem dX8_isIndex_1 : decode cX8_isIndex 1 = .ok (.ifCond .lt 12, 3) := by decide +kernel
theorem dX8_isIndex_4 : decode cX8_isIndex 4 = .ok (.iload_n 0, 1) := by decide +kernel
theorem dX8_isIndex_5 : decode cX8_isIndex 5 = .ok (.iload_n 1, 1) := by decide +kernel
theorem dX8_isIndex_6 : decode cX8_isIndex 6 = .ok (.if_icmp .ge 7, 3) := by decide +kernel
theorem dX8_isIndex_9 : decode cX8_isIndex 9 = .ok (.iconst 1, 1) := by decide +kernel
theorem dX8_isIndex_10 : decode cX8_isIndex 10 = .ok (.goto 4, 3) := by decide +kernel
theorem dX8_isIndex_13 : decode cX8_isIndex 13 = .ok (.iconst 0, 1) := by decide +kernel
theorem dX8_isIndex_14 : decode cX8_isIndex 14 = .ok (.ireturn, 1) := by decide +kernel
theorem dX8_isCell_0 : decode cX8_isCell 0 = .ok (.iload_n 0, 1) := by decide +kernel
theorem dX8_isCell_1 : decode cX8_isCell 1 = .ok (.ifCond .lt 13, 3) := by decide +kernel
theorem dX8_isCell_4 : decode cX8_isCell 4 = .ok (.iload_n 0, 1) := by decide +kernel
theorem dX8_isCell_5 : decode cX8_isCell 5 = .ok (.bipush 60, 2) := by decide +kernel
theorem dX8_isCell_7 : decode cX8_isCell 7 = .ok (.if_icmp .ge 7, 3) := by decide +kernel
theorem dX8_isCell_10 : decode cX8_isCell 10 = .ok (.iconst 1, 1) := by decide +kernel
theorem dX8_isCell_11 : decode cX8_isCell 11 = .ok (.goto 4, 3) := by decide +kernel
theorem dX8_isCell_14 : decode cX8_isCell 14 = .ok (.iconst 0, 1) := by decide +kernel
theorem dX8_isCell_15 : decode cX8_isCell 15 = .ok (.ireturn, 1) := by decide +kernel
theorem dX8_needCell_0 : decode cX8_needCell 0 = .ok (.iload_n 0, 1) := by decide +kernel
theorem dX8_needCell_1 : decode cX8_needCell 1 = .ok (.invokestatic 276, 3) := by decide +kernel
theorem dX8_needCell_4 : decode cX8_needCell 4 = .ok (.ifCond .ne 14, 3) := by decide +kernel
theorem dX8_needCell_7 : decode cX8_needCell 7 = .ok (.new 279, 3) := by decide +kernel
theorem dX8_needCell_10 : decode cX8_needCell 10 = .ok (.dup, 1) := by decide +kernel
theorem dX8_needCell_11 : decode cX8_needCell 11 = .ok (.ldc_w 281, 3) := by decide +kernel
theorem dX8_needCell_14 : decode cX8_needCell 14 = .ok (.invokespecial 283, 3) := by decide +kernel
theorem dX8_needCell_17 : decode cX8_needCell 17 = .ok (.athrow, 1) := by decide +kernel
theorem dX8_needCell_18 : decode cX8_needCell 18 = .ok (.return_, 1) := by decide +kernel
theorem dX8_needRange_0 : decode cX8_needRange 0 = .ok (.iload_n 0, 1) := by decide +kernel
theorem dX8_needRange_1 : decode cX8_needRange 1 = .ok (.iload_n 1, 1) := by decide +kernel
theorem dX8_needRange_2 : decode cX8_needRange 2 = .ok (.if_icmp .lt 8, 3) := by decide +kernel
theorem dX8_needRange_5 : decode cX8_needRange 5 = .ok (.iload_n 0, 1) := by decide +kernel
theorem dX8_needRange_6 : decode cX8_needRange 6 = .ok (.iload_n 2, 1) := by decide +kernel
theorem dX8_needRange_7 : decode cX8_needRange 7 = .ok (.if_icmp .le 14, 3) := by decide +kernel
theorem dX8_needRange_10 : decode cX8_needRange 10 = .ok (.new 284, 3) := by decide +kernel
theorem dX8_needRange_13 : decode cX8_needRange 13 = .ok (.dup, 1) := by decide +kernel
theorem dX8_needRange_14 : decode cX8_needRange 14 = .ok (.ldc_w 286, 3) := by decide +kernel
theorem dX8_needRange_17 : decode cX8_needRange 17 = .ok (.invokespecial 288, 3) := by decide +kernel
theorem dX8_needRange_20 : decode cX8_needRange 20 = .ok (.athrow, 1) := by decide +kernel
theorem dX8_needRange_21 : decode cX8_needRange 21 = .ok (.return_, 1) := by decide +kernel
theorem dX8_needMap_0 : decode cX8_needMap 0 = .ok (.iload_n 0, 1) := by decide +kernel
theorem dX8_needMap_1 : decode cX8_needMap 1 = .ok (.invokestatic 48, 3) := by decide +kernel
theorem dX8_needMap_4 : decode cX8_needMap 4 = .ok (.iload_n 1, 1) := by decide +kernel
theorem dX8_needMap_5 : decode cX8_needMap 5 = .ok (.iconst 0, 1) := by decide +kernel
theorem dX8_needMap_6 : decode cX8_needMap 6 = .ok (.sipush 1000, 3) := by decide +kernel
theorem dX8_needMap_9 : decode cX8_needMap 9 = .ok (.invokestatic 74, 3) := by decide +kernel
theorem dX8_needMap_12 : decode cX8_needMap 12 = .ok (.iload_n 2, 1) := by decide +kernel
theorem dX8_needMap_13 : decode cX8_needMap 13 = .ok (.iconst 0, 1) := by decide +kernel
theorem dX8_needMap_14 : decode cX8_needMap 14 = .ok (.sipush 1000, 3) := by decide +kernel
theorem dX8_needMap_17 : decode cX8_needMap 17 = .ok (.invokestatic 74, 3) := by decide +kernel
theorem dX8_needMap_20 : decode cX8_needMap 20 = .ok (.return_, 1) := by decide +kernel
theorem dX8_needSea_0 : decode cX8_needSea 0 = .ok (.aload_n 0, 1) := by decide +kernel
theorem dX8_needSea_1 : decode cX8_needSea 1 = .ok (.getfield 12, 3) := by decide +kernel
theorem dX8_needSea_4 : decode cX8_needSea 4 = .ok (.iload_n 1, 1) := by decide +kernel
theorem dX8_needSea_5 : decode cX8_needSea 5 = .ok (.invokevirtual 56, 3) := by decide +kernel
theorem dX8_needSea_8 : decode cX8_needSea 8 = .ok (.ifCond .eq 14, 3) := by decide +kernel
theorem dX8_needSea_11 : decode cX8_needSea 11 = .ok (.new 63, 3) := by decide +kernel
theorem dX8_needSea_14 : decode cX8_needSea 14 = .ok (.dup, 1) := by decide +kernel
theorem dX8_needSea_15 : decode cX8_needSea 15 = .ok (.ldc_w 289, 3) := by decide +kernel
theorem dX8_needSea_18 : decode cX8_needSea 18 = .ok (.invokespecial 67, 3) := by decide +kernel
theorem dX8_needSea_21 : decode cX8_needSea 21 = .ok (.athrow, 1) := by decide +kernel
theorem dX8_needSea_22 : decode cX8_needSea 22 = .ok (.return_, 1) := by decide +kernel
theorem dX8_buoyNumbered_0 : decode cX8_buoyNumbered 0 = .ok (.iload_n 1, 1) := by decide +kernel
theorem dX8_buoyNumbered_1 : decode cX8_buoyNumbered 1 = .ok (.aload_n 0, 1) := by decide +kernel
theorem dX8_buoyNumbered_2 : decode cX8_buoyNumbered 2 = .ok (.getfield 18, 3) := by decide +kernel
theorem dX8_buoyNumbered_5 : decode cX8_buoyNumbered 5 = .ok (.arraylength, 1) := by decide +kernel
theorem dX8_buoyNumbered_6 : decode cX8_buoyNumbered 6 = .ok (.invokestatic 93, 3) := by decide +kernel
theorem dX8_buoyNumbered_9 : decode cX8_buoyNumbered 9 = .ok (.ifCond .eq 12, 3) := by decide +kernel
theorem dX8_buoyNumbered_12 : decode cX8_buoyNumbered 12 = .ok (.aload_n 0, 1) := by decide +kernel
theorem dX8_buoyNumbered_13 : decode cX8_buoyNumbered 13 = .ok (.getfield 18, 3) := by decide +kernel
theorem dX8_buoyNumbered_16 : decode cX8_buoyNumbered 16 = .ok (.iload_n 1, 1) := by decide +kernel
theorem dX8_buoyNumbered_17 : decode cX8_buoyNumbered 17 = .ok (.aaload, 1) := by decide +kernel
theorem dX8_buoyNumbered_18 : decode cX8_buoyNumbered 18 = .ok (.goto 4, 3) := by decide +kernel
theorem dX8_buoyNumbered_21 : decode cX8_buoyNumbered 21 = .ok (.aconst_null, 1) := by decide +kernel
theorem dX8_buoyNumbered_22 : decode cX8_buoyNumbered 22 = .ok (.astore_n 2, 1) := by decide +kernel
theorem dX8_buoyNumbered_23 : decode cX8_buoyNumbered 23 = .ok (.aload_n 2, 1) := by decide +kernel
theorem dX8_buoyNumbered_24 : decode cX8_buoyNumbered 24 = .ok (.ifnonnull 14, 3) := by decide +kernel
theorem dX8_buoyNumbered_27 : decode cX8_buoyNumbered 27 = .ok (.new 279, 3) := by decide +kernel
theorem dX8_buoyNumbered_30 : decode cX8_buoyNumbered 30 = .ok (.dup, 1) := by decide +kernel
theorem dX8_buoyNumbered_31 : decode cX8_buoyNumbered 31 = .ok (.ldc_w 291, 3) := by decide +kernel
theorem dX8_buoyNumbered_34 : decode cX8_buoyNumbered 34 = .ok (.invokespecial 283, 3) := by decide +kernel
theorem dX8_buoyNumbered_37 : decode cX8_buoyNumbered 37 = .ok (.athrow, 1) := by decide +kernel
theorem dX8_buoyNumbered_38 : decode cX8_buoyNumbered 38 = .ok (.aload_n 2, 1) := by decide +kernel
theorem dX8_buoyNumbered_39 : decode cX8_buoyNumbered 39 = .ok (.areturn, 1) := by decide +kernel
theorem dX8_readingNumbered_0 : decode cX8_readingNumbered 0 = .ok (.iload_n 1, 1) := by decide +kernel
theorem dX8_readingNumbered_1 : decode cX8_readingNumbered 1 = .ok (.aload_n 0, 1) := by decide +kernel
theorem dX8_readingNumbered_2 : decode cX8_readingNumbered 2 = .ok (.getfield 25, 3) := by decide +kernel
theorem dX8_readingNumbered_5 : decode cX8_readingNumbered 5 = .ok (.getfield 293, 3) := by decide +kernel
theorem dX8_readingNumbered_8 : decode cX8_readingNumbered 8 = .ok (.arraylength, 1) := by decide +kernel
theorem dX8_readingNumbered_9 : decode cX8_readingNumbered 9 = .ok (.invokestatic 93, 3) := by decide +kernel
theorem dX8_readingNumbered_12 : decode cX8_readingNumbered 12 = .ok (.ifCond .eq 15, 3) := by decide +kernel
theorem dX8_readingNumbered_15 : decode cX8_readingNumbered 15 = .ok (.aload_n 0, 1) := by decide +kernel
theorem dX8_readingNumbered_16 : decode cX8_readingNumbered 16 = .ok (.getfield 25, 3) := by decide +kernel
theorem dX8_readingNumbered_19 : decode cX8_readingNumbered 19 = .ok (.getfield 293, 3) := by decide +kernel
theorem dX8_readingNumbered_22 : decode cX8_readingNumbered 22 = .ok (.iload_n 1, 1) := by decide +kernel
theorem dX8_readingNumbered_23 : decode cX8_readingNumbered 23 = .ok (.aaload, 1) := by decide +kernel
theorem dX8_readingNumbered_24 : decode cX8_readingNumbered 24 = .ok (.goto 4, 3) := by decide +kernel
theorem dX8_readingNumbered_27 : decode cX8_readingNumbered 27 = .ok (.aconst_null, 1) := by decide +kernel
theorem dX8_readingNumbered_28 : decode cX8_readingNumbered 28 = .ok (.astore_n 2, 1) := by decide +kernel
theorem dX8_readingNumbered_29 : decode cX8_readingNumbered 29 = .ok (.aload_n 2, 1) := by decide +kernel
theorem dX8_readingNumbered_30 : decode cX8_readingNumbered 30 = .ok (.ifnonnull 14, 3) := by decide +kernel
theorem dX8_readingNumbered_33 : decode cX8_readingNumbered 33 = .ok (.new 279, 3) := by decide +kernel
theorem dX8_readingNumbered_36 : decode cX8_readingNumbered 36 = .ok (.dup, 1) := by decide +kernel
theorem dX8_readingNumbered_37 : decode cX8_readingNumbered 37 = .ok (.ldc_w 297, 3) := by decide +kernel
theorem dX8_readingNumbered_40 : decode cX8_readingNumbered 40 = .ok (.invokespecial 283, 3) := by decide +kernel
theorem dX8_readingNumbered_43 : decode cX8_readingNumbered 43 = .ok (.athrow, 1) := by decide +kernel
theorem dX8_readingNumbered_44 : decode cX8_readingNumbered 44 = .ok (.aload_n 2, 1) := by decide +kernel
theorem dX8_readingNumbered_45 : decode cX8_readingNumbered 45 = .ok (.areturn, 1) := by decide +kernel
theorem dX8_searchNumbered_0 : decode cX8_searchNumbered 0 = .ok (.iload_n 1, 1) := by decide +kernel
theorem dX8_searchNumbered_1 : decode cX8_searchNumbered 1 = .ok (.aload_n 0, 1) := by decide +kernel
theorem dX8_searchNumbered_2 : decode cX8_searchNumbered 2 = .ok (.getfield 38, 3) := by decide +kernel
theorem dX8_searchNumbered_5 : decode cX8_searchNumbered 5 = .ok (.arraylength, 1) := by decide +kernel
theorem dX8_searchNumbered_6 : decode cX8_searchNumbered 6 = .ok (.invokestatic 93, 3) := by decide +kernel
theorem dX8_searchNumbered_9 : decode cX8_searchNumbered 9 = .ok (.ifCond .eq 12, 3) := by decide +kernel
theorem dX8_searchNumbered_12 : decode cX8_searchNumbered 12 = .ok (.aload_n 0, 1) := by decide +kernel
theorem dX8_searchNumbered_13 : decode cX8_searchNumbered 13 = .ok (.getfield 38, 3) := by decide +kernel
theorem dX8_searchNumbered_16 : decode cX8_searchNumbered 16 = .ok (.iload_n 1, 1) := by decide +kernel
theorem dX8_searchNumbered_17 : decode cX8_searchNumbered 17 = .ok (.aaload, 1) := by decide +kernel
theorem dX8_searchNumbered_18 : decode cX8_searchNumbered 18 = .ok (.goto 4, 3) := by decide +kernel
theorem dX8_searchNumbered_21 : decode cX8_searchNumbered 21 = .ok (.aconst_null, 1) := by decide +kernel
theorem dX8_searchNumbered_22 : decode cX8_searchNumbered 22 = .ok (.astore_n 2, 1) := by decide +kernel
theorem dX8_searchNumbered_23 : decode cX8_searchNumbered 23 = .ok (.aload_n 2, 1) := by decide +kernel
theorem dX8_searchNumbered_24 : decode cX8_searchNumbered 24 = .ok (.ifnonnull 14, 3) := by decide +kernel
theorem dX8_searchNumbered_27 : decode cX8_searchNumbered 27 = .ok (.new 279, 3) := by decide +kernel
theorem dX8_searchNumbered_30 : decode cX8_searchNumbered 30 = .ok (.dup, 1) := by decide +kernel
theorem dX8_searchNumbered_31 : decode cX8_searchNumbered 31 = .ok (.ldc_w 299, 3) := by decide +kernel
theorem dX8_searchNumbered_34 : decode cX8_searchNumbered 34 = .ok (.invokespecial 283, 3) := by decide +kernel
theorem dX8_searchNumbered_37 : decode cX8_searchNumbered 37 = .ok (.athrow, 1) := by decide +kernel
theorem dX8_searchNumbered_38 : decode cX8_searchNumbered 38 = .ok (.aload_n 2, 1) := by decide +kernel
theorem dX8_searchNumbered_39 : decode cX8_searchNumbered 39 = .ok (.areturn, 1) := by decide +kernel
theorem dX8_sumOf_0 : decode cX8_sumOf 0 = .ok (.iconst 0, 1) := by decide +kernel
theorem dX8_sumOf_1 : decode cX8_sumOf 1 = .ok (.istore_n 1, 1) := by decide +kernel
theorem dX8_sumOf_2 : decode cX8_sumOf 2 = .ok (.aload_n 0, 1) := by decide +kernel
theorem dX8_sumOf_3 : decode cX8_sumOf 3 = .ok (.astore_n 2, 1) := by decide +kernel
theorem dX8_sumOf_4 : decode cX8_sumOf 4 = .ok (.aload_n 2, 1) := by decide +kernel
theorem dX8_sumOf_5 : decode cX8_sumOf 5 = .ok (.arraylength, 1) := by decide +kernel
theorem dX8_sumOf_6 : decode cX8_sumOf 6 = .ok (.istore_n 3, 1) := by decide +kernel
theorem dX8_sumOf_7 : decode cX8_sumOf 7 = .ok (.iconst 0, 1) := by decide +kernel
theorem dX8_sumOf_8 : decode cX8_sumOf 8 = .ok (.istore 4, 2) := by decide +kernel
theorem dX8_sumOf_10 : decode cX8_sumOf 10 = .ok (.iload 4, 2) := by decide +kernel
theorem dX8_sumOf_12 : decode cX8_sumOf 12 = .ok (.iload_n 3, 1) := by decide +kernel
theorem dX8_sumOf_13 : decode cX8_sumOf 13 = .ok (.if_icmp .ge 20, 3) := by decide +kernel
theorem dX8_sumOf_16 : decode cX8_sumOf 16 = .ok (.aload_n 2, 1) := by decide +kernel
theorem dX8_sumOf_17 : decode cX8_sumOf 17 = .ok (.iload 4, 2) := by decide +kernel
theorem dX8_sumOf_19 : decode cX8_sumOf 19 = .ok (.iaload, 1) := by decide +kernel
theorem dX8_sumOf_20 : decode cX8_sumOf 20 = .ok (.istore 5, 2) := by decide +kernel
theorem dX8_sumOf_22 : decode cX8_sumOf 22 = .ok (.iload_n 1, 1) := by decide +kernel
theorem dX8_sumOf_23 : decode cX8_sumOf 23 = .ok (.iload 5, 2) := by decide +kernel
theorem dX8_sumOf_25 : decode cX8_sumOf 25 = .ok (.iadd, 1) := by decide +kernel
theorem dX8_sumOf_26 : decode cX8_sumOf 26 = .ok (.istore_n 1, 1) := by decide +kernel
theorem dX8_sumOf_27 : decode cX8_sumOf 27 = .ok (.iinc 4 1, 3) := by decide +kernel
theorem dX8_sumOf_30 : decode cX8_sumOf 30 = .ok (.goto (-20), 3) := by decide +kernel
theorem dX8_sumOf_33 : decode cX8_sumOf 33 = .ok (.iload_n 1, 1) := by decide +kernel
theorem dX8_sumOf_34 : decode cX8_sumOf 34 = .ok (.ireturn, 1) := by decide +kernel
theorem dX8_isTaken_0 : decode cX8_isTaken 0 = .ok (.aload_n 0, 1) := by decide +kernel
theorem dX8_isTaken_1 : decode cX8_isTaken 1 = .ok (.getfield 18, 3) := by decide +kernel
theorem dX8_isTaken_4 : decode cX8_isTaken 4 = .ok (.astore_n 2, 1) := by decide +kernel
theorem dX8_isTaken_5 : decode cX8_isTaken 5 = .ok (.aload_n 2, 1) := by decide +kernel
theorem dX8_isTaken_6 : decode cX8_isTaken 6 = .ok (.arraylength, 1) := by decide +kernel
theorem dX8_isTaken_7 : decode cX8_isTaken 7 = .ok (.istore_n 3, 1) := by decide +kernel
theorem dX8_isTaken_8 : decode cX8_isTaken 8 = .ok (.iconst 0, 1) := by decide +kernel
theorem dX8_isTaken_9 : decode cX8_isTaken 9 = .ok (.istore 4, 2) := by decide +kernel
theorem dX8_isTaken_11 : decode cX8_isTaken 11 = .ok (.iload 4, 2) := by decide +kernel
theorem dX8_isTaken_13 : decode cX8_isTaken 13 = .ok (.iload_n 3, 1) := by decide +kernel
theorem dX8_isTaken_14 : decode cX8_isTaken 14 = .ok (.if_icmp .ge 31, 3) := by decide +kernel
theorem dX8_isTaken_17 : decode cX8_isTaken 17 = .ok (.aload_n 2, 1) := by decide +kernel
theorem dX8_isTaken_18 : decode cX8_isTaken 18 = .ok (.iload 4, 2) := by decide +kernel
theorem dX8_isTaken_20 : decode cX8_isTaken 20 = .ok (.aaload, 1) := by decide +kernel
theorem dX8_isTaken_21 : decode cX8_isTaken 21 = .ok (.astore 5, 2) := by decide +kernel
theorem dX8_isTaken_23 : decode cX8_isTaken 23 = .ok (.aload 5, 2) := by decide +kernel
theorem dX8_isTaken_25 : decode cX8_isTaken 25 = .ok (.ifnull 14, 3) := by decide +kernel
theorem dX8_isTaken_28 : decode cX8_isTaken 28 = .ok (.aload 5, 2) := by decide +kernel
theorem dX8_isTaken_30 : decode cX8_isTaken 30 = .ok (.getfield 215, 3) := by decide +kernel
theorem dX8_isTaken_33 : decode cX8_isTaken 33 = .ok (.iload_n 1, 1) := by decide +kernel
theorem dX8_isTaken_34 : decode cX8_isTaken 34 = .ok (.if_icmp .ne 5, 3) := by decide +kernel
theorem dX8_isTaken_37 : decode cX8_isTaken 37 = .ok (.iconst 1, 1) := by decide +kernel
theorem dX8_isTaken_38 : decode cX8_isTaken 38 = .ok (.ireturn, 1) := by decide +kernel
theorem dX8_isTaken_39 : decode cX8_isTaken 39 = .ok (.iinc 4 1, 3) := by decide +kernel
theorem dX8_isTaken_42 : decode cX8_isTaken 42 = .ok (.goto (-31), 3) := by decide +kernel
theorem dX8_isTaken_45 : decode cX8_isTaken 45 = .ok (.aload_n 0, 1) := by decide +kernel
theorem dX8_isTaken_46 : decode cX8_isTaken 46 = .ok (.getfield 38, 3) := by decide +kernel
theorem dX8_isTaken_49 : decode cX8_isTaken 49 = .ok (.astore_n 2, 1) := by decide +kernel
theorem dX8_isTaken_50 : decode cX8_isTaken 50 = .ok (.aload_n 2, 1) := by decide +kernel
theorem dX8_isTaken_51 : decode cX8_isTaken 51 = .ok (.arraylength, 1) := by decide +kernel
theorem dX8_isTaken_52 : decode cX8_isTaken 52 = .ok (.istore_n 3, 1) := by decide +kernel
theorem dX8_isTaken_53 : decode cX8_isTaken 53 = .ok (.iconst 0, 1) := by decide +kernel
theorem dX8_isTaken_54 : decode cX8_isTaken 54 = .ok (.istore 4, 2) := by decide +kernel
theorem dX8_isTaken_56 : decode cX8_isTaken 56 = .ok (.iload 4, 2) := by decide +kernel
theorem dX8_isTaken_58 : decode cX8_isTaken 58 = .ok (.iload_n 3, 1) := by decide +kernel
theorem dX8_isTaken_59 : decode cX8_isTaken 59 = .ok (.if_icmp .ge 31, 3) := by decide +kernel
theorem dX8_isTaken_62 : decode cX8_isTaken 62 = .ok (.aload_n 2, 1) := by decide +kernel
theorem dX8_isTaken_63 : decode cX8_isTaken 63 = .ok (.iload 4, 2) := by decide +kernel
theorem dX8_isTaken_65 : decode cX8_isTaken 65 = .ok (.aaload, 1) := by decide +kernel
theorem dX8_isTaken_66 : decode cX8_isTaken 66 = .ok (.astore 5, 2) := by decide +kernel
theorem dX8_isTaken_68 : decode cX8_isTaken 68 = .ok (.aload 5, 2) := by decide +kernel
theorem dX8_isTaken_70 : decode cX8_isTaken 70 = .ok (.ifnull 14, 3) := by decide +kernel
theorem dX8_isTaken_73 : decode cX8_isTaken 73 = .ok (.aload 5, 2) := by decide +kernel
theorem dX8_isTaken_75 : decode cX8_isTaken 75 = .ok (.getfield 301, 3) := by decide +kernel
theorem dX8_isTaken_78 : decode cX8_isTaken 78 = .ok (.iload_n 1, 1) := by decide +kernel
theorem dX8_isTaken_79 : decode cX8_isTaken 79 = .ok (.if_icmp .ne 5, 3) := by decide +kernel
theorem dX8_isTaken_82 : decode cX8_isTaken 82 = .ok (.iconst 1, 1) := by decide +kernel
theorem dX8_isTaken_83 : decode cX8_isTaken 83 = .ok (.ireturn, 1) := by decide +kernel
theorem dX8_isTaken_84 : decode cX8_isTaken 84 = .ok (.iinc 4 1, 3) := by decide +kernel
theorem dX8_isTaken_87 : decode cX8_isTaken 87 = .ok (.goto (-31), 3) := by decide +kernel
theorem dX8_isTaken_90 : decode cX8_isTaken 90 = .ok (.aload_n 0, 1) := by decide +kernel
theorem dX8_isTaken_91 : decode cX8_isTaken 91 = .ok (.getfield 32, 3) := by decide +kernel
theorem dX8_isTaken_94 : decode cX8_isTaken 94 = .ok (.iload_n 1, 1) := by decide +kernel
theorem dX8_isTaken_95 : decode cX8_isTaken 95 = .ok (.invokevirtual 304, 3) := by decide +kernel
theorem dX8_isTaken_98 : decode cX8_isTaken 98 = .ok (.ireturn, 1) := by decide +kernel
theorem dX8_meanWithout_0 : decode cX8_meanWithout 0 = .ok (.aload_n 0, 1) := by decide +kernel
theorem dX8_meanWithout_1 : decode cX8_meanWithout 1 = .ok (.getfield 25, 3) := by decide +kernel
theorem dX8_meanWithout_4 : decode cX8_meanWithout 4 = .ok (.aload_n 1, 1) := by decide +kernel
theorem dX8_meanWithout_5 : decode cX8_meanWithout 5 = .ok (.iload_n 2, 1) := by decide +kernel
theorem dX8_meanWithout_6 : decode cX8_meanWithout 6 = .ok (.iload_n 3, 1) := by decide +kernel
theorem dX8_meanWithout_7 : decode cX8_meanWithout 7 = .ok (.iload 4, 2) := by decide +kernel
theorem dX8_meanWithout_9 : decode cX8_meanWithout 9 = .ok (.invokevirtual 258, 3) := by decide +kernel
theorem dX8_meanWithout_12 : decode cX8_meanWithout 12 = .ok (.istore 5, 2) := by decide +kernel
theorem dX8_meanWithout_14 : decode cX8_meanWithout 14 = .ok (.iload 5, 2) := by decide +kernel
theorem dX8_meanWithout_16 : decode cX8_meanWithout 16 = .ok (.ifCond .gt 14, 3) := by decide +kernel
theorem dX8_meanWithout_19 : decode cX8_meanWithout 19 = .ok (.new 63, 3) := by decide +kernel
theorem dX8_meanWithout_22 : decode cX8_meanWithout 22 = .ok (.dup, 1) := by decide +kernel
theorem dX8_meanWithout_23 : decode cX8_meanWithout 23 = .ok (.ldc_w 307, 3) := by decide +kernel
theorem dX8_meanWithout_26 : decode cX8_meanWithout 26 = .ok (.invokespecial 67, 3) := by decide +kernel
theorem dX8_meanWithout_29 : decode cX8_meanWithout 29 = .ok (.athrow, 1) := by decide +kernel
theorem dX8_meanWithout_30 : decode cX8_meanWithout 30 = .ok (.aload_n 0, 1) := by decide +kernel
theorem dX8_meanWithout_31 : decode cX8_meanWithout 31 = .ok (.getfield 25, 3) := by decide +kernel
theorem dX8_meanWithout_34 : decode cX8_meanWithout 34 = .ok (.aload_n 1, 1) := by decide +kernel
theorem dX8_meanWithout_35 : decode cX8_meanWithout 35 = .ok (.iload_n 2, 1) := by decide +kernel
theorem dX8_meanWithout_36 : decode cX8_meanWithout 36 = .ok (.iload_n 3, 1) := by decide +kernel
theorem dX8_meanWithout_37 : decode cX8_meanWithout 37 = .ok (.iload 4, 2) := by decide +kernel
theorem dX8_meanWithout_39 : decode cX8_meanWithout 39 = .ok (.invokevirtual 309, 3) := by decide +kernel
theorem dX8_meanWithout_42 : decode cX8_meanWithout 42 = .ok (.iload 5, 2) := by decide +kernel
theorem dX8_meanWithout_44 : decode cX8_meanWithout 44 = .ok (.i2l, 1) := by decide +kernel
theorem dX8_meanWithout_45 : decode cX8_meanWithout 45 = .ok (.ldiv, 1) := by decide +kernel
theorem dX8_meanWithout_46 : decode cX8_meanWithout 46 = .ok (.l2i, 1) := by decide +kernel
theorem dX8_meanWithout_47 : decode cX8_meanWithout 47 = .ok (.ireturn, 1) := by decide +kernel
theorem dX8_passOneDay_0 : decode cX8_passOneDay 0 = .ok (.aload_n 0, 1) := by decide +kernel
theorem dX8_passOneDay_1 : decode cX8_passOneDay 1 = .ok (.dup, 1) := by decide +kernel
theorem dX8_passOneDay_2 : decode cX8_passOneDay 2 = .ok (.getfield 52, 3) := by decide +kernel
theorem dX8_passOneDay_5 : decode cX8_passOneDay 5 = .ok (.iconst 1, 1) := by decide +kernel
theorem dX8_passOneDay_6 : decode cX8_passOneDay 6 = .ok (.iadd, 1) := by decide +kernel
theorem dX8_passOneDay_7 : decode cX8_passOneDay 7 = .ok (.putfield 52, 3) := by decide +kernel
theorem dX8_passOneDay_10 : decode cX8_passOneDay 10 = .ok (.aload_n 0, 1) := by decide +kernel
theorem dX8_passOneDay_11 : decode cX8_passOneDay 11 = .ok (.getfield 12, 3) := by decide +kernel
theorem dX8_passOneDay_14 : decode cX8_passOneDay 14 = .ok (.invokevirtual 316, 3) := by decide +kernel
theorem dX8_passOneDay_17 : decode cX8_passOneDay 17 = .ok (.aload_n 0, 1) := by decide +kernel
theorem dX8_passOneDay_18 : decode cX8_passOneDay 18 = .ok (.getfield 12, 3) := by decide +kernel
theorem dX8_passOneDay_21 : decode cX8_passOneDay 21 = .ok (.invokevirtual 319, 3) := by decide +kernel
theorem dX8_passOneDay_24 : decode cX8_passOneDay 24 = .ok (.aload_n 0, 1) := by decide +kernel
theorem dX8_passOneDay_25 : decode cX8_passOneDay 25 = .ok (.getfield 12, 3) := by decide +kernel
theorem dX8_passOneDay_28 : decode cX8_passOneDay 28 = .ok (.invokevirtual 322, 3) := by decide +kernel
theorem dX8_passOneDay_31 : decode cX8_passOneDay 31 = .ok (.aload_n 0, 1) := by decide +kernel
theorem dX8_passOneDay_32 : decode cX8_passOneDay 32 = .ok (.getfield 18, 3) := by decide +kernel
theorem dX8_passOneDay_35 : decode cX8_passOneDay 35 = .ok (.astore_n 1, 1) := by decide +kernel
theorem dX8_passOneDay_36 : decode cX8_passOneDay 36 = .ok (.aload_n 1, 1) := by decide +kernel
theorem dX8_passOneDay_37 : decode cX8_passOneDay 37 = .ok (.arraylength, 1) := by decide +kernel
theorem dX8_passOneDay_38 : decode cX8_passOneDay 38 = .ok (.istore_n 2, 1) := by decide +kernel
theorem dX8_passOneDay_39 : decode cX8_passOneDay 39 = .ok (.iconst 0, 1) := by decide +kernel
theorem dX8_passOneDay_40 : decode cX8_passOneDay 40 = .ok (.istore_n 3, 1) := by decide +kernel
theorem dX8_passOneDay_41 : decode cX8_passOneDay 41 = .ok (.iload_n 3, 1) := by decide +kernel
theorem dX8_passOneDay_42 : decode cX8_passOneDay 42 = .ok (.iload_n 2, 1) := by decide +kernel
theorem dX8_passOneDay_43 : decode cX8_passOneDay 43 = .ok (.if_icmp .ge 33, 3) := by decide +kernel
theorem dX8_passOneDay_46 : decode cX8_passOneDay 46 = .ok (.aload_n 1, 1) := by decide +kernel
theorem dX8_passOneDay_47 : decode cX8_passOneDay 47 = .ok (.iload_n 3, 1) := by decide +kernel
theorem dX8_passOneDay_48 : decode cX8_passOneDay 48 = .ok (.aaload, 1) := by decide +kernel
theorem dX8_passOneDay_49 : decode cX8_passOneDay 49 = .ok (.astore 4, 2) := by decide +kernel
theorem dX8_passOneDay_51 : decode cX8_passOneDay 51 = .ok (.aload 4, 2) := by decide +kernel
theorem dX8_passOneDay_53 : decode cX8_passOneDay 53 = .ok (.ifnull 17, 3) := by decide +kernel
theorem dX8_passOneDay_56 : decode cX8_passOneDay 56 = .ok (.aload 4, 2) := by decide +kernel
theorem dX8_passOneDay_58 : decode cX8_passOneDay 58 = .ok (.getfield 221, 3) := by decide +kernel
theorem dX8_passOneDay_61 : decode cX8_passOneDay 61 = .ok (.ifCond .le 9, 3) := by decide +kernel
theorem dX8_passOneDay_64 : decode cX8_passOneDay 64 = .ok (.aload_n 0, 1) := by decide +kernel
theorem dX8_passOneDay_65 : decode cX8_passOneDay 65 = .ok (.aload 4, 2) := by decide +kernel
theorem dX8_passOneDay_67 : decode cX8_passOneDay 67 = .ok (.invokevirtual 325, 3) := by decide +kernel
theorem dX8_passOneDay_70 : decode cX8_passOneDay 70 = .ok (.iinc 3 1, 3) := by decide +kernel
theorem dX8_passOneDay_73 : decode cX8_passOneDay 73 = .ok (.goto (-32), 3) := by decide +kernel
theorem dX8_passOneDay_76 : decode cX8_passOneDay 76 = .ok (.aload_n 0, 1) := by decide +kernel
theorem dX8_passOneDay_77 : decode cX8_passOneDay 77 = .ok (.getfield 38, 3) := by decide +kernel
theorem dX8_passOneDay_80 : decode cX8_passOneDay 80 = .ok (.astore_n 1, 1) := by decide +kernel
theorem dX8_passOneDay_81 : decode cX8_passOneDay 81 = .ok (.aload_n 1, 1) := by decide +kernel
theorem dX8_passOneDay_82 : decode cX8_passOneDay 82 = .ok (.arraylength, 1) := by decide +kernel
theorem dX8_passOneDay_83 : decode cX8_passOneDay 83 = .ok (.istore_n 2, 1) := by decide +kernel
theorem dX8_passOneDay_84 : decode cX8_passOneDay 84 = .ok (.iconst 0, 1) := by decide +kernel
theorem dX8_passOneDay_85 : decode cX8_passOneDay 85 = .ok (.istore_n 3, 1) := by decide +kernel
theorem dX8_passOneDay_86 : decode cX8_passOneDay 86 = .ok (.iload_n 3, 1) := by decide +kernel
theorem dX8_passOneDay_87 : decode cX8_passOneDay 87 = .ok (.iload_n 2, 1) := by decide +kernel
theorem dX8_passOneDay_88 : decode cX8_passOneDay 88 = .ok (.if_icmp .ge 28, 3) := by decide +kernel
theorem dX8_passOneDay_91 : decode cX8_passOneDay 91 = .ok (.aload_n 1, 1) := by decide +kernel
theorem dX8_passOneDay_92 : decode cX8_passOneDay 92 = .ok (.iload_n 3, 1) := by decide +kernel
theorem dX8_passOneDay_93 : decode cX8_passOneDay 93 = .ok (.aaload, 1) := by decide +kernel
theorem dX8_passOneDay_94 : decode cX8_passOneDay 94 = .ok (.astore 4, 2) := by decide +kernel
theorem dX8_passOneDay_96 : decode cX8_passOneDay 96 = .ok (.aload 4, 2) := by decide +kernel
theorem dX8_passOneDay_98 : decode cX8_passOneDay 98 = .ok (.ifnull 12, 3) := by decide +kernel
theorem dX8_passOneDay_101 : decode cX8_passOneDay 101 = .ok (.aload 4, 2) := by decide +kernel
theorem dX8_passOneDay_103 : decode cX8_passOneDay 103 = .ok (.aload_n 0, 1) := by decide +kernel
theorem dX8_passOneDay_104 : decode cX8_passOneDay 104 = .ok (.getfield 12, 3) := by decide +kernel
theorem dX8_passOneDay_107 : decode cX8_passOneDay 107 = .ok (.invokevirtual 329, 3) := by decide +kernel
theorem dX8_passOneDay_110 : decode cX8_passOneDay 110 = .ok (.iinc 3 1, 3) := by decide +kernel
theorem dX8_passOneDay_113 : decode cX8_passOneDay 113 = .ok (.goto (-27), 3) := by decide +kernel
theorem dX8_passOneDay_116 : decode cX8_passOneDay 116 = .ok (.aload_n 0, 1) := by decide +kernel
theorem dX8_passOneDay_117 : decode cX8_passOneDay 117 = .ok (.invokevirtual 333, 3) := by decide +kernel
theorem dX8_passOneDay_120 : decode cX8_passOneDay 120 = .ok (.return_, 1) := by decide +kernel
theorem dX8_letDrift_0 : decode cX8_letDrift 0 = .ok (.aload_n 1, 1) := by decide +kernel
theorem dX8_letDrift_1 : decode cX8_letDrift 1 = .ok (.dup, 1) := by decide +kernel
theorem dX8_letDrift_2 : decode cX8_letDrift 2 = .ok (.getfield 218, 3) := by decide +kernel
theorem dX8_letDrift_5 : decode cX8_letDrift 5 = .ok (.iconst 1, 1) := by decide +kernel
theorem dX8_letDrift_6 : decode cX8_letDrift 6 = .ok (.isub, 1) := by decide +kernel
theorem dX8_letDrift_7 : decode cX8_letDrift 7 = .ok (.putfield 218, 3) := by decide +kernel
theorem dX8_letDrift_10 : decode cX8_letDrift 10 = .ok (.aload_n 1, 1) := by decide +kernel
theorem dX8_letDrift_11 : decode cX8_letDrift 11 = .ok (.getfield 218, 3) := by decide +kernel
theorem dX8_letDrift_14 : decode cX8_letDrift 14 = .ok (.ifCond .le 4, 3) := by decide +kernel
theorem dX8_letDrift_17 : decode cX8_letDrift 17 = .ok (.return_, 1) := by decide +kernel
theorem dX8_letDrift_18 : decode cX8_letDrift 18 = .ok (.aload_n 0, 1) := by decide +kernel
theorem dX8_letDrift_19 : decode cX8_letDrift 19 = .ok (.getfield 12, 3) := by decide +kernel
theorem dX8_letDrift_22 : decode cX8_letDrift 22 = .ok (.aload_n 1, 1) := by decide +kernel
theorem dX8_letDrift_23 : decode cX8_letDrift 23 = .ok (.getfield 215, 3) := by decide +kernel
theorem dX8_letDrift_26 : decode cX8_letDrift 26 = .ok (.invokevirtual 336, 3) := by decide +kernel
theorem dX8_letDrift_29 : decode cX8_letDrift 29 = .ok (.istore_n 2, 1) := by decide +kernel
theorem dX8_letDrift_30 : decode cX8_letDrift 30 = .ok (.iload_n 2, 1) := by decide +kernel
theorem dX8_letDrift_31 : decode cX8_letDrift 31 = .ok (.iconst (-1), 1) := by decide +kernel
theorem dX8_letDrift_32 : decode cX8_letDrift 32 = .ok (.if_icmp .eq 8, 3) := by decide +kernel
theorem dX8_letDrift_35 : decode cX8_letDrift 35 = .ok (.aload_n 1, 1) := by decide +kernel
theorem dX8_letDrift_36 : decode cX8_letDrift 36 = .ok (.iload_n 2, 1) := by decide +kernel
theorem dX8_letDrift_37 : decode cX8_letDrift 37 = .ok (.putfield 215, 3) := by decide +kernel
theorem dX8_letDrift_40 : decode cX8_letDrift 40 = .ok (.aload_n 0, 1) := by decide +kernel
theorem dX8_letDrift_41 : decode cX8_letDrift 41 = .ok (.getfield 25, 3) := by decide +kernel
theorem dX8_letDrift_44 : decode cX8_letDrift 44 = .ok (.aload_n 0, 1) := by decide +kernel
theorem dX8_letDrift_45 : decode cX8_letDrift 45 = .ok (.getfield 52, 3) := by decide +kernel
theorem dX8_letDrift_48 : decode cX8_letDrift 48 = .ok (.aload_n 1, 1) := by decide +kernel
theorem dX8_letDrift_49 : decode cX8_letDrift 49 = .ok (.getfield 215, 3) := by decide +kernel
theorem dX8_letDrift_52 : decode cX8_letDrift 52 = .ok (.aload_n 0, 1) := by decide +kernel
theorem dX8_letDrift_53 : decode cX8_letDrift 53 = .ok (.getfield 12, 3) := by decide +kernel
theorem dX8_letDrift_56 : decode cX8_letDrift 56 = .ok (.aload_n 1, 1) := by decide +kernel
theorem dX8_letDrift_57 : decode cX8_letDrift 57 = .ok (.getfield 215, 3) := by decide +kernel
theorem dX8_letDrift_60 : decode cX8_letDrift 60 = .ok (.invokevirtual 339, 3) := by decide +kernel
theorem dX8_letDrift_63 : decode cX8_letDrift 63 = .ok (.aload_n 1, 1) := by decide +kernel
theorem dX8_letDrift_64 : decode cX8_letDrift 64 = .ok (.getfield 342, 3) := by decide +kernel
theorem dX8_letDrift_67 : decode cX8_letDrift 67 = .ok (.iadd, 1) := by decide +kernel
theorem dX8_letDrift_68 : decode cX8_letDrift 68 = .ok (.aload_n 1, 1) := by decide +kernel
theorem dX8_letDrift_69 : decode cX8_letDrift 69 = .ok (.invokevirtual 345, 3) := by decide +kernel
theorem dX8_letDrift_72 : decode cX8_letDrift 72 = .ok (.aload_n 1, 1) := by decide +kernel
theorem dX8_letDrift_73 : decode cX8_letDrift 73 = .ok (.dup, 1) := by decide +kernel
theorem dX8_letDrift_74 : decode cX8_letDrift 74 = .ok (.getfield 221, 3) := by decide +kernel
theorem dX8_letDrift_77 : decode cX8_letDrift 77 = .ok (.iconst 1, 1) := by decide +kernel
theorem dX8_letDrift_78 : decode cX8_letDrift 78 = .ok (.isub, 1) := by decide +kernel
theorem dX8_letDrift_79 : decode cX8_letDrift 79 = .ok (.putfield 221, 3) := by decide +kernel
theorem dX8_letDrift_82 : decode cX8_letDrift 82 = .ok (.aload_n 1, 1) := by decide +kernel
theorem dX8_letDrift_83 : decode cX8_letDrift 83 = .ok (.aload_n 1, 1) := by decide +kernel
theorem dX8_letDrift_84 : decode cX8_letDrift 84 = .ok (.getfield 221, 3) := by decide +kernel
theorem dX8_letDrift_87 : decode cX8_letDrift 87 = .ok (.ifCond .le 10, 3) := by decide +kernel
theorem dX8_letDrift_90 : decode cX8_letDrift 90 = .ok (.aload_n 1, 1) := by decide +kernel
theorem dX8_letDrift_91 : decode cX8_letDrift 91 = .ok (.getfield 349, 3) := by decide +kernel
theorem dX8_letDrift_94 : decode cX8_letDrift 94 = .ok (.goto 4, 3) := by decide +kernel
theorem dX8_letDrift_97 : decode cX8_letDrift 97 = .ok (.iconst 0, 1) := by decide +kernel
theorem dX8_letDrift_98 : decode cX8_letDrift 98 = .ok (.putfield 218, 3) := by decide +kernel
theorem dX8_letDrift_101 : decode cX8_letDrift 101 = .ok (.return_, 1) := by decide +kernel
theorem dX8_readAtStations_0 : decode cX8_readAtStations 0 = .ok (.aload_n 0, 1) := by decide +kernel
theorem dX8_readAtStations_1 : decode cX8_readAtStations 1 = .ok (.getfield 32, 3) := by decide +kernel
theorem dX8_readAtStations_4 : decode cX8_readAtStations 4 = .ok (.aload_n 0, 1) := by decide +kernel
theorem dX8_readAtStations_5 : decode cX8_readAtStations 5 = .ok (.getfield 52, 3) := by decide +kernel
theorem dX8_readAtStations_8 : decode cX8_readAtStations 8 = .ok (.invokevirtual 352, 3) := by decide +kernel
theorem dX8_readAtStations_11 : decode cX8_readAtStations 11 = .ok (.ifCond .ne 7, 3) := by decide +kernel
theorem dX8_readAtStations_14 : decode cX8_readAtStations 14 = .ok (.iconst 1, 1) := by decide +kernel
theorem dX8_readAtStations_15 : decode cX8_readAtStations 15 = .ok (.goto 4, 3) := by decide +kernel
theorem dX8_readAtStations_18 : decode cX8_readAtStations 18 = .ok (.iconst 0, 1) := by decide +kernel
theorem dX8_readAtStations_19 : decode cX8_readAtStations 19 = .ok (.istore_n 1, 1) := by decide +kernel
theorem dX8_readAtStations_20 : decode cX8_readAtStations 20 = .ok (.aload_n 0, 1) := by decide +kernel
theorem dX8_readAtStations_21 : decode cX8_readAtStations 21 = .ok (.getfield 32, 3) := by decide +kernel
theorem dX8_readAtStations_24 : decode cX8_readAtStations 24 = .ok (.aload_n 0, 1) := by decide +kernel
theorem dX8_readAtStations_25 : decode cX8_readAtStations 25 = .ok (.getfield 52, 3) := by decide +kernel
theorem dX8_readAtStations_28 : decode cX8_readAtStations 28 = .ok (.invokevirtual 355, 3) := by decide +kernel
theorem dX8_readAtStations_31 : decode cX8_readAtStations 31 = .ok (.istore_n 2, 1) := by decide +kernel
theorem dX8_readAtStations_32 : decode cX8_readAtStations 32 = .ok (.iconst 0, 1) := by decide +kernel
theorem dX8_readAtStations_33 : decode cX8_readAtStations 33 = .ok (.istore_n 3, 1) := by decide +kernel
theorem dX8_readAtStations_34 : decode cX8_readAtStations 34 = .ok (.iload_n 3, 1) := by decide +kernel
theorem dX8_readAtStations_35 : decode cX8_readAtStations 35 = .ok (.iload_n 2, 1) := by decide +kernel
theorem dX8_readAtStations_36 : decode cX8_readAtStations 36 = .ok (.if_icmp .ge 46, 3) := by decide +kernel
theorem dX8_readAtStations_39 : decode cX8_readAtStations 39 = .ok (.iload_n 1, 1) := by decide +kernel
theorem dX8_readAtStations_40 : decode cX8_readAtStations 40 = .ok (.ifCond .eq 42, 3) := by decide +kernel
theorem dX8_readAtStations_43 : decode cX8_readAtStations 43 = .ok (.aload_n 0, 1) := by decide +kernel
theorem dX8_readAtStations_44 : decode cX8_readAtStations 44 = .ok (.getfield 32, 3) := by decide +kernel
theorem dX8_readAtStations_47 : decode cX8_readAtStations 47 = .ok (.iload_n 3, 1) := by decide +kernel
theorem dX8_readAtStations_48 : decode cX8_readAtStations 48 = .ok (.invokevirtual 358, 3) := by decide +kernel
theorem dX8_readAtStations_51 : decode cX8_readAtStations 51 = .ok (.istore 4, 2) := by decide +kernel
theorem dX8_readAtStations_53 : decode cX8_readAtStations 53 = .ok (.aload_n 0, 1) := by decide +kernel
theorem dX8_readAtStations_54 : decode cX8_readAtStations 54 = .ok (.getfield 25, 3) := by decide +kernel
theorem dX8_readAtStations_57 : decode cX8_readAtStations 57 = .ok (.aload_n 0, 1) := by decide +kernel
theorem dX8_readAtStations_58 : decode cX8_readAtStations 58 = .ok (.getfield 52, 3) := by decide +kernel
theorem dX8_readAtStations_61 : decode cX8_readAtStations 61 = .ok (.iload 4, 2) := by decide +kernel
theorem dX8_readAtStations_63 : decode cX8_readAtStations 63 = .ok (.aload_n 0, 1) := by decide +kernel
theorem dX8_readAtStations_64 : decode cX8_readAtStations 64 = .ok (.getfield 12, 3) := by decide +kernel
theorem dX8_readAtStations_67 : decode cX8_readAtStations 67 = .ok (.iload 4, 2) := by decide +kernel
theorem dX8_readAtStations_69 : decode cX8_readAtStations 69 = .ok (.invokevirtual 339, 3) := by decide +kernel
theorem dX8_readAtStations_72 : decode cX8_readAtStations 72 = .ok (.aconst_null, 1) := by decide +kernel
theorem dX8_readAtStations_73 : decode cX8_readAtStations 73 = .ok (.invokevirtual 345, 3) := by decide +kernel
theorem dX8_readAtStations_76 : decode cX8_readAtStations 76 = .ok (.iinc 3 1, 3) := by decide +kernel
theorem dX8_readAtStations_79 : decode cX8_readAtStations 79 = .ok (.goto (-45), 3) := by decide +kernel
theorem dX8_readAtStations_82 : decode cX8_readAtStations 82 = .ok (.aload_n 0, 1) := by decide +kernel
theorem dX8_readAtStations_83 : decode cX8_readAtStations 83 = .ok (.getfield 32, 3) := by decide +kernel
theorem dX8_readAtStations_86 : decode cX8_readAtStations 86 = .ok (.iload_n 2, 1) := by decide +kernel
theorem dX8_readAtStations_87 : decode cX8_readAtStations 87 = .ok (.invokevirtual 361, 3) := by decide +kernel
theorem dX8_readAtStations_90 : decode cX8_readAtStations 90 = .ok (.return_, 1) := by decide +kernel
theorem dJ9_abs_0f7a4_0 : decode cJ9_abs_0f7a4 0 = .ok (.iload_n 0, 1) := by decide +kernel
theorem dJ9_abs_0f7a4_1 : decode cJ9_abs_0f7a4 1 = .ok (.ifCond .ge 8, 3) := by decide +kernel
theorem dJ9_abs_0f7a4_4 : decode cJ9_abs_0f7a4 4 = .ok (.iload_n 0, 1) := by decide +kernel
theorem dJ9_abs_0f7a4_5 : decode cJ9_abs_0f7a4 5 = .ok (.ineg, 1) := by decide +kernel
theorem dJ9_abs_0f7a4_6 : decode cJ9_abs_0f7a4 6 = .ok (.goto 4, 3) := by decide +kernel
theorem dJ9_abs_0f7a4_9 : decode cJ9_abs_0f7a4 9 = .ok (.iload_n 0, 1) := by decide +kernel
theorem dJ9_abs_0f7a4_10 : decode cJ9_abs_0f7a4 10 = .ok (.ireturn, 1) := by decide +kernel
theorem dJ9_max_7cf53_0 : decode cJ9_max_7cf53 0 = .ok (.iload_n 0, 1) := by decide +kernel
theorem dJ9_max_7cf53_1 : decode cJ9_max_7cf53 1 = .ok (.iload_n 1, 1) := by decide +kernel
theorem dJ9_max_7cf53_2 : decode cJ9_max_7cf53 2 = .ok (.if_icmp .lt 7, 3) := by decide +kernel
theorem dJ9_max_7cf53_5 : decode cJ9_max_7cf53 5 = .ok (.iload_n 0, 1) := by decide +kernel
theorem dJ9_max_7cf53_6 : decode cJ9_max_7cf53 6 = .ok (.goto 4, 3) := by decide +kernel
theorem dJ9_max_7cf53_9 : decode cJ9_max_7cf53 9 = .ok (.iload_n 1, 1) := by decide +kernel
theorem dJ9_max_7cf53_10 : decode cJ9_max_7cf53 10 = .ok (.ireturn, 1) := by decide +kernel
theorem dJ9_min_7cf53_0 : decode cJ9_min_7cf53 0 = .ok (.iload_n 0, 1) := by decide +kernel
theorem dJ9_min_7cf53_1 : decode cJ9_min_7cf53 1 = .ok (.iload_n 1, 1) := by decide +kernel
theorem dJ9_min_7cf53_2 : decode cJ9_min_7cf53 2 = .ok (.if_icmp .gt 7, 3) := by decide +kernel
theorem dJ9_min_7cf53_5 : decode cJ9_min_7cf53 5 = .ok (.iload_n 0, 1) := by decide +kernel
theorem dJ9_min_7cf53_6 : decode cJ9_min_7cf53 6 = .ok (.goto 4, 3) := by decide +kernel
theorem dJ9_min_7cf53_9 : decode cJ9_min_7cf53 9 = .ok (.iload_n 1, 1) := by decide +kernel
theorem dJ9_min_7cf53_10 : decode cJ9_min_7cf53 10 = .ok (.ireturn, 1) := by decide +kernel
theorem dJ7_fill_53178_0 : decode cJ7_fill_53178 0 = .ok (.iconst 0, 1) := by decide +kernel
theorem dJ7_fill_53178_1 : decode cJ7_fill_53178 1 = .ok (.istore_n 2, 1) := by decide +kernel
theorem dJ7_fill_53178_2 : decode cJ7_fill_53178 2 = .ok (.aload_n 0, 1) := by decide +kernel
theorem dJ7_fill_53178_3 : decode cJ7_fill_53178 3 = .ok (.arraylength, 1) := by decide +kernel
theorem dJ7_fill_53178_4 : decode cJ7_fill_53178 4 = .ok (.istore_n 3, 1) := by decide +kernel
theorem dJ7_fill_53178_5 : decode cJ7_fill_53178 5 = .ok (.iload_n 2, 1) := by decide +kernel
theorem dJ7_fill_53178_6 : decode cJ7_fill_53178 6 = .ok (.iload_n 3, 1) := by decide +kernel
theorem dJ7_fill_53178_7 : decode cJ7_fill_53178 7 = .ok (.if_icmp .ge 13, 3) := by decide +kernel
theorem dJ7_fill_53178_10 : decode cJ7_fill_53178 10 = .ok (.aload_n 0, 1) := by decide +kernel
theorem dJ7_fill_53178_11 : decode cJ7_fill_53178 11 = .ok (.iload_n 2, 1) := by decide +kernel
theorem dJ7_fill_53178_12 : decode cJ7_fill_53178 12 = .ok (.iload_n 1, 1) := by decide +kernel
theorem dJ7_fill_53178_13 : decode cJ7_fill_53178 13 = .ok (.iastore, 1) := by decide +kernel
theorem dJ7_fill_53178_14 : decode cJ7_fill_53178 14 = .ok (.iinc 2 1, 3) := by decide +kernel
theorem dJ7_fill_53178_17 : decode cJ7_fill_53178 17 = .ok (.goto (-12), 3) := by decide +kernel
theorem dJ7_fill_53178_20 : decode cJ7_fill_53178 20 = .ok (.return_, 1) := by decide +kernel
theorem dL_cell_0 : decode cL_cell 0 = .ok (.iload_n 1, 1) := by decide +kernel
theorem dL_cell_1 : decode cL_cell 1 = .ok (.aload_n 0, 1) := by decide +kernel
theorem dL_cell_2 : decode cL_cell 2 = .ok (.arraylength, 1) := by decide +kernel
theorem dL_cell_3 : decode cL_cell 3 = .ok (.if_icmp .ge 9, 3) := by decide +kernel
theorem dL_cell_6 : decode cL_cell 6 = .ok (.aload_n 0, 1) := by decide +kernel
theorem dL_cell_7 : decode cL_cell 7 = .ok (.iload_n 1, 1) := by decide +kernel
theorem dL_cell_8 : decode cL_cell 8 = .ok (.iaload, 1) := by decide +kernel
theorem dL_cell_9 : decode cL_cell 9 = .ok (.goto 14, 3) := by decide +kernel
theorem dL_cell_12 : decode cL_cell 12 = .ok (.ldc 7, 2) := by decide +kernel
theorem dL_cell_14 : decode cL_cell 14 = .ok (.iload_n 1, 1) := by decide +kernel
theorem dL_cell_15 : decode cL_cell 15 = .ok (.sipush 139, 3) := by decide +kernel
theorem dL_cell_18 : decode cL_cell 18 = .ok (.iadd, 1) := by decide +kernel
theorem dL_cell_19 : decode cL_cell 19 = .ok (.imul, 1) := by decide +kernel
theorem dL_cell_20 : decode cL_cell 20 = .ok (.ldc 8, 2) := by decide +kernel
theorem dL_cell_22 : decode cL_cell 22 = .ok (.iadd, 1) := by decide +kernel
theorem dL_cell_23 : decode cL_cell 23 = .ok (.ireturn, 1) := by decide +kernel
theorem dL_low_0 : decode cL_low 0 = .ok (.iload_n 0, 1) := by decide +kernel
theorem dL_low_1 : decode cL_low 1 = .ok (.ldc 9, 2) := by decide +kernel
theorem dL_low_3 : decode cL_low 3 = .ok (.iand, 1) := by decide +kernel
theorem dL_low_4 : decode cL_low 4 = .ok (.iload_n 1, 1) := by decide +kernel
theorem dL_low_5 : decode cL_low 5 = .ok (.irem, 1) := by decide +kernel
theorem dL_low_6 : decode cL_low 6 = .ok (.ireturn, 1) := by decide +kernel
theorem dL_calls_0 : decode cL_calls 0 = .ok (.iload_n 1, 1) := by decide +kernel
theorem dL_calls_1 : decode cL_calls 1 = .ok (.ifCond .ne 11, 3) := by decide +kernel
theorem dL_calls_4 : decode cL_calls 4 = .ok (.aload_n 0, 1) := by decide +kernel
theorem dL_calls_5 : decode cL_calls 5 = .ok (.iload_n 2, 1) := by decide +kernel
theorem dL_calls_6 : decode cL_calls 6 = .ok (.invokevirtual 10, 3) := by decide +kernel
theorem dL_calls_9 : decode cL_calls 9 = .ok (.goto 132, 3) := by decide +kernel
theorem dL_calls_12 : decode cL_calls 12 = .ok (.iload_n 1, 1) := by decide +kernel
theorem dL_calls_13 : decode cL_calls 13 = .ok (.iconst 1, 1) := by decide +kernel
theorem dL_calls_14 : decode cL_calls 14 = .ok (.if_icmp .ne 12, 3) := by decide +kernel
theorem dL_calls_17 : decode cL_calls 17 = .ok (.aload_n 0, 1) := by decide +kernel
theorem dL_calls_18 : decode cL_calls 18 = .ok (.iload_n 2, 1) := by decide +kernel
theorem dL_calls_19 : decode cL_calls 19 = .ok (.iload_n 3, 1) := by decide +kernel
theorem dL_calls_20 : decode cL_calls 20 = .ok (.invokevirtual 16, 3) := by decide +kernel
theorem dL_calls_23 : decode cL_calls 23 = .ok (.goto 118, 3) := by decide +kernel
theorem dL_calls_26 : decode cL_calls 26 = .ok (.iload_n 1, 1) := by decide +kernel
theorem dL_calls_27 : decode cL_calls 27 = .ok (.iconst 2, 1) := by decide +kernel
theorem dL_calls_28 : decode cL_calls 28 = .ok (.if_icmp .ne 12, 3) := by decide +kernel
theorem dL_calls_31 : decode cL_calls 31 = .ok (.aload_n 0, 1) := by decide +kernel
theorem dL_calls_32 : decode cL_calls 32 = .ok (.iload_n 2, 1) := by decide +kernel
theorem dL_calls_33 : decode cL_calls 33 = .ok (.iload_n 3, 1) := by decide +kernel
theorem dL_calls_34 : decode cL_calls 34 = .ok (.invokevirtual 20, 3) := by decide +kernel
theorem dL_calls_37 : decode cL_calls 37 = .ok (.goto 104, 3) := by decide +kernel
theorem dL_calls_40 : decode cL_calls 40 = .ok (.iload_n 1, 1) := by decide +kernel
theorem dL_calls_41 : decode cL_calls 41 = .ok (.iconst 3, 1) := by decide +kernel
theorem dL_calls_42 : decode cL_calls 42 = .ok (.if_icmp .ne 11, 3) := by decide +kernel
theorem dL_calls_45 : decode cL_calls 45 = .ok (.aload_n 0, 1) := by decide +kernel
theorem dL_calls_46 : decode cL_calls 46 = .ok (.iload_n 2, 1) := by decide +kernel
theorem dL_calls_47 : decode cL_calls 47 = .ok (.invokevirtual 23, 3) := by decide +kernel
theorem dL_calls_50 : decode cL_calls 50 = .ok (.goto 91, 3) := by decide +kernel
theorem dL_calls_53 : decode cL_calls 53 = .ok (.iload_n 1, 1) := by decide +kernel
theorem dL_calls_54 : decode cL_calls 54 = .ok (.iconst 4, 1) := by decide +kernel
theorem dL_calls_55 : decode cL_calls 55 = .ok (.if_icmp .ne 11, 3) := by decide +kernel
theorem dL_calls_58 : decode cL_calls 58 = .ok (.aload_n 0, 1) := by decide +kernel
theorem dL_calls_59 : decode cL_calls 59 = .ok (.iload_n 2, 1) := by decide +kernel
theorem dL_calls_60 : decode cL_calls 60 = .ok (.invokevirtual 26, 3) := by decide +kernel
theorem dL_calls_63 : decode cL_calls 63 = .ok (.goto 78, 3) := by decide +kernel
theorem dL_calls_66 : decode cL_calls 66 = .ok (.iload_n 1, 1) := by decide +kernel
theorem dL_calls_67 : decode cL_calls 67 = .ok (.iconst 5, 1) := by decide +kernel
theorem dL_calls_68 : decode cL_calls 68 = .ok (.if_icmp .ne 33, 3) := by decide +kernel
theorem dL_calls_71 : decode cL_calls 71 = .ok (.aload_n 0, 1) := by decide +kernel
theorem dL_calls_72 : decode cL_calls 72 = .ok (.iload_n 2, 1) := by decide +kernel
theorem dL_calls_73 : decode cL_calls 73 = .ok (.iload_n 3, 1) := by decide +kernel
theorem dL_calls_74 : decode cL_calls 74 = .ok (.iload 4, 2) := by decide +kernel
theorem dL_calls_76 : decode cL_calls 76 = .ok (.iload_n 2, 1) := by decide +kernel
theorem dL_calls_77 : decode cL_calls 77 = .ok (.bipush 7, 2) := by decide +kernel
theorem dL_calls_79 : decode cL_calls 79 = .ok (.imul, 1) := by decide +kernel
theorem dL_calls_80 : decode cL_calls 80 = .ok (.iload_n 3, 1) := by decide +kernel
theorem dL_calls_81 : decode cL_calls 81 = .ok (.iconst 3, 1) := by decide +kernel
theorem dL_calls_82 : decode cL_calls 82 = .ok (.imul, 1) := by decide +kernel
theorem dL_calls_83 : decode cL_calls 83 = .ok (.iadd, 1) := by decide +kernel
theorem dL_calls_84 : decode cL_calls 84 = .ok (.iload 4, 2) := by decide +kernel
theorem dL_calls_86 : decode cL_calls 86 = .ok (.iadd, 1) := by decide +kernel
theorem dL_calls_87 : decode cL_calls 87 = .ok (.bipush 101, 2) := by decide +kernel
theorem dL_calls_89 : decode cL_calls 89 = .ok (.invokestatic 29, 3) := by decide +kernel
theorem dL_calls_92 : decode cL_calls 92 = .ok (.bipush 50, 2) := by decide +kernel
theorem dL_calls_94 : decode cL_calls 94 = .ok (.isub, 1) := by decide +kernel
theorem dL_calls_95 : decode cL_calls 95 = .ok (.invokevirtual 34, 3) := by decide +kernel
theorem dL_calls_98 : decode cL_calls 98 = .ok (.goto 43, 3) := by decide +kernel
theorem dL_calls_101 : decode cL_calls 101 = .ok (.iload_n 1, 1) := by decide +kernel
theorem dL_calls_102 : decode cL_calls 102 = .ok (.bipush 6, 2) := by decide +kernel
theorem dL_calls_104 : decode cL_calls 104 = .ok (.if_icmp .ne 14, 3) := by decide +kernel
theorem dL_calls_107 : decode cL_calls 107 = .ok (.aload_n 0, 1) := by decide +kernel
theorem dL_calls_108 : decode cL_calls 108 = .ok (.iload_n 2, 1) := by decide +kernel
theorem dL_calls_109 : decode cL_calls 109 = .ok (.iload_n 3, 1) := by decide +kernel
theorem dL_calls_110 : decode cL_calls 110 = .ok (.iload 4, 2) := by decide +kernel
theorem dL_calls_112 : decode cL_calls 112 = .ok (.invokevirtual 38, 3) := by decide +kernel
theorem dL_calls_115 : decode cL_calls 115 = .ok (.goto 26, 3) := by decide +kernel
theorem dL_calls_118 : decode cL_calls 118 = .ok (.iload_n 1, 1) := by decide +kernel
theorem dL_calls_119 : decode cL_calls 119 = .ok (.bipush 7, 2) := by decide +kernel
theorem dL_calls_121 : decode cL_calls 121 = .ok (.if_icmp .ne 14, 3) := by decide +kernel
theorem dL_calls_124 : decode cL_calls 124 = .ok (.aload_n 0, 1) := by decide +kernel
theorem dL_calls_125 : decode cL_calls 125 = .ok (.iload_n 2, 1) := by decide +kernel
theorem dL_calls_126 : decode cL_calls 126 = .ok (.iload_n 3, 1) := by decide +kernel
theorem dL_calls_127 : decode cL_calls 127 = .ok (.iload 4, 2) := by decide +kernel
theorem dL_calls_129 : decode cL_calls 129 = .ok (.invokevirtual 42, 3) := by decide +kernel
theorem dL_calls_132 : decode cL_calls 132 = .ok (.goto 9, 3) := by decide +kernel
theorem dL_calls_135 : decode cL_calls 135 = .ok (.aload_n 0, 1) := by decide +kernel
theorem dL_calls_136 : decode cL_calls 136 = .ok (.iload_n 2, 1) := by decide +kernel
theorem dL_calls_137 : decode cL_calls 137 = .ok (.iload_n 3, 1) := by decide +kernel
theorem dL_calls_138 : decode cL_calls 138 = .ok (.invokevirtual 45, 3) := by decide +kernel
theorem dL_calls_141 : decode cL_calls 141 = .ok (.ireturn, 1) := by decide +kernel
theorem dL_calls_142 : decode cL_calls 142 = .ok (.astore 5, 2) := by decide +kernel
theorem dL_calls_144 : decode cL_calls 144 = .ok (.ldc 50, 2) := by decide +kernel
theorem dL_calls_146 : decode cL_calls 146 = .ok (.ireturn, 1) := by decide +kernel
theorem dL_way_0 : decode cL_way 0 = .ok (.iload_n 0, 1) := by decide +kernel
theorem dL_way_1 : decode cL_way 1 = .ok (.bipush 10, 2) := by decide +kernel
theorem dL_way_3 : decode cL_way 3 = .ok (.irem, 1) := by decide +kernel
theorem dL_way_4 : decode cL_way 4 = .ok (.istore_n 3, 1) := by decide +kernel
theorem dL_way_5 : decode cL_way 5 = .ok (.iload_n 0, 1) := by decide +kernel
theorem dL_way_6 : decode cL_way 6 = .ok (.bipush 10, 2) := by decide +kernel
theorem dL_way_8 : decode cL_way 8 = .ok (.idiv, 1) := by decide +kernel
theorem dL_way_9 : decode cL_way 9 = .ok (.istore 4, 2) := by decide +kernel
theorem dL_way_11 : decode cL_way 11 = .ok (.iload_n 1, 1) := by decide +kernel
theorem dL_way_12 : decode cL_way 12 = .ok (.iconst 1, 1) := by decide +kernel
theorem dL_way_13 : decode cL_way 13 = .ok (.if_icmp .ne 17, 3) := by decide +kernel
theorem dL_way_16 : decode cL_way 16 = .ok (.iload_n 3, 1) := by decide +kernel
theorem dL_way_17 : decode cL_way 17 = .ok (.bipush 9, 2) := by decide +kernel
theorem dL_way_19 : decode cL_way 19 = .ok (.if_icmp .ge 7, 3) := by decide +kernel
theorem dL_way_22 : decode cL_way 22 = .ok (.iconst 1, 1) := by decide +kernel
theorem dL_way_23 : decode cL_way 23 = .ok (.goto 58, 3) := by decide +kernel
theorem dL_way_26 : decode cL_way 26 = .ok (.iconst 0, 1) := by decide +kernel
theorem dL_way_27 : decode cL_way 27 = .ok (.goto 54, 3) := by decide +kernel
theorem dL_way_30 : decode cL_way 30 = .ok (.iload_n 1, 1) := by decide +kernel
theorem dL_way_31 : decode cL_way 31 = .ok (.iconst 2, 1) := by decide +kernel
theorem dL_way_32 : decode cL_way 32 = .ok (.if_icmp .ne 15, 3) := by decide +kernel
theorem dL_way_35 : decode cL_way 35 = .ok (.iload_n 3, 1) := by decide +kernel
theorem dL_way_36 : decode cL_way 36 = .ok (.ifCond .le 7, 3) := by decide +kernel
theorem dL_way_39 : decode cL_way 39 = .ok (.iconst 1, 1) := by decide +kernel
theorem dL_way_40 : decode cL_way 40 = .ok (.goto 41, 3) := by decide +kernel
theorem dL_way_43 : decode cL_way 43 = .ok (.iconst 0, 1) := by decide +kernel
theorem dL_way_44 : decode cL_way 44 = .ok (.goto 37, 3) := by decide +kernel
theorem dL_way_47 : decode cL_way 47 = .ok (.iload_n 1, 1) := by decide +kernel
theorem dL_way_48 : decode cL_way 48 = .ok (.iconst 3, 1) := by decide +kernel
theorem dL_way_49 : decode cL_way 49 = .ok (.if_icmp .ne 17, 3) := by decide +kernel
theorem dL_way_52 : decode cL_way 52 = .ok (.iload 4, 2) := by decide +kernel
theorem dL_way_54 : decode cL_way 54 = .ok (.iconst 5, 1) := by decide +kernel
theorem dL_way_55 : decode cL_way 55 = .ok (.if_icmp .ge 7, 3) := by decide +kernel
theorem dL_way_58 : decode cL_way 58 = .ok (.iconst 1, 1) := by decide +kernel
theorem dL_way_59 : decode cL_way 59 = .ok (.goto 22, 3) := by decide +kernel
theorem dL_way_62 : decode cL_way 62 = .ok (.iconst 0, 1) := by decide +kernel
theorem dL_way_63 : decode cL_way 63 = .ok (.goto 18, 3) := by decide +kernel
theorem dL_way_66 : decode cL_way 66 = .ok (.iload_n 1, 1) := by decide +kernel
theorem dL_way_67 : decode cL_way 67 = .ok (.iconst 4, 1) := by decide +kernel
theorem dL_way_68 : decode cL_way 68 = .ok (.if_icmp .ne 12, 3) := by decide +kernel
theorem dL_way_71 : decode cL_way 71 = .ok (.iload 4, 2) := by decide +kernel
theorem dL_way_73 : decode cL_way 73 = .ok (.ifCond .le 7, 3) := by decide +kernel
theorem dL_way_76 : decode cL_way 76 = .ok (.iconst 1, 1) := by decide +kernel
theorem dL_way_77 : decode cL_way 77 = .ok (.goto 4, 3) := by decide +kernel
theorem dL_way_80 : decode cL_way 80 = .ok (.iconst 0, 1) := by decide +kernel
theorem dL_way_81 : decode cL_way 81 = .ok (.istore 5, 2) := by decide +kernel
theorem dL_way_83 : decode cL_way 83 = .ok (.iload 5, 2) := by decide +kernel
theorem dL_way_85 : decode cL_way 85 = .ok (.ifCond .ne 7, 3) := by decide +kernel
theorem dL_way_88 : decode cL_way 88 = .ok (.iconst (-1), 1) := by decide +kernel
theorem dL_way_89 : decode cL_way 89 = .ok (.goto 41, 3) := by decide +kernel
theorem dL_way_92 : decode cL_way 92 = .ok (.iload_n 1, 1) := by decide +kernel
theorem dL_way_93 : decode cL_way 93 = .ok (.iconst 1, 1) := by decide +kernel
theorem dL_way_94 : decode cL_way 94 = .ok (.if_icmp .ne 9, 3) := by decide +kernel
theorem dL_way_97 : decode cL_way 97 = .ok (.iload_n 0, 1) := by decide +kernel
theorem dL_way_98 : decode cL_way 98 = .ok (.iconst 1, 1) := by decide +kernel
theorem dL_way_99 : decode cL_way 99 = .ok (.iadd, 1) := by decide +kernel
theorem dL_way_100 : decode cL_way 100 = .ok (.goto 30, 3) := by decide +kernel
theorem dL_way_103 : decode cL_way 103 = .ok (.iload_n 1, 1) := by decide +kernel
theorem dL_way_104 : decode cL_way 104 = .ok (.iconst 2, 1) := by decide +kernel
theorem dL_way_105 : decode cL_way 105 = .ok (.if_icmp .ne 9, 3) := by decide +kernel
theorem dL_way_108 : decode cL_way 108 = .ok (.iload_n 0, 1) := by decide +kernel
theorem dL_way_109 : decode cL_way 109 = .ok (.iconst 1, 1) := by decide +kernel
theorem dL_way_110 : decode cL_way 110 = .ok (.isub, 1) := by decide +kernel
theorem dL_way_111 : decode cL_way 111 = .ok (.goto 19, 3) := by decide +kernel
theorem dL_way_114 : decode cL_way 114 = .ok (.iload_n 1, 1) := by decide +kernel
theorem dL_way_115 : decode cL_way 115 = .ok (.iconst 3, 1) := by decide +kernel
theorem dL_way_116 : decode cL_way 116 = .ok (.if_icmp .ne 10, 3) := by decide +kernel
theorem dL_way_119 : decode cL_way 119 = .ok (.iload_n 0, 1) := by decide +kernel
theorem dL_way_120 : decode cL_way 120 = .ok (.bipush 10, 2) := by decide +kernel
theorem dL_way_122 : decode cL_way 122 = .ok (.iadd, 1) := by decide +kernel
theorem dL_way_123 : decode cL_way 123 = .ok (.goto 7, 3) := by decide +kernel
theorem dL_way_126 : decode cL_way 126 = .ok (.iload_n 0, 1) := by decide +kernel
theorem dL_way_127 : decode cL_way 127 = .ok (.bipush 10, 2) := by decide +kernel
theorem dL_way_129 : decode cL_way 129 = .ok (.isub, 1) := by decide +kernel
theorem dL_way_130 : decode cL_way 130 = .ok (.istore 6, 2) := by decide +kernel
theorem dL_way_132 : decode cL_way 132 = .ok (.iload 6, 2) := by decide +kernel
theorem dL_way_134 : decode cL_way 134 = .ok (.ifCond .lt 16, 3) := by decide +kernel
theorem dL_way_137 : decode cL_way 137 = .ok (.aload_n 2, 1) := by decide +kernel
theorem dL_way_138 : decode cL_way 138 = .ok (.iload 6, 2) := by decide +kernel
theorem dL_way_140 : decode cL_way 140 = .ok (.iaload, 1) := by decide +kernel
theorem dL_way_141 : decode cL_way 141 = .ok (.bipush 8, 2) := by decide +kernel
theorem dL_way_143 : decode cL_way 143 = .ok (.if_icmp .lt 7, 3) := by decide +kernel
theorem dL_way_146 : decode cL_way 146 = .ok (.iconst (-1), 1) := by decide +kernel
theorem dL_way_147 : decode cL_way 147 = .ok (.goto 5, 3) := by decide +kernel
theorem dL_way_150 : decode cL_way 150 = .ok (.iload 6, 2) := by decide +kernel
theorem dL_way_152 : decode cL_way 152 = .ok (.ireturn, 1) := by decide +kernel
theorem dL_leads_0 : decode cL_leads 0 = .ok (.iload_n 0, 1) := by decide +kernel
theorem dL_leads_1 : decode cL_leads 1 = .ok (.aload_n 1, 1) := by decide +kernel
theorem dL_leads_2 : decode cL_leads 2 = .ok (.iload_n 0, 1) := by decide +kernel
theorem dL_leads_3 : decode cL_leads 3 = .ok (.iaload, 1) := by decide +kernel
theorem dL_leads_4 : decode cL_leads 4 = .ok (.bipush 8, 2) := by decide +kernel
theorem dL_leads_6 : decode cL_leads 6 = .ok (.irem, 1) := by decide +kernel
theorem dL_leads_7 : decode cL_leads 7 = .ok (.aload_n 1, 1) := by decide +kernel
theorem dL_leads_8 : decode cL_leads 8 = .ok (.invokestatic 51, 3) := by decide +kernel
theorem dL_leads_11 : decode cL_leads 11 = .ok (.ireturn, 1) := by decide +kernel
theorem dL_flowed_0 : decode cL_flowed 0 = .ok (.aload_n 2, 1) := by decide +kernel
theorem dL_flowed_1 : decode cL_flowed 1 = .ok (.iload_n 0, 1) := by decide +kernel
theorem dL_flowed_2 : decode cL_flowed 2 = .ok (.iaload, 1) := by decide +kernel
theorem dL_flowed_3 : decode cL_flowed 3 = .ok (.iload_n 0, 1) := by decide +kernel
theorem dL_flowed_4 : decode cL_flowed 4 = .ok (.aload_n 1, 1) := by decide +kernel
theorem dL_flowed_5 : decode cL_flowed 5 = .ok (.invokestatic 55, 3) := by decide +kernel
theorem dL_flowed_8 : decode cL_flowed 8 = .ok (.ifCond .lt 12, 3) := by decide +kernel
theorem dL_flowed_11 : decode cL_flowed 11 = .ok (.aload_n 2, 1) := by decide +kernel
theorem dL_flowed_12 : decode cL_flowed 12 = .ok (.iload_n 0, 1) := by decide +kernel
theorem dL_flowed_13 : decode cL_flowed 13 = .ok (.iaload, 1) := by decide +kernel
theorem dL_flowed_14 : decode cL_flowed 14 = .ok (.bipush 10, 2) := by decide +kernel
theorem dL_flowed_16 : decode cL_flowed 16 = .ok (.idiv, 1) := by decide +kernel
theorem dL_flowed_17 : decode cL_flowed 17 = .ok (.goto 4, 3) := by decide +kernel
theorem dL_flowed_20 : decode cL_flowed 20 = .ok (.iconst 0, 1) := by decide +kernel
theorem dL_flowed_21 : decode cL_flowed 21 = .ok (.isub, 1) := by decide +kernel
theorem dL_flowed_22 : decode cL_flowed 22 = .ok (.istore_n 3, 1) := by decide +kernel
theorem dL_flowed_23 : decode cL_flowed 23 = .ok (.iconst 1, 1) := by decide +kernel
theorem dL_flowed_24 : decode cL_flowed 24 = .ok (.istore 4, 2) := by decide +kernel
theorem dL_flowed_26 : decode cL_flowed 26 = .ok (.iload 4, 2) := by decide +kernel
theorem dL_flowed_28 : decode cL_flowed 28 = .ok (.iconst 5, 1) := by decide +kernel
theorem dL_flowed_29 : decode cL_flowed 29 = .ok (.if_icmp .ge 47, 3) := by decide +kernel
theorem dL_flowed_32 : decode cL_flowed 32 = .ok (.iload_n 0, 1) := by decide +kernel
theorem dL_flowed_33 : decode cL_flowed 33 = .ok (.iload 4, 2) := by decide +kernel
theorem dL_flowed_35 : decode cL_flowed 35 = .ok (.aload_n 1, 1) := by decide +kernel
theorem dL_flowed_36 : decode cL_flowed 36 = .ok (.invokestatic 51, 3) := by decide +kernel
theorem dL_flowed_39 : decode cL_flowed 39 = .ok (.istore 5, 2) := by decide +kernel
theorem dL_flowed_41 : decode cL_flowed 41 = .ok (.iload_n 3, 1) := by decide +kernel
theorem dL_flowed_42 : decode cL_flowed 42 = .ok (.iload 5, 2) := by decide +kernel
theorem dL_flowed_44 : decode cL_flowed 44 = .ok (.ifCond .lt 23, 3) := by decide +kernel
theorem dL_flowed_47 : decode cL_flowed 47 = .ok (.iload 5, 2) := by decide +kernel
theorem dL_flowed_49 : decode cL_flowed 49 = .ok (.aload_n 1, 1) := by decide +kernel
theorem dL_flowed_50 : decode cL_flowed 50 = .ok (.invokestatic 55, 3) := by decide +kernel
theorem dL_flowed_53 : decode cL_flowed 53 = .ok (.iload_n 0, 1) := by decide +kernel
theorem dL_flowed_54 : decode cL_flowed 54 = .ok (.if_icmp .ne 13, 3) := by decide +kernel
theorem dL_flowed_57 : decode cL_flowed 57 = .ok (.aload_n 2, 1) := by decide +kernel
theorem dL_flowed_58 : decode cL_flowed 58 = .ok (.iload 5, 2) := by decide +kernel
theorem dL_flowed_60 : decode cL_flowed 60 = .ok (.iaload, 1) := by decide +kernel
theorem dL_flowed_61 : decode cL_flowed 61 = .ok (.bipush 10, 2) := by decide +kernel
theorem dL_flowed_63 : decode cL_flowed 63 = .ok (.idiv, 1) := by decide +kernel
theorem dL_flowed_64 : decode cL_flowed 64 = .ok (.goto 4, 3) := by decide +kernel
theorem dL_flowed_67 : decode cL_flowed 67 = .ok (.iconst 0, 1) := by decide +kernel
theorem dL_flowed_68 : decode cL_flowed 68 = .ok (.iadd, 1) := by decide +kernel
theorem dL_flowed_69 : decode cL_flowed 69 = .ok (.istore_n 3, 1) := by decide +kernel
theorem dL_flowed_70 : decode cL_flowed 70 = .ok (.iinc 4 1, 3) := by decide +kernel
theorem dL_flowed_73 : decode cL_flowed 73 = .ok (.goto (-47), 3) := by decide +kernel
theorem dL_flowed_76 : decode cL_flowed 76 = .ok (.iload_n 3, 1) := by decide +kernel
theorem dL_flowed_77 : decode cL_flowed 77 = .ok (.ireturn, 1) := by decide +kernel
theorem dL_drifted_0 : decode cL_drifted 0 = .ok (.aload_n 2, 1) := by decide +kernel
theorem dL_drifted_1 : decode cL_drifted 1 = .ok (.iload_n 0, 1) := by decide +kernel
theorem dL_drifted_2 : decode cL_drifted 2 = .ok (.iaload, 1) := by decide +kernel
theorem dL_drifted_3 : decode cL_drifted 3 = .ok (.iload_n 0, 1) := by decide +kernel
theorem dL_drifted_4 : decode cL_drifted 4 = .ok (.aload_n 1, 1) := by decide +kernel
theorem dL_drifted_5 : decode cL_drifted 5 = .ok (.invokestatic 55, 3) := by decide +kernel
theorem dL_drifted_8 : decode cL_drifted 8 = .ok (.ifCond .lt 14, 3) := by decide +kernel
theorem dL_drifted_11 : decode cL_drifted 11 = .ok (.iconst 4, 1) := by decide +kernel
theorem dL_drifted_12 : decode cL_drifted 12 = .ok (.aload_n 2, 1) := by decide +kernel
theorem dL_drifted_13 : decode cL_drifted 13 = .ok (.iload_n 0, 1) := by decide +kernel
theorem dL_drifted_14 : decode cL_drifted 14 = .ok (.iaload, 1) := by decide +kernel
theorem dL_drifted_15 : decode cL_drifted 15 = .ok (.imul, 1) := by decide +kernel
theorem dL_drifted_16 : decode cL_drifted 16 = .ok (.bipush 10, 2) := by decide +kernel
theorem dL_drifted_18 : decode cL_drifted 18 = .ok (.idiv, 1) := by decide +kernel
theorem dL_drifted_19 : decode cL_drifted 19 = .ok (.goto 4, 3) := by decide +kernel
theorem dL_drifted_22 : decode cL_drifted 22 = .ok (.iconst 0, 1) := by decide +kernel
theorem dL_drifted_23 : decode cL_drifted 23 = .ok (.isub, 1) := by decide +kernel
theorem dL_drifted_24 : decode cL_drifted 24 = .ok (.istore_n 3, 1) := by decide +kernel
theorem dL_drifted_25 : decode cL_drifted 25 = .ok (.iconst 1, 1) := by decide +kernel
theorem dL_drifted_26 : decode cL_drifted 26 = .ok (.istore 4, 2) := by decide +kernel
theorem dL_drifted_28 : decode cL_drifted 28 = .ok (.iload 4, 2) := by decide +kernel
theorem dL_drifted_30 : decode cL_drifted 30 = .ok (.iconst 5, 1) := by decide +kernel
theorem dL_drifted_31 : decode cL_drifted 31 = .ok (.if_icmp .ge 68, 3) := by decide +kernel
theorem dL_drifted_34 : decode cL_drifted 34 = .ok (.iload_n 0, 1) := by decide +kernel
theorem dL_drifted_35 : decode cL_drifted 35 = .ok (.iload 4, 2) := by decide +kernel
theorem dL_drifted_37 : decode cL_drifted 37 = .ok (.aload_n 1, 1) := by decide +kernel
theorem dL_drifted_38 : decode cL_drifted 38 = .ok (.invokestatic 51, 3) := by decide +kernel
theorem dL_drifted_41 : decode cL_drifted 41 = .ok (.istore 5, 2) := by decide +kernel
theorem dL_drifted_43 : decode cL_drifted 43 = .ok (.iload_n 3, 1) := by decide +kernel
theorem dL_drifted_44 : decode cL_drifted 44 = .ok (.iload 5, 2) := by decide +kernel
theorem dL_drifted_46 : decode cL_drifted 46 = .ok (.ifCond .ge 7, 3) := by decide +kernel
theorem dL_drifted_49 : decode cL_drifted 49 = .ok (.iconst 0, 1) := by decide +kernel
theorem dL_drifted_50 : decode cL_drifted 50 = .ok (.goto 41, 3) := by decide +kernel
theorem dL_drifted_53 : decode cL_drifted 53 = .ok (.aload_n 2, 1) := by decide +kernel
theorem dL_drifted_54 : decode cL_drifted 54 = .ok (.iload 5, 2) := by decide +kernel
theorem dL_drifted_56 : decode cL_drifted 56 = .ok (.iaload, 1) := by decide +kernel
theorem dL_drifted_57 : decode cL_drifted 57 = .ok (.bipush 10, 2) := by decide +kernel
theorem dL_drifted_59 : decode cL_drifted 59 = .ok (.idiv, 1) := by decide +kernel
theorem dL_drifted_60 : decode cL_drifted 60 = .ok (.aload_n 2, 1) := by decide +kernel
theorem dL_drifted_61 : decode cL_drifted 61 = .ok (.iload_n 0, 1) := by decide +kernel
theorem dL_drifted_62 : decode cL_drifted 62 = .ok (.iaload, 1) := by decide +kernel
theorem dL_drifted_63 : decode cL_drifted 63 = .ok (.bipush 10, 2) := by decide +kernel
theorem dL_drifted_65 : decode cL_drifted 65 = .ok (.idiv, 1) := by decide +kernel
theorem dL_drifted_66 : decode cL_drifted 66 = .ok (.isub, 1) := by decide +kernel
theorem dL_drifted_67 : decode cL_drifted 67 = .ok (.iload 5, 2) := by decide +kernel
theorem dL_drifted_69 : decode cL_drifted 69 = .ok (.aload_n 1, 1) := by decide +kernel
theorem dL_drifted_70 : decode cL_drifted 70 = .ok (.invokestatic 55, 3) := by decide +kernel
theorem dL_drifted_73 : decode cL_drifted 73 = .ok (.iload_n 0, 1) := by decide +kernel
theorem dL_drifted_74 : decode cL_drifted 74 = .ok (.if_icmp .ne 15, 3) := by decide +kernel
theorem dL_drifted_77 : decode cL_drifted 77 = .ok (.iconst 4, 1) := by decide +kernel
theorem dL_drifted_78 : decode cL_drifted 78 = .ok (.aload_n 2, 1) := by decide +kernel
theorem dL_drifted_79 : decode cL_drifted 79 = .ok (.iload 5, 2) := by decide +kernel
theorem dL_drifted_81 : decode cL_drifted 81 = .ok (.iaload, 1) := by decide +kernel
theorem dL_drifted_82 : decode cL_drifted 82 = .ok (.imul, 1) := by decide +kernel
theorem dL_drifted_83 : decode cL_drifted 83 = .ok (.bipush 10, 2) := by decide +kernel
theorem dL_drifted_85 : decode cL_drifted 85 = .ok (.idiv, 1) := by decide +kernel
theorem dL_drifted_86 : decode cL_drifted 86 = .ok (.goto 4, 3) := by decide +kernel
theorem dL_drifted_89 : decode cL_drifted 89 = .ok (.iconst 0, 1) := by decide +kernel
theorem dL_drifted_90 : decode cL_drifted 90 = .ok (.iadd, 1) := by decide +kernel
theorem dL_drifted_91 : decode cL_drifted 91 = .ok (.iadd, 1) := by decide +kernel
theorem dL_drifted_92 : decode cL_drifted 92 = .ok (.istore_n 3, 1) := by decide +kernel
theorem dL_drifted_93 : decode cL_drifted 93 = .ok (.iinc 4 1, 3) := by decide +kernel
theorem dL_drifted_96 : decode cL_drifted 96 = .ok (.goto (-68), 3) := by decide +kernel
theorem dL_drifted_99 : decode cL_drifted 99 = .ok (.iload_n 3, 1) := by decide +kernel
theorem dL_drifted_100 : decode cL_drifted 100 = .ok (.ireturn, 1) := by decide +kernel
theorem dL_isStorm_0 : decode cL_isStorm 0 = .ok (.iconst 0, 1) := by decide +kernel
theorem dL_isStorm_1 : decode cL_isStorm 1 = .ok (.istore_n 3, 1) := by decide +kernel
theorem dL_isStorm_2 : decode cL_isStorm 2 = .ok (.iconst 0, 1) := by decide +kernel
theorem dL_isStorm_3 : decode cL_isStorm 3 = .ok (.istore 4, 2) := by decide +kernel
theorem dL_isStorm_5 : decode cL_isStorm 5 = .ok (.iload 4, 2) := by decide +kernel
theorem dL_isStorm_7 : decode cL_isStorm 7 = .ok (.aload_n 2, 1) := by decide +kernel
theorem dL_isStorm_8 : decode cL_isStorm 8 = .ok (.iconst 4, 1) := by decide +kernel
theorem dL_isStorm_9 : decode cL_isStorm 9 = .ok (.iaload, 1) := by decide +kernel
theorem dL_isStorm_10 : decode cL_isStorm 10 = .ok (.if_icmp .ge 41, 3) := by decide +kernel
theorem dL_isStorm_13 : decode cL_isStorm 13 = .ok (.iload_n 3, 1) := by decide +kernel
theorem dL_isStorm_14 : decode cL_isStorm 14 = .ok (.ifCond .ne 25, 3) := by decide +kernel
theorem dL_isStorm_17 : decode cL_isStorm 17 = .ok (.aload_n 1, 1) := by decide +kernel
theorem dL_isStorm_18 : decode cL_isStorm 18 = .ok (.iconst 2, 1) := by decide +kernel
theorem dL_isStorm_19 : decode cL_isStorm 19 = .ok (.iload 4, 2) := by decide +kernel
theorem dL_isStorm_21 : decode cL_isStorm 21 = .ok (.imul, 1) := by decide +kernel
theorem dL_isStorm_22 : decode cL_isStorm 22 = .ok (.iaload, 1) := by decide +kernel
theorem dL_isStorm_23 : decode cL_isStorm 23 = .ok (.iload_n 0, 1) := by decide +kernel
theorem dL_isStorm_24 : decode cL_isStorm 24 = .ok (.if_icmp .gt 19, 3) := by decide +kernel
theorem dL_isStorm_27 : decode cL_isStorm 27 = .ok (.iload_n 0, 1) := by decide +kernel
theorem dL_isStorm_28 : decode cL_isStorm 28 = .ok (.aload_n 1, 1) := by decide +kernel
theorem dL_isStorm_29 : decode cL_isStorm 29 = .ok (.iconst 2, 1) := by decide +kernel
theorem dL_isStorm_30 : decode cL_isStorm 30 = .ok (.iload 4, 2) := by decide +kernel
theorem dL_isStorm_32 : decode cL_isStorm 32 = .ok (.imul, 1) := by decide +kernel
theorem dL_isStorm_33 : decode cL_isStorm 33 = .ok (.iconst 1, 1) := by decide +kernel
theorem dL_isStorm_34 : decode cL_isStorm 34 = .ok (.iadd, 1) := by decide +kernel
theorem dL_isStorm_35 : decode cL_isStorm 35 = .ok (.iaload, 1) := by decide +kernel
theorem dL_isStorm_36 : decode cL_isStorm 36 = .ok (.if_icmp .gt 7, 3) := by decide +kernel
theorem dL_isStorm_39 : decode cL_isStorm 39 = .ok (.iconst 1, 1) := by decide +kernel
theorem dL_isStorm_40 : decode cL_isStorm 40 = .ok (.goto 4, 3) := by decide +kernel
theorem dL_isStorm_43 : decode cL_isStorm 43 = .ok (.iconst 0, 1) := by decide +kernel
theorem dL_isStorm_44 : decode cL_isStorm 44 = .ok (.istore_n 3, 1) := by decide +kernel
theorem dL_isStorm_45 : decode cL_isStorm 45 = .ok (.iinc 4 1, 3) := by decide +kernel
theorem dL_isStorm_48 : decode cL_isStorm 48 = .ok (.goto (-43), 3) := by decide +kernel
theorem dL_isStorm_51 : decode cL_isStorm 51 = .ok (.iload_n 3, 1) := by decide +kernel
theorem dL_isStorm_52 : decode cL_isStorm 52 = .ok (.ireturn, 1) := by decide +kernel
theorem dL_reads_0 : decode cL_reads 0 = .ok (.aload_n 3, 1) := by decide +kernel
theorem dL_reads_1 : decode cL_reads 1 = .ok (.aload 6, 2) := by decide +kernel
theorem dL_reads_3 : decode cL_reads 3 = .ok (.iconst 5, 1) := by decide +kernel
theorem dL_reads_4 : decode cL_reads 4 = .ok (.iaload, 1) := by decide +kernel
theorem dL_reads_5 : decode cL_reads 5 = .ok (.bipush 64, 2) := by decide +kernel
theorem dL_reads_7 : decode cL_reads 7 = .ok (.aload 6, 2) := by decide +kernel
theorem dL_reads_9 : decode cL_reads 9 = .ok (.iconst 0, 1) := by decide +kernel
theorem dL_reads_10 : decode cL_reads 10 = .ok (.iaload, 1) := by decide +kernel
theorem dL_reads_11 : decode cL_reads 11 = .ok (.imul, 1) := by decide +kernel
theorem dL_reads_12 : decode cL_reads 12 = .ok (.iload_n 0, 1) := by decide +kernel
theorem dL_reads_13 : decode cL_reads 13 = .ok (.iadd, 1) := by decide +kernel
theorem dL_reads_14 : decode cL_reads 14 = .ok (.iastore, 1) := by decide +kernel
theorem dL_reads_15 : decode cL_reads 15 = .ok (.aload 4, 2) := by decide +kernel
theorem dL_reads_17 : decode cL_reads 17 = .ok (.aload 6, 2) := by decide +kernel
theorem dL_reads_19 : decode cL_reads 19 = .ok (.iconst 5, 1) := by decide +kernel
theorem dL_reads_20 : decode cL_reads 20 = .ok (.iaload, 1) := by decide +kernel
theorem dL_reads_21 : decode cL_reads 21 = .ok (.iload_n 2, 1) := by decide +kernel
theorem dL_reads_22 : decode cL_reads 22 = .ok (.iastore, 1) := by decide +kernel
theorem dL_reads_23 : decode cL_reads 23 = .ok (.aload 5, 2) := by decide +kernel
theorem dL_reads_25 : decode cL_reads 25 = .ok (.aload 6, 2) := by decide +kernel
theorem dL_reads_27 : decode cL_reads 27 = .ok (.iconst 5, 1) := by decide +kernel
theorem dL_reads_28 : decode cL_reads 28 = .ok (.iaload, 1) := by decide +kernel
theorem dL_reads_29 : decode cL_reads 29 = .ok (.iload_n 1, 1) := by decide +kernel
theorem dL_reads_30 : decode cL_reads 30 = .ok (.iastore, 1) := by decide +kernel
theorem dL_reads_31 : decode cL_reads 31 = .ok (.aload 6, 2) := by decide +kernel
theorem dL_reads_33 : decode cL_reads 33 = .ok (.iconst 5, 1) := by decide +kernel
theorem dL_reads_34 : decode cL_reads 34 = .ok (.dup2, 1) := by decide +kernel
theorem dL_reads_35 : decode cL_reads 35 = .ok (.iaload, 1) := by decide +kernel
theorem dL_reads_36 : decode cL_reads 36 = .ok (.iconst 1, 1) := by decide +kernel
theorem dL_reads_37 : decode cL_reads 37 = .ok (.iadd, 1) := by decide +kernel
theorem dL_reads_38 : decode cL_reads 38 = .ok (.iastore, 1) := by decide +kernel
theorem dL_reads_39 : decode cL_reads 39 = .ok (.return_, 1) := by decide +kernel
theorem dL_copies_0 : decode cL_copies 0 = .ok (.iconst 0, 1) := by decide +kernel
theorem dL_copies_1 : decode cL_copies 1 = .ok (.istore_n 2, 1) := by decide +kernel
theorem dL_copies_2 : decode cL_copies 2 = .ok (.iload_n 2, 1) := by decide +kernel
theorem dL_copies_3 : decode cL_copies 3 = .ok (.bipush 60, 2) := by decide +kernel
theorem dL_copies_5 : decode cL_copies 5 = .ok (.if_icmp .ge 15, 3) := by decide +kernel
theorem dL_copies_8 : decode cL_copies 8 = .ok (.aload_n 1, 1) := by decide +kernel
theorem dL_copies_9 : decode cL_copies 9 = .ok (.iload_n 2, 1) := by decide +kernel
theorem dL_copies_10 : decode cL_copies 10 = .ok (.aload_n 0, 1) := by decide +kernel
theorem dL_copies_11 : decode cL_copies 11 = .ok (.iload_n 2, 1) := by decide +kernel
theorem dL_copies_12 : decode cL_copies 12 = .ok (.iaload, 1) := by decide +kernel
theorem dL_copies_13 : decode cL_copies 13 = .ok (.iastore, 1) := by decide +kernel
theorem dL_copies_14 : decode cL_copies 14 = .ok (.iinc 2 1, 3) := by decide +kernel
theorem dL_copies_17 : decode cL_copies 17 = .ok (.goto (-15), 3) := by decide +kernel
theorem dL_copies_20 : decode cL_copies 20 = .ok (.return_, 1) := by decide +kernel
theorem dL_passes_0 : decode cL_passes 0 = .ok (.aload 15, 2) := by decide +kernel
theorem dL_passes_2 : decode cL_passes 2 = .ok (.iconst 0, 1) := by decide +kernel
theorem dL_passes_3 : decode cL_passes 3 = .ok (.dup2, 1) := by decide +kernel
theorem dL_passes_4 : decode cL_passes 4 = .ok (.iaload, 1) := by decide +kernel
theorem dL_passes_5 : decode cL_passes 5 = .ok (.iconst 1, 1) := by decide +kernel
theorem dL_passes_6 : decode cL_passes 6 = .ok (.iadd, 1) := by decide +kernel
theorem dL_passes_7 : decode cL_passes 7 = .ok (.iastore, 1) := by decide +kernel
theorem dL_passes_8 : decode cL_passes 8 = .ok (.iconst 0, 1) := by decide +kernel
theorem dL_passes_9 : decode cL_passes 9 = .ok (.istore 16, 2) := by decide +kernel
theorem dL_passes_11 : decode cL_passes 11 = .ok (.iload 16, 2) := by decide +kernel
theorem dL_passes_13 : decode cL_passes 13 = .ok (.bipush 60, 2) := by decide +kernel
theorem dL_passes_15 : decode cL_passes 15 = .ok (.if_icmp .ge 59, 3) := by decide +kernel
theorem dL_passes_18 : decode cL_passes 18 = .ok (.aload 13, 2) := by decide +kernel
theorem dL_passes_20 : decode cL_passes 20 = .ok (.iload 16, 2) := by decide +kernel
theorem dL_passes_22 : decode cL_passes 22 = .ok (.aload_n 0, 1) := by decide +kernel
theorem dL_passes_23 : decode cL_passes 23 = .ok (.iload 16, 2) := by decide +kernel
theorem dL_passes_25 : decode cL_passes 25 = .ok (.iaload, 1) := by decide +kernel
theorem dL_passes_26 : decode cL_passes 26 = .ok (.bipush 8, 2) := by decide +kernel
theorem dL_passes_28 : decode cL_passes 28 = .ok (.if_icmp .ge 13, 3) := by decide +kernel
theorem dL_passes_31 : decode cL_passes 31 = .ok (.iload 16, 2) := by decide +kernel
theorem dL_passes_33 : decode cL_passes 33 = .ok (.aload_n 0, 1) := by decide +kernel
theorem dL_passes_34 : decode cL_passes 34 = .ok (.aload_n 1, 1) := by decide +kernel
theorem dL_passes_35 : decode cL_passes 35 = .ok (.invokestatic 59, 3) := by decide +kernel
theorem dL_passes_38 : decode cL_passes 38 = .ok (.goto 4, 3) := by decide +kernel
theorem dL_passes_41 : decode cL_passes 41 = .ok (.iconst 0, 1) := by decide +kernel
theorem dL_passes_42 : decode cL_passes 42 = .ok (.iastore, 1) := by decide +kernel
theorem dL_passes_43 : decode cL_passes 43 = .ok (.aload 14, 2) := by decide +kernel
theorem dL_passes_45 : decode cL_passes 45 = .ok (.iload 16, 2) := by decide +kernel
theorem dL_passes_47 : decode cL_passes 47 = .ok (.aload_n 0, 1) := by decide +kernel
theorem dL_passes_48 : decode cL_passes 48 = .ok (.iload 16, 2) := by decide +kernel
theorem dL_passes_50 : decode cL_passes 50 = .ok (.iaload, 1) := by decide +kernel
theorem dL_passes_51 : decode cL_passes 51 = .ok (.bipush 8, 2) := by decide +kernel
theorem dL_passes_53 : decode cL_passes 53 = .ok (.if_icmp .ge 13, 3) := by decide +kernel
theorem dL_passes_56 : decode cL_passes 56 = .ok (.iload 16, 2) := by decide +kernel
theorem dL_passes_58 : decode cL_passes 58 = .ok (.aload_n 0, 1) := by decide +kernel
theorem dL_passes_59 : decode cL_passes 59 = .ok (.aload_n 3, 1) := by decide +kernel
theorem dL_passes_60 : decode cL_passes 60 = .ok (.invokestatic 59, 3) := by decide +kernel
theorem dL_passes_63 : decode cL_passes 63 = .ok (.goto 4, 3) := by decide +kernel
theorem dL_passes_66 : decode cL_passes 66 = .ok (.iconst 0, 1) := by decide +kernel
theorem dL_passes_67 : decode cL_passes 67 = .ok (.iastore, 1) := by decide +kernel
theorem dL_passes_68 : decode cL_passes 68 = .ok (.iinc 16 1, 3) := by decide +kernel
theorem dL_passes_71 : decode cL_passes 71 = .ok (.goto (-60), 3) := by decide +kernel
theorem dL_passes_74 : decode cL_passes 74 = .ok (.aload 14, 2) := by decide +kernel
theorem dL_passes_76 : decode cL_passes 76 = .ok (.aload_n 3, 1) := by decide +kernel
theorem dL_passes_77 : decode cL_passes 77 = .ok (.invokestatic 63, 3) := by decide +kernel
theorem dL_passes_80 : decode cL_passes 80 = .ok (.iconst 0, 1) := by decide +kernel
theorem dL_passes_81 : decode cL_passes 81 = .ok (.istore 16, 2) := by decide +kernel
theorem dL_passes_83 : decode cL_passes 83 = .ok (.iload 16, 2) := by decide +kernel
theorem dL_passes_85 : decode cL_passes 85 = .ok (.bipush 60, 2) := by decide +kernel
theorem dL_passes_87 : decode cL_passes 87 = .ok (.if_icmp .ge 166, 3) := by decide +kernel
theorem dL_passes_90 : decode cL_passes 90 = .ok (.aload 13, 2) := by decide +kernel
theorem dL_passes_92 : decode cL_passes 92 = .ok (.iload 16, 2) := by decide +kernel
theorem dL_passes_94 : decode cL_passes 94 = .ok (.iaload, 1) := by decide +kernel
theorem dL_passes_95 : decode cL_passes 95 = .ok (.aload 15, 2) := by decide +kernel
theorem dL_passes_97 : decode cL_passes 97 = .ok (.bipush 8, 2) := by decide +kernel
theorem dL_passes_99 : decode cL_passes 99 = .ok (.iload 16, 2) := by decide +kernel
theorem dL_passes_101 : decode cL_passes 101 = .ok (.bipush 10, 2) := by decide +kernel
theorem dL_passes_103 : decode cL_passes 103 = .ok (.idiv, 1) := by decide +kernel
theorem dL_passes_104 : decode cL_passes 104 = .ok (.iadd, 1) := by decide +kernel
theorem dL_passes_105 : decode cL_passes 105 = .ok (.iaload, 1) := by decide +kernel
theorem dL_passes_106 : decode cL_passes 106 = .ok (.iadd, 1) := by decide +kernel
theorem dL_passes_107 : decode cL_passes 107 = .ok (.istore 17, 2) := by decide +kernel
theorem dL_passes_109 : decode cL_passes 109 = .ok (.aload_n 0, 1) := by decide +kernel
theorem dL_passes_110 : decode cL_passes 110 = .ok (.iload 16, 2) := by decide +kernel
theorem dL_passes_112 : decode cL_passes 112 = .ok (.iaload, 1) := by decide +kernel
theorem dL_passes_113 : decode cL_passes 113 = .ok (.bipush 7, 2) := by decide +kernel
theorem dL_passes_115 : decode cL_passes 115 = .ok (.if_icmp .gt 8, 3) := by decide +kernel
theorem dL_passes_118 : decode cL_passes 118 = .ok (.iload 17, 2) := by decide +kernel
theorem dL_passes_120 : decode cL_passes 120 = .ok (.ifCond .ge 7, 3) := by decide +kernel
theorem dL_passes_123 : decode cL_passes 123 = .ok (.iconst 0, 1) := by decide +kernel
theorem dL_passes_124 : decode cL_passes 124 = .ok (.goto 5, 3) := by decide +kernel
theorem dL_passes_127 : decode cL_passes 127 = .ok (.iload 17, 2) := by decide +kernel
theorem dL_passes_129 : decode cL_passes 129 = .ok (.istore 17, 2) := by decide +kernel
theorem dL_passes_131 : decode cL_passes 131 = .ok (.aload 15, 2) := by decide +kernel
theorem dL_passes_133 : decode cL_passes 133 = .ok (.iconst 1, 1) := by decide +kernel
theorem dL_passes_134 : decode cL_passes 134 = .ok (.dup2, 1) := by decide +kernel
theorem dL_passes_135 : decode cL_passes 135 = .ok (.iaload, 1) := by decide +kernel
theorem dL_passes_136 : decode cL_passes 136 = .ok (.iload 17, 2) := by decide +kernel
theorem dL_passes_138 : decode cL_passes 138 = .ok (.aload 13, 2) := by decide +kernel
theorem dL_passes_140 : decode cL_passes 140 = .ok (.iload 16, 2) := by decide +kernel
theorem dL_passes_142 : decode cL_passes 142 = .ok (.iaload, 1) := by decide +kernel
theorem dL_passes_143 : decode cL_passes 143 = .ok (.isub, 1) := by decide +kernel
theorem dL_passes_144 : decode cL_passes 144 = .ok (.iadd, 1) := by decide +kernel
theorem dL_passes_145 : decode cL_passes 145 = .ok (.iastore, 1) := by decide +kernel
theorem dL_passes_146 : decode cL_passes 146 = .ok (.aload_n 1, 1) := by decide +kernel
theorem dL_passes_147 : decode cL_passes 147 = .ok (.iload 16, 2) := by decide +kernel
theorem dL_passes_149 : decode cL_passes 149 = .ok (.iload 17, 2) := by decide +kernel
theorem dL_passes_151 : decode cL_passes 151 = .ok (.iastore, 1) := by decide +kernel
theorem dL_passes_152 : decode cL_passes 152 = .ok (.aload_n 0, 1) := by decide +kernel
theorem dL_passes_153 : decode cL_passes 153 = .ok (.iload 16, 2) := by decide +kernel
theorem dL_passes_155 : decode cL_passes 155 = .ok (.iaload, 1) := by decide +kernel
theorem dL_passes_156 : decode cL_passes 156 = .ok (.bipush 8, 2) := by decide +kernel
theorem dL_passes_158 : decode cL_passes 158 = .ok (.if_icmp .ge 89, 3) := by decide +kernel
theorem dL_passes_161 : decode cL_passes 161 = .ok (.aload_n 1, 1) := by decide +kernel
theorem dL_passes_162 : decode cL_passes 162 = .ok (.iload 16, 2) := by decide +kernel
theorem dL_passes_164 : decode cL_passes 164 = .ok (.iaload, 1) := by decide +kernel
theorem dL_passes_165 : decode cL_passes 165 = .ok (.aload_n 2, 1) := by decide +kernel
theorem dL_passes_166 : decode cL_passes 166 = .ok (.iload 16, 2) := by decide +kernel
theorem dL_passes_168 : decode cL_passes 168 = .ok (.iaload, 1) := by decide +kernel
theorem dL_passes_169 : decode cL_passes 169 = .ok (.isub, 1) := by decide +kernel
theorem dL_passes_170 : decode cL_passes 170 = .ok (.iconst 5, 1) := by decide +kernel
theorem dL_passes_171 : decode cL_passes 171 = .ok (.aload_n 3, 1) := by decide +kernel
theorem dL_passes_172 : decode cL_passes 172 = .ok (.iload 16, 2) := by decide +kernel
theorem dL_passes_174 : decode cL_passes 174 = .ok (.iaload, 1) := by decide +kernel
theorem dL_passes_175 : decode cL_passes 175 = .ok (.aload 4, 2) := by decide +kernel
theorem dL_passes_177 : decode cL_passes 177 = .ok (.iload 16, 2) := by decide +kernel
theorem dL_passes_179 : decode cL_passes 179 = .ok (.iaload, 1) := by decide +kernel
theorem dL_passes_180 : decode cL_passes 180 = .ok (.isub, 1) := by decide +kernel
theorem dL_passes_181 : decode cL_passes 181 = .ok (.imul, 1) := by decide +kernel
theorem dL_passes_182 : decode cL_passes 182 = .ok (.if_icmp .ge 65, 3) := by decide +kernel
theorem dL_passes_185 : decode cL_passes 185 = .ok (.aload_n 1, 1) := by decide +kernel
theorem dL_passes_186 : decode cL_passes 186 = .ok (.iload 16, 2) := by decide +kernel
theorem dL_passes_188 : decode cL_passes 188 = .ok (.iaload, 1) := by decide +kernel
theorem dL_passes_189 : decode cL_passes 189 = .ok (.aload_n 2, 1) := by decide +kernel
theorem dL_passes_190 : decode cL_passes 190 = .ok (.iload 16, 2) := by decide +kernel
theorem dL_passes_192 : decode cL_passes 192 = .ok (.iaload, 1) := by decide +kernel
theorem dL_passes_193 : decode cL_passes 193 = .ok (.iadd, 1) := by decide +kernel
theorem dL_passes_194 : decode cL_passes 194 = .ok (.istore 18, 2) := by decide +kernel
theorem dL_passes_196 : decode cL_passes 196 = .ok (.aload_n 3, 1) := by decide +kernel
theorem dL_passes_197 : decode cL_passes 197 = .ok (.iload 16, 2) := by decide +kernel
theorem dL_passes_199 : decode cL_passes 199 = .ok (.iaload, 1) := by decide +kernel
theorem dL_passes_200 : decode cL_passes 200 = .ok (.aload 4, 2) := by decide +kernel
theorem dL_passes_202 : decode cL_passes 202 = .ok (.iload 16, 2) := by decide +kernel
theorem dL_passes_204 : decode cL_passes 204 = .ok (.iaload, 1) := by decide +kernel
theorem dL_passes_205 : decode cL_passes 205 = .ok (.iadd, 1) := by decide +kernel
theorem dL_passes_206 : decode cL_passes 206 = .ok (.istore 19, 2) := by decide +kernel
theorem dL_passes_208 : decode cL_passes 208 = .ok (.aload_n 1, 1) := by decide +kernel
theorem dL_passes_209 : decode cL_passes 209 = .ok (.iload 16, 2) := by decide +kernel
theorem dL_passes_211 : decode cL_passes 211 = .ok (.iload 18, 2) := by decide +kernel
theorem dL_passes_213 : decode cL_passes 213 = .ok (.iconst 2, 1) := by decide +kernel
theorem dL_passes_214 : decode cL_passes 214 = .ok (.idiv, 1) := by decide +kernel
theorem dL_passes_215 : decode cL_passes 215 = .ok (.iastore, 1) := by decide +kernel
theorem dL_passes_216 : decode cL_passes 216 = .ok (.aload_n 3, 1) := by decide +kernel
theorem dL_passes_217 : decode cL_passes 217 = .ok (.iload 16, 2) := by decide +kernel
theorem dL_passes_219 : decode cL_passes 219 = .ok (.iload 19, 2) := by decide +kernel
theorem dL_passes_221 : decode cL_passes 221 = .ok (.iconst 2, 1) := by decide +kernel
theorem dL_passes_222 : decode cL_passes 222 = .ok (.idiv, 1) := by decide +kernel
theorem dL_passes_223 : decode cL_passes 223 = .ok (.iastore, 1) := by decide +kernel
theorem dL_passes_224 : decode cL_passes 224 = .ok (.aload_n 2, 1) := by decide +kernel
theorem dL_passes_225 : decode cL_passes 225 = .ok (.iload 16, 2) := by decide +kernel
theorem dL_passes_227 : decode cL_passes 227 = .ok (.iload 18, 2) := by decide +kernel
theorem dL_passes_229 : decode cL_passes 229 = .ok (.aload_n 1, 1) := by decide +kernel
theorem dL_passes_230 : decode cL_passes 230 = .ok (.iload 16, 2) := by decide +kernel
theorem dL_passes_232 : decode cL_passes 232 = .ok (.iaload, 1) := by decide +kernel
theorem dL_passes_233 : decode cL_passes 233 = .ok (.isub, 1) := by decide +kernel
theorem dL_passes_234 : decode cL_passes 234 = .ok (.iastore, 1) := by decide +kernel
theorem dL_passes_235 : decode cL_passes 235 = .ok (.aload 4, 2) := by decide +kernel
theorem dL_passes_237 : decode cL_passes 237 = .ok (.iload 16, 2) := by decide +kernel
theorem dL_passes_239 : decode cL_passes 239 = .ok (.iload 19, 2) := by decide +kernel
theorem dL_passes_241 : decode cL_passes 241 = .ok (.aload_n 3, 1) := by decide +kernel
theorem dL_passes_242 : decode cL_passes 242 = .ok (.iload 16, 2) := by decide +kernel
theorem dL_passes_244 : decode cL_passes 244 = .ok (.iaload, 1) := by decide +kernel
theorem dL_passes_245 : decode cL_passes 245 = .ok (.isub, 1) := by decide +kernel
theorem dL_passes_246 : decode cL_passes 246 = .ok (.iastore, 1) := by decide +kernel
theorem dL_passes_247 : decode cL_passes 247 = .ok (.iinc 16 1, 3) := by decide +kernel
theorem dL_passes_250 : decode cL_passes 250 = .ok (.goto (-167), 3) := by decide +kernel
theorem dL_passes_253 : decode cL_passes 253 = .ok (.iconst 0, 1) := by decide +kernel
theorem dL_passes_254 : decode cL_passes 254 = .ok (.istore 16, 2) := by decide +kernel
theorem dL_passes_256 : decode cL_passes 256 = .ok (.iload 16, 2) := by decide +kernel
theorem dL_passes_258 : decode cL_passes 258 = .ok (.aload 15, 2) := by decide +kernel
theorem dL_passes_260 : decode cL_passes 260 = .ok (.iconst 2, 1) := by decide +kernel
theorem dL_passes_261 : decode cL_passes 261 = .ok (.iaload, 1) := by decide +kernel
theorem dL_passes_262 : decode cL_passes 262 = .ok (.if_icmp .ge 201, 3) := by decide +kernel
theorem dL_passes_265 : decode cL_passes 265 = .ok (.aload 5, 2) := by decide +kernel
theorem dL_passes_267 : decode cL_passes 267 = .ok (.bipush 8, 2) := by decide +kernel
theorem dL_passes_269 : decode cL_passes 269 = .ok (.iload 16, 2) := by decide +kernel
theorem dL_passes_271 : decode cL_passes 271 = .ok (.imul, 1) := by decide +kernel
theorem dL_passes_272 : decode cL_passes 272 = .ok (.iconst 2, 1) := by decide +kernel
theorem dL_passes_273 : decode cL_passes 273 = .ok (.iadd, 1) := by decide +kernel
theorem dL_passes_274 : decode cL_passes 274 = .ok (.dup2, 1) := by decide +kernel
theorem dL_passes_275 : decode cL_passes 275 = .ok (.iaload, 1) := by decide +kernel
theorem dL_passes_276 : decode cL_passes 276 = .ok (.aload 5, 2) := by decide +kernel
theorem dL_passes_278 : decode cL_passes 278 = .ok (.bipush 8, 2) := by decide +kernel
theorem dL_passes_280 : decode cL_passes 280 = .ok (.iload 16, 2) := by decide +kernel
theorem dL_passes_282 : decode cL_passes 282 = .ok (.imul, 1) := by decide +kernel
theorem dL_passes_283 : decode cL_passes 283 = .ok (.iconst 3, 1) := by decide +kernel
theorem dL_passes_284 : decode cL_passes 284 = .ok (.iadd, 1) := by decide +kernel
theorem dL_passes_285 : decode cL_passes 285 = .ok (.iaload, 1) := by decide +kernel
theorem dL_passes_286 : decode cL_passes 286 = .ok (.ifCond .le 7, 3) := by decide +kernel
theorem dL_passes_289 : decode cL_passes 289 = .ok (.iconst 1, 1) := by decide +kernel
theorem dL_passes_290 : decode cL_passes 290 = .ok (.goto 4, 3) := by decide +kernel
theorem dL_passes_293 : decode cL_passes 293 = .ok (.iconst 0, 1) := by decide +kernel
theorem dL_passes_294 : decode cL_passes 294 = .ok (.isub, 1) := by decide +kernel
theorem dL_passes_295 : decode cL_passes 295 = .ok (.iastore, 1) := by decide +kernel
theorem dL_passes_296 : decode cL_passes 296 = .ok (.aload 5, 2) := by decide +kernel
theorem dL_passes_298 : decode cL_passes 298 = .ok (.bipush 8, 2) := by decide +kernel
theorem dL_passes_300 : decode cL_passes 300 = .ok (.iload 16, 2) := by decide +kernel
theorem dL_passes_302 : decode cL_passes 302 = .ok (.imul, 1) := by decide +kernel
theorem dL_passes_303 : decode cL_passes 303 = .ok (.iconst 3, 1) := by decide +kernel
theorem dL_passes_304 : decode cL_passes 304 = .ok (.iadd, 1) := by decide +kernel
theorem dL_passes_305 : decode cL_passes 305 = .ok (.iaload, 1) := by decide +kernel
theorem dL_passes_306 : decode cL_passes 306 = .ok (.ifCond .le 151, 3) := by decide +kernel
theorem dL_passes_309 : decode cL_passes 309 = .ok (.aload 5, 2) := by decide +kernel
theorem dL_passes_311 : decode cL_passes 311 = .ok (.bipush 8, 2) := by decide +kernel
theorem dL_passes_313 : decode cL_passes 313 = .ok (.iload 16, 2) := by decide +kernel
theorem dL_passes_315 : decode cL_passes 315 = .ok (.imul, 1) := by decide +kernel
theorem dL_passes_316 : decode cL_passes 316 = .ok (.iconst 2, 1) := by decide +kernel
theorem dL_passes_317 : decode cL_passes 317 = .ok (.iadd, 1) := by decide +kernel
theorem dL_passes_318 : decode cL_passes 318 = .ok (.iaload, 1) := by decide +kernel
theorem dL_passes_319 : decode cL_passes 319 = .ok (.ifCond .ne 138, 3) := by decide +kernel
theorem dL_passes_322 : decode cL_passes 322 = .ok (.aload 5, 2) := by decide +kernel
theorem dL_passes_324 : decode cL_passes 324 = .ok (.bipush 8, 2) := by decide +kernel
theorem dL_passes_326 : decode cL_passes 326 = .ok (.iload 16, 2) := by decide +kernel
theorem dL_passes_328 : decode cL_passes 328 = .ok (.imul, 1) := by decide +kernel
theorem dL_passes_329 : decode cL_passes 329 = .ok (.iaload, 1) := by decide +kernel
theorem dL_passes_330 : decode cL_passes 330 = .ok (.aload_n 0, 1) := by decide +kernel
theorem dL_passes_331 : decode cL_passes 331 = .ok (.invokestatic 55, 3) := by decide +kernel
theorem dL_passes_334 : decode cL_passes 334 = .ok (.istore 17, 2) := by decide +kernel
theorem dL_passes_336 : decode cL_passes 336 = .ok (.aload 5, 2) := by decide +kernel
theorem dL_passes_338 : decode cL_passes 338 = .ok (.bipush 8, 2) := by decide +kernel
theorem dL_passes_340 : decode cL_passes 340 = .ok (.iload 16, 2) := by decide +kernel
theorem dL_passes_342 : decode cL_passes 342 = .ok (.imul, 1) := by decide +kernel
theorem dL_passes_343 : decode cL_passes 343 = .ok (.iload 17, 2) := by decide +kernel
theorem dL_passes_345 : decode cL_passes 345 = .ok (.ifCond .ge 14, 3) := by decide +kernel
theorem dL_passes_348 : decode cL_passes 348 = .ok (.aload 5, 2) := by decide +kernel
theorem dL_passes_350 : decode cL_passes 350 = .ok (.bipush 8, 2) := by decide +kernel
theorem dL_passes_352 : decode cL_passes 352 = .ok (.iload 16, 2) := by decide +kernel
theorem dL_passes_354 : decode cL_passes 354 = .ok (.imul, 1) := by decide +kernel
theorem dL_passes_355 : decode cL_passes 355 = .ok (.iaload, 1) := by decide +kernel
theorem dL_passes_356 : decode cL_passes 356 = .ok (.goto 5, 3) := by decide +kernel
theorem dL_passes_359 : decode cL_passes 359 = .ok (.iload 17, 2) := by decide +kernel
theorem dL_passes_361 : decode cL_passes 361 = .ok (.iastore, 1) := by decide +kernel
theorem dL_passes_362 : decode cL_passes 362 = .ok (.aload 5, 2) := by decide +kernel
theorem dL_passes_364 : decode cL_passes 364 = .ok (.bipush 8, 2) := by decide +kernel
theorem dL_passes_366 : decode cL_passes 366 = .ok (.iload 16, 2) := by decide +kernel
theorem dL_passes_368 : decode cL_passes 368 = .ok (.imul, 1) := by decide +kernel
theorem dL_passes_369 : decode cL_passes 369 = .ok (.iaload, 1) := by decide +kernel
theorem dL_passes_370 : decode cL_passes 370 = .ok (.iload 16, 2) := by decide +kernel
theorem dL_passes_372 : decode cL_passes 372 = .ok (.iconst 1, 1) := by decide +kernel
theorem dL_passes_373 : decode cL_passes 373 = .ok (.iadd, 1) := by decide +kernel
theorem dL_passes_374 : decode cL_passes 374 = .ok (.aload_n 1, 1) := by decide +kernel
theorem dL_passes_375 : decode cL_passes 375 = .ok (.aload 5, 2) := by decide +kernel
theorem dL_passes_377 : decode cL_passes 377 = .ok (.bipush 8, 2) := by decide +kernel
theorem dL_passes_379 : decode cL_passes 379 = .ok (.iload 16, 2) := by decide +kernel
theorem dL_passes_381 : decode cL_passes 381 = .ok (.imul, 1) := by decide +kernel
theorem dL_passes_382 : decode cL_passes 382 = .ok (.iaload, 1) := by decide +kernel
theorem dL_passes_383 : decode cL_passes 383 = .ok (.iaload, 1) := by decide +kernel
theorem dL_passes_384 : decode cL_passes 384 = .ok (.aload 5, 2) := by decide +kernel
theorem dL_passes_386 : decode cL_passes 386 = .ok (.bipush 8, 2) := by decide +kernel
theorem dL_passes_388 : decode cL_passes 388 = .ok (.iload 16, 2) := by decide +kernel
theorem dL_passes_390 : decode cL_passes 390 = .ok (.imul, 1) := by decide +kernel
theorem dL_passes_391 : decode cL_passes 391 = .ok (.iconst 4, 1) := by decide +kernel
theorem dL_passes_392 : decode cL_passes 392 = .ok (.iadd, 1) := by decide +kernel
theorem dL_passes_393 : decode cL_passes 393 = .ok (.iaload, 1) := by decide +kernel
theorem dL_passes_394 : decode cL_passes 394 = .ok (.iadd, 1) := by decide +kernel
theorem dL_passes_395 : decode cL_passes 395 = .ok (.aload 8, 2) := by decide +kernel
theorem dL_passes_397 : decode cL_passes 397 = .ok (.aload 9, 2) := by decide +kernel
theorem dL_passes_399 : decode cL_passes 399 = .ok (.aload 10, 2) := by decide +kernel
theorem dL_passes_401 : decode cL_passes 401 = .ok (.aload 15, 2) := by decide +kernel
theorem dL_passes_403 : decode cL_passes 403 = .ok (.invokestatic 67, 3) := by decide +kernel
theorem dL_passes_406 : decode cL_passes 406 = .ok (.aload 5, 2) := by decide +kernel
theorem dL_passes_408 : decode cL_passes 408 = .ok (.bipush 8, 2) := by decide +kernel
theorem dL_passes_410 : decode cL_passes 410 = .ok (.iload 16, 2) := by decide +kernel
theorem dL_passes_412 : decode cL_passes 412 = .ok (.imul, 1) := by decide +kernel
theorem dL_passes_413 : decode cL_passes 413 = .ok (.iconst 3, 1) := by decide +kernel
theorem dL_passes_414 : decode cL_passes 414 = .ok (.iadd, 1) := by decide +kernel
theorem dL_passes_415 : decode cL_passes 415 = .ok (.dup2, 1) := by decide +kernel
theorem dL_passes_416 : decode cL_passes 416 = .ok (.iaload, 1) := by decide +kernel
theorem dL_passes_417 : decode cL_passes 417 = .ok (.iconst 1, 1) := by decide +kernel
theorem dL_passes_418 : decode cL_passes 418 = .ok (.isub, 1) := by decide +kernel
theorem dL_passes_419 : decode cL_passes 419 = .ok (.iastore, 1) := by decide +kernel
theorem dL_passes_420 : decode cL_passes 420 = .ok (.aload 5, 2) := by decide +kernel
theorem dL_passes_422 : decode cL_passes 422 = .ok (.bipush 8, 2) := by decide +kernel
theorem dL_passes_424 : decode cL_passes 424 = .ok (.iload 16, 2) := by decide +kernel
theorem dL_passes_426 : decode cL_passes 426 = .ok (.imul, 1) := by decide +kernel
theorem dL_passes_427 : decode cL_passes 427 = .ok (.iconst 2, 1) := by decide +kernel
theorem dL_passes_428 : decode cL_passes 428 = .ok (.iadd, 1) := by decide +kernel
theorem dL_passes_429 : decode cL_passes 429 = .ok (.aload 5, 2) := by decide +kernel
theorem dL_passes_431 : decode cL_passes 431 = .ok (.bipush 8, 2) := by decide +kernel
theorem dL_passes_433 : decode cL_passes 433 = .ok (.iload 16, 2) := by decide +kernel
theorem dL_passes_435 : decode cL_passes 435 = .ok (.imul, 1) := by decide +kernel
theorem dL_passes_436 : decode cL_passes 436 = .ok (.iconst 3, 1) := by decide +kernel
theorem dL_passes_437 : decode cL_passes 437 = .ok (.iadd, 1) := by decide +kernel
theorem dL_passes_438 : decode cL_passes 438 = .ok (.iaload, 1) := by decide +kernel
theorem dL_passes_439 : decode cL_passes 439 = .ok (.ifCond .le 16, 3) := by decide +kernel
theorem dL_passes_442 : decode cL_passes 442 = .ok (.aload 5, 2) := by decide +kernel
theorem dL_passes_444 : decode cL_passes 444 = .ok (.bipush 8, 2) := by decide +kernel
theorem dL_passes_446 : decode cL_passes 446 = .ok (.iload 16, 2) := by decide +kernel
theorem dL_passes_448 : decode cL_passes 448 = .ok (.imul, 1) := by decide +kernel
theorem dL_passes_449 : decode cL_passes 449 = .ok (.iconst 1, 1) := by decide +kernel
theorem dL_passes_450 : decode cL_passes 450 = .ok (.iadd, 1) := by decide +kernel
theorem dL_passes_451 : decode cL_passes 451 = .ok (.iaload, 1) := by decide +kernel
theorem dL_passes_452 : decode cL_passes 452 = .ok (.goto 4, 3) := by decide +kernel
theorem dL_passes_455 : decode cL_passes 455 = .ok (.iconst 0, 1) := by decide +kernel
theorem dL_passes_456 : decode cL_passes 456 = .ok (.iastore, 1) := by decide +kernel
theorem dL_passes_457 : decode cL_passes 457 = .ok (.iinc 16 1, 3) := by decide +kernel
theorem dL_passes_460 : decode cL_passes 460 = .ok (.goto (-204), 3) := by decide +kernel
theorem dL_passes_463 : decode cL_passes 463 = .ok (.iconst 0, 1) := by decide +kernel
theorem dL_passes_464 : decode cL_passes 464 = .ok (.istore 16, 2) := by decide +kernel
theorem dL_passes_466 : decode cL_passes 466 = .ok (.iload 16, 2) := by decide +kernel
theorem dL_passes_468 : decode cL_passes 468 = .ok (.bipush 60, 2) := by decide +kernel
theorem dL_passes_470 : decode cL_passes 470 = .ok (.if_icmp .ge 61, 3) := by decide +kernel
theorem dL_passes_473 : decode cL_passes 473 = .ok (.aload 13, 2) := by decide +kernel
theorem dL_passes_475 : decode cL_passes 475 = .ok (.iload 16, 2) := by decide +kernel
theorem dL_passes_477 : decode cL_passes 477 = .ok (.aload_n 0, 1) := by decide +kernel
theorem dL_passes_478 : decode cL_passes 478 = .ok (.iload 16, 2) := by decide +kernel
theorem dL_passes_480 : decode cL_passes 480 = .ok (.iaload, 1) := by decide +kernel
theorem dL_passes_481 : decode cL_passes 481 = .ok (.bipush 7, 2) := by decide +kernel
theorem dL_passes_483 : decode cL_passes 483 = .ok (.if_icmp .le 7, 3) := by decide +kernel
theorem dL_passes_486 : decode cL_passes 486 = .ok (.iconst 0, 1) := by decide +kernel
theorem dL_passes_487 : decode cL_passes 487 = .ok (.goto 11, 3) := by decide +kernel
theorem dL_passes_490 : decode cL_passes 490 = .ok (.iload 16, 2) := by decide +kernel
theorem dL_passes_492 : decode cL_passes 492 = .ok (.aload_n 0, 1) := by decide +kernel
theorem dL_passes_493 : decode cL_passes 493 = .ok (.aload 11, 2) := by decide +kernel
theorem dL_passes_495 : decode cL_passes 495 = .ok (.invokestatic 71, 3) := by decide +kernel
theorem dL_passes_498 : decode cL_passes 498 = .ok (.iastore, 1) := by decide +kernel
theorem dL_passes_499 : decode cL_passes 499 = .ok (.aload 14, 2) := by decide +kernel
theorem dL_passes_501 : decode cL_passes 501 = .ok (.iload 16, 2) := by decide +kernel
theorem dL_passes_503 : decode cL_passes 503 = .ok (.aload_n 0, 1) := by decide +kernel
theorem dL_passes_504 : decode cL_passes 504 = .ok (.iload 16, 2) := by decide +kernel
theorem dL_passes_506 : decode cL_passes 506 = .ok (.iaload, 1) := by decide +kernel
theorem dL_passes_507 : decode cL_passes 507 = .ok (.bipush 7, 2) := by decide +kernel
theorem dL_passes_509 : decode cL_passes 509 = .ok (.if_icmp .le 7, 3) := by decide +kernel
theorem dL_passes_512 : decode cL_passes 512 = .ok (.iconst 0, 1) := by decide +kernel
theorem dL_passes_513 : decode cL_passes 513 = .ok (.goto 11, 3) := by decide +kernel
theorem dL_passes_516 : decode cL_passes 516 = .ok (.iload 16, 2) := by decide +kernel
theorem dL_passes_518 : decode cL_passes 518 = .ok (.aload_n 0, 1) := by decide +kernel
theorem dL_passes_519 : decode cL_passes 519 = .ok (.aload 12, 2) := by decide +kernel
theorem dL_passes_521 : decode cL_passes 521 = .ok (.invokestatic 71, 3) := by decide +kernel
theorem dL_passes_524 : decode cL_passes 524 = .ok (.iastore, 1) := by decide +kernel
theorem dL_passes_525 : decode cL_passes 525 = .ok (.iinc 16 1, 3) := by decide +kernel
theorem dL_passes_528 : decode cL_passes 528 = .ok (.goto (-62), 3) := by decide +kernel
theorem dL_passes_531 : decode cL_passes 531 = .ok (.aload 13, 2) := by decide +kernel
theorem dL_passes_533 : decode cL_passes 533 = .ok (.aload 11, 2) := by decide +kernel
theorem dL_passes_535 : decode cL_passes 535 = .ok (.invokestatic 63, 3) := by decide +kernel
theorem dL_passes_538 : decode cL_passes 538 = .ok (.aload 14, 2) := by decide +kernel
theorem dL_passes_540 : decode cL_passes 540 = .ok (.aload 12, 2) := by decide +kernel
theorem dL_passes_542 : decode cL_passes 542 = .ok (.invokestatic 63, 3) := by decide +kernel
theorem dL_passes_545 : decode cL_passes 545 = .ok (.iconst 0, 1) := by decide +kernel
theorem dL_passes_546 : decode cL_passes 546 = .ok (.istore 16, 2) := by decide +kernel
theorem dL_passes_548 : decode cL_passes 548 = .ok (.iload 16, 2) := by decide +kernel
theorem dL_passes_550 : decode cL_passes 550 = .ok (.bipush 60, 2) := by decide +kernel
theorem dL_passes_552 : decode cL_passes 552 = .ok (.if_icmp .ge 143, 3) := by decide +kernel
theorem dL_passes_555 : decode cL_passes 555 = .ok (.iconst 0, 1) := by decide +kernel
theorem dL_passes_556 : decode cL_passes 556 = .ok (.istore 17, 2) := by decide +kernel
theorem dL_passes_558 : decode cL_passes 558 = .ok (.iconst 0, 1) := by decide +kernel
theorem dL_passes_559 : decode cL_passes 559 = .ok (.istore 18, 2) := by decide +kernel
theorem dL_passes_561 : decode cL_passes 561 = .ok (.iconst 0, 1) := by decide +kernel
theorem dL_passes_562 : decode cL_passes 562 = .ok (.istore 19, 2) := by decide +kernel
theorem dL_passes_564 : decode cL_passes 564 = .ok (.iload 19, 2) := by decide +kernel
theorem dL_passes_566 : decode cL_passes 566 = .ok (.aload 15, 2) := by decide +kernel
theorem dL_passes_568 : decode cL_passes 568 = .ok (.iconst 3, 1) := by decide +kernel
theorem dL_passes_569 : decode cL_passes 569 = .ok (.iaload, 1) := by decide +kernel
theorem dL_passes_570 : decode cL_passes 570 = .ok (.if_icmp .ge 76, 3) := by decide +kernel
theorem dL_passes_573 : decode cL_passes 573 = .ok (.aload 6, 2) := by decide +kernel
theorem dL_passes_575 : decode cL_passes 575 = .ok (.iload 19, 2) := by decide +kernel
theorem dL_passes_577 : decode cL_passes 577 = .ok (.iaload, 1) := by decide +kernel
theorem dL_passes_578 : decode cL_passes 578 = .ok (.bipush 64, 2) := by decide +kernel
theorem dL_passes_580 : decode cL_passes 580 = .ok (.aload 15, 2) := by decide +kernel
theorem dL_passes_582 : decode cL_passes 582 = .ok (.iconst 0, 1) := by decide +kernel
theorem dL_passes_583 : decode cL_passes 583 = .ok (.iaload, 1) := by decide +kernel
theorem dL_passes_584 : decode cL_passes 584 = .ok (.imul, 1) := by decide +kernel
theorem dL_passes_585 : decode cL_passes 585 = .ok (.iload 16, 2) := by decide +kernel
theorem dL_passes_587 : decode cL_passes 587 = .ok (.iadd, 1) := by decide +kernel
theorem dL_passes_588 : decode cL_passes 588 = .ok (.if_icmp .ne 7, 3) := by decide +kernel
theorem dL_passes_591 : decode cL_passes 591 = .ok (.iconst 1, 1) := by decide +kernel
theorem dL_passes_592 : decode cL_passes 592 = .ok (.goto 4, 3) := by decide +kernel
theorem dL_passes_595 : decode cL_passes 595 = .ok (.iconst 0, 1) := by decide +kernel
theorem dL_passes_596 : decode cL_passes 596 = .ok (.istore 20, 2) := by decide +kernel
theorem dL_passes_598 : decode cL_passes 598 = .ok (.iload 18, 2) := by decide +kernel
theorem dL_passes_600 : decode cL_passes 600 = .ok (.ifCond .ne 8, 3) := by decide +kernel
theorem dL_passes_603 : decode cL_passes 603 = .ok (.iload 20, 2) := by decide +kernel
theorem dL_passes_605 : decode cL_passes 605 = .ok (.ifCond .eq 7, 3) := by decide +kernel
theorem dL_passes_608 : decode cL_passes 608 = .ok (.iconst 1, 1) := by decide +kernel
theorem dL_passes_609 : decode cL_passes 609 = .ok (.goto 4, 3) := by decide +kernel
theorem dL_passes_612 : decode cL_passes 612 = .ok (.iconst 0, 1) := by decide +kernel
theorem dL_passes_613 : decode cL_passes 613 = .ok (.istore 18, 2) := by decide +kernel
theorem dL_passes_615 : decode cL_passes 615 = .ok (.aload 6, 2) := by decide +kernel
theorem dL_passes_617 : decode cL_passes 617 = .ok (.iload 17, 2) := by decide +kernel
theorem dL_passes_619 : decode cL_passes 619 = .ok (.aload 6, 2) := by decide +kernel
theorem dL_passes_621 : decode cL_passes 621 = .ok (.iload 19, 2) := by decide +kernel
theorem dL_passes_623 : decode cL_passes 623 = .ok (.iaload, 1) := by decide +kernel
theorem dL_passes_624 : decode cL_passes 624 = .ok (.iastore, 1) := by decide +kernel
theorem dL_passes_625 : decode cL_passes 625 = .ok (.iload 17, 2) := by decide +kernel
theorem dL_passes_627 : decode cL_passes 627 = .ok (.iload 20, 2) := by decide +kernel
theorem dL_passes_629 : decode cL_passes 629 = .ok (.ifCond .eq 7, 3) := by decide +kernel
theorem dL_passes_632 : decode cL_passes 632 = .ok (.iconst 0, 1) := by decide +kernel
theorem dL_passes_633 : decode cL_passes 633 = .ok (.goto 4, 3) := by decide +kernel
theorem dL_passes_636 : decode cL_passes 636 = .ok (.iconst 1, 1) := by decide +kernel
theorem dL_passes_637 : decode cL_passes 637 = .ok (.iadd, 1) := by decide +kernel
theorem dL_passes_638 : decode cL_passes 638 = .ok (.istore 17, 2) := by decide +kernel
theorem dL_passes_640 : decode cL_passes 640 = .ok (.iinc 19 1, 3) := by decide +kernel
theorem dL_passes_643 : decode cL_passes 643 = .ok (.goto (-79), 3) := by decide +kernel
theorem dL_passes_646 : decode cL_passes 646 = .ok (.aload 15, 2) := by decide +kernel
theorem dL_passes_648 : decode cL_passes 648 = .ok (.iconst 3, 1) := by decide +kernel
theorem dL_passes_649 : decode cL_passes 649 = .ok (.iload 17, 2) := by decide +kernel
theorem dL_passes_651 : decode cL_passes 651 = .ok (.iastore, 1) := by decide +kernel
theorem dL_passes_652 : decode cL_passes 652 = .ok (.iload 18, 2) := by decide +kernel
theorem dL_passes_654 : decode cL_passes 654 = .ok (.ifCond .eq 35, 3) := by decide +kernel
theorem dL_passes_657 : decode cL_passes 657 = .ok (.aload 15, 2) := by decide +kernel
theorem dL_passes_659 : decode cL_passes 659 = .ok (.iconst 0, 1) := by decide +kernel
theorem dL_passes_660 : decode cL_passes 660 = .ok (.iaload, 1) := by decide +kernel
theorem dL_passes_661 : decode cL_passes 661 = .ok (.aload 7, 2) := by decide +kernel
theorem dL_passes_663 : decode cL_passes 663 = .ok (.aload 15, 2) := by decide +kernel
theorem dL_passes_665 : decode cL_passes 665 = .ok (.invokestatic 74, 3) := by decide +kernel
theorem dL_passes_668 : decode cL_passes 668 = .ok (.ifCond .ne 21, 3) := by decide +kernel
theorem dL_passes_671 : decode cL_passes 671 = .ok (.iload 16, 2) := by decide +kernel
theorem dL_passes_673 : decode cL_passes 673 = .ok (.iconst 0, 1) := by decide +kernel
theorem dL_passes_674 : decode cL_passes 674 = .ok (.aload_n 1, 1) := by decide +kernel
theorem dL_passes_675 : decode cL_passes 675 = .ok (.iload 16, 2) := by decide +kernel
theorem dL_passes_677 : decode cL_passes 677 = .ok (.iaload, 1) := by decide +kernel
theorem dL_passes_678 : decode cL_passes 678 = .ok (.aload 8, 2) := by decide +kernel
theorem dL_passes_680 : decode cL_passes 680 = .ok (.aload 9, 2) := by decide +kernel
theorem dL_passes_682 : decode cL_passes 682 = .ok (.aload 10, 2) := by decide +kernel
theorem dL_passes_684 : decode cL_passes 684 = .ok (.aload 15, 2) := by decide +kernel
theorem dL_passes_686 : decode cL_passes 686 = .ok (.invokestatic 67, 3) := by decide +kernel
theorem dL_passes_689 : decode cL_passes 689 = .ok (.iinc 16 1, 3) := by decide +kernel
theorem dL_passes_692 : decode cL_passes 692 = .ok (.goto (-144), 3) := by decide +kernel
theorem dL_passes_695 : decode cL_passes 695 = .ok (.return_, 1) := by decide +kernel
theorem dL_apart_0 : decode cL_apart 0 = .ok (.iload_n 0, 1) := by decide +kernel
theorem dL_apart_1 : decode cL_apart 1 = .ok (.iload_n 1, 1) := by decide +kernel
theorem dL_apart_2 : decode cL_apart 2 = .ok (.if_icmp .le 9, 3) := by decide +kernel
theorem dL_apart_5 : decode cL_apart 5 = .ok (.iload_n 0, 1) := by decide +kernel
theorem dL_apart_6 : decode cL_apart 6 = .ok (.iload_n 1, 1) := by decide +kernel
theorem dL_apart_7 : decode cL_apart 7 = .ok (.isub, 1) := by decide +kernel
theorem dL_apart_8 : decode cL_apart 8 = .ok (.goto 6, 3) := by decide +kernel
theorem dL_apart_11 : decode cL_apart 11 = .ok (.iload_n 1, 1) := by decide +kernel
theorem dL_apart_12 : decode cL_apart 12 = .ok (.iload_n 0, 1) := by decide +kernel
theorem dL_apart_13 : decode cL_apart 13 = .ok (.isub, 1) := by decide +kernel
theorem dL_apart_14 : decode cL_apart 14 = .ok (.ireturn, 1) := by decide +kernel
theorem dL_corrected_0 : decode cL_corrected 0 = .ok (.aload_n 1, 1) := by decide +kernel
theorem dL_corrected_1 : decode cL_corrected 1 = .ok (.iload_n 0, 1) := by decide +kernel
theorem dL_corrected_2 : decode cL_corrected 2 = .ok (.iaload, 1) := by decide +kernel
theorem dL_corrected_3 : decode cL_corrected 3 = .ok (.aload_n 2, 1) := by decide +kernel
theorem dL_corrected_4 : decode cL_corrected 4 = .ok (.iload_n 0, 1) := by decide +kernel
theorem dL_corrected_5 : decode cL_corrected 5 = .ok (.iaload, 1) := by decide +kernel
theorem dL_corrected_6 : decode cL_corrected 6 = .ok (.bipush 16, 2) := by decide +kernel
theorem dL_corrected_8 : decode cL_corrected 8 = .ok (.irem, 1) := by decide +kernel
theorem dL_corrected_9 : decode cL_corrected 9 = .ok (.ifCond .le 21, 3) := by decide +kernel
theorem dL_corrected_12 : decode cL_corrected 12 = .ok (.aload_n 3, 1) := by decide +kernel
theorem dL_corrected_13 : decode cL_corrected 13 = .ok (.bipush 8, 2) := by decide +kernel
theorem dL_corrected_15 : decode cL_corrected 15 = .ok (.aload_n 2, 1) := by decide +kernel
theorem dL_corrected_16 : decode cL_corrected 16 = .ok (.iload_n 0, 1) := by decide +kernel
theorem dL_corrected_17 : decode cL_corrected 17 = .ok (.iaload, 1) := by decide +kernel
theorem dL_corrected_18 : decode cL_corrected 18 = .ok (.bipush 16, 2) := by decide +kernel
theorem dL_corrected_20 : decode cL_corrected 20 = .ok (.irem, 1) := by decide +kernel
theorem dL_corrected_21 : decode cL_corrected 21 = .ok (.iconst 1, 1) := by decide +kernel
theorem dL_corrected_22 : decode cL_corrected 22 = .ok (.isub, 1) := by decide +kernel
theorem dL_corrected_23 : decode cL_corrected 23 = .ok (.imul, 1) := by decide +kernel
theorem dL_corrected_24 : decode cL_corrected 24 = .ok (.iconst 5, 1) := by decide +kernel
theorem dL_corrected_25 : decode cL_corrected 25 = .ok (.iadd, 1) := by decide +kernel
theorem dL_corrected_26 : decode cL_corrected 26 = .ok (.iaload, 1) := by decide +kernel
theorem dL_corrected_27 : decode cL_corrected 27 = .ok (.goto 4, 3) := by decide +kernel
theorem dL_corrected_30 : decode cL_corrected 30 = .ok (.iconst 0, 1) := by decide +kernel
theorem dL_corrected_31 : decode cL_corrected 31 = .ok (.isub, 1) := by decide +kernel
theorem dL_corrected_32 : decode cL_corrected 32 = .ok (.ireturn, 1) := by decide +kernel
theorem dL_flag_0 : decode cL_flag 0 = .ok (.aload_n 2, 1) := by decide +kernel
theorem dL_flag_1 : decode cL_flag 1 = .ok (.iload_n 0, 1) := by decide +kernel
theorem dL_flag_2 : decode cL_flag 2 = .ok (.iaload, 1) := by decide +kernel
theorem dL_flag_3 : decode cL_flag 3 = .ok (.bipush 16, 2) := by decide +kernel
theorem dL_flag_5 : decode cL_flag 5 = .ok (.idiv, 1) := by decide +kernel
theorem dL_flag_6 : decode cL_flag 6 = .ok (.ifCond .gt 12, 3) := by decide +kernel
theorem dL_flag_9 : decode cL_flag 9 = .ok (.aload_n 2, 1) := by decide +kernel
theorem dL_flag_10 : decode cL_flag 10 = .ok (.iload_n 0, 1) := by decide +kernel
theorem dL_flag_11 : decode cL_flag 11 = .ok (.iaload, 1) := by decide +kernel
theorem dL_flag_12 : decode cL_flag 12 = .ok (.bipush 16, 2) := by decide +kernel
theorem dL_flag_14 : decode cL_flag 14 = .ok (.irem, 1) := by decide +kernel
theorem dL_flag_15 : decode cL_flag 15 = .ok (.ifCond .ne 25, 3) := by decide +kernel
theorem dL_flag_18 : decode cL_flag 18 = .ok (.aload_n 2, 1) := by decide +kernel
theorem dL_flag_19 : decode cL_flag 19 = .ok (.iload_n 0, 1) := by decide +kernel
theorem dL_flag_20 : decode cL_flag 20 = .ok (.iaload, 1) := by decide +kernel
theorem dL_flag_21 : decode cL_flag 21 = .ok (.bipush 16, 2) := by decide +kernel
theorem dL_flag_23 : decode cL_flag 23 = .ok (.idiv, 1) := by decide +kernel
theorem dL_flag_24 : decode cL_flag 24 = .ok (.ifCond .le 14, 3) := by decide +kernel
theorem dL_flag_27 : decode cL_flag 27 = .ok (.aload_n 2, 1) := by decide +kernel
theorem dL_flag_28 : decode cL_flag 28 = .ok (.iload_n 0, 1) := by decide +kernel
theorem dL_flag_29 : decode cL_flag 29 = .ok (.iaload, 1) := by decide +kernel
theorem dL_flag_30 : decode cL_flag 30 = .ok (.bipush 16, 2) := by decide +kernel
theorem dL_flag_32 : decode cL_flag 32 = .ok (.idiv, 1) := by decide +kernel
theorem dL_flag_33 : decode cL_flag 33 = .ok (.iconst 1, 1) := by decide +kernel
theorem dL_flag_34 : decode cL_flag 34 = .ok (.isub, 1) := by decide +kernel
theorem dL_flag_35 : decode cL_flag 35 = .ok (.goto 4, 3) := by decide +kernel
theorem dL_flag_38 : decode cL_flag 38 = .ok (.iconst 0, 1) := by decide +kernel
theorem dL_flag_39 : decode cL_flag 39 = .ok (.ireturn, 1) := by decide +kernel
theorem dL_flag_40 : decode cL_flag 40 = .ok (.iload_n 0, 1) := by decide +kernel
theorem dL_flag_41 : decode cL_flag 41 = .ok (.iconst 1, 1) := by decide +kernel
theorem dL_flag_42 : decode cL_flag 42 = .ok (.isub, 1) := by decide +kernel
theorem dL_flag_43 : decode cL_flag 43 = .ok (.istore 4, 2) := by decide +kernel
theorem dL_flag_45 : decode cL_flag 45 = .ok (.iload_n 0, 1) := by decide +kernel
theorem dL_flag_46 : decode cL_flag 46 = .ok (.iconst 1, 1) := by decide +kernel
theorem dL_flag_47 : decode cL_flag 47 = .ok (.iadd, 1) := by decide +kernel
theorem dL_flag_48 : decode cL_flag 48 = .ok (.istore 5, 2) := by decide +kernel
theorem dL_flag_50 : decode cL_flag 50 = .ok (.iload 4, 2) := by decide +kernel
theorem dL_flag_52 : decode cL_flag 52 = .ok (.ifCond .lt 25, 3) := by decide +kernel
theorem dL_flag_55 : decode cL_flag 55 = .ok (.aload_n 2, 1) := by decide +kernel
theorem dL_flag_56 : decode cL_flag 56 = .ok (.iload 4, 2) := by decide +kernel
theorem dL_flag_58 : decode cL_flag 58 = .ok (.iaload, 1) := by decide +kernel
theorem dL_flag_59 : decode cL_flag 59 = .ok (.bipush 16, 2) := by decide +kernel
theorem dL_flag_61 : decode cL_flag 61 = .ok (.irem, 1) := by decide +kernel
theorem dL_flag_62 : decode cL_flag 62 = .ok (.aload_n 2, 1) := by decide +kernel
theorem dL_flag_63 : decode cL_flag 63 = .ok (.iload_n 0, 1) := by decide +kernel
theorem dL_flag_64 : decode cL_flag 64 = .ok (.iaload, 1) := by decide +kernel
theorem dL_flag_65 : decode cL_flag 65 = .ok (.bipush 16, 2) := by decide +kernel
theorem dL_flag_67 : decode cL_flag 67 = .ok (.irem, 1) := by decide +kernel
theorem dL_flag_68 : decode cL_flag 68 = .ok (.if_icmp .eq 9, 3) := by decide +kernel
theorem dL_flag_71 : decode cL_flag 71 = .ok (.iinc 4 (-1), 3) := by decide +kernel
theorem dL_flag_74 : decode cL_flag 74 = .ok (.goto (-24), 3) := by decide +kernel
theorem dL_flag_77 : decode cL_flag 77 = .ok (.iload 5, 2) := by decide +kernel
theorem dL_flag_79 : decode cL_flag 79 = .ok (.aload_n 3, 1) := by decide +kernel
theorem dL_flag_80 : decode cL_flag 80 = .ok (.iconst 5, 1) := by decide +kernel
theorem dL_flag_81 : decode cL_flag 81 = .ok (.iaload, 1) := by decide +kernel
theorem dL_flag_82 : decode cL_flag 82 = .ok (.if_icmp .ge 25, 3) := by decide +kernel
theorem dL_flag_85 : decode cL_flag 85 = .ok (.aload_n 2, 1) := by decide +kernel
theorem dL_flag_86 : decode cL_flag 86 = .ok (.iload 5, 2) := by decide +kernel
theorem dL_flag_88 : decode cL_flag 88 = .ok (.iaload, 1) := by decide +kernel
theorem dL_flag_89 : decode cL_flag 89 = .ok (.bipush 16, 2) := by decide +kernel
theorem dL_flag_91 : decode cL_flag 91 = .ok (.irem, 1) := by decide +kernel
theorem dL_flag_92 : decode cL_flag 92 = .ok (.aload_n 2, 1) := by decide +kernel
theorem dL_flag_93 : decode cL_flag 93 = .ok (.iload_n 0, 1) := by decide +kernel
theorem dL_flag_94 : decode cL_flag 94 = .ok (.iaload, 1) := by decide +kernel
theorem dL_flag_95 : decode cL_flag 95 = .ok (.bipush 16, 2) := by decide +kernel
theorem dL_flag_97 : decode cL_flag 97 = .ok (.irem, 1) := by decide +kernel
theorem dL_flag_98 : decode cL_flag 98 = .ok (.if_icmp .eq 9, 3) := by decide +kernel
theorem dL_flag_101 : decode cL_flag 101 = .ok (.iinc 5 1, 3) := by decide +kernel
theorem dL_flag_104 : decode cL_flag 104 = .ok (.goto (-27), 3) := by decide +kernel
theorem dL_flag_107 : decode cL_flag 107 = .ok (.iload 4, 2) := by decide +kernel
theorem dL_flag_109 : decode cL_flag 109 = .ok (.ifCond .lt 11, 3) := by decide +kernel
theorem dL_flag_112 : decode cL_flag 112 = .ok (.iload 5, 2) := by decide +kernel
theorem dL_flag_114 : decode cL_flag 114 = .ok (.aload_n 3, 1) := by decide +kernel
theorem dL_flag_115 : decode cL_flag 115 = .ok (.iconst 5, 1) := by decide +kernel
theorem dL_flag_116 : decode cL_flag 116 = .ok (.iaload, 1) := by decide +kernel
theorem dL_flag_117 : decode cL_flag 117 = .ok (.if_icmp .ne 5, 3) := by decide +kernel
theorem dL_flag_120 : decode cL_flag 120 = .ok (.iconst 0, 1) := by decide +kernel
theorem dL_flag_121 : decode cL_flag 121 = .ok (.ireturn, 1) := by decide +kernel
theorem dL_flag_122 : decode cL_flag 122 = .ok (.aload_n 1, 1) := by decide +kernel
theorem dL_flag_123 : decode cL_flag 123 = .ok (.iload 4, 2) := by decide +kernel
theorem dL_flag_125 : decode cL_flag 125 = .ok (.iaload, 1) := by decide +kernel
theorem dL_flag_126 : decode cL_flag 126 = .ok (.aload_n 1, 1) := by decide +kernel
theorem dL_flag_127 : decode cL_flag 127 = .ok (.iload 5, 2) := by decide +kernel
theorem dL_flag_129 : decode cL_flag 129 = .ok (.iaload, 1) := by decide +kernel
theorem dL_flag_130 : decode cL_flag 130 = .ok (.if_icmp .le 10, 3) := by decide +kernel
theorem dL_flag_133 : decode cL_flag 133 = .ok (.aload_n 1, 1) := by decide +kernel
theorem dL_flag_134 : decode cL_flag 134 = .ok (.iload 4, 2) := by decide +kernel
theorem dL_flag_136 : decode cL_flag 136 = .ok (.iaload, 1) := by decide +kernel
theorem dL_flag_137 : decode cL_flag 137 = .ok (.goto 7, 3) := by decide +kernel
theorem dL_flag_140 : decode cL_flag 140 = .ok (.aload_n 1, 1) := by decide +kernel
theorem dL_flag_141 : decode cL_flag 141 = .ok (.iload 5, 2) := by decide +kernel
theorem dL_flag_143 : decode cL_flag 143 = .ok (.iaload, 1) := by decide +kernel
theorem dL_flag_144 : decode cL_flag 144 = .ok (.istore 6, 2) := by decide +kernel
theorem dL_flag_146 : decode cL_flag 146 = .ok (.aload_n 1, 1) := by decide +kernel
theorem dL_flag_147 : decode cL_flag 147 = .ok (.iload 4, 2) := by decide +kernel
theorem dL_flag_149 : decode cL_flag 149 = .ok (.iaload, 1) := by decide +kernel
theorem dL_flag_150 : decode cL_flag 150 = .ok (.aload_n 1, 1) := by decide +kernel
theorem dL_flag_151 : decode cL_flag 151 = .ok (.iload 5, 2) := by decide +kernel
theorem dL_flag_153 : decode cL_flag 153 = .ok (.iaload, 1) := by decide +kernel
theorem dL_flag_154 : decode cL_flag 154 = .ok (.if_icmp .ge 10, 3) := by decide +kernel
theorem dL_flag_157 : decode cL_flag 157 = .ok (.aload_n 1, 1) := by decide +kernel
theorem dL_flag_158 : decode cL_flag 158 = .ok (.iload 4, 2) := by decide +kernel
theorem dL_flag_160 : decode cL_flag 160 = .ok (.iaload, 1) := by decide +kernel
theorem dL_flag_161 : decode cL_flag 161 = .ok (.goto 7, 3) := by decide +kernel
theorem dL_flag_164 : decode cL_flag 164 = .ok (.aload_n 1, 1) := by decide +kernel
theorem dL_flag_165 : decode cL_flag 165 = .ok (.iload 5, 2) := by decide +kernel
theorem dL_flag_167 : decode cL_flag 167 = .ok (.iaload, 1) := by decide +kernel
theorem dL_flag_168 : decode cL_flag 168 = .ok (.istore 7, 2) := by decide +kernel
theorem dL_flag_170 : decode cL_flag 170 = .ok (.aload_n 1, 1) := by decide +kernel
theorem dL_flag_171 : decode cL_flag 171 = .ok (.iload_n 0, 1) := by decide +kernel
theorem dL_flag_172 : decode cL_flag 172 = .ok (.iaload, 1) := by decide +kernel
theorem dL_flag_173 : decode cL_flag 173 = .ok (.iload 6, 2) := by decide +kernel
theorem dL_flag_175 : decode cL_flag 175 = .ok (.isub, 1) := by decide +kernel
theorem dL_flag_176 : decode cL_flag 176 = .ok (.aload_n 3, 1) := by decide +kernel
theorem dL_flag_177 : decode cL_flag 177 = .ok (.bipush 7, 2) := by decide +kernel
theorem dL_flag_179 : decode cL_flag 179 = .ok (.iaload, 1) := by decide +kernel
theorem dL_flag_180 : decode cL_flag 180 = .ok (.if_icmp .gt 16, 3) := by decide +kernel
theorem dL_flag_183 : decode cL_flag 183 = .ok (.iload 7, 2) := by decide +kernel
theorem dL_flag_185 : decode cL_flag 185 = .ok (.aload_n 1, 1) := by decide +kernel
theorem dL_flag_186 : decode cL_flag 186 = .ok (.iload_n 0, 1) := by decide +kernel
theorem dL_flag_187 : decode cL_flag 187 = .ok (.iaload, 1) := by decide +kernel
theorem dL_flag_188 : decode cL_flag 188 = .ok (.isub, 1) := by decide +kernel
theorem dL_flag_189 : decode cL_flag 189 = .ok (.aload_n 3, 1) := by decide +kernel
theorem dL_flag_190 : decode cL_flag 190 = .ok (.bipush 7, 2) := by decide +kernel
theorem dL_flag_192 : decode cL_flag 192 = .ok (.iaload, 1) := by decide +kernel
theorem dL_flag_193 : decode cL_flag 193 = .ok (.if_icmp .le 7, 3) := by decide +kernel
theorem dL_flag_196 : decode cL_flag 196 = .ok (.iconst 1, 1) := by decide +kernel
theorem dL_flag_197 : decode cL_flag 197 = .ok (.goto 4, 3) := by decide +kernel
theorem dL_flag_200 : decode cL_flag 200 = .ok (.iconst 0, 1) := by decide +kernel
theorem dL_flag_201 : decode cL_flag 201 = .ok (.ireturn, 1) := by decide +kernel
theorem dL_map_0 : decode cL_map 0 = .ok (.aload 8, 2) := by decide +kernel
theorem dL_map_2 : decode cL_map 2 = .ok (.iconst 0, 1) := by decide +kernel
theorem dL_map_3 : decode cL_map 3 = .ok (.iconst 0, 1) := by decide +kernel
theorem dL_map_4 : decode cL_map 4 = .ok (.iastore, 1) := by decide +kernel
theorem dL_map_5 : decode cL_map 5 = .ok (.aload 8, 2) := by decide +kernel
theorem dL_map_7 : decode cL_map 7 = .ok (.iconst 1, 1) := by decide +kernel
theorem dL_map_8 : decode cL_map 8 = .ok (.iconst 0, 1) := by decide +kernel
theorem dL_map_9 : decode cL_map 9 = .ok (.iastore, 1) := by decide +kernel
theorem dL_map_10 : decode cL_map 10 = .ok (.iconst 0, 1) := by decide +kernel
theorem dL_map_11 : decode cL_map 11 = .ok (.istore 10, 2) := by decide +kernel
theorem dL_map_13 : decode cL_map 13 = .ok (.iload 10, 2) := by decide +kernel
theorem dL_map_15 : decode cL_map 15 = .ok (.aload 9, 2) := by decide +kernel
theorem dL_map_17 : decode cL_map 17 = .ok (.iconst 5, 1) := by decide +kernel
theorem dL_map_18 : decode cL_map 18 = .ok (.iaload, 1) := by decide +kernel
theorem dL_map_19 : decode cL_map 19 = .ok (.if_icmp .ge 122, 3) := by decide +kernel
theorem dL_map_22 : decode cL_map 22 = .ok (.bipush 8, 2) := by decide +kernel
theorem dL_map_24 : decode cL_map 24 = .ok (.aload 4, 2) := by decide +kernel
theorem dL_map_26 : decode cL_map 26 = .ok (.iload 10, 2) := by decide +kernel
theorem dL_map_28 : decode cL_map 28 = .ok (.iaload, 1) := by decide +kernel
theorem dL_map_29 : decode cL_map 29 = .ok (.bipush 64, 2) := by decide +kernel
theorem dL_map_31 : decode cL_map 31 = .ok (.irem, 1) := by decide +kernel
theorem dL_map_32 : decode cL_map 32 = .ok (.bipush 10, 2) := by decide +kernel
theorem dL_map_34 : decode cL_map 34 = .ok (.irem, 1) := by decide +kernel
theorem dL_map_35 : decode cL_map 35 = .ok (.iload_n 0, 1) := by decide +kernel
theorem dL_map_36 : decode cL_map 36 = .ok (.bipush 10, 2) := by decide +kernel
theorem dL_map_38 : decode cL_map 38 = .ok (.irem, 1) := by decide +kernel
theorem dL_map_39 : decode cL_map 39 = .ok (.invokestatic 78, 3) := by decide +kernel
theorem dL_map_42 : decode cL_map 42 = .ok (.isub, 1) := by decide +kernel
theorem dL_map_43 : decode cL_map 43 = .ok (.aload 4, 2) := by decide +kernel
theorem dL_map_45 : decode cL_map 45 = .ok (.iload 10, 2) := by decide +kernel
theorem dL_map_47 : decode cL_map 47 = .ok (.iaload, 1) := by decide +kernel
theorem dL_map_48 : decode cL_map 48 = .ok (.bipush 64, 2) := by decide +kernel
theorem dL_map_50 : decode cL_map 50 = .ok (.irem, 1) := by decide +kernel
theorem dL_map_51 : decode cL_map 51 = .ok (.bipush 10, 2) := by decide +kernel
theorem dL_map_53 : decode cL_map 53 = .ok (.idiv, 1) := by decide +kernel
theorem dL_map_54 : decode cL_map 54 = .ok (.iload_n 0, 1) := by decide +kernel
theorem dL_map_55 : decode cL_map 55 = .ok (.bipush 10, 2) := by decide +kernel
theorem dL_map_57 : decode cL_map 57 = .ok (.idiv, 1) := by decide +kernel
theorem dL_map_58 : decode cL_map 58 = .ok (.invokestatic 78, 3) := by decide +kernel
theorem dL_map_61 : decode cL_map 61 = .ok (.isub, 1) := by decide +kernel
theorem dL_map_62 : decode cL_map 62 = .ok (.istore 11, 2) := by decide +kernel
theorem dL_map_64 : decode cL_map 64 = .ok (.iload 10, 2) := by decide +kernel
theorem dL_map_66 : decode cL_map 66 = .ok (.iload_n 3, 1) := by decide +kernel
theorem dL_map_67 : decode cL_map 67 = .ok (.if_icmp .eq 68, 3) := by decide +kernel
theorem dL_map_70 : decode cL_map 70 = .ok (.iload 11, 2) := by decide +kernel
theorem dL_map_72 : decode cL_map 72 = .ok (.ifCond .le 63, 3) := by decide +kernel
theorem dL_map_75 : decode cL_map 75 = .ok (.aload 4, 2) := by decide +kernel
theorem dL_map_77 : decode cL_map 77 = .ok (.iload 10, 2) := by decide +kernel
theorem dL_map_79 : decode cL_map 79 = .ok (.iaload, 1) := by decide +kernel
theorem dL_map_80 : decode cL_map 80 = .ok (.bipush 64, 2) := by decide +kernel
theorem dL_map_82 : decode cL_map 82 = .ok (.idiv, 1) := by decide +kernel
theorem dL_map_83 : decode cL_map 83 = .ok (.iload_n 1, 1) := by decide +kernel
theorem dL_map_84 : decode cL_map 84 = .ok (.invokestatic 78, 3) := by decide +kernel
theorem dL_map_87 : decode cL_map 87 = .ok (.iload_n 2, 1) := by decide +kernel
theorem dL_map_88 : decode cL_map 88 = .ok (.if_icmp .gt 47, 3) := by decide +kernel
theorem dL_map_91 : decode cL_map 91 = .ok (.iload 10, 2) := by decide +kernel
theorem dL_map_93 : decode cL_map 93 = .ok (.aload 5, 2) := by decide +kernel
theorem dL_map_95 : decode cL_map 95 = .ok (.aload 6, 2) := by decide +kernel
theorem dL_map_97 : decode cL_map 97 = .ok (.aload 9, 2) := by decide +kernel
theorem dL_map_99 : decode cL_map 99 = .ok (.invokestatic 81, 3) := by decide +kernel
theorem dL_map_102 : decode cL_map 102 = .ok (.ifCond .ne 33, 3) := by decide +kernel
theorem dL_map_105 : decode cL_map 105 = .ok (.aload 8, 2) := by decide +kernel
theorem dL_map_107 : decode cL_map 107 = .ok (.iconst 0, 1) := by decide +kernel
theorem dL_map_108 : decode cL_map 108 = .ok (.dup2, 1) := by decide +kernel
theorem dL_map_109 : decode cL_map 109 = .ok (.iaload, 1) := by decide +kernel
theorem dL_map_110 : decode cL_map 110 = .ok (.iload 11, 2) := by decide +kernel
theorem dL_map_112 : decode cL_map 112 = .ok (.iload 10, 2) := by decide +kernel
theorem dL_map_114 : decode cL_map 114 = .ok (.aload 5, 2) := by decide +kernel
theorem dL_map_116 : decode cL_map 116 = .ok (.aload 6, 2) := by decide +kernel
theorem dL_map_118 : decode cL_map 118 = .ok (.aload 7, 2) := by decide +kernel
theorem dL_map_120 : decode cL_map 120 = .ok (.invokestatic 85, 3) := by decide +kernel
theorem dL_map_123 : decode cL_map 123 = .ok (.imul, 1) := by decide +kernel
theorem dL_map_124 : decode cL_map 124 = .ok (.iadd, 1) := by decide +kernel
theorem dL_map_125 : decode cL_map 125 = .ok (.iastore, 1) := by decide +kernel
theorem dL_map_126 : decode cL_map 126 = .ok (.aload 8, 2) := by decide +kernel
theorem dL_map_128 : decode cL_map 128 = .ok (.iconst 1, 1) := by decide +kernel
theorem dL_map_129 : decode cL_map 129 = .ok (.dup2, 1) := by decide +kernel
theorem dL_map_130 : decode cL_map 130 = .ok (.iaload, 1) := by decide +kernel
theorem dL_map_131 : decode cL_map 131 = .ok (.iload 11, 2) := by decide +kernel
theorem dL_map_133 : decode cL_map 133 = .ok (.iadd, 1) := by decide +kernel
theorem dL_map_134 : decode cL_map 134 = .ok (.iastore, 1) := by decide +kernel
theorem dL_map_135 : decode cL_map 135 = .ok (.iinc 10 1, 3) := by decide +kernel
theorem dL_map_138 : decode cL_map 138 = .ok (.goto (-125), 3) := by decide +kernel
theorem dL_map_141 : decode cL_map 141 = .ok (.return_, 1) := by decide +kernel
theorem dL_calibrated_0 : decode cL_calibrated 0 = .ok (.aload 4, 2) := by decide +kernel
theorem dL_calibrated_2 : decode cL_calibrated 2 = .ok (.iconst 5, 1) := by decide +kernel
theorem dL_calibrated_3 : decode cL_calibrated 3 = .ok (.iaload, 1) := by decide +kernel
theorem dL_calibrated_4 : decode cL_calibrated 4 = .ok (.iconst 1, 1) := by decide +kernel
theorem dL_calibrated_5 : decode cL_calibrated 5 = .ok (.isub, 1) := by decide +kernel
theorem dL_calibrated_6 : decode cL_calibrated 6 = .ok (.istore 5, 2) := by decide +kernel
theorem dL_calibrated_8 : decode cL_calibrated 8 = .ok (.iload 5, 2) := by decide +kernel
theorem dL_calibrated_10 : decode cL_calibrated 10 = .ok (.ifCond .lt 114, 3) := by decide +kernel
theorem dL_calibrated_13 : decode cL_calibrated 13 = .ok (.iconst 0, 1) := by decide +kernel
theorem dL_calibrated_14 : decode cL_calibrated 14 = .ok (.istore 6, 2) := by decide +kernel
theorem dL_calibrated_16 : decode cL_calibrated 16 = .ok (.iload 6, 2) := by decide +kernel
theorem dL_calibrated_18 : decode cL_calibrated 18 = .ok (.iconst 3, 1) := by decide +kernel
theorem dL_calibrated_19 : decode cL_calibrated 19 = .ok (.if_icmp .ge 99, 3) := by decide +kernel
theorem dL_calibrated_22 : decode cL_calibrated 22 = .ok (.aload_n 3, 1) := by decide +kernel
theorem dL_calibrated_23 : decode cL_calibrated 23 = .ok (.iload 5, 2) := by decide +kernel
theorem dL_calibrated_25 : decode cL_calibrated 25 = .ok (.iaload, 1) := by decide +kernel
theorem dL_calibrated_26 : decode cL_calibrated 26 = .ok (.bipush 16, 2) := by decide +kernel
theorem dL_calibrated_28 : decode cL_calibrated 28 = .ok (.irem, 1) := by decide +kernel
theorem dL_calibrated_29 : decode cL_calibrated 29 = .ok (.iload_n 0, 1) := by decide +kernel
theorem dL_calibrated_30 : decode cL_calibrated 30 = .ok (.iconst 1, 1) := by decide +kernel
theorem dL_calibrated_31 : decode cL_calibrated 31 = .ok (.iadd, 1) := by decide +kernel
theorem dL_calibrated_32 : decode cL_calibrated 32 = .ok (.if_icmp .ne 86, 3) := by decide +kernel
theorem dL_calibrated_35 : decode cL_calibrated 35 = .ok (.iconst 0, 1) := by decide +kernel
theorem dL_calibrated_36 : decode cL_calibrated 36 = .ok (.istore 7, 2) := by decide +kernel
theorem dL_calibrated_38 : decode cL_calibrated 38 = .ok (.iload 7, 2) := by decide +kernel
theorem dL_calibrated_40 : decode cL_calibrated 40 = .ok (.aload 4, 2) := by decide +kernel
theorem dL_calibrated_42 : decode cL_calibrated 42 = .ok (.iconst 5, 1) := by decide +kernel
theorem dL_calibrated_43 : decode cL_calibrated 43 = .ok (.iaload, 1) := by decide +kernel
theorem dL_calibrated_44 : decode cL_calibrated 44 = .ok (.if_icmp .ge 68, 3) := by decide +kernel
theorem dL_calibrated_47 : decode cL_calibrated 47 = .ok (.aload_n 3, 1) := by decide +kernel
theorem dL_calibrated_48 : decode cL_calibrated 48 = .ok (.iload 7, 2) := by decide +kernel
theorem dL_calibrated_50 : decode cL_calibrated 50 = .ok (.iaload, 1) := by decide +kernel
theorem dL_calibrated_51 : decode cL_calibrated 51 = .ok (.bipush 16, 2) := by decide +kernel
theorem dL_calibrated_53 : decode cL_calibrated 53 = .ok (.irem, 1) := by decide +kernel
theorem dL_calibrated_54 : decode cL_calibrated 54 = .ok (.ifCond .ne 52, 3) := by decide +kernel
theorem dL_calibrated_57 : decode cL_calibrated 57 = .ok (.aload_n 1, 1) := by decide +kernel
theorem dL_calibrated_58 : decode cL_calibrated 58 = .ok (.iload 7, 2) := by decide +kernel
theorem dL_calibrated_60 : decode cL_calibrated 60 = .ok (.iaload, 1) := by decide +kernel
theorem dL_calibrated_61 : decode cL_calibrated 61 = .ok (.bipush 64, 2) := by decide +kernel
theorem dL_calibrated_63 : decode cL_calibrated 63 = .ok (.irem, 1) := by decide +kernel
theorem dL_calibrated_64 : decode cL_calibrated 64 = .ok (.aload_n 1, 1) := by decide +kernel
theorem dL_calibrated_65 : decode cL_calibrated 65 = .ok (.iload 5, 2) := by decide +kernel
theorem dL_calibrated_67 : decode cL_calibrated 67 = .ok (.iaload, 1) := by decide +kernel
theorem dL_calibrated_68 : decode cL_calibrated 68 = .ok (.bipush 64, 2) := by decide +kernel
theorem dL_calibrated_70 : decode cL_calibrated 70 = .ok (.irem, 1) := by decide +kernel
theorem dL_calibrated_71 : decode cL_calibrated 71 = .ok (.if_icmp .ne 35, 3) := by decide +kernel
theorem dL_calibrated_74 : decode cL_calibrated 74 = .ok (.aload_n 1, 1) := by decide +kernel
theorem dL_calibrated_75 : decode cL_calibrated 75 = .ok (.iload 7, 2) := by decide +kernel
theorem dL_calibrated_77 : decode cL_calibrated 77 = .ok (.iaload, 1) := by decide +kernel
theorem dL_calibrated_78 : decode cL_calibrated 78 = .ok (.bipush 64, 2) := by decide +kernel
theorem dL_calibrated_80 : decode cL_calibrated 80 = .ok (.idiv, 1) := by decide +kernel
theorem dL_calibrated_81 : decode cL_calibrated 81 = .ok (.aload_n 1, 1) := by decide +kernel
theorem dL_calibrated_82 : decode cL_calibrated 82 = .ok (.iload 5, 2) := by decide +kernel
theorem dL_calibrated_84 : decode cL_calibrated 84 = .ok (.iaload, 1) := by decide +kernel
theorem dL_calibrated_85 : decode cL_calibrated 85 = .ok (.bipush 64, 2) := by decide +kernel
theorem dL_calibrated_87 : decode cL_calibrated 87 = .ok (.idiv, 1) := by decide +kernel
theorem dL_calibrated_88 : decode cL_calibrated 88 = .ok (.invokestatic 78, 3) := by decide +kernel
theorem dL_calibrated_91 : decode cL_calibrated 91 = .ok (.iload 6, 2) := by decide +kernel
theorem dL_calibrated_93 : decode cL_calibrated 93 = .ok (.if_icmp .ne 13, 3) := by decide +kernel
theorem dL_calibrated_96 : decode cL_calibrated 96 = .ok (.aload_n 2, 1) := by decide +kernel
theorem dL_calibrated_97 : decode cL_calibrated 97 = .ok (.iload 5, 2) := by decide +kernel
theorem dL_calibrated_99 : decode cL_calibrated 99 = .ok (.iaload, 1) := by decide +kernel
theorem dL_calibrated_100 : decode cL_calibrated 100 = .ok (.aload_n 2, 1) := by decide +kernel
theorem dL_calibrated_101 : decode cL_calibrated 101 = .ok (.iload 7, 2) := by decide +kernel
theorem dL_calibrated_103 : decode cL_calibrated 103 = .ok (.iaload, 1) := by decide +kernel
theorem dL_calibrated_104 : decode cL_calibrated 104 = .ok (.isub, 1) := by decide +kernel
theorem dL_calibrated_105 : decode cL_calibrated 105 = .ok (.ireturn, 1) := by decide +kernel
theorem dL_calibrated_106 : decode cL_calibrated 106 = .ok (.iinc 7 1, 3) := by decide +kernel
theorem dL_calibrated_109 : decode cL_calibrated 109 = .ok (.goto (-71), 3) := by decide +kernel
theorem dL_calibrated_112 : decode cL_calibrated 112 = .ok (.iinc 6 1, 3) := by decide +kernel
theorem dL_calibrated_115 : decode cL_calibrated 115 = .ok (.goto (-99), 3) := by decide +kernel
theorem dL_calibrated_118 : decode cL_calibrated 118 = .ok (.iinc 5 (-1), 3) := by decide +kernel
theorem dL_calibrated_121 : decode cL_calibrated 121 = .ok (.goto (-113), 3) := by decide +kernel
theorem dL_calibrated_124 : decode cL_calibrated 124 = .ok (.ldc 50, 2) := by decide +kernel
theorem dL_calibrated_126 : decode cL_calibrated 126 = .ok (.ireturn, 1) := by decide +kernel
theorem dL_best_0 : decode cL_best 0 = .ok (.iconst 0, 1) := by decide +kernel
theorem dL_best_1 : decode cL_best 1 = .ok (.istore_n 1, 1) := by decide +kernel
theorem dL_best_2 : decode cL_best 2 = .ok (.iconst 0, 1) := by decide +kernel
theorem dL_best_3 : decode cL_best 3 = .ok (.istore_n 2, 1) := by decide +kernel
theorem dL_best_4 : decode cL_best 4 = .ok (.iload_n 2, 1) := by decide +kernel
theorem dL_best_5 : decode cL_best 5 = .ok (.bipush 60, 2) := by decide +kernel
theorem dL_best_7 : decode cL_best 7 = .ok (.if_icmp .ge 24, 3) := by decide +kernel
theorem dL_best_10 : decode cL_best 10 = .ok (.aload_n 0, 1) := by decide +kernel
theorem dL_best_11 : decode cL_best 11 = .ok (.iload_n 2, 1) := by decide +kernel
theorem dL_best_12 : decode cL_best 12 = .ok (.iaload, 1) := by decide +kernel
theorem dL_best_13 : decode cL_best 13 = .ok (.iload_n 1, 1) := by decide +kernel
theorem dL_best_14 : decode cL_best 14 = .ok (.if_icmp .le 9, 3) := by decide +kernel
theorem dL_best_17 : decode cL_best 17 = .ok (.aload_n 0, 1) := by decide +kernel
theorem dL_best_18 : decode cL_best 18 = .ok (.iload_n 2, 1) := by decide +kernel
theorem dL_best_19 : decode cL_best 19 = .ok (.iaload, 1) := by decide +kernel
theorem dL_best_20 : decode cL_best 20 = .ok (.goto 4, 3) := by decide +kernel
theorem dL_best_23 : decode cL_best 23 = .ok (.iload_n 1, 1) := by decide +kernel
theorem dL_best_24 : decode cL_best 24 = .ok (.istore_n 1, 1) := by decide +kernel
theorem dL_best_25 : decode cL_best 25 = .ok (.iinc 2 1, 3) := by decide +kernel
theorem dL_best_28 : decode cL_best 28 = .ok (.goto (-24), 3) := by decide +kernel
theorem dL_best_31 : decode cL_best 31 = .ok (.iconst 0, 1) := by decide +kernel
theorem dL_best_32 : decode cL_best 32 = .ok (.istore_n 2, 1) := by decide +kernel
theorem dL_best_33 : decode cL_best 33 = .ok (.aload_n 0, 1) := by decide +kernel
theorem dL_best_34 : decode cL_best 34 = .ok (.iload_n 2, 1) := by decide +kernel
theorem dL_best_35 : decode cL_best 35 = .ok (.iaload, 1) := by decide +kernel
theorem dL_best_36 : decode cL_best 36 = .ok (.iload_n 1, 1) := by decide +kernel
theorem dL_best_37 : decode cL_best 37 = .ok (.if_icmp .ge 9, 3) := by decide +kernel
theorem dL_best_40 : decode cL_best 40 = .ok (.iinc 2 1, 3) := by decide +kernel
theorem dL_best_43 : decode cL_best 43 = .ok (.goto (-10), 3) := by decide +kernel
theorem dL_best_46 : decode cL_best 46 = .ok (.iload_n 2, 1) := by decide +kernel
theorem dL_best_47 : decode cL_best 47 = .ok (.ireturn, 1) := by decide +kernel
theorem dL_searches_0 : decode cL_searches 0 = .ok (.iconst 1, 1) := by decide +kernel
theorem dL_searches_1 : decode cL_searches 1 = .ok (.iload_n 2, 1) := by decide +kernel
theorem dL_searches_2 : decode cL_searches 2 = .ok (.bipush 20, 2) := by decide +kernel
theorem dL_searches_4 : decode cL_searches 4 = .ok (.invokestatic 29, 3) := by decide +kernel
theorem dL_searches_7 : decode cL_searches 7 = .ok (.iadd, 1) := by decide +kernel
theorem dL_searches_8 : decode cL_searches 8 = .ok (.istore 5, 2) := by decide +kernel
theorem dL_searches_10 : decode cL_searches 10 = .ok (.iconst 1, 1) := by decide +kernel
theorem dL_searches_11 : decode cL_searches 11 = .ok (.iload_n 2, 1) := by decide +kernel
theorem dL_searches_12 : decode cL_searches 12 = .ok (.iconst 4, 1) := by decide +kernel
theorem dL_searches_13 : decode cL_searches 13 = .ok (.ishr, 1) := by decide +kernel
theorem dL_searches_14 : decode cL_searches 14 = .ok (.bipush 100, 2) := by decide +kernel
theorem dL_searches_16 : decode cL_searches 16 = .ok (.invokestatic 29, 3) := by decide +kernel
theorem dL_searches_19 : decode cL_searches 19 = .ok (.iadd, 1) := by decide +kernel
theorem dL_searches_20 : decode cL_searches 20 = .ok (.istore 6, 2) := by decide +kernel
theorem dL_searches_22 : decode cL_searches 22 = .ok (.iconst 0, 1) := by decide +kernel
theorem dL_searches_23 : decode cL_searches 23 = .ok (.istore 7, 2) := by decide +kernel
theorem dL_searches_25 : decode cL_searches 25 = .ok (.aload_n 3, 1) := by decide +kernel
theorem dL_searches_26 : decode cL_searches 26 = .ok (.aload 4, 2) := by decide +kernel
theorem dL_searches_28 : decode cL_searches 28 = .ok (.invokestatic 63, 3) := by decide +kernel
theorem dL_searches_31 : decode cL_searches 31 = .ok (.iconst 0, 1) := by decide +kernel
theorem dL_searches_32 : decode cL_searches 32 = .ok (.istore 8, 2) := by decide +kernel
theorem dL_searches_34 : decode cL_searches 34 = .ok (.iload 8, 2) := by decide +kernel
theorem dL_searches_36 : decode cL_searches 36 = .ok (.iload 5, 2) := by decide +kernel
theorem dL_searches_38 : decode cL_searches 38 = .ok (.if_icmp .ge 46, 3) := by decide +kernel
theorem dL_searches_41 : decode cL_searches 41 = .ok (.aload 4, 2) := by decide +kernel
theorem dL_searches_43 : decode cL_searches 43 = .ok (.invokestatic 88, 3) := by decide +kernel
theorem dL_searches_46 : decode cL_searches 46 = .ok (.istore 9, 2) := by decide +kernel
