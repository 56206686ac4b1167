theorem dX8_total_89 : decode cX8_total 89 = .ok (.getfield 12, 3) := by decide +kernel
theorem dX8_total_92 : decode cX8_total 92 = .ok (.getfield 212, 3) := by decide +kernel
theorem dX8_total_95 : decode cX8_total 95 = .ok (.ireturn, 1) := by decide +kernel
theorem dX8_ofFloat_0 : decode cX8_ofFloat 0 = .ok (.aload_n 0, 1) := by decide +kernel
theorem dX8_ofFloat_1 : decode cX8_ofFloat 1 = .ok (.iload_n 1, 1) := by decide +kernel
theorem dX8_ofFloat_2 : decode cX8_ofFloat 2 = .ok (.invokevirtual 127, 3) := by decide +kernel
theorem dX8_ofFloat_5 : decode cX8_ofFloat 5 = .ok (.astore_n 3, 1) := by decide +kernel
theorem dX8_ofFloat_6 : decode cX8_ofFloat 6 = .ok (.iload_n 2, 1) := by decide +kernel
theorem dX8_ofFloat_7 : decode cX8_ofFloat 7 = .ok (.iconst 0, 1) := by decide +kernel
theorem dX8_ofFloat_8 : decode cX8_ofFloat 8 = .ok (.iconst 4, 1) := by decide +kernel
theorem dX8_ofFloat_9 : decode cX8_ofFloat 9 = .ok (.invokestatic 74, 3) := by decide +kernel
theorem dX8_ofFloat_12 : decode cX8_ofFloat 12 = .ok (.iload_n 2, 1) := by decide +kernel
theorem dX8_ofFloat_13 : decode cX8_ofFloat 13 = .ok (.tableswitch 51 0 3 #[31, 36, 41, 46], 31) := by decide +kernel
theorem dX8_ofFloat_44 : decode cX8_ofFloat 44 = .ok (.aload_n 3, 1) := by decide +kernel
theorem dX8_ofFloat_45 : decode cX8_ofFloat 45 = .ok (.getfield 215, 3) := by decide +kernel
theorem dX8_ofFloat_48 : decode cX8_ofFloat 48 = .ok (.ireturn, 1) := by decide +kernel
theorem dX8_ofFloat_49 : decode cX8_ofFloat 49 = .ok (.aload_n 3, 1) := by decide +kernel
theorem dX8_ofFloat_50 : decode cX8_ofFloat 50 = .ok (.getfield 218, 3) := by decide +kernel
theorem dX8_ofFloat_53 : decode cX8_ofFloat 53 = .ok (.ireturn, 1) := by decide +kernel
theorem dX8_ofFloat_54 : decode cX8_ofFloat 54 = .ok (.aload_n 3, 1) := by decide +kernel
theorem dX8_ofFloat_55 : decode cX8_ofFloat 55 = .ok (.getfield 221, 3) := by decide +kernel
theorem dX8_ofFloat_58 : decode cX8_ofFloat 58 = .ok (.ireturn, 1) := by decide +kernel
theorem dX8_ofFloat_59 : decode cX8_ofFloat 59 = .ok (.aload_n 3, 1) := by decide +kernel
theorem dX8_ofFloat_60 : decode cX8_ofFloat 60 = .ok (.getfield 144, 3) := by decide +kernel
theorem dX8_ofFloat_63 : decode cX8_ofFloat 63 = .ok (.ireturn, 1) := by decide +kernel
theorem dX8_ofFloat_64 : decode cX8_ofFloat 64 = .ok (.aload_n 3, 1) := by decide +kernel
theorem dX8_ofFloat_65 : decode cX8_ofFloat 65 = .ok (.getfield 224, 3) := by decide +kernel
theorem dX8_ofFloat_68 : decode cX8_ofFloat 68 = .ok (.ireturn, 1) := by decide +kernel
theorem dX8_stations_0 : decode cX8_stations 0 = .ok (.aload_n 0, 1) := by decide +kernel
theorem dX8_stations_1 : decode cX8_stations 1 = .ok (.getfield 32, 3) := by decide +kernel
theorem dX8_stations_4 : decode cX8_stations 4 = .ok (.getfield 227, 3) := by decide +kernel
theorem dX8_stations_7 : decode cX8_stations 7 = .ok (.ireturn, 1) := by decide +kernel
theorem dX8_readings_0 : decode cX8_readings 0 = .ok (.aload_n 0, 1) := by decide +kernel
theorem dX8_readings_1 : decode cX8_readings 1 = .ok (.getfield 25, 3) := by decide +kernel
theorem dX8_readings_4 : decode cX8_readings 4 = .ok (.getfield 230, 3) := by decide +kernel
theorem dX8_readings_7 : decode cX8_readings 7 = .ok (.ireturn, 1) := by decide +kernel
theorem dX8_ofReading_0 : decode cX8_ofReading 0 = .ok (.aload_n 0, 1) := by decide +kernel
theorem dX8_ofReading_1 : decode cX8_ofReading 1 = .ok (.iload_n 1, 1) := by decide +kernel
theorem dX8_ofReading_2 : decode cX8_ofReading 2 = .ok (.invokevirtual 152, 3) := by decide +kernel
theorem dX8_ofReading_5 : decode cX8_ofReading 5 = .ok (.astore_n 3, 1) := by decide +kernel
theorem dX8_ofReading_6 : decode cX8_ofReading 6 = .ok (.iload_n 2, 1) := by decide +kernel
theorem dX8_ofReading_7 : decode cX8_ofReading 7 = .ok (.iconst 0, 1) := by decide +kernel
theorem dX8_ofReading_8 : decode cX8_ofReading 8 = .ok (.iconst 5, 1) := by decide +kernel
theorem dX8_ofReading_9 : decode cX8_ofReading 9 = .ok (.invokestatic 74, 3) := by decide +kernel
theorem dX8_ofReading_12 : decode cX8_ofReading 12 = .ok (.iload_n 2, 1) := by decide +kernel
theorem dX8_ofReading_13 : decode cX8_ofReading 13 = .ok (.tableswitch 67 0 4 #[35, 40, 45, 50, 55], 35) := by decide +kernel
theorem dX8_ofReading_48 : decode cX8_ofReading 48 = .ok (.aload_n 3, 1) := by decide +kernel
theorem dX8_ofReading_49 : decode cX8_ofReading 49 = .ok (.getfield 233, 3) := by decide +kernel
theorem dX8_ofReading_52 : decode cX8_ofReading 52 = .ok (.ireturn, 1) := by decide +kernel
theorem dX8_ofReading_53 : decode cX8_ofReading 53 = .ok (.aload_n 3, 1) := by decide +kernel
theorem dX8_ofReading_54 : decode cX8_ofReading 54 = .ok (.getfield 236, 3) := by decide +kernel
theorem dX8_ofReading_57 : decode cX8_ofReading 57 = .ok (.ireturn, 1) := by decide +kernel
theorem dX8_ofReading_58 : decode cX8_ofReading 58 = .ok (.aload_n 3, 1) := by decide +kernel
theorem dX8_ofReading_59 : decode cX8_ofReading 59 = .ok (.getfield 139, 3) := by decide +kernel
theorem dX8_ofReading_62 : decode cX8_ofReading 62 = .ok (.ireturn, 1) := by decide +kernel
theorem dX8_ofReading_63 : decode cX8_ofReading 63 = .ok (.aload_n 3, 1) := by decide +kernel
theorem dX8_ofReading_64 : decode cX8_ofReading 64 = .ok (.invokevirtual 237, 3) := by decide +kernel
theorem dX8_ofReading_67 : decode cX8_ofReading 67 = .ok (.ireturn, 1) := by decide +kernel
theorem dX8_ofReading_68 : decode cX8_ofReading 68 = .ok (.aload_n 3, 1) := by decide +kernel
theorem dX8_ofReading_69 : decode cX8_ofReading 69 = .ok (.aload_n 0, 1) := by decide +kernel
theorem dX8_ofReading_70 : decode cX8_ofReading 70 = .ok (.getfield 25, 3) := by decide +kernel
theorem dX8_ofReading_73 : decode cX8_ofReading 73 = .ok (.getfield 156, 3) := by decide +kernel
theorem dX8_ofReading_76 : decode cX8_ofReading 76 = .ok (.invokevirtual 159, 3) := by decide +kernel
theorem dX8_ofReading_79 : decode cX8_ofReading 79 = .ok (.ireturn, 1) := by decide +kernel
theorem dX8_ofReading_80 : decode cX8_ofReading 80 = .ok (.aload_n 3, 1) := by decide +kernel
theorem dX8_ofReading_81 : decode cX8_ofReading 81 = .ok (.getfield 241, 3) := by decide +kernel
theorem dX8_ofReading_84 : decode cX8_ofReading 84 = .ok (.ifnonnull 7, 3) := by decide +kernel
theorem dX8_ofReading_87 : decode cX8_ofReading 87 = .ok (.iconst (-1), 1) := by decide +kernel
theorem dX8_ofReading_88 : decode cX8_ofReading 88 = .ok (.goto 10, 3) := by decide +kernel
theorem dX8_ofReading_91 : decode cX8_ofReading 91 = .ok (.aload_n 3, 1) := by decide +kernel
theorem dX8_ofReading_92 : decode cX8_ofReading 92 = .ok (.getfield 241, 3) := by decide +kernel
theorem dX8_ofReading_95 : decode cX8_ofReading 95 = .ok (.getfield 245, 3) := by decide +kernel
theorem dX8_ofReading_98 : decode cX8_ofReading 98 = .ok (.ireturn, 1) := by decide +kernel
theorem dX8_mean_0 : decode cX8_mean 0 = .ok (.iload_n 1, 1) := by decide +kernel
theorem dX8_mean_1 : decode cX8_mean 1 = .ok (.iload_n 2, 1) := by decide +kernel
theorem dX8_mean_2 : decode cX8_mean 2 = .ok (.iload_n 3, 1) := by decide +kernel
theorem dX8_mean_3 : decode cX8_mean 3 = .ok (.invokestatic 248, 3) := by decide +kernel
theorem dX8_mean_6 : decode cX8_mean 6 = .ok (.aload_n 0, 1) := by decide +kernel
theorem dX8_mean_7 : decode cX8_mean 7 = .ok (.iload_n 1, 1) := by decide +kernel
theorem dX8_mean_8 : decode cX8_mean 8 = .ok (.invokevirtual 251, 3) := by decide +kernel
theorem dX8_mean_11 : decode cX8_mean 11 = .ok (.aload_n 0, 1) := by decide +kernel
theorem dX8_mean_12 : decode cX8_mean 12 = .ok (.aconst_null, 1) := by decide +kernel
theorem dX8_mean_13 : decode cX8_mean 13 = .ok (.iload_n 1, 1) := by decide +kernel
theorem dX8_mean_14 : decode cX8_mean 14 = .ok (.iload_n 2, 1) := by decide +kernel
theorem dX8_mean_15 : decode cX8_mean 15 = .ok (.iload_n 3, 1) := by decide +kernel
theorem dX8_mean_16 : decode cX8_mean 16 = .ok (.invokevirtual 254, 3) := by decide +kernel
theorem dX8_mean_19 : decode cX8_mean 19 = .ok (.ireturn, 1) := by decide +kernel
theorem dX8_error_0 : decode cX8_error 0 = .ok (.iload_n 1, 1) := by decide +kernel
theorem dX8_error_1 : decode cX8_error 1 = .ok (.iload_n 2, 1) := by decide +kernel
theorem dX8_error_2 : decode cX8_error 2 = .ok (.iload_n 3, 1) := by decide +kernel
theorem dX8_error_3 : decode cX8_error 3 = .ok (.invokestatic 248, 3) := by decide +kernel
theorem dX8_error_6 : decode cX8_error 6 = .ok (.aload_n 0, 1) := by decide +kernel
theorem dX8_error_7 : decode cX8_error 7 = .ok (.iload_n 1, 1) := by decide +kernel
theorem dX8_error_8 : decode cX8_error 8 = .ok (.invokevirtual 251, 3) := by decide +kernel
theorem dX8_error_11 : decode cX8_error 11 = .ok (.iconst 1, 1) := by decide +kernel
theorem dX8_error_12 : decode cX8_error 12 = .ok (.aload_n 0, 1) := by decide +kernel
theorem dX8_error_13 : decode cX8_error 13 = .ok (.getfield 25, 3) := by decide +kernel
theorem dX8_error_16 : decode cX8_error 16 = .ok (.aconst_null, 1) := by decide +kernel
theorem dX8_error_17 : decode cX8_error 17 = .ok (.iload_n 1, 1) := by decide +kernel
theorem dX8_error_18 : decode cX8_error 18 = .ok (.iload_n 2, 1) := by decide +kernel
theorem dX8_error_19 : decode cX8_error 19 = .ok (.iload_n 3, 1) := by decide +kernel
theorem dX8_error_20 : decode cX8_error 20 = .ok (.invokevirtual 258, 3) := by decide +kernel
theorem dX8_error_23 : decode cX8_error 23 = .ok (.iadd, 1) := by decide +kernel
theorem dX8_error_24 : decode cX8_error 24 = .ok (.istore 4, 2) := by decide +kernel
theorem dX8_error_26 : decode cX8_error 26 = .ok (.iload 4, 2) := by decide +kernel
theorem dX8_error_28 : decode cX8_error 28 = .ok (.ifCond .le 12, 3) := by decide +kernel
theorem dX8_error_31 : decode cX8_error 31 = .ok (.sipush 1000, 3) := by decide +kernel
theorem dX8_error_34 : decode cX8_error 34 = .ok (.iload 4, 2) := by decide +kernel
theorem dX8_error_36 : decode cX8_error 36 = .ok (.idiv, 1) := by decide +kernel
theorem dX8_error_37 : decode cX8_error 37 = .ok (.goto 4, 3) := by decide +kernel
theorem dX8_error_40 : decode cX8_error 40 = .ok (.iconst 0, 1) := by decide +kernel
theorem dX8_error_41 : decode cX8_error 41 = .ok (.ireturn, 1) := by decide +kernel
theorem dX8_residual_0 : decode cX8_residual 0 = .ok (.aload_n 0, 1) := by decide +kernel
theorem dX8_residual_1 : decode cX8_residual 1 = .ok (.iload_n 1, 1) := by decide +kernel
theorem dX8_residual_2 : decode cX8_residual 2 = .ok (.invokevirtual 152, 3) := by decide +kernel
theorem dX8_residual_5 : decode cX8_residual 5 = .ok (.astore_n 3, 1) := by decide +kernel
theorem dX8_residual_6 : decode cX8_residual 6 = .ok (.iload_n 2, 1) := by decide +kernel
theorem dX8_residual_7 : decode cX8_residual 7 = .ok (.iconst 0, 1) := by decide +kernel
theorem dX8_residual_8 : decode cX8_residual 8 = .ok (.sipush 1000, 3) := by decide +kernel
theorem dX8_residual_11 : decode cX8_residual 11 = .ok (.invokestatic 74, 3) := by decide +kernel
theorem dX8_residual_14 : decode cX8_residual 14 = .ok (.aload_n 3, 1) := by decide +kernel
theorem dX8_residual_15 : decode cX8_residual 15 = .ok (.invokevirtual 237, 3) := by decide +kernel
theorem dX8_residual_18 : decode cX8_residual 18 = .ok (.aload_n 0, 1) := by decide +kernel
theorem dX8_residual_19 : decode cX8_residual 19 = .ok (.aload_n 3, 1) := by decide +kernel
theorem dX8_residual_20 : decode cX8_residual 20 = .ok (.aload_n 3, 1) := by decide +kernel
theorem dX8_residual_21 : decode cX8_residual 21 = .ok (.getfield 236, 3) := by decide +kernel
theorem dX8_residual_24 : decode cX8_residual 24 = .ok (.aload_n 3, 1) := by decide +kernel
theorem dX8_residual_25 : decode cX8_residual 25 = .ok (.getfield 233, 3) := by decide +kernel
theorem dX8_residual_28 : decode cX8_residual 28 = .ok (.iload_n 2, 1) := by decide +kernel
theorem dX8_residual_29 : decode cX8_residual 29 = .ok (.invokevirtual 254, 3) := by decide +kernel
theorem dX8_residual_32 : decode cX8_residual 32 = .ok (.isub, 1) := by decide +kernel
theorem dX8_residual_33 : decode cX8_residual 33 = .ok (.ireturn, 1) := by decide +kernel
theorem dX8_chance_0 : decode cX8_chance 0 = .ok (.aload_n 0, 1) := by decide +kernel
theorem dX8_chance_1 : decode cX8_chance 1 = .ok (.iload_n 1, 1) := by decide +kernel
theorem dX8_chance_2 : decode cX8_chance 2 = .ok (.invokevirtual 172, 3) := by decide +kernel
theorem dX8_chance_5 : decode cX8_chance 5 = .ok (.astore_n 3, 1) := by decide +kernel
theorem dX8_chance_6 : decode cX8_chance 6 = .ok (.iload_n 2, 1) := by decide +kernel
theorem dX8_chance_7 : decode cX8_chance 7 = .ok (.invokestatic 48, 3) := by decide +kernel
theorem dX8_chance_10 : decode cX8_chance 10 = .ok (.aload_n 3, 1) := by decide +kernel
theorem dX8_chance_11 : decode cX8_chance 11 = .ok (.getfield 176, 3) := by decide +kernel
theorem dX8_chance_14 : decode cX8_chance 14 = .ok (.iload_n 2, 1) := by decide +kernel
theorem dX8_chance_15 : decode cX8_chance 15 = .ok (.iaload, 1) := by decide +kernel
theorem dX8_chance_16 : decode cX8_chance 16 = .ok (.ireturn, 1) := by decide +kernel
theorem dX8_best_0 : decode cX8_best 0 = .ok (.aload_n 0, 1) := by decide +kernel
theorem dX8_best_1 : decode cX8_best 1 = .ok (.iload_n 1, 1) := by decide +kernel
theorem dX8_best_2 : decode cX8_best 2 = .ok (.invokevirtual 172, 3) := by decide +kernel
theorem dX8_best_5 : decode cX8_best 5 = .ok (.getfield 176, 3) := by decide +kernel
theorem dX8_best_8 : decode cX8_best 8 = .ok (.invokestatic 261, 3) := by decide +kernel
theorem dX8_best_11 : decode cX8_best 11 = .ok (.ireturn, 1) := by decide +kernel
theorem dX8_plan_0 : decode cX8_plan 0 = .ok (.aload_n 0, 1) := by decide +kernel
theorem dX8_plan_1 : decode cX8_plan 1 = .ok (.iload_n 1, 1) := by decide +kernel
theorem dX8_plan_2 : decode cX8_plan 2 = .ok (.invokevirtual 172, 3) := by decide +kernel
theorem dX8_plan_5 : decode cX8_plan 5 = .ok (.astore 4, 2) := by decide +kernel
theorem dX8_plan_7 : decode cX8_plan 7 = .ok (.iload_n 2, 1) := by decide +kernel
theorem dX8_plan_8 : decode cX8_plan 8 = .ok (.iconst 1, 1) := by decide +kernel
theorem dX8_plan_9 : decode cX8_plan 9 = .ok (.bipush 20, 2) := by decide +kernel
theorem dX8_plan_11 : decode cX8_plan 11 = .ok (.invokestatic 74, 3) := by decide +kernel
theorem dX8_plan_14 : decode cX8_plan 14 = .ok (.iload_n 3, 1) := by decide +kernel
theorem dX8_plan_15 : decode cX8_plan 15 = .ok (.iconst 1, 1) := by decide +kernel
theorem dX8_plan_16 : decode cX8_plan 16 = .ok (.bipush 100, 2) := by decide +kernel
theorem dX8_plan_18 : decode cX8_plan 18 = .ok (.invokestatic 74, 3) := by decide +kernel
theorem dX8_plan_21 : decode cX8_plan 21 = .ok (.aload 4, 2) := by decide +kernel
theorem dX8_plan_23 : decode cX8_plan 23 = .ok (.iload_n 2, 1) := by decide +kernel
theorem dX8_plan_24 : decode cX8_plan 24 = .ok (.iload_n 3, 1) := by decide +kernel
theorem dX8_plan_25 : decode cX8_plan 25 = .ok (.invokevirtual 264, 3) := by decide +kernel
theorem dX8_plan_28 : decode cX8_plan 28 = .ok (.ireturn, 1) := by decide +kernel
theorem dX8_tide_0 : decode cX8_tide 0 = .ok (.iload_n 1, 1) := by decide +kernel
theorem dX8_tide_1 : decode cX8_tide 1 = .ok (.iconst 0, 1) := by decide +kernel
theorem dX8_tide_2 : decode cX8_tide 2 = .ok (.ldc_w 267, 3) := by decide +kernel
theorem dX8_tide_5 : decode cX8_tide 5 = .ok (.invokestatic 74, 3) := by decide +kernel
theorem dX8_tide_8 : decode cX8_tide 8 = .ok (.aload_n 0, 1) := by decide +kernel
theorem dX8_tide_9 : decode cX8_tide 9 = .ok (.iload_n 1, 1) := by decide +kernel
theorem dX8_tide_10 : decode cX8_tide 10 = .ok (.invokevirtual 268, 3) := by decide +kernel
theorem dX8_tide_13 : decode cX8_tide 13 = .ok (.ireturn, 1) := by decide +kernel
theorem dX8_highest_0 : decode cX8_highest 0 = .ok (.iload_n 1, 1) := by decide +kernel
theorem dX8_highest_1 : decode cX8_highest 1 = .ok (.iconst 0, 1) := by decide +kernel
theorem dX8_highest_2 : decode cX8_highest 2 = .ok (.ldc_w 267, 3) := by decide +kernel
theorem dX8_highest_5 : decode cX8_highest 5 = .ok (.invokestatic 74, 3) := by decide +kernel
theorem dX8_highest_8 : decode cX8_highest 8 = .ok (.iload_n 2, 1) := by decide +kernel
theorem dX8_highest_9 : decode cX8_highest 9 = .ok (.iload_n 1, 1) := by decide +kernel
theorem dX8_highest_10 : decode cX8_highest 10 = .ok (.iload_n 1, 1) := by decide +kernel
theorem dX8_highest_11 : decode cX8_highest 11 = .ok (.sipush 500, 3) := by decide +kernel
theorem dX8_highest_14 : decode cX8_highest 14 = .ok (.iadd, 1) := by decide +kernel
theorem dX8_highest_15 : decode cX8_highest 15 = .ok (.ldc_w 267, 3) := by decide +kernel
theorem dX8_highest_18 : decode cX8_highest 18 = .ok (.invokestatic 271, 3) := by decide +kernel
theorem dX8_highest_21 : decode cX8_highest 21 = .ok (.invokestatic 74, 3) := by decide +kernel
theorem dX8_highest_24 : decode cX8_highest 24 = .ok (.iload_n 1, 1) := by decide +kernel
theorem dX8_highest_25 : decode cX8_highest 25 = .ok (.istore_n 3, 1) := by decide +kernel
theorem dX8_highest_26 : decode cX8_highest 26 = .ok (.aload_n 0, 1) := by decide +kernel
theorem dX8_highest_27 : decode cX8_highest 27 = .ok (.iload_n 1, 1) := by decide +kernel
theorem dX8_highest_28 : decode cX8_highest 28 = .ok (.invokevirtual 268, 3) := by decide +kernel
theorem dX8_highest_31 : decode cX8_highest 31 = .ok (.istore 4, 2) := by decide +kernel
theorem dX8_highest_33 : decode cX8_highest 33 = .ok (.iload_n 1, 1) := by decide +kernel
theorem dX8_highest_34 : decode cX8_highest 34 = .ok (.iconst 1, 1) := by decide +kernel
theorem dX8_highest_35 : decode cX8_highest 35 = .ok (.iadd, 1) := by decide +kernel
theorem dX8_highest_36 : decode cX8_highest 36 = .ok (.istore 5, 2) := by decide +kernel
theorem dX8_highest_38 : decode cX8_highest 38 = .ok (.iload 5, 2) := by decide +kernel
theorem dX8_highest_40 : decode cX8_highest 40 = .ok (.iload_n 2, 1) := by decide +kernel
theorem dX8_highest_41 : decode cX8_highest 41 = .ok (.if_icmp .gt 31, 3) := by decide +kernel
theorem dX8_highest_44 : decode cX8_highest 44 = .ok (.aload_n 0, 1) := by decide +kernel
theorem dX8_highest_45 : decode cX8_highest 45 = .ok (.iload 5, 2) := by decide +kernel
theorem dX8_highest_47 : decode cX8_highest 47 = .ok (.invokevirtual 268, 3) := by decide +kernel
theorem dX8_highest_50 : decode cX8_highest 50 = .ok (.istore 6, 2) := by decide +kernel
theorem dX8_highest_52 : decode cX8_highest 52 = .ok (.iload 6, 2) := by decide +kernel
theorem dX8_highest_54 : decode cX8_highest 54 = .ok (.iload 4, 2) := by decide +kernel
theorem dX8_highest_56 : decode cX8_highest 56 = .ok (.if_icmp .le 10, 3) := by decide +kernel
theorem dX8_highest_59 : decode cX8_highest 59 = .ok (.iload 6, 2) := by decide +kernel
theorem dX8_highest_61 : decode cX8_highest 61 = .ok (.istore 4, 2) := by decide +kernel
theorem dX8_highest_63 : decode cX8_highest 63 = .ok (.iload 5, 2) := by decide +kernel
theorem dX8_highest_65 : decode cX8_highest 65 = .ok (.istore_n 3, 1) := by decide +kernel
theorem dX8_highest_66 : decode cX8_highest 66 = .ok (.iinc 5 1, 3) := by decide +kernel
theorem dX8_highest_69 : decode cX8_highest 69 = .ok (.goto (-31), 3) := by decide +kernel
theorem dX8_highest_72 : decode cX8_highest 72 = .ok (.iload_n 3, 1) := by decide +kernel
theorem dX8_highest_73 : decode cX8_highest 73 = .ok (.ireturn, 1) := by decide +kernel
theorem dX8_isIndex_0 : decode cX8_isIndex 0 = .ok (.iload_n 0, 1) := by decide +kernel
theorem dX8_isIndex_1 : decode cX8_isIndex 1 = .ok (.ifCond .lt 12, 3) := by decide +kernel
theorem dX8_isIndex_4 : decode cX8_isIndex 4 = .ok (.iload_n 0, 1) := by decide +kernel
theorem dX8_isIndex_5 : decode cX8_isIndex 5 = .ok (.iload_n 1, 1) := by decide +kernel
theorem dX8_isIndex_6 : decode cX8_isIndex 6 = .ok (.if_icmp .ge 7, 3) := by decide +kernel
theorem dX8_isIndex_9 : decode cX8_isIndex 9 = .ok (.iconst 1, 1) := by decide +kernel
theorem dX8_isIndex_10 : decode cX8_isIndex 10 = .ok (.goto 4, 3) := by decide +kernel
theorem dX8_isIndex_13 : decode cX8_isIndex 13 = .ok (.iconst 0, 1) := by decide +kernel
theorem dX8_isIndex_14 : decode cX8_isIndex 14 = .ok (.ireturn, 1) := by decide +kernel
theorem dX8_isCell_0 : decode cX8_isCell 0 = .ok (.iload_n 0, 1) := by decide +kernel
theorem dX8_isCell_1 : decode cX8_isCell 1 = .ok (.ifCond .lt 13, 3) := by decide +kernel
theorem dX8_isCell_4 : decode cX8_isCell 4 = .ok (.iload_n 0, 1) := by decide +kernel
theorem dX8_isCell_5 : decode cX8_isCell 5 = .ok (.bipush 60, 2) := by decide +kernel
theorem dX8_isCell_7 : decode cX8_isCell 7 = .ok (.if_icmp .ge 7, 3) := by decide +kernel
theorem dX8_isCell_10 : decode cX8_isCell 10 = .ok (.iconst 1, 1) := by decide +kernel
theorem dX8_isCell_11 : decode cX8_isCell 11 = .ok (.goto 4, 3) := by decide +kernel
theorem dX8_isCell_14 : decode cX8_isCell 14 = .ok (.iconst 0, 1) := by decide +kernel
theorem dX8_isCell_15 : decode cX8_isCell 15 = .ok (.ireturn, 1) := by decide +kernel
theorem dX8_needCell_0 : decode cX8_needCell 0 = .ok (.iload_n 0, 1) := by decide +kernel
theorem dX8_needCell_1 : decode cX8_needCell 1 = .ok (.invokestatic 276, 3) := by decide +kernel
theorem dX8_needCell_4 : decode cX8_needCell 4 = .ok (.ifCond .ne 14, 3) := by decide +kernel
theorem dX8_needCell_7 : decode cX8_needCell 7 = .ok (.new 279, 3) := by decide +kernel
theorem dX8_needCell_10 : decode cX8_needCell 10 = .ok (.dup, 1) := by decide +kernel
theorem dX8_needCell_11 : decode cX8_needCell 11 = .ok (.ldc_w 281, 3) := by decide +kernel
theorem dX8_needCell_14 : decode cX8_needCell 14 = .ok (.invokespecial 283, 3) := by decide +kernel
theorem dX8_needCell_17 : decode cX8_needCell 17 = .ok (.athrow, 1) := by decide +kernel
theorem dX8_needCell_18 : decode cX8_needCell 18 = .ok (.return_, 1) := by decide +kernel
theorem dX8_needRange_0 : decode cX8_needRange 0 = .ok (.iload_n 0, 1) := by decide +kernel
theorem dX8_needRange_1 : decode cX8_needRange 1 = .ok (.iload_n 1, 1) := by decide +kernel
theorem dX8_needRange_2 : decode cX8_needRange 2 = .ok (.if_icmp .lt 8, 3) := by decide +kernel
theorem dX8_needRange_5 : decode cX8_needRange 5 = .ok (.iload_n 0, 1) := by decide +kernel
theorem dX8_needRange_6 : decode cX8_needRange 6 = .ok (.iload_n 2, 1) := by decide +kernel
theorem dX8_needRange_7 : decode cX8_needRange 7 = .ok (.if_icmp .le 14, 3) := by decide +kernel
theorem dX8_needRange_10 : decode cX8_needRange 10 = .ok (.new 284, 3) := by decide +kernel
theorem dX8_needRange_13 : decode cX8_needRange 13 = .ok (.dup, 1) := by decide +kernel
theorem dX8_needRange_14 : decode cX8_needRange 14 = .ok (.ldc_w 286, 3) := by decide +kernel
theorem dX8_needRange_17 : decode cX8_needRange 17 = .ok (.invokespecial 288, 3) := by decide +kernel
theorem dX8_needRange_20 : decode cX8_needRange 20 = .ok (.athrow, 1) := by decide +kernel
theorem dX8_needRange_21 : decode cX8_needRange 21 = .ok (.return_, 1) := by decide +kernel
theorem dX8_needMap_0 : decode cX8_needMap 0 = .ok (.iload_n 0, 1) := by decide +kernel
theorem dX8_needMap_1 : decode cX8_needMap 1 = .ok (.invokestatic 48, 3) := by decide +kernel
theorem dX8_needMap_4 : decode cX8_needMap 4 = .ok (.iload_n 1, 1) := by decide +kernel
theorem dX8_needMap_5 : decode cX8_needMap 5 = .ok (.iconst 0, 1) := by decide +kernel
theorem dX8_needMap_6 : decode cX8_needMap 6 = .ok (.sipush 1000, 3) := by decide +kernel
theorem dX8_needMap_9 : decode cX8_needMap 9 = .ok (.invokestatic 74, 3) := by decide +kernel
theorem dX8_needMap_12 : decode cX8_needMap 12 = .ok (.iload_n 2, 1) := by decide +kernel
theorem dX8_needMap_13 : decode cX8_needMap 13 = .ok (.iconst 0, 1) := by decide +kernel
theorem dX8_needMap_14 : decode cX8_needMap 14 = .ok (.sipush 1000, 3) := by decide +kernel
theorem dX8_needMap_17 : decode cX8_needMap 17 = .ok (.invokestatic 74, 3) := by decide +kernel
theorem dX8_needMap_20 : decode cX8_needMap 20 = .ok (.return_, 1) := by decide +kernel
theorem dX8_needSea_0 : decode cX8_needSea 0 = .ok (.aload_n 0, 1) := by decide +kernel
theorem dX8_needSea_1 : decode cX8_needSea 1 = .ok (.getfield 12, 3) := by decide +kernel
theorem dX8_needSea_4 : decode cX8_needSea 4 = .ok (.iload_n 1, 1) := by decide +kernel
theorem dX8_needSea_5 : decode cX8_needSea 5 = .ok (.invokevirtual 56, 3) := by decide +kernel
theorem dX8_needSea_8 : decode cX8_needSea 8 = .ok (.ifCond .eq 14, 3) := by decide +kernel
theorem dX8_needSea_11 : decode cX8_needSea 11 = .ok (.new 63, 3) := by decide +kernel
theorem dX8_needSea_14 : decode cX8_needSea 14 = .ok (.dup, 1) := by decide +kernel
theorem dX8_needSea_15 : decode cX8_needSea 15 = .ok (.ldc_w 289, 3) := by decide +kernel
theorem dX8_needSea_18 : decode cX8_needSea 18 = .ok (.invokespecial 67, 3) := by decide +kernel
theorem dX8_needSea_21 : decode cX8_needSea 21 = .ok (.athrow, 1) := by decide +kernel
theorem dX8_needSea_22 : decode cX8_needSea 22 = .ok (.return_, 1) := by decide +kernel
theorem dX8_buoyNumbered_0 : decode cX8_buoyNumbered 0 = .ok (.iload_n 1, 1) := by decide +kernel
theorem dX8_buoyNumbered_1 : decode cX8_buoyNumbered 1 = .ok (.aload_n 0, 1) := by decide +kernel
theorem dX8_buoyNumbered_2 : decode cX8_buoyNumbered 2 = .ok (.getfield 18, 3) := by decide +kernel
theorem dX8_buoyNumbered_5 : decode cX8_buoyNumbered 5 = .ok (.arraylength, 1) := by decide +kernel
theorem dX8_buoyNumbered_6 : decode cX8_buoyNumbered 6 = .ok (.invokestatic 93, 3) := by decide +kernel
theorem dX8_buoyNumbered_9 : decode cX8_buoyNumbered 9 = .ok (.ifCond .eq 12, 3) := by decide +kernel
theorem dX8_buoyNumbered_12 : decode cX8_buoyNumbered 12 = .ok (.aload_n 0, 1) := by decide +kernel
theorem dX8_buoyNumbered_13 : decode cX8_buoyNumbered 13 = .ok (.getfield 18, 3) := by decide +kernel
theorem dX8_buoyNumbered_16 : decode cX8_buoyNumbered 16 = .ok (.iload_n 1, 1) := by decide +kernel
theorem dX8_buoyNumbered_17 : decode cX8_buoyNumbered 17 = .ok (.aaload, 1) := by decide +kernel
theorem dX8_buoyNumbered_18 : decode cX8_buoyNumbered 18 = .ok (.goto 4, 3) := by decide +kernel
theorem dX8_buoyNumbered_21 : decode cX8_buoyNumbered 21 = .ok (.aconst_null, 1) := by decide +kernel
theorem dX8_buoyNumbered_22 : decode cX8_buoyNumbered 22 = .ok (.astore_n 2, 1) := by decide +kernel
theorem dX8_buoyNumbered_23 : decode cX8_buoyNumbered 23 = .ok (.aload_n 2, 1) := by decide +kernel
theorem dX8_buoyNumbered_24 : decode cX8_buoyNumbered 24 = .ok (.ifnonnull 14, 3) := by decide +kernel
theorem dX8_buoyNumbered_27 : decode cX8_buoyNumbered 27 = .ok (.new 279, 3) := by decide +kernel
theorem dX8_buoyNumbered_30 : decode cX8_buoyNumbered 30 = .ok (.dup, 1) := by decide +kernel
theorem dX8_buoyNumbered_31 : decode cX8_buoyNumbered 31 = .ok (.ldc_w 291, 3) := by decide +kernel
theorem dX8_buoyNumbered_34 : decode cX8_buoyNumbered 34 = .ok (.invokespecial 283, 3) := by decide +kernel
theorem dX8_buoyNumbered_37 : decode cX8_buoyNumbered 37 = .ok (.athrow, 1) := by decide +kernel
theorem dX8_buoyNumbered_38 : decode cX8_buoyNumbered 38 = .ok (.aload_n 2, 1) := by decide +kernel
theorem dX8_buoyNumbered_39 : decode cX8_buoyNumbered 39 = .ok (.areturn, 1) := by decide +kernel
theorem dX8_readingNumbered_0 : decode cX8_readingNumbered 0 = .ok (.iload_n 1, 1) := by decide +kernel
theorem dX8_readingNumbered_1 : decode cX8_readingNumbered 1 = .ok (.aload_n 0, 1) := by decide +kernel
theorem dX8_readingNumbered_2 : decode cX8_readingNumbered 2 = .ok (.getfield 25, 3) := by decide +kernel
theorem dX8_readingNumbered_5 : decode cX8_readingNumbered 5 = .ok (.getfield 293, 3) := by decide +kernel
theorem dX8_readingNumbered_8 : decode cX8_readingNumbered 8 = .ok (.arraylength, 1) := by decide +kernel
theorem dX8_readingNumbered_9 : decode cX8_readingNumbered 9 = .ok (.invokestatic 93, 3) := by decide +kernel
theorem dX8_readingNumbered_12 : decode cX8_readingNumbered 12 = .ok (.ifCond .eq 15, 3) := by decide +kernel
theorem dX8_readingNumbered_15 : decode cX8_readingNumbered 15 = .ok (.aload_n 0, 1) := by decide +kernel
theorem dX8_readingNumbered_16 : decode cX8_readingNumbered 16 = .ok (.getfield 25, 3) := by decide +kernel
theorem dX8_readingNumbered_19 : decode cX8_readingNumbered 19 = .ok (.getfield 293, 3) := by decide +kernel
theorem dX8_readingNumbered_22 : decode cX8_readingNumbered 22 = .ok (.iload_n 1, 1) := by decide +kernel
theorem dX8_readingNumbered_23 : decode cX8_readingNumbered 23 = .ok (.aaload, 1) := by decide +kernel
theorem dX8_readingNumbered_24 : decode cX8_readingNumbered 24 = .ok (.goto 4, 3) := by decide +kernel
theorem dX8_readingNumbered_27 : decode cX8_readingNumbered 27 = .ok (.aconst_null, 1) := by decide +kernel
theorem dX8_readingNumbered_28 : decode cX8_readingNumbered 28 = .ok (.astore_n 2, 1) := by decide +kernel
theorem dX8_readingNumbered_29 : decode cX8_readingNumbered 29 = .ok (.aload_n 2, 1) := by decide +kernel
theorem dX8_readingNumbered_30 : decode cX8_readingNumbered 30 = .ok (.ifnonnull 14, 3) := by decide +kernel
theorem dX8_readingNumbered_33 : decode cX8_readingNumbered 33 = .ok (.new 279, 3) := by decide +kernel
theorem dX8_readingNumbered_36 : decode cX8_readingNumbered 36 = .ok (.dup, 1) := by decide +kernel
theorem dX8_readingNumbered_37 : decode cX8_readingNumbered 37 = .ok (.ldc_w 297, 3) := by decide +kernel
theorem dX8_readingNumbered_40 : decode cX8_readingNumbered 40 = .ok (.invokespecial 283, 3) := by decide +kernel
theorem dX8_readingNumbered_43 : decode cX8_readingNumbered 43 = .ok (.athrow, 1) := by decide +kernel
theorem dX8_readingNumbered_44 : decode cX8_readingNumbered 44 = .ok (.aload_n 2, 1) := by decide +kernel
theorem dX8_readingNumbered_45 : decode cX8_readingNumbered 45 = .ok (.areturn, 1) := by decide +kernel
theorem dX8_searchNumbered_0 : decode cX8_searchNumbered 0 = .ok (.iload_n 1, 1) := by decide +kernel
theorem dX8_searchNumbered_1 : decode cX8_searchNumbered 1 = .ok (.aload_n 0, 1) := by decide +kernel
theorem dX8_searchNumbered_2 : decode cX8_searchNumbered 2 = .ok (.getfield 38, 3) := by decide +kernel
theorem dX8_searchNumbered_5 : decode cX8_searchNumbered 5 = .ok (.arraylength, 1) := by decide +kernel
theorem dX8_searchNumbered_6 : decode cX8_searchNumbered 6 = .ok (.invokestatic 93, 3) := by decide +kernel
theorem dX8_searchNumbered_9 : decode cX8_searchNumbered 9 = .ok (.ifCond .eq 12, 3) := by decide +kernel
theorem dX8_searchNumbered_12 : decode cX8_searchNumbered 12 = .ok (.aload_n 0, 1) := by decide +kernel
theorem dX8_searchNumbered_13 : decode cX8_searchNumbered 13 = .ok (.getfield 38, 3) := by decide +kernel
theorem dX8_searchNumbered_16 : decode cX8_searchNumbered 16 = .ok (.iload_n 1, 1) := by decide +kernel
theorem dX8_searchNumbered_17 : decode cX8_searchNumbered 17 = .ok (.aaload, 1) := by decide +kernel
theorem dX8_searchNumbered_18 : decode cX8_searchNumbered 18 = .ok (.goto 4, 3) := by decide +kernel
theorem dX8_searchNumbered_21 : decode cX8_searchNumbered 21 = .ok (.aconst_null, 1) := by decide +kernel
theorem dX8_searchNumbered_22 : decode cX8_searchNumbered 22 = .ok (.astore_n 2, 1) := by decide +kernel
theorem dX8_searchNumbered_23 : decode cX8_searchNumbered 23 = .ok (.aload_n 2, 1) := by decide +kernel
theorem dX8_searchNumbered_24 : decode cX8_searchNumbered 24 = .ok (.ifnonnull 14, 3) := by decide +kernel
theorem dX8_searchNumbered_27 : decode cX8_searchNumbered 27 = .ok (.new 279, 3) := by decide +kernel
theorem dX8_searchNumbered_30 : decode cX8_searchNumbered 30 = .ok (.dup, 1) := by decide +kernel
theorem dX8_searchNumbered_31 : decode cX8_searchNumbered 31 = .ok (.ldc_w 299, 3) := by decide +kernel
theorem dX8_searchNumbered_34 : decode cX8_searchNumbered 34 = .ok (.invokespecial 283, 3) := by decide +kernel
theorem dX8_searchNumbered_37 : decode cX8_searchNumbered 37 = .ok (.athrow, 1) := by decide +kernel
theorem dX8_searchNumbered_38 : decode cX8_searchNumbered 38 = .ok (.aload_n 2, 1) := by decide +kernel
theorem dX8_searchNumbered_39 : decode cX8_searchNumbered 39 = .ok (.areturn, 1) := by decide +kernel
theorem dX8_sumOf_0 : decode cX8_sumOf 0 = .ok (.iconst 0, 1) := by decide +kernel
theorem dX8_sumOf_1 : decode cX8_sumOf 1 = .ok (.istore_n 1, 1) := by decide +kernel
theorem dX8_sumOf_2 : decode cX8_sumOf 2 = .ok (.aload_n 0, 1) := by decide +kernel
theorem dX8_sumOf_3 : decode cX8_sumOf 3 = .ok (.astore_n 2, 1) := by decide +kernel
theorem dX8_sumOf_4 : decode cX8_sumOf 4 = .ok (.aload_n 2, 1) := by decide +kernel
theorem dX8_sumOf_5 : decode cX8_sumOf 5 = .ok (.arraylength, 1) := by decide +kernel
theorem dX8_sumOf_6 : decode cX8_sumOf 6 = .ok (.istore_n 3, 1) := by decide +kernel
theorem dX8_sumOf_7 : decode cX8_sumOf 7 = .ok (.iconst 0, 1) := by decide +kernel
theorem dX8_sumOf_8 : decode cX8_sumOf 8 = .ok (.istore 4, 2) := by decide +kernel
theorem dX8_sumOf_10 : decode cX8_sumOf 10 = .ok (.iload 4, 2) := by decide +kernel
theorem dX8_sumOf_12 : decode cX8_sumOf 12 = .ok (.iload_n 3, 1) := by decide +kernel
theorem dX8_sumOf_13 : decode cX8_sumOf 13 = .ok (.if_icmp .ge 20, 3) := by decide +kernel
theorem dX8_sumOf_16 : decode cX8_sumOf 16 = .ok (.aload_n 2, 1) := by decide +kernel
theorem dX8_sumOf_17 : decode cX8_sumOf 17 = .ok (.iload 4, 2) := by decide +kernel
theorem dX8_sumOf_19 : decode cX8_sumOf 19 = .ok (.iaload, 1) := by decide +kernel
theorem dX8_sumOf_20 : decode cX8_sumOf 20 = .ok (.istore 5, 2) := by decide +kernel
theorem dX8_sumOf_22 : decode cX8_sumOf 22 = .ok (.iload_n 1, 1) := by decide +kernel
theorem dX8_sumOf_23 : decode cX8_sumOf 23 = .ok (.iload 5, 2) := by decide +kernel
theorem dX8_sumOf_25 : decode cX8_sumOf 25 = .ok (.iadd, 1) := by decide +kernel
theorem dX8_sumOf_26 : decode cX8_sumOf 26 = .ok (.istore_n 1, 1) := by decide +kernel
theorem dX8_sumOf_27 : decode cX8_sumOf 27 = .ok (.iinc 4 1, 3) := by decide +kernel
theorem dX8_sumOf_30 : decode cX8_sumOf 30 = .ok (.goto (-20), 3) := by decide +kernel
theorem dX8_sumOf_33 : decode cX8_sumOf 33 = .ok (.iload_n 1, 1) := by decide +kernel
theorem dX8_sumOf_34 : decode cX8_sumOf 34 = .ok (.ireturn, 1) := by decide +kernel
theorem dX8_isTaken_0 : decode cX8_isTaken 0 = .ok (.aload_n 0, 1) := by decide +kernel
theorem dX8_isTaken_1 : decode cX8_isTaken 1 = .ok (.getfield 18, 3) := by decide +kernel
theorem dX8_isTaken_4 : decode cX8_isTaken 4 = .ok (.astore_n 2, 1) := by decide +kernel
theorem dX8_isTaken_5 : decode cX8_isTaken 5 = .ok (.aload_n 2, 1) := by decide +kernel
theorem dX8_isTaken_6 : decode cX8_isTaken 6 = .ok (.arraylength, 1) := by decide +kernel
theorem dX8_isTaken_7 : decode cX8_isTaken 7 = .ok (.istore_n 3, 1) := by decide +kernel
theorem dX8_isTaken_8 : decode cX8_isTaken 8 = .ok (.iconst 0, 1) := by decide +kernel
theorem dX8_isTaken_9 : decode cX8_isTaken 9 = .ok (.istore 4, 2) := by decide +kernel
theorem dX8_isTaken_11 : decode cX8_isTaken 11 = .ok (.iload 4, 2) := by decide +kernel
theorem dX8_isTaken_13 : decode cX8_isTaken 13 = .ok (.iload_n 3, 1) := by decide +kernel
theorem dX8_isTaken_14 : decode cX8_isTaken 14 = .ok (.if_icmp .ge 31, 3) := by decide +kernel
theorem dX8_isTaken_17 : decode cX8_isTaken 17 = .ok (.aload_n 2, 1) := by decide +kernel
theorem dX8_isTaken_18 : decode cX8_isTaken 18 = .ok (.iload 4, 2) := by decide +kernel
theorem dX8_isTaken_20 : decode cX8_isTaken 20 = .ok (.aaload, 1) := by decide +kernel
theorem dX8_isTaken_21 : decode cX8_isTaken 21 = .ok (.astore 5, 2) := by decide +kernel
theorem dX8_isTaken_23 : decode cX8_isTaken 23 = .ok (.aload 5, 2) := by decide +kernel
theorem dX8_isTaken_25 : decode cX8_isTaken 25 = .ok (.ifnull 14, 3) := by decide +kernel
theorem dX8_isTaken_28 : decode cX8_isTaken 28 = .ok (.aload 5, 2) := by decide +kernel
theorem dX8_isTaken_30 : decode cX8_isTaken 30 = .ok (.getfield 215, 3) := by decide +kernel
theorem dX8_isTaken_33 : decode cX8_isTaken 33 = .ok (.iload_n 1, 1) := by decide +kernel
theorem dX8_isTaken_34 : decode cX8_isTaken 34 = .ok (.if_icmp .ne 5, 3) := by decide +kernel
theorem dX8_isTaken_37 : decode cX8_isTaken 37 = .ok (.iconst 1, 1) := by decide +kernel
theorem dX8_isTaken_38 : decode cX8_isTaken 38 = .ok (.ireturn, 1) := by decide +kernel
theorem dX8_isTaken_39 : decode cX8_isTaken 39 = .ok (.iinc 4 1, 3) := by decide +kernel
theorem dX8_isTaken_42 : decode cX8_isTaken 42 = .ok (.goto (-31), 3) := by decide +kernel
theorem dX8_isTaken_45 : decode cX8_isTaken 45 = .ok (.aload_n 0, 1) := by decide +kernel
theorem dX8_isTaken_46 : decode cX8_isTaken 46 = .ok (.getfield 38, 3) := by decide +kernel
theorem dX8_isTaken_49 : decode cX8_isTaken 49 = .ok (.astore_n 2, 1) := by decide +kernel
theorem dX8_isTaken_50 : decode cX8_isTaken 50 = .ok (.aload_n 2, 1) := by decide +kernel
theorem dX8_isTaken_51 : decode cX8_isTaken 51 = .ok (.arraylength, 1) := by decide +kernel
theorem dX8_isTaken_52 : decode cX8_isTaken 52 = .ok (.istore_n 3, 1) := by decide +kernel
theorem dX8_isTaken_53 : decode cX8_isTaken 53 = .ok (.iconst 0, 1) := by decide +kernel
theorem dX8_isTaken_54 : decode cX8_isTaken 54 = .ok (.istore 4, 2) := by decide +kernel
theorem dX8_isTaken_56 : decode cX8_isTaken 56 = .ok (.iload 4, 2) := by decide +kernel
theorem dX8_isTaken_58 : decode cX8_isTaken 58 = .ok (.iload_n 3, 1) := by decide +kernel
theorem dX8_isTaken_59 : decode cX8_isTaken 59 = .ok (.if_icmp .ge 31, 3) := by decide +kernel
theorem dX8_isTaken_62 : decode cX8_isTaken 62 = .ok (.aload_n 2, 1) := by decide +kernel
theorem dX8_isTaken_63 : decode cX8_isTaken 63 = .ok (.iload 4, 2) := by decide +kernel
theorem dX8_isTaken_65 : decode cX8_isTaken 65 = .ok (.aaload, 1) := by decide +kernel
theorem dX8_isTaken_66 : decode cX8_isTaken 66 = .ok (.astore 5, 2) := by decide +kernel
theorem dX8_isTaken_68 : decode cX8_isTaken 68 = .ok (.aload 5, 2) := by decide +kernel
theorem dX8_isTaken_70 : decode cX8_isTaken 70 = .ok (.ifnull 14, 3) := by decide +kernel
theorem dX8_isTaken_73 : decode cX8_isTaken 73 = .ok (.aload 5, 2) := by decide +kernel
theorem dX8_isTaken_75 : decode cX8_isTaken 75 = .ok (.getfield 301, 3) := by decide +kernel
theorem dX8_isTaken_78 : decode cX8_isTaken 78 = .ok (.iload_n 1, 1) := by decide +kernel
theorem dX8_isTaken_79 : decode cX8_isTaken 79 = .ok (.if_icmp .ne 5, 3) := by decide +kernel
theorem dX8_isTaken_82 : decode cX8_isTaken 82 = .ok (.iconst 1, 1) := by decide +kernel
theorem dX8_isTaken_83 : decode cX8_isTaken 83 = .ok (.ireturn, 1) := by decide +kernel
theorem dX8_isTaken_84 : decode cX8_isTaken 84 = .ok (.iinc 4 1, 3) := by decide +kernel
theorem dX8_isTaken_87 : decode cX8_isTaken 87 = .ok (.goto (-31), 3) := by decide +kernel
theorem dX8_isTaken_90 : decode cX8_isTaken 90 = .ok (.aload_n 0, 1) := by decide +kernel
theorem dX8_isTaken_91 : decode cX8_isTaken 91 = .ok (.getfield 32, 3) := by decide +kernel
theorem dX8_isTaken_94 : decode cX8_isTaken 94 = .ok (.iload_n 1, 1) := by decide +kernel
theorem dX8_isTaken_95 : decode cX8_isTaken 95 = .ok (.invokevirtual 304, 3) := by decide +kernel
theorem dX8_isTaken_98 : decode cX8_isTaken 98 = .ok (.ireturn, 1) := by decide +kernel
theorem dX8_meanWithout_0 : decode cX8_meanWithout 0 = .ok (.aload_n 0, 1) := by decide +kernel
theorem dX8_meanWithout_1 : decode cX8_meanWithout 1 = .ok (.getfield 25, 3) := by decide +kernel
theorem dX8_meanWithout_4 : decode cX8_meanWithout 4 = .ok (.aload_n 1, 1) := by decide +kernel
theorem dX8_meanWithout_5 : decode cX8_meanWithout 5 = .ok (.iload_n 2, 1) := by decide +kernel
theorem dX8_meanWithout_6 : decode cX8_meanWithout 6 = .ok (.iload_n 3, 1) := by decide +kernel
theorem dX8_meanWithout_7 : decode cX8_meanWithout 7 = .ok (.iload 4, 2) := by decide +kernel
theorem dX8_meanWithout_9 : decode cX8_meanWithout 9 = .ok (.invokevirtual 258, 3) := by decide +kernel
theorem dX8_meanWithout_12 : decode cX8_meanWithout 12 = .ok (.istore 5, 2) := by decide +kernel
theorem dX8_meanWithout_14 : decode cX8_meanWithout 14 = .ok (.iload 5, 2) := by decide +kernel
theorem dX8_meanWithout_16 : decode cX8_meanWithout 16 = .ok (.ifCond .gt 14, 3) := by decide +kernel
theorem dX8_meanWithout_19 : decode cX8_meanWithout 19 = .ok (.new 63, 3) := by decide +kernel
theorem dX8_meanWithout_22 : decode cX8_meanWithout 22 = .ok (.dup, 1) := by decide +kernel
theorem dX8_meanWithout_23 : decode cX8_meanWithout 23 = .ok (.ldc_w 307, 3) := by decide +kernel
theorem dX8_meanWithout_26 : decode cX8_meanWithout 26 = .ok (.invokespecial 67, 3) := by decide +kernel
theorem dX8_meanWithout_29 : decode cX8_meanWithout 29 = .ok (.athrow, 1) := by decide +kernel
theorem dX8_meanWithout_30 : decode cX8_meanWithout 30 = .ok (.aload_n 0, 1) := by decide +kernel
theorem dX8_meanWithout_31 : decode cX8_meanWithout 31 = .ok (.getfield 25, 3) := by decide +kernel
theorem dX8_meanWithout_34 : decode cX8_meanWithout 34 = .ok (.aload_n 1, 1) := by decide +kernel
theorem dX8_meanWithout_35 : decode cX8_meanWithout 35 = .ok (.iload_n 2, 1) := by decide +kernel
theorem dX8_meanWithout_36 : decode cX8_meanWithout 36 = .ok (.iload_n 3, 1) := by decide +kernel
theorem dX8_meanWithout_37 : decode cX8_meanWithout 37 = .ok (.iload 4, 2) := by decide +kernel
theorem dX8_meanWithout_39 : decode cX8_meanWithout 39 = .ok (.invokevirtual 309, 3) := by decide +kernel
theorem dX8_meanWithout_42 : decode cX8_meanWithout 42 = .ok (.iload 5, 2) := by decide +kernel
theorem dX8_meanWithout_44 : decode cX8_meanWithout 44 = .ok (.i2l, 1) := by decide +kernel
theorem dX8_meanWithout_45 : decode cX8_meanWithout 45 = .ok (.ldiv, 1) := by decide +kernel
theorem dX8_meanWithout_46 : decode cX8_meanWithout 46 = .ok (.l2i, 1) := by decide +kernel
theorem dX8_meanWithout_47 : decode cX8_meanWithout 47 = .ok (.ireturn, 1) := by decide +kernel
theorem dX8_tideAt_0 : decode cX8_tideAt 0 = .ok (.iconst 0, 1) := by decide +kernel
theorem dX8_tideAt_1 : decode cX8_tideAt 1 = .ok (.istore_n 2, 1) := by decide +kernel
theorem dX8_tideAt_2 : decode cX8_tideAt 2 = .ok (.aload_n 0, 1) := by decide +kernel
theorem dX8_tideAt_3 : decode cX8_tideAt 3 = .ok (.getfield 44, 3) := by decide +kernel
theorem dX8_tideAt_6 : decode cX8_tideAt 6 = .ok (.astore_n 3, 1) := by decide +kernel
theorem dX8_tideAt_7 : decode cX8_tideAt 7 = .ok (.aload_n 3, 1) := by decide +kernel
theorem dX8_tideAt_8 : decode cX8_tideAt 8 = .ok (.arraylength, 1) := by decide +kernel
theorem dX8_tideAt_9 : decode cX8_tideAt 9 = .ok (.istore 4, 2) := by decide +kernel
theorem dX8_tideAt_11 : decode cX8_tideAt 11 = .ok (.iconst 0, 1) := by decide +kernel
theorem dX8_tideAt_12 : decode cX8_tideAt 12 = .ok (.istore 5, 2) := by decide +kernel
theorem dX8_tideAt_14 : decode cX8_tideAt 14 = .ok (.iload 5, 2) := by decide +kernel
theorem dX8_tideAt_16 : decode cX8_tideAt 16 = .ok (.iload 4, 2) := by decide +kernel
theorem dX8_tideAt_18 : decode cX8_tideAt 18 = .ok (.if_icmp .ge 29, 3) := by decide +kernel
theorem dX8_tideAt_21 : decode cX8_tideAt 21 = .ok (.aload_n 3, 1) := by decide +kernel
theorem dX8_tideAt_22 : decode cX8_tideAt 22 = .ok (.iload 5, 2) := by decide +kernel
theorem dX8_tideAt_24 : decode cX8_tideAt 24 = .ok (.aaload, 1) := by decide +kernel
theorem dX8_tideAt_25 : decode cX8_tideAt 25 = .ok (.astore 6, 2) := by decide +kernel
theorem dX8_tideAt_27 : decode cX8_tideAt 27 = .ok (.aload 6, 2) := by decide +kernel
theorem dX8_tideAt_29 : decode cX8_tideAt 29 = .ok (.ifnull 12, 3) := by decide +kernel
theorem dX8_tideAt_32 : decode cX8_tideAt 32 = .ok (.iload_n 2, 1) := by decide +kernel
theorem dX8_tideAt_33 : decode cX8_tideAt 33 = .ok (.aload 6, 2) := by decide +kernel
theorem dX8_tideAt_35 : decode cX8_tideAt 35 = .ok (.iload_n 1, 1) := by decide +kernel
theorem dX8_tideAt_36 : decode cX8_tideAt 36 = .ok (.invokevirtual 313, 3) := by decide +kernel
theorem dX8_tideAt_39 : decode cX8_tideAt 39 = .ok (.iadd, 1) := by decide +kernel
theorem dX8_tideAt_40 : decode cX8_tideAt 40 = .ok (.istore_n 2, 1) := by decide +kernel
theorem dX8_tideAt_41 : decode cX8_tideAt 41 = .ok (.iinc 5 1, 3) := by decide +kernel
theorem dX8_tideAt_44 : decode cX8_tideAt 44 = .ok (.goto (-30), 3) := by decide +kernel
theorem dX8_tideAt_47 : decode cX8_tideAt 47 = .ok (.iload_n 2, 1) := by decide +kernel
theorem dX8_tideAt_48 : decode cX8_tideAt 48 = .ok (.ireturn, 1) := by decide +kernel
theorem dX8_passOneDay_0 : decode cX8_passOneDay 0 = .ok (.aload_n 0, 1) := by decide +kernel
theorem dX8_passOneDay_1 : decode cX8_passOneDay 1 = .ok (.dup, 1) := by decide +kernel
theorem dX8_passOneDay_2 : decode cX8_passOneDay 2 = .ok (.getfield 52, 3) := by decide +kernel
theorem dX8_passOneDay_5 : decode cX8_passOneDay 5 = .ok (.iconst 1, 1) := by decide +kernel
theorem dX8_passOneDay_6 : decode cX8_passOneDay 6 = .ok (.iadd, 1) := by decide +kernel
theorem dX8_passOneDay_7 : decode cX8_passOneDay 7 = .ok (.putfield 52, 3) := by decide +kernel
theorem dX8_passOneDay_10 : decode cX8_passOneDay 10 = .ok (.aload_n 0, 1) := by decide +kernel
theorem dX8_passOneDay_11 : decode cX8_passOneDay 11 = .ok (.getfield 12, 3) := by decide +kernel
theorem dX8_passOneDay_14 : decode cX8_passOneDay 14 = .ok (.invokevirtual 316, 3) := by decide +kernel
theorem dX8_passOneDay_17 : decode cX8_passOneDay 17 = .ok (.aload_n 0, 1) := by decide +kernel
theorem dX8_passOneDay_18 : decode cX8_passOneDay 18 = .ok (.getfield 12, 3) := by decide +kernel
theorem dX8_passOneDay_21 : decode cX8_passOneDay 21 = .ok (.invokevirtual 319, 3) := by decide +kernel
theorem dX8_passOneDay_24 : decode cX8_passOneDay 24 = .ok (.aload_n 0, 1) := by decide +kernel
theorem dX8_passOneDay_25 : decode cX8_passOneDay 25 = .ok (.getfield 12, 3) := by decide +kernel
theorem dX8_passOneDay_28 : decode cX8_passOneDay 28 = .ok (.invokevirtual 322, 3) := by decide +kernel
theorem dX8_passOneDay_31 : decode cX8_passOneDay 31 = .ok (.aload_n 0, 1) := by decide +kernel
theorem dX8_passOneDay_32 : decode cX8_passOneDay 32 = .ok (.getfield 18, 3) := by decide +kernel
theorem dX8_passOneDay_35 : decode cX8_passOneDay 35 = .ok (.astore_n 1, 1) := by decide +kernel
theorem dX8_passOneDay_36 : decode cX8_passOneDay 36 = .ok (.aload_n 1, 1) := by decide +kernel
theorem dX8_passOneDay_37 : decode cX8_passOneDay 37 = .ok (.arraylength, 1) := by decide +kernel
theorem dX8_passOneDay_38 : decode cX8_passOneDay 38 = .ok (.istore_n 2, 1) := by decide +kernel
theorem dX8_passOneDay_39 : decode cX8_passOneDay 39 = .ok (.iconst 0, 1) := by decide +kernel
theorem dX8_passOneDay_40 : decode cX8_passOneDay 40 = .ok (.istore_n 3, 1) := by decide +kernel
theorem dX8_passOneDay_41 : decode cX8_passOneDay 41 = .ok (.iload_n 3, 1) := by decide +kernel
theorem dX8_passOneDay_42 : decode cX8_passOneDay 42 = .ok (.iload_n 2, 1) := by decide +kernel
theorem dX8_passOneDay_43 : decode cX8_passOneDay 43 = .ok (.if_icmp .ge 33, 3) := by decide +kernel
theorem dX8_passOneDay_46 : decode cX8_passOneDay 46 = .ok (.aload_n 1, 1) := by decide +kernel
theorem dX8_passOneDay_47 : decode cX8_passOneDay 47 = .ok (.iload_n 3, 1) := by decide +kernel
theorem dX8_passOneDay_48 : decode cX8_passOneDay 48 = .ok (.aaload, 1) := by decide +kernel
theorem dX8_passOneDay_49 : decode cX8_passOneDay 49 = .ok (.astore 4, 2) := by decide +kernel
theorem dX8_passOneDay_51 : decode cX8_passOneDay 51 = .ok (.aload 4, 2) := by decide +kernel
theorem dX8_passOneDay_53 : decode cX8_passOneDay 53 = .ok (.ifnull 17, 3) := by decide +kernel
theorem dX8_passOneDay_56 : decode cX8_passOneDay 56 = .ok (.aload 4, 2) := by decide +kernel
theorem dX8_passOneDay_58 : decode cX8_passOneDay 58 = .ok (.getfield 221, 3) := by decide +kernel
theorem dX8_passOneDay_61 : decode cX8_passOneDay 61 = .ok (.ifCond .le 9, 3) := by decide +kernel
theorem dX8_passOneDay_64 : decode cX8_passOneDay 64 = .ok (.aload_n 0, 1) := by decide +kernel
theorem dX8_passOneDay_65 : decode cX8_passOneDay 65 = .ok (.aload 4, 2) := by decide +kernel
theorem dX8_passOneDay_67 : decode cX8_passOneDay 67 = .ok (.invokevirtual 325, 3) := by decide +kernel
theorem dX8_passOneDay_70 : decode cX8_passOneDay 70 = .ok (.iinc 3 1, 3) := by decide +kernel
theorem dX8_passOneDay_73 : decode cX8_passOneDay 73 = .ok (.goto (-32), 3) := by decide +kernel
theorem dX8_passOneDay_76 : decode cX8_passOneDay 76 = .ok (.aload_n 0, 1) := by decide +kernel
theorem dX8_passOneDay_77 : decode cX8_passOneDay 77 = .ok (.getfield 38, 3) := by decide +kernel
theorem dX8_passOneDay_80 : decode cX8_passOneDay 80 = .ok (.astore_n 1, 1) := by decide +kernel
theorem dX8_passOneDay_81 : decode cX8_passOneDay 81 = .ok (.aload_n 1, 1) := by decide +kernel
theorem dX8_passOneDay_82 : decode cX8_passOneDay 82 = .ok (.arraylength, 1) := by decide +kernel
theorem dX8_passOneDay_83 : decode cX8_passOneDay 83 = .ok (.istore_n 2, 1) := by decide +kernel
theorem dX8_passOneDay_84 : decode cX8_passOneDay 84 = .ok (.iconst 0, 1) := by decide +kernel
theorem dX8_passOneDay_85 : decode cX8_passOneDay 85 = .ok (.istore_n 3, 1) := by decide +kernel
theorem dX8_passOneDay_86 : decode cX8_passOneDay 86 = .ok (.iload_n 3, 1) := by decide +kernel
theorem dX8_passOneDay_87 : decode cX8_passOneDay 87 = .ok (.iload_n 2, 1) := by decide +kernel
theorem dX8_passOneDay_88 : decode cX8_passOneDay 88 = .ok (.if_icmp .ge 28, 3) := by decide +kernel
theorem dX8_passOneDay_91 : decode cX8_passOneDay 91 = .ok (.aload_n 1, 1) := by decide +kernel
theorem dX8_passOneDay_92 : decode cX8_passOneDay 92 = .ok (.iload_n 3, 1) := by decide +kernel
theorem dX8_passOneDay_93 : decode cX8_passOneDay 93 = .ok (.aaload, 1) := by decide +kernel
theorem dX8_passOneDay_94 : decode cX8_passOneDay 94 = .ok (.astore 4, 2) := by decide +kernel
theorem dX8_passOneDay_96 : decode cX8_passOneDay 96 = .ok (.aload 4, 2) := by decide +kernel
theorem dX8_passOneDay_98 : decode cX8_passOneDay 98 = .ok (.ifnull 12, 3) := by decide +kernel
theorem dX8_passOneDay_101 : decode cX8_passOneDay 101 = .ok (.aload 4, 2) := by decide +kernel
theorem dX8_passOneDay_103 : decode cX8_passOneDay 103 = .ok (.aload_n 0, 1) := by decide +kernel
theorem dX8_passOneDay_104 : decode cX8_passOneDay 104 = .ok (.getfield 12, 3) := by decide +kernel
theorem dX8_passOneDay_107 : decode cX8_passOneDay 107 = .ok (.invokevirtual 329, 3) := by decide +kernel
theorem dX8_passOneDay_110 : decode cX8_passOneDay 110 = .ok (.iinc 3 1, 3) := by decide +kernel
theorem dX8_passOneDay_113 : decode cX8_passOneDay 113 = .ok (.goto (-27), 3) := by decide +kernel
theorem dX8_passOneDay_116 : decode cX8_passOneDay 116 = .ok (.aload_n 0, 1) := by decide +kernel
theorem dX8_passOneDay_117 : decode cX8_passOneDay 117 = .ok (.invokevirtual 333, 3) := by decide +kernel
theorem dX8_passOneDay_120 : decode cX8_passOneDay 120 = .ok (.return_, 1) := by decide +kernel
theorem dX8_letDrift_0 : decode cX8_letDrift 0 = .ok (.aload_n 1, 1) := by decide +kernel
theorem dX8_letDrift_1 : decode cX8_letDrift 1 = .ok (.dup, 1) := by decide +kernel
theorem dX8_letDrift_2 : decode cX8_letDrift 2 = .ok (.getfield 218, 3) := by decide +kernel
theorem dX8_letDrift_5 : decode cX8_letDrift 5 = .ok (.iconst 1, 1) := by decide +kernel
theorem dX8_letDrift_6 : decode cX8_letDrift 6 = .ok (.isub, 1) := by decide +kernel
theorem dX8_letDrift_7 : decode cX8_letDrift 7 = .ok (.putfield 218, 3) := by decide +kernel
theorem dX8_letDrift_10 : decode cX8_letDrift 10 = .ok (.aload_n 1, 1) := by decide +kernel
theorem dX8_letDrift_11 : decode cX8_letDrift 11 = .ok (.getfield 218, 3) := by decide +kernel
theorem dX8_letDrift_14 : decode cX8_letDrift 14 = .ok (.ifCond .le 4, 3) := by decide +kernel
theorem dX8_letDrift_17 : decode cX8_letDrift 17 = .ok (.return_, 1) := by decide +kernel
theorem dX8_letDrift_18 : decode cX8_letDrift 18 = .ok (.aload_n 0, 1) := by decide +kernel
theorem dX8_letDrift_19 : decode cX8_letDrift 19 = .ok (.getfield 12, 3) := by decide +kernel
theorem dX8_letDrift_22 : decode cX8_letDrift 22 = .ok (.aload_n 1, 1) := by decide +kernel
theorem dX8_letDrift_23 : decode cX8_letDrift 23 = .ok (.getfield 215, 3) := by decide +kernel
theorem dX8_letDrift_26 : decode cX8_letDrift 26 = .ok (.invokevirtual 336, 3) := by decide +kernel
theorem dX8_letDrift_29 : decode cX8_letDrift 29 = .ok (.istore_n 2, 1) := by decide +kernel
theorem dX8_letDrift_30 : decode cX8_letDrift 30 = .ok (.iload_n 2, 1) := by decide +kernel
theorem dX8_letDrift_31 : decode cX8_letDrift 31 = .ok (.iconst (-1), 1) := by decide +kernel
theorem dX8_letDrift_32 : decode cX8_letDrift 32 = .ok (.if_icmp .eq 8, 3) := by decide +kernel
theorem dX8_letDrift_35 : decode cX8_letDrift 35 = .ok (.aload_n 1, 1) := by decide +kernel
theorem dX8_letDrift_36 : decode cX8_letDrift 36 = .ok (.iload_n 2, 1) := by decide +kernel
theorem dX8_letDrift_37 : decode cX8_letDrift 37 = .ok (.putfield 215, 3) := by decide +kernel
theorem dX8_letDrift_40 : decode cX8_letDrift 40 = .ok (.aload_n 0, 1) := by decide +kernel
theorem dX8_letDrift_41 : decode cX8_letDrift 41 = .ok (.getfield 25, 3) := by decide +kernel
theorem dX8_letDrift_44 : decode cX8_letDrift 44 = .ok (.aload_n 0, 1) := by decide +kernel
theorem dX8_letDrift_45 : decode cX8_letDrift 45 = .ok (.getfield 52, 3) := by decide +kernel
theorem dX8_letDrift_48 : decode cX8_letDrift 48 = .ok (.aload_n 1, 1) := by decide +kernel
theorem dX8_letDrift_49 : decode cX8_letDrift 49 = .ok (.getfield 215, 3) := by decide +kernel
theorem dX8_letDrift_52 : decode cX8_letDrift 52 = .ok (.aload_n 0, 1) := by decide +kernel
theorem dX8_letDrift_53 : decode cX8_letDrift 53 = .ok (.getfield 12, 3) := by decide +kernel
theorem dX8_letDrift_56 : decode cX8_letDrift 56 = .ok (.aload_n 1, 1) := by decide +kernel
theorem dX8_letDrift_57 : decode cX8_letDrift 57 = .ok (.getfield 215, 3) := by decide +kernel
theorem dX8_letDrift_60 : decode cX8_letDrift 60 = .ok (.invokevirtual 339, 3) := by decide +kernel
theorem dX8_letDrift_63 : decode cX8_letDrift 63 = .ok (.aload_n 1, 1) := by decide +kernel
theorem dX8_letDrift_64 : decode cX8_letDrift 64 = .ok (.getfield 342, 3) := by decide +kernel
theorem dX8_letDrift_67 : decode cX8_letDrift 67 = .ok (.iadd, 1) := by decide +kernel
theorem dX8_letDrift_68 : decode cX8_letDrift 68 = .ok (.aload_n 1, 1) := by decide +kernel
theorem dX8_letDrift_69 : decode cX8_letDrift 69 = .ok (.invokevirtual 345, 3) := by decide +kernel
theorem dX8_letDrift_72 : decode cX8_letDrift 72 = .ok (.aload_n 1, 1) := by decide +kernel
theorem dX8_letDrift_73 : decode cX8_letDrift 73 = .ok (.dup, 1) := by decide +kernel
theorem dX8_letDrift_74 : decode cX8_letDrift 74 = .ok (.getfield 221, 3) := by decide +kernel
theorem dX8_letDrift_77 : decode cX8_letDrift 77 = .ok (.iconst 1, 1) := by decide +kernel
theorem dX8_letDrift_78 : decode cX8_letDrift 78 = .ok (.isub, 1) := by decide +kernel
theorem dX8_letDrift_79 : decode cX8_letDrift 79 = .ok (.putfield 221, 3) := by decide +kernel
theorem dX8_letDrift_82 : decode cX8_letDrift 82 = .ok (.aload_n 1, 1) := by decide +kernel
theorem dX8_letDrift_83 : decode cX8_letDrift 83 = .ok (.aload_n 1, 1) := by decide +kernel
theorem dX8_letDrift_84 : decode cX8_letDrift 84 = .ok (.getfield 221, 3) := by decide +kernel
theorem dX8_letDrift_87 : decode cX8_letDrift 87 = .ok (.ifCond .le 10, 3) := by decide +kernel
theorem dX8_letDrift_90 : decode cX8_letDrift 90 = .ok (.aload_n 1, 1) := by decide +kernel
theorem dX8_letDrift_91 : decode cX8_letDrift 91 = .ok (.getfield 349, 3) := by decide +kernel
theorem dX8_letDrift_94 : decode cX8_letDrift 94 = .ok (.goto 4, 3) := by decide +kernel
theorem dX8_letDrift_97 : decode cX8_letDrift 97 = .ok (.iconst 0, 1) := by decide +kernel
theorem dX8_letDrift_98 : decode cX8_letDrift 98 = .ok (.putfield 218, 3) := by decide +kernel
theorem dX8_letDrift_101 : decode cX8_letDrift 101 = .ok (.return_, 1) := by decide +kernel
theorem dX8_readAtStations_0 : decode cX8_readAtStations 0 = .ok (.aload_n 0, 1) := by decide +kernel
theorem dX8_readAtStations_1 : decode cX8_readAtStations 1 = .ok (.getfield 32, 3) := by decide +kernel
theorem dX8_readAtStations_4 : decode cX8_readAtStations 4 = .ok (.aload_n 0, 1) := by decide +kernel
theorem dX8_readAtStations_5 : decode cX8_readAtStations 5 = .ok (.getfield 52, 3) := by decide +kernel
theorem dX8_readAtStations_8 : decode cX8_readAtStations 8 = .ok (.invokevirtual 352, 3) := by decide +kernel
theorem dX8_readAtStations_11 : decode cX8_readAtStations 11 = .ok (.ifCond .ne 7, 3) := by decide +kernel
theorem dX8_readAtStations_14 : decode cX8_readAtStations 14 = .ok (.iconst 1, 1) := by decide +kernel
theorem dX8_readAtStations_15 : decode cX8_readAtStations 15 = .ok (.goto 4, 3) := by decide +kernel
theorem dX8_readAtStations_18 : decode cX8_readAtStations 18 = .ok (.iconst 0, 1) := by decide +kernel
theorem dX8_readAtStations_19 : decode cX8_readAtStations 19 = .ok (.istore_n 1, 1) := by decide +kernel
theorem dX8_readAtStations_20 : decode cX8_readAtStations 20 = .ok (.aload_n 0, 1) := by decide +kernel
theorem dX8_readAtStations_21 : decode cX8_readAtStations 21 = .ok (.getfield 32, 3) := by decide +kernel
theorem dX8_readAtStations_24 : decode cX8_readAtStations 24 = .ok (.aload_n 0, 1) := by decide +kernel
theorem dX8_readAtStations_25 : decode cX8_readAtStations 25 = .ok (.getfield 52, 3) := by decide +kernel
theorem dX8_readAtStations_28 : decode cX8_readAtStations 28 = .ok (.invokevirtual 355, 3) := by decide +kernel
theorem dX8_readAtStations_31 : decode cX8_readAtStations 31 = .ok (.istore_n 2, 1) := by decide +kernel
theorem dX8_readAtStations_32 : decode cX8_readAtStations 32 = .ok (.iconst 0, 1) := by decide +kernel
theorem dX8_readAtStations_33 : decode cX8_readAtStations 33 = .ok (.istore_n 3, 1) := by decide +kernel
theorem dX8_readAtStations_34 : decode cX8_readAtStations 34 = .ok (.iload_n 3, 1) := by decide +kernel
theorem dX8_readAtStations_35 : decode cX8_readAtStations 35 = .ok (.iload_n 2, 1) := by decide +kernel
theorem dX8_readAtStations_36 : decode cX8_readAtStations 36 = .ok (.if_icmp .ge 46, 3) := by decide +kernel
theorem dX8_readAtStations_39 : decode cX8_readAtStations 39 = .ok (.iload_n 1, 1) := by decide +kernel
theorem dX8_readAtStations_40 : decode cX8_readAtStations 40 = .ok (.ifCond .eq 42, 3) := by decide +kernel
theorem dX8_readAtStations_43 : decode cX8_readAtStations 43 = .ok (.aload_n 0, 1) := by decide +kernel
theorem dX8_readAtStations_44 : decode cX8_readAtStations 44 = .ok (.getfield 32, 3) := by decide +kernel
theorem dX8_readAtStations_47 : decode cX8_readAtStations 47 = .ok (.iload_n 3, 1) := by decide +kernel
theorem dX8_readAtStations_48 : decode cX8_readAtStations 48 = .ok (.invokevirtual 358, 3) := by decide +kernel
theorem dX8_readAtStations_51 : decode cX8_readAtStations 51 = .ok (.istore 4, 2) := by decide +kernel
theorem dX8_readAtStations_53 : decode cX8_readAtStations 53 = .ok (.aload_n 0, 1) := by decide +kernel
theorem dX8_readAtStations_54 : decode cX8_readAtStations 54 = .ok (.getfield 25, 3) := by decide +kernel
theorem dX8_readAtStations_57 : decode cX8_readAtStations 57 = .ok (.aload_n 0, 1) := by decide +kernel
theorem dX8_readAtStations_58 : decode cX8_readAtStations 58 = .ok (.getfield 52, 3) := by decide +kernel
theorem dX8_readAtStations_61 : decode cX8_readAtStations 61 = .ok (.iload 4, 2) := by decide +kernel
theorem dX8_readAtStations_63 : decode cX8_readAtStations 63 = .ok (.aload_n 0, 1) := by decide +kernel
theorem dX8_readAtStations_64 : decode cX8_readAtStations 64 = .ok (.getfield 12, 3) := by decide +kernel
theorem dX8_readAtStations_67 : decode cX8_readAtStations 67 = .ok (.iload 4, 2) := by decide +kernel
theorem dX8_readAtStations_69 : decode cX8_readAtStations 69 = .ok (.invokevirtual 339, 3) := by decide +kernel
theorem dX8_readAtStations_72 : decode cX8_readAtStations 72 = .ok (.aconst_null, 1) := by decide +kernel
theorem dX8_readAtStations_73 : decode cX8_readAtStations 73 = .ok (.invokevirtual 345, 3) := by decide +kernel
theorem dX8_readAtStations_76 : decode cX8_readAtStations 76 = .ok (.iinc 3 1, 3) := by decide +kernel
theorem dX8_readAtStations_79 : decode cX8_readAtStations 79 = .ok (.goto (-45), 3) := by decide +kernel
theorem dX8_readAtStations_82 : decode cX8_readAtStations 82 = .ok (.aload_n 0, 1) := by decide +kernel
theorem dX8_readAtStations_83 : decode cX8_readAtStations 83 = .ok (.getfield 32, 3) := by decide +kernel
theorem dX8_readAtStations_86 : decode cX8_readAtStations 86 = .ok (.iload_n 2, 1) := by decide +kernel
theorem dX8_readAtStations_87 : decode cX8_readAtStations 87 = .ok (.invokevirtual 361, 3) := by decide +kernel
theorem dX8_readAtStations_90 : decode cX8_readAtStations 90 = .ok (.return_, 1) := by decide +kernel
theorem dX9_init_0 : decode cX9_init 0 = .ok (.aload_n 0, 1) := by decide +kernel
theorem dX9_init_1 : decode cX9_init 1 = .ok (.invokespecial 1, 3) := by decide +kernel
theorem dX9_init_4 : decode cX9_init 4 = .ok (.aload_n 0, 1) := by decide +kernel
theorem dX9_init_5 : decode cX9_init 5 = .ok (.bipush 60, 2) := by decide +kernel
theorem dX9_init_7 : decode cX9_init 7 = .ok (.newarray .boolean, 2) := by decide +kernel
theorem dX9_init_9 : decode cX9_init 9 = .ok (.putfield 7, 3) := by decide +kernel
theorem dX9_init_12 : decode cX9_init 12 = .ok (.aload_n 0, 1) := by decide +kernel
theorem dX9_init_13 : decode cX9_init 13 = .ok (.bipush 60, 2) := by decide +kernel
theorem dX9_init_15 : decode cX9_init 15 = .ok (.newarray .int, 2) := by decide +kernel
theorem dX9_init_17 : decode cX9_init 17 = .ok (.putfield 13, 3) := by decide +kernel
theorem dX9_init_20 : decode cX9_init 20 = .ok (.aload_n 0, 1) := by decide +kernel
theorem dX9_init_21 : decode cX9_init 21 = .ok (.bipush 6, 2) := by decide +kernel
theorem dX9_init_23 : decode cX9_init 23 = .ok (.newarray .int, 2) := by decide +kernel
theorem dX9_init_25 : decode cX9_init 25 = .ok (.putfield 17, 3) := by decide +kernel
theorem dX9_init_28 : decode cX9_init 28 = .ok (.aload_n 0, 1) := by decide +kernel
theorem dX9_init_29 : decode cX9_init 29 = .ok (.bipush 120, 2) := by decide +kernel
theorem dX9_init_31 : decode cX9_init 31 = .ok (.newarray .int, 2) := by decide +kernel
theorem dX9_init_33 : decode cX9_init 33 = .ok (.putfield 20, 3) := by decide +kernel
theorem dX9_init_36 : decode cX9_init 36 = .ok (.aload_n 0, 1) := by decide +kernel
theorem dX9_init_37 : decode cX9_init 37 = .ok (.bipush 120, 2) := by decide +kernel
theorem dX9_init_39 : decode cX9_init 39 = .ok (.newarray .int, 2) := by decide +kernel
theorem dX9_init_41 : decode cX9_init 41 = .ok (.putfield 23, 3) := by decide +kernel
theorem dX9_init_44 : decode cX9_init 44 = .ok (.aload_n 0, 1) := by decide +kernel
theorem dX9_init_45 : decode cX9_init 45 = .ok (.bipush 60, 2) := by decide +kernel
theorem dX9_init_47 : decode cX9_init 47 = .ok (.newarray .int, 2) := by decide +kernel
theorem dX9_init_49 : decode cX9_init 49 = .ok (.putfield 26, 3) := by decide +kernel
theorem dX9_init_52 : decode cX9_init 52 = .ok (.aload_n 0, 1) := by decide +kernel
theorem dX9_init_53 : decode cX9_init 53 = .ok (.bipush 60, 2) := by decide +kernel
theorem dX9_init_55 : decode cX9_init 55 = .ok (.newarray .int, 2) := by decide +kernel
theorem dX9_init_57 : decode cX9_init 57 = .ok (.putfield 29, 3) := by decide +kernel
theorem dX9_init_60 : decode cX9_init 60 = .ok (.aload_n 0, 1) := by decide +kernel
theorem dX9_init_61 : decode cX9_init 61 = .ok (.bipush 8, 2) := by decide +kernel
theorem dX9_init_63 : decode cX9_init 63 = .ok (.newarray .int, 2) := by decide +kernel
theorem dX9_init_65 : decode cX9_init 65 = .ok (.putfield 32, 3) := by decide +kernel
theorem dX9_init_68 : decode cX9_init 68 = .ok (.aload_n 0, 1) := by decide +kernel
theorem dX9_init_69 : decode cX9_init 69 = .ok (.bipush 8, 2) := by decide +kernel
theorem dX9_init_71 : decode cX9_init 71 = .ok (.newarray .int, 2) := by decide +kernel
theorem dX9_init_73 : decode cX9_init 73 = .ok (.putfield 35, 3) := by decide +kernel
theorem dX9_init_76 : decode cX9_init 76 = .ok (.aload_n 0, 1) := by decide +kernel
theorem dX9_init_77 : decode cX9_init 77 = .ok (.bipush 8, 2) := by decide +kernel
theorem dX9_init_79 : decode cX9_init 79 = .ok (.newarray .int, 2) := by decide +kernel
theorem dX9_init_81 : decode cX9_init 81 = .ok (.putfield 38, 3) := by decide +kernel
theorem dX9_init_84 : decode cX9_init 84 = .ok (.aload_n 0, 1) := by decide +kernel
theorem dX9_init_85 : decode cX9_init 85 = .ok (.bipush 8, 2) := by decide +kernel
theorem dX9_init_87 : decode cX9_init 87 = .ok (.newarray .int, 2) := by decide +kernel
theorem dX9_init_89 : decode cX9_init 89 = .ok (.putfield 41, 3) := by decide +kernel
theorem dX9_init_92 : decode cX9_init 92 = .ok (.aload_n 0, 1) := by decide +kernel
theorem dX9_init_93 : decode cX9_init 93 = .ok (.bipush 8, 2) := by decide +kernel
theorem dX9_init_95 : decode cX9_init 95 = .ok (.newarray .int, 2) := by decide +kernel
theorem dX9_init_97 : decode cX9_init 97 = .ok (.putfield 44, 3) := by decide +kernel
theorem dX9_init_100 : decode cX9_init 100 = .ok (.aload_n 0, 1) := by decide +kernel
theorem dX9_init_101 : decode cX9_init 101 = .ok (.bipush 8, 2) := by decide +kernel
theorem dX9_init_103 : decode cX9_init 103 = .ok (.newarray .int, 2) := by decide +kernel
theorem dX9_init_105 : decode cX9_init 105 = .ok (.putfield 47, 3) := by decide +kernel
theorem dX9_init_108 : decode cX9_init 108 = .ok (.aload_n 0, 1) := by decide +kernel
theorem dX9_init_109 : decode cX9_init 109 = .ok (.bipush 31, 2) := by decide +kernel
theorem dX9_init_111 : decode cX9_init 111 = .ok (.newarray .int, 2) := by decide +kernel
theorem dX9_init_113 : decode cX9_init 113 = .ok (.putfield 50, 3) := by decide +kernel
theorem dX9_init_116 : decode cX9_init 116 = .ok (.aload_n 0, 1) := by decide +kernel
theorem dX9_init_117 : decode cX9_init 117 = .ok (.bipush 31, 2) := by decide +kernel
theorem dX9_init_119 : decode cX9_init 119 = .ok (.newarray .int, 2) := by decide +kernel
theorem dX9_init_121 : decode cX9_init 121 = .ok (.putfield 53, 3) := by decide +kernel
theorem dX9_init_124 : decode cX9_init 124 = .ok (.aload_n 0, 1) := by decide +kernel
theorem dX9_init_125 : decode cX9_init 125 = .ok (.bipush 20, 2) := by decide +kernel
theorem dX9_init_127 : decode cX9_init 127 = .ok (.newarray .int, 2) := by decide +kernel
theorem dX9_init_129 : decode cX9_init 129 = .ok (.putfield 56, 3) := by decide +kernel
theorem dX9_init_132 : decode cX9_init 132 = .ok (.aload_n 0, 1) := by decide +kernel
theorem dX9_init_133 : decode cX9_init 133 = .ok (.bipush 20, 2) := by decide +kernel
theorem dX9_init_135 : decode cX9_init 135 = .ok (.newarray .int, 2) := by decide +kernel
theorem dX9_init_137 : decode cX9_init 137 = .ok (.putfield 59, 3) := by decide +kernel
theorem dX9_init_140 : decode cX9_init 140 = .ok (.aload_n 0, 1) := by decide +kernel
theorem dX9_init_141 : decode cX9_init 141 = .ok (.bipush 100, 2) := by decide +kernel
theorem dX9_init_143 : decode cX9_init 143 = .ok (.newarray .int, 2) := by decide +kernel
theorem dX9_init_145 : decode cX9_init 145 = .ok (.putfield 62, 3) := by decide +kernel
theorem dX9_init_148 : decode cX9_init 148 = .ok (.aload_n 0, 1) := by decide +kernel
theorem dX9_init_149 : decode cX9_init 149 = .ok (.bipush 100, 2) := by decide +kernel
theorem dX9_init_151 : decode cX9_init 151 = .ok (.newarray .int, 2) := by decide +kernel
theorem dX9_init_153 : decode cX9_init 153 = .ok (.putfield 65, 3) := by decide +kernel
theorem dX9_init_156 : decode cX9_init 156 = .ok (.aload_n 0, 1) := by decide +kernel
theorem dX9_init_157 : decode cX9_init 157 = .ok (.bipush 100, 2) := by decide +kernel
theorem dX9_init_159 : decode cX9_init 159 = .ok (.newarray .int, 2) := by decide +kernel
theorem dX9_init_161 : decode cX9_init 161 = .ok (.putfield 68, 3) := by decide +kernel
theorem dX9_init_164 : decode cX9_init 164 = .ok (.aload_n 0, 1) := by decide +kernel
theorem dX9_init_165 : decode cX9_init 165 = .ok (.bipush 100, 2) := by decide +kernel
theorem dX9_init_167 : decode cX9_init 167 = .ok (.newarray .int, 2) := by decide +kernel
theorem dX9_init_169 : decode cX9_init 169 = .ok (.putfield 71, 3) := by decide +kernel
theorem dX9_init_172 : decode cX9_init 172 = .ok (.aload_n 0, 1) := by decide +kernel
theorem dX9_init_173 : decode cX9_init 173 = .ok (.bipush 100, 2) := by decide +kernel
theorem dX9_init_175 : decode cX9_init 175 = .ok (.newarray .int, 2) := by decide +kernel
theorem dX9_init_177 : decode cX9_init 177 = .ok (.putfield 74, 3) := by decide +kernel
theorem dX9_init_180 : decode cX9_init 180 = .ok (.aload_n 0, 1) := by decide +kernel
theorem dX9_init_181 : decode cX9_init 181 = .ok (.bipush 100, 2) := by decide +kernel
theorem dX9_init_183 : decode cX9_init 183 = .ok (.putfield 77, 3) := by decide +kernel
theorem dX9_init_186 : decode cX9_init 186 = .ok (.aload_n 0, 1) := by decide +kernel
theorem dX9_init_187 : decode cX9_init 187 = .ok (.iconst 4, 1) := by decide +kernel
theorem dX9_init_188 : decode cX9_init 188 = .ok (.newarray .int, 2) := by decide +kernel
theorem dX9_init_190 : decode cX9_init 190 = .ok (.putfield 81, 3) := by decide +kernel
theorem dX9_init_193 : decode cX9_init 193 = .ok (.aload_n 0, 1) := by decide +kernel
theorem dX9_init_194 : decode cX9_init 194 = .ok (.sipush 300, 3) := by decide +kernel
theorem dX9_init_197 : decode cX9_init 197 = .ok (.newarray .int, 2) := by decide +kernel
theorem dX9_init_199 : decode cX9_init 199 = .ok (.putfield 84, 3) := by decide +kernel
theorem dX9_init_202 : decode cX9_init 202 = .ok (.aload_n 0, 1) := by decide +kernel
theorem dX9_init_203 : decode cX9_init 203 = .ok (.bipush 6, 2) := by decide +kernel
theorem dX9_init_205 : decode cX9_init 205 = .ok (.newarray .int, 2) := by decide +kernel
theorem dX9_init_207 : decode cX9_init 207 = .ok (.putfield 87, 3) := by decide +kernel
theorem dX9_init_210 : decode cX9_init 210 = .ok (.aload_n 0, 1) := by decide +kernel
theorem dX9_init_211 : decode cX9_init 211 = .ok (.bipush 6, 2) := by decide +kernel
theorem dX9_init_213 : decode cX9_init 213 = .ok (.newarray .int, 2) := by decide +kernel
theorem dX9_init_215 : decode cX9_init 215 = .ok (.putfield 90, 3) := by decide +kernel
theorem dX9_init_218 : decode cX9_init 218 = .ok (.aload_n 0, 1) := by decide +kernel
theorem dX9_init_219 : decode cX9_init 219 = .ok (.bipush 6, 2) := by decide +kernel
theorem dX9_init_221 : decode cX9_init 221 = .ok (.newarray .int, 2) := by decide +kernel
theorem dX9_init_223 : decode cX9_init 223 = .ok (.putfield 93, 3) := by decide +kernel
theorem dX9_init_226 : decode cX9_init 226 = .ok (.iconst 0, 1) := by decide +kernel
theorem dX9_init_227 : decode cX9_init 227 = .ok (.istore_n 1, 1) := by decide +kernel
theorem dX9_init_228 : decode cX9_init 228 = .ok (.iload_n 1, 1) := by decide +kernel
theorem dX9_init_229 : decode cX9_init 229 = .ok (.bipush 60, 2) := by decide +kernel
theorem dX9_init_231 : decode cX9_init 231 = .ok (.if_icmp .ge 51, 3) := by decide +kernel
theorem dX9_init_234 : decode cX9_init 234 = .ok (.aload_n 0, 1) := by decide +kernel
theorem dX9_init_235 : decode cX9_init 235 = .ok (.getfield 20, 3) := by decide +kernel
theorem dX9_init_238 : decode cX9_init 238 = .ok (.iload_n 1, 1) := by decide +kernel
theorem dX9_init_239 : decode cX9_init 239 = .ok (.sipush 1000, 3) := by decide +kernel
theorem dX9_init_242 : decode cX9_init 242 = .ok (.iastore, 1) := by decide +kernel
theorem dX9_init_243 : decode cX9_init 243 = .ok (.aload_n 0, 1) := by decide +kernel
theorem dX9_init_244 : decode cX9_init 244 = .ok (.getfield 20, 3) := by decide +kernel
theorem dX9_init_247 : decode cX9_init 247 = .ok (.bipush 60, 2) := by decide +kernel
theorem dX9_init_249 : decode cX9_init 249 = .ok (.iload_n 1, 1) := by decide +kernel
theorem dX9_init_250 : decode cX9_init 250 = .ok (.iadd, 1) := by decide +kernel
theorem dX9_init_251 : decode cX9_init 251 = .ok (.sipush 400, 3) := by decide +kernel
theorem dX9_init_254 : decode cX9_init 254 = .ok (.iastore, 1) := by decide +kernel
theorem dX9_init_255 : decode cX9_init 255 = .ok (.aload_n 0, 1) := by decide +kernel
theorem dX9_init_256 : decode cX9_init 256 = .ok (.getfield 23, 3) := by decide +kernel
theorem dX9_init_259 : decode cX9_init 259 = .ok (.iload_n 1, 1) := by decide +kernel
theorem dX9_init_260 : decode cX9_init 260 = .ok (.sipush 350, 3) := by decide +kernel
theorem dX9_init_263 : decode cX9_init 263 = .ok (.iastore, 1) := by decide +kernel
theorem dX9_init_264 : decode cX9_init 264 = .ok (.aload_n 0, 1) := by decide +kernel
theorem dX9_init_265 : decode cX9_init 265 = .ok (.getfield 23, 3) := by decide +kernel
theorem dX9_init_268 : decode cX9_init 268 = .ok (.bipush 60, 2) := by decide +kernel
theorem dX9_init_270 : decode cX9_init 270 = .ok (.iload_n 1, 1) := by decide +kernel
theorem dX9_init_271 : decode cX9_init 271 = .ok (.iadd, 1) := by decide +kernel
theorem dX9_init_272 : decode cX9_init 272 = .ok (.sipush 360, 3) := by decide +kernel
theorem dX9_init_275 : decode cX9_init 275 = .ok (.iastore, 1) := by decide +kernel
theorem dX9_init_276 : decode cX9_init 276 = .ok (.iinc 1 1, 3) := by decide +kernel
theorem dX9_init_279 : decode cX9_init 279 = .ok (.goto (-51), 3) := by decide +kernel
theorem dX9_init_282 : decode cX9_init 282 = .ok (.return_, 1) := by decide +kernel
theorem dX9_thrown_0 : decode cX9_thrown 0 = .ok (.aload_n 0, 1) := by decide +kernel
theorem dX9_thrown_1 : decode cX9_thrown 1 = .ok (.getfield 96, 3) := by decide +kernel
theorem dX9_thrown_4 : decode cX9_thrown 4 = .ok (.ireturn, 1) := by decide +kernel
theorem dX9_in_0 : decode cX9_in 0 = .ok (.iload_n 0, 1) := by decide +kernel
theorem dX9_in_1 : decode cX9_in 1 = .ok (.iload_n 1, 1) := by decide +kernel
theorem dX9_in_2 : decode cX9_in 2 = .ok (.if_icmp .lt 12, 3) := by decide +kernel
theorem dX9_in_5 : decode cX9_in 5 = .ok (.iload_n 0, 1) := by decide +kernel
theorem dX9_in_6 : decode cX9_in 6 = .ok (.iload_n 2, 1) := by decide +kernel
theorem dX9_in_7 : decode cX9_in 7 = .ok (.if_icmp .gt 7, 3) := by decide +kernel
theorem dX9_in_10 : decode cX9_in 10 = .ok (.iconst 1, 1) := by decide +kernel
theorem dX9_in_11 : decode cX9_in 11 = .ok (.goto 4, 3) := by decide +kernel
theorem dX9_in_14 : decode cX9_in 14 = .ok (.iconst 0, 1) := by decide +kernel
theorem dX9_in_15 : decode cX9_in 15 = .ok (.ireturn, 1) := by decide +kernel
theorem dX9_isCell_0 : decode cX9_isCell 0 = .ok (.iload_n 0, 1) := by decide +kernel
theorem dX9_isCell_1 : decode cX9_isCell 1 = .ok (.iconst 0, 1) := by decide +kernel
theorem dX9_isCell_2 : decode cX9_isCell 2 = .ok (.bipush 59, 2) := by decide +kernel
theorem dX9_isCell_4 : decode cX9_isCell 4 = .ok (.invokestatic 99, 3) := by decide +kernel
theorem dX9_isCell_7 : decode cX9_isCell 7 = .ok (.ireturn, 1) := by decide +kernel
theorem dX9_isFloat_0 : decode cX9_isFloat 0 = .ok (.iload_n 1, 1) := by decide +kernel
theorem dX9_isFloat_1 : decode cX9_isFloat 1 = .ok (.iconst 0, 1) := by decide +kernel
theorem dX9_isFloat_2 : decode cX9_isFloat 2 = .ok (.aload_n 0, 1) := by decide +kernel
theorem dX9_isFloat_3 : decode cX9_isFloat 3 = .ok (.getfield 103, 3) := by decide +kernel
theorem dX9_isFloat_6 : decode cX9_isFloat 6 = .ok (.iconst 1, 1) := by decide +kernel
theorem dX9_isFloat_7 : decode cX9_isFloat 7 = .ok (.isub, 1) := by decide +kernel
theorem dX9_isFloat_8 : decode cX9_isFloat 8 = .ok (.invokestatic 99, 3) := by decide +kernel
theorem dX9_isFloat_11 : decode cX9_isFloat 11 = .ok (.ireturn, 1) := by decide +kernel
theorem dX9_isReading_0 : decode cX9_isReading 0 = .ok (.iload_n 1, 1) := by decide +kernel
theorem dX9_isReading_1 : decode cX9_isReading 1 = .ok (.iconst 0, 1) := by decide +kernel
theorem dX9_isReading_2 : decode cX9_isReading 2 = .ok (.aload_n 0, 1) := by decide +kernel
theorem dX9_isReading_3 : decode cX9_isReading 3 = .ok (.getfield 106, 3) := by decide +kernel
theorem dX9_isReading_6 : decode cX9_isReading 6 = .ok (.iconst 1, 1) := by decide +kernel
theorem dX9_isReading_7 : decode cX9_isReading 7 = .ok (.isub, 1) := by decide +kernel
theorem dX9_isReading_8 : decode cX9_isReading 8 = .ok (.invokestatic 99, 3) := by decide +kernel
theorem dX9_isReading_11 : decode cX9_isReading 11 = .ok (.ireturn, 1) := by decide +kernel
theorem dX9_isSearch_0 : decode cX9_isSearch 0 = .ok (.iload_n 1, 1) := by decide +kernel
theorem dX9_isSearch_1 : decode cX9_isSearch 1 = .ok (.iconst 0, 1) := by decide +kernel
theorem dX9_isSearch_2 : decode cX9_isSearch 2 = .ok (.aload_n 0, 1) := by decide +kernel
theorem dX9_isSearch_3 : decode cX9_isSearch 3 = .ok (.getfield 109, 3) := by decide +kernel
theorem dX9_isSearch_6 : decode cX9_isSearch 6 = .ok (.iconst 1, 1) := by decide +kernel
theorem dX9_isSearch_7 : decode cX9_isSearch 7 = .ok (.isub, 1) := by decide +kernel
theorem dX9_isSearch_8 : decode cX9_isSearch 8 = .ok (.invokestatic 99, 3) := by decide +kernel
theorem dX9_isSearch_11 : decode cX9_isSearch 11 = .ok (.ireturn, 1) := by decide +kernel
theorem dX9_size_0 : decode cX9_size 0 = .ok (.iload_n 0, 1) := by decide +kernel
theorem dX9_size_1 : decode cX9_size 1 = .ok (.ifCond .ge 8, 3) := by decide +kernel
theorem dX9_size_4 : decode cX9_size 4 = .ok (.iload_n 0, 1) := by decide +kernel
theorem dX9_size_5 : decode cX9_size 5 = .ok (.ineg, 1) := by decide +kernel
theorem dX9_size_6 : decode cX9_size 6 = .ok (.goto 4, 3) := by decide +kernel
theorem dX9_size_9 : decode cX9_size 9 = .ok (.iload_n 0, 1) := by decide +kernel
theorem dX9_size_10 : decode cX9_size 10 = .ok (.ireturn, 1) := by decide +kernel
theorem dX9_beside_0 : decode cX9_beside 0 = .ok (.iload_n 1, 1) := by decide +kernel
theorem dX9_beside_1 : decode cX9_beside 1 = .ok (.bipush 10, 2) := by decide +kernel
theorem dX9_beside_3 : decode cX9_beside 3 = .ok (.irem, 1) := by decide +kernel
theorem dX9_beside_4 : decode cX9_beside 4 = .ok (.iload_n 2, 1) := by decide +kernel
theorem dX9_beside_5 : decode cX9_beside 5 = .ok (.iconst 1, 1) := by decide +kernel
theorem dX9_beside_6 : decode cX9_beside 6 = .ok (.if_icmp .ne 7, 3) := by decide +kernel
theorem dX9_beside_9 : decode cX9_beside 9 = .ok (.iconst 1, 1) := by decide +kernel
theorem dX9_beside_10 : decode cX9_beside 10 = .ok (.goto 13, 3) := by decide +kernel
theorem dX9_beside_13 : decode cX9_beside 13 = .ok (.iload_n 2, 1) := by decide +kernel
theorem dX9_beside_14 : decode cX9_beside 14 = .ok (.iconst 2, 1) := by decide +kernel
theorem dX9_beside_15 : decode cX9_beside 15 = .ok (.if_icmp .ne 7, 3) := by decide +kernel
theorem dX9_beside_18 : decode cX9_beside 18 = .ok (.iconst (-1), 1) := by decide +kernel
theorem dX9_beside_19 : decode cX9_beside 19 = .ok (.goto 4, 3) := by decide +kernel
theorem dX9_beside_22 : decode cX9_beside 22 = .ok (.iconst 0, 1) := by decide +kernel
theorem dX9_beside_23 : decode cX9_beside 23 = .ok (.iadd, 1) := by decide +kernel
theorem dX9_beside_24 : decode cX9_beside 24 = .ok (.istore_n 3, 1) := by decide +kernel
theorem dX9_beside_25 : decode cX9_beside 25 = .ok (.iload_n 1, 1) := by decide +kernel
theorem dX9_beside_26 : decode cX9_beside 26 = .ok (.bipush 10, 2) := by decide +kernel
theorem dX9_beside_28 : decode cX9_beside 28 = .ok (.idiv, 1) := by decide +kernel
theorem dX9_beside_29 : decode cX9_beside 29 = .ok (.iload_n 2, 1) := by decide +kernel
theorem dX9_beside_30 : decode cX9_beside 30 = .ok (.iconst 3, 1) := by decide +kernel
theorem dX9_beside_31 : decode cX9_beside 31 = .ok (.if_icmp .ne 7, 3) := by decide +kernel
theorem dX9_beside_34 : decode cX9_beside 34 = .ok (.iconst 1, 1) := by decide +kernel
theorem dX9_beside_35 : decode cX9_beside 35 = .ok (.goto 13, 3) := by decide +kernel
theorem dX9_beside_38 : decode cX9_beside 38 = .ok (.iload_n 2, 1) := by decide +kernel
theorem dX9_beside_39 : decode cX9_beside 39 = .ok (.iconst 4, 1) := by decide +kernel
theorem dX9_beside_40 : decode cX9_beside 40 = .ok (.if_icmp .ne 7, 3) := by decide +kernel
theorem dX9_beside_43 : decode cX9_beside 43 = .ok (.iconst (-1), 1) := by decide +kernel
theorem dX9_beside_44 : decode cX9_beside 44 = .ok (.goto 4, 3) := by decide +kernel
theorem dX9_beside_47 : decode cX9_beside 47 = .ok (.iconst 0, 1) := by decide +kernel
theorem dX9_beside_48 : decode cX9_beside 48 = .ok (.iadd, 1) := by decide +kernel
theorem dX9_beside_49 : decode cX9_beside 49 = .ok (.istore 4, 2) := by decide +kernel
theorem dX9_beside_51 : decode cX9_beside 51 = .ok (.iload_n 3, 1) := by decide +kernel
theorem dX9_beside_52 : decode cX9_beside 52 = .ok (.iconst 0, 1) := by decide +kernel
theorem dX9_beside_53 : decode cX9_beside 53 = .ok (.bipush 9, 2) := by decide +kernel
theorem dX9_beside_55 : decode cX9_beside 55 = .ok (.invokestatic 99, 3) := by decide +kernel
theorem dX9_beside_58 : decode cX9_beside 58 = .ok (.ifCond .eq 28, 3) := by decide +kernel
theorem dX9_beside_61 : decode cX9_beside 61 = .ok (.iload 4, 2) := by decide +kernel
theorem dX9_beside_63 : decode cX9_beside 63 = .ok (.iconst 0, 1) := by decide +kernel
theorem dX9_beside_64 : decode cX9_beside 64 = .ok (.iconst 5, 1) := by decide +kernel
theorem dX9_beside_65 : decode cX9_beside 65 = .ok (.invokestatic 99, 3) := by decide +kernel
theorem dX9_beside_68 : decode cX9_beside 68 = .ok (.ifCond .eq 18, 3) := by decide +kernel
theorem dX9_beside_71 : decode cX9_beside 71 = .ok (.aload_n 0, 1) := by decide +kernel
theorem dX9_beside_72 : decode cX9_beside 72 = .ok (.getfield 7, 3) := by decide +kernel
theorem dX9_beside_75 : decode cX9_beside 75 = .ok (.bipush 10, 2) := by decide +kernel
theorem dX9_beside_77 : decode cX9_beside 77 = .ok (.iload 4, 2) := by decide +kernel
theorem dX9_beside_79 : decode cX9_beside 79 = .ok (.imul, 1) := by decide +kernel
theorem dX9_beside_80 : decode cX9_beside 80 = .ok (.iload_n 3, 1) := by decide +kernel
theorem dX9_beside_81 : decode cX9_beside 81 = .ok (.iadd, 1) := by decide +kernel
theorem dX9_beside_82 : decode cX9_beside 82 = .ok (.baload, 1) := by decide +kernel
theorem dX9_beside_83 : decode cX9_beside 83 = .ok (.ifCond .eq 7, 3) := by decide +kernel
theorem dX9_beside_86 : decode cX9_beside 86 = .ok (.iconst (-1), 1) := by decide +kernel
theorem dX9_beside_87 : decode cX9_beside 87 = .ok (.goto 10, 3) := by decide +kernel
theorem dX9_beside_90 : decode cX9_beside 90 = .ok (.bipush 10, 2) := by decide +kernel
theorem dX9_beside_92 : decode cX9_beside 92 = .ok (.iload 4, 2) := by decide +kernel
theorem dX9_beside_94 : decode cX9_beside 94 = .ok (.imul, 1) := by decide +kernel
theorem dX9_beside_95 : decode cX9_beside 95 = .ok (.iload_n 3, 1) := by decide +kernel
theorem dX9_beside_96 : decode cX9_beside 96 = .ok (.iadd, 1) := by decide +kernel
theorem dX9_beside_97 : decode cX9_beside 97 = .ok (.ireturn, 1) := by decide +kernel
theorem dX9_leads_0 : decode cX9_leads 0 = .ok (.aload_n 0, 1) := by decide +kernel
theorem dX9_leads_1 : decode cX9_leads 1 = .ok (.getfield 13, 3) := by decide +kernel
theorem dX9_leads_4 : decode cX9_leads 4 = .ok (.iload_n 1, 1) := by decide +kernel
theorem dX9_leads_5 : decode cX9_leads 5 = .ok (.iaload, 1) := by decide +kernel
theorem dX9_leads_6 : decode cX9_leads 6 = .ok (.ifCond .ne 7, 3) := by decide +kernel
theorem dX9_leads_9 : decode cX9_leads 9 = .ok (.iconst (-1), 1) := by decide +kernel
theorem dX9_leads_10 : decode cX9_leads 10 = .ok (.goto 14, 3) := by decide +kernel
theorem dX9_leads_13 : decode cX9_leads 13 = .ok (.aload_n 0, 1) := by decide +kernel
theorem dX9_leads_14 : decode cX9_leads 14 = .ok (.iload_n 1, 1) := by decide +kernel
theorem dX9_leads_15 : decode cX9_leads 15 = .ok (.aload_n 0, 1) := by decide +kernel
theorem dX9_leads_16 : decode cX9_leads 16 = .ok (.getfield 13, 3) := by decide +kernel
theorem dX9_leads_19 : decode cX9_leads 19 = .ok (.iload_n 1, 1) := by decide +kernel
theorem dX9_leads_20 : decode cX9_leads 20 = .ok (.iaload, 1) := by decide +kernel
theorem dX9_leads_21 : decode cX9_leads 21 = .ok (.invokevirtual 112, 3) := by decide +kernel
theorem dX9_leads_24 : decode cX9_leads 24 = .ok (.ireturn, 1) := by decide +kernel
theorem dX9_land_0 : decode cX9_land 0 = .ok (.iload_n 1, 1) := by decide +kernel
theorem dX9_land_1 : decode cX9_land 1 = .ok (.invokestatic 116, 3) := by decide +kernel
theorem dX9_land_4 : decode cX9_land 4 = .ok (.ifCond .ne 10, 3) := by decide +kernel
theorem dX9_land_7 : decode cX9_land 7 = .ok (.aload_n 0, 1) := by decide +kernel
theorem dX9_land_8 : decode cX9_land 8 = .ok (.iconst 1, 1) := by decide +kernel
theorem dX9_land_9 : decode cX9_land 9 = .ok (.putfield 96, 3) := by decide +kernel
theorem dX9_land_12 : decode cX9_land 12 = .ok (.iconst 0, 1) := by decide +kernel
theorem dX9_land_13 : decode cX9_land 13 = .ok (.ireturn, 1) := by decide +kernel
theorem dX9_land_14 : decode cX9_land 14 = .ok (.aload_n 0, 1) := by decide +kernel
theorem dX9_land_15 : decode cX9_land 15 = .ok (.getfield 7, 3) := by decide +kernel
theorem dX9_land_18 : decode cX9_land 18 = .ok (.iload_n 1, 1) := by decide +kernel
theorem dX9_land_19 : decode cX9_land 19 = .ok (.baload, 1) := by decide +kernel
theorem dX9_land_20 : decode cX9_land 20 = .ok (.ifCond .ne 14, 3) := by decide +kernel
theorem dX9_land_23 : decode cX9_land 23 = .ok (.aload_n 0, 1) := by decide +kernel
theorem dX9_land_24 : decode cX9_land 24 = .ok (.getfield 120, 3) := by decide +kernel
theorem dX9_land_27 : decode cX9_land 27 = .ok (.ifCond .ne 7, 3) := by decide +kernel
theorem dX9_land_30 : decode cX9_land 30 = .ok (.iconst 1, 1) := by decide +kernel
theorem dX9_land_31 : decode cX9_land 31 = .ok (.goto 4, 3) := by decide +kernel
theorem dX9_land_34 : decode cX9_land 34 = .ok (.iconst 0, 1) := by decide +kernel
theorem dX9_land_35 : decode cX9_land 35 = .ok (.istore_n 2, 1) := by decide +kernel
theorem dX9_land_36 : decode cX9_land 36 = .ok (.iconst 0, 1) := by decide +kernel
theorem dX9_land_37 : decode cX9_land 37 = .ok (.istore_n 3, 1) := by decide +kernel
theorem dX9_land_38 : decode cX9_land 38 = .ok (.iload_n 3, 1) := by decide +kernel
theorem dX9_land_39 : decode cX9_land 39 = .ok (.aload_n 0, 1) := by decide +kernel
theorem dX9_land_40 : decode cX9_land 40 = .ok (.getfield 103, 3) := by decide +kernel
theorem dX9_land_43 : decode cX9_land 43 = .ok (.if_icmp .ge 29, 3) := by decide +kernel
theorem dX9_land_46 : decode cX9_land 46 = .ok (.iload_n 2, 1) := by decide +kernel
theorem dX9_land_47 : decode cX9_land 47 = .ok (.ifCond .eq 17, 3) := by decide +kernel
theorem dX9_land_50 : decode cX9_land 50 = .ok (.aload_n 0, 1) := by decide +kernel
theorem dX9_land_51 : decode cX9_land 51 = .ok (.getfield 32, 3) := by decide +kernel
theorem dX9_land_54 : decode cX9_land 54 = .ok (.iload_n 3, 1) := by decide +kernel
theorem dX9_land_55 : decode cX9_land 55 = .ok (.iaload, 1) := by decide +kernel
theorem dX9_land_56 : decode cX9_land 56 = .ok (.iload_n 1, 1) := by decide +kernel
theorem dX9_land_57 : decode cX9_land 57 = .ok (.if_icmp .eq 7, 3) := by decide +kernel
theorem dX9_land_60 : decode cX9_land 60 = .ok (.iconst 1, 1) := by decide +kernel
theorem dX9_land_61 : decode cX9_land 61 = .ok (.goto 4, 3) := by decide +kernel
theorem dX9_land_64 : decode cX9_land 64 = .ok (.iconst 0, 1) := by decide +kernel
theorem dX9_land_65 : decode cX9_land 65 = .ok (.istore_n 2, 1) := by decide +kernel
theorem dX9_land_66 : decode cX9_land 66 = .ok (.iinc 3 1, 3) := by decide +kernel
theorem dX9_land_69 : decode cX9_land 69 = .ok (.goto (-31), 3) := by decide +kernel
theorem dX9_land_72 : decode cX9_land 72 = .ok (.iconst 0, 1) := by decide +kernel
theorem dX9_land_73 : decode cX9_land 73 = .ok (.istore_n 3, 1) := by decide +kernel
theorem dX9_land_74 : decode cX9_land 74 = .ok (.iload_n 3, 1) := by decide +kernel
theorem dX9_land_75 : decode cX9_land 75 = .ok (.aload_n 0, 1) := by decide +kernel
theorem dX9_land_76 : decode cX9_land 76 = .ok (.getfield 123, 3) := by decide +kernel
theorem dX9_land_79 : decode cX9_land 79 = .ok (.if_icmp .ge 29, 3) := by decide +kernel
theorem dX9_land_82 : decode cX9_land 82 = .ok (.iload_n 2, 1) := by decide +kernel
theorem dX9_land_83 : decode cX9_land 83 = .ok (.ifCond .eq 17, 3) := by decide +kernel
theorem dX9_land_86 : decode cX9_land 86 = .ok (.aload_n 0, 1) := by decide +kernel
theorem dX9_land_87 : decode cX9_land 87 = .ok (.getfield 53, 3) := by decide +kernel
theorem dX9_land_90 : decode cX9_land 90 = .ok (.iload_n 3, 1) := by decide +kernel
theorem dX9_land_91 : decode cX9_land 91 = .ok (.iaload, 1) := by decide +kernel
theorem dX9_land_92 : decode cX9_land 92 = .ok (.iload_n 1, 1) := by decide +kernel
theorem dX9_land_93 : decode cX9_land 93 = .ok (.if_icmp .eq 7, 3) := by decide +kernel
theorem dX9_land_96 : decode cX9_land 96 = .ok (.iconst 1, 1) := by decide +kernel
theorem dX9_land_97 : decode cX9_land 97 = .ok (.goto 4, 3) := by decide +kernel
theorem dX9_land_100 : decode cX9_land 100 = .ok (.iconst 0, 1) := by decide +kernel
theorem dX9_land_101 : decode cX9_land 101 = .ok (.istore_n 2, 1) := by decide +kernel
theorem dX9_land_102 : decode cX9_land 102 = .ok (.iinc 3 1, 3) := by decide +kernel
theorem dX9_land_105 : decode cX9_land 105 = .ok (.goto (-31), 3) := by decide +kernel
theorem dX9_land_108 : decode cX9_land 108 = .ok (.iconst 0, 1) := by decide +kernel
theorem dX9_land_109 : decode cX9_land 109 = .ok (.istore_n 3, 1) := by decide +kernel
theorem dX9_land_110 : decode cX9_land 110 = .ok (.iload_n 3, 1) := by decide +kernel
theorem dX9_land_111 : decode cX9_land 111 = .ok (.aload_n 0, 1) := by decide +kernel
theorem dX9_land_112 : decode cX9_land 112 = .ok (.getfield 109, 3) := by decide +kernel
theorem dX9_land_115 : decode cX9_land 115 = .ok (.if_icmp .ge 29, 3) := by decide +kernel
theorem dX9_land_118 : decode cX9_land 118 = .ok (.iload_n 2, 1) := by decide +kernel
theorem dX9_land_119 : decode cX9_land 119 = .ok (.ifCond .eq 17, 3) := by decide +kernel
theorem dX9_land_122 : decode cX9_land 122 = .ok (.aload_n 0, 1) := by decide +kernel
theorem dX9_land_123 : decode cX9_land 123 = .ok (.getfield 81, 3) := by decide +kernel
theorem dX9_land_126 : decode cX9_land 126 = .ok (.iload_n 3, 1) := by decide +kernel
theorem dX9_land_127 : decode cX9_land 127 = .ok (.iaload, 1) := by decide +kernel
theorem dX9_land_128 : decode cX9_land 128 = .ok (.iload_n 1, 1) := by decide +kernel
theorem dX9_land_129 : decode cX9_land 129 = .ok (.if_icmp .eq 7, 3) := by decide +kernel
theorem dX9_land_132 : decode cX9_land 132 = .ok (.iconst 1, 1) := by decide +kernel
theorem dX9_land_133 : decode cX9_land 133 = .ok (.goto 4, 3) := by decide +kernel
theorem dX9_land_136 : decode cX9_land 136 = .ok (.iconst 0, 1) := by decide +kernel
theorem dX9_land_137 : decode cX9_land 137 = .ok (.istore_n 2, 1) := by decide +kernel
theorem dX9_land_138 : decode cX9_land 138 = .ok (.iinc 3 1, 3) := by decide +kernel
theorem dX9_land_141 : decode cX9_land 141 = .ok (.goto (-31), 3) := by decide +kernel
theorem dX9_land_144 : decode cX9_land 144 = .ok (.aload_n 0, 1) := by decide +kernel
theorem dX9_land_145 : decode cX9_land 145 = .ok (.iload_n 2, 1) := by decide +kernel
theorem dX9_land_146 : decode cX9_land 146 = .ok (.ifCond .eq 7, 3) := by decide +kernel
theorem dX9_land_149 : decode cX9_land 149 = .ok (.iconst 0, 1) := by decide +kernel
theorem dX9_land_150 : decode cX9_land 150 = .ok (.goto 4, 3) := by decide +kernel
theorem dX9_land_153 : decode cX9_land 153 = .ok (.iconst 2, 1) := by decide +kernel
theorem dX9_land_154 : decode cX9_land 154 = .ok (.putfield 96, 3) := by decide +kernel
theorem dX9_land_157 : decode cX9_land 157 = .ok (.aload_n 0, 1) := by decide +kernel
theorem dX9_land_158 : decode cX9_land 158 = .ok (.getfield 96, 3) := by decide +kernel
theorem dX9_land_161 : decode cX9_land 161 = .ok (.ifCond .le 5, 3) := by decide +kernel
theorem dX9_land_164 : decode cX9_land 164 = .ok (.iconst 0, 1) := by decide +kernel
theorem dX9_land_165 : decode cX9_land 165 = .ok (.ireturn, 1) := by decide +kernel
theorem dX9_land_166 : decode cX9_land 166 = .ok (.aload_n 0, 1) := by decide +kernel
theorem dX9_land_167 : decode cX9_land 167 = .ok (.getfield 7, 3) := by decide +kernel
theorem dX9_land_170 : decode cX9_land 170 = .ok (.iload_n 1, 1) := by decide +kernel
theorem dX9_land_171 : decode cX9_land 171 = .ok (.iconst 1, 1) := by decide +kernel
theorem dX9_land_172 : decode cX9_land 172 = .ok (.bastore, 1) := by decide +kernel
theorem dX9_land_173 : decode cX9_land 173 = .ok (.aload_n 0, 1) := by decide +kernel
theorem dX9_land_174 : decode cX9_land 174 = .ok (.getfield 20, 3) := by decide +kernel
theorem dX9_land_177 : decode cX9_land 177 = .ok (.iload_n 1, 1) := by decide +kernel
theorem dX9_land_178 : decode cX9_land 178 = .ok (.iconst 0, 1) := by decide +kernel
theorem dX9_land_179 : decode cX9_land 179 = .ok (.iastore, 1) := by decide +kernel
theorem dX9_land_180 : decode cX9_land 180 = .ok (.aload_n 0, 1) := by decide +kernel
theorem dX9_land_181 : decode cX9_land 181 = .ok (.getfield 20, 3) := by decide +kernel
theorem dX9_land_184 : decode cX9_land 184 = .ok (.bipush 60, 2) := by decide +kernel
theorem dX9_land_186 : decode cX9_land 186 = .ok (.iload_n 1, 1) := by decide +kernel
theorem dX9_land_187 : decode cX9_land 187 = .ok (.iadd, 1) := by decide +kernel
theorem dX9_land_188 : decode cX9_land 188 = .ok (.iconst 0, 1) := by decide +kernel
theorem dX9_land_189 : decode cX9_land 189 = .ok (.iastore, 1) := by decide +kernel
theorem dX9_land_190 : decode cX9_land 190 = .ok (.aload_n 0, 1) := by decide +kernel
theorem dX9_land_191 : decode cX9_land 191 = .ok (.getfield 23, 3) := by decide +kernel
theorem dX9_land_194 : decode cX9_land 194 = .ok (.iload_n 1, 1) := by decide +kernel
theorem dX9_land_195 : decode cX9_land 195 = .ok (.iconst 0, 1) := by decide +kernel
theorem dX9_land_196 : decode cX9_land 196 = .ok (.iastore, 1) := by decide +kernel
theorem dX9_land_197 : decode cX9_land 197 = .ok (.aload_n 0, 1) := by decide +kernel
theorem dX9_land_198 : decode cX9_land 198 = .ok (.getfield 23, 3) := by decide +kernel
theorem dX9_land_201 : decode cX9_land 201 = .ok (.bipush 60, 2) := by decide +kernel
theorem dX9_land_203 : decode cX9_land 203 = .ok (.iload_n 1, 1) := by decide +kernel
theorem dX9_land_204 : decode cX9_land 204 = .ok (.iadd, 1) := by decide +kernel
theorem dX9_land_205 : decode cX9_land 205 = .ok (.iconst 0, 1) := by decide +kernel
theorem dX9_land_206 : decode cX9_land 206 = .ok (.iastore, 1) := by decide +kernel
theorem dX9_land_207 : decode cX9_land 207 = .ok (.iconst 0, 1) := by decide +kernel
theorem dX9_land_208 : decode cX9_land 208 = .ok (.istore_n 3, 1) := by decide +kernel
theorem dX9_land_209 : decode cX9_land 209 = .ok (.iconst 0, 1) := by decide +kernel
theorem dX9_land_210 : decode cX9_land 210 = .ok (.istore 4, 2) := by decide +kernel
theorem dX9_land_212 : decode cX9_land 212 = .ok (.iload 4, 2) := by decide +kernel
theorem dX9_land_214 : decode cX9_land 214 = .ok (.bipush 60, 2) := by decide +kernel
theorem dX9_land_216 : decode cX9_land 216 = .ok (.if_icmp .ge 27, 3) := by decide +kernel
theorem dX9_land_219 : decode cX9_land 219 = .ok (.iload_n 3, 1) := by decide +kernel
theorem dX9_land_220 : decode cX9_land 220 = .ok (.aload_n 0, 1) := by decide +kernel
theorem dX9_land_221 : decode cX9_land 221 = .ok (.getfield 7, 3) := by decide +kernel
theorem dX9_land_224 : decode cX9_land 224 = .ok (.iload 4, 2) := by decide +kernel
theorem dX9_land_226 : decode cX9_land 226 = .ok (.baload, 1) := by decide +kernel
theorem dX9_land_227 : decode cX9_land 227 = .ok (.ifCond .eq 7, 3) := by decide +kernel
theorem dX9_land_230 : decode cX9_land 230 = .ok (.iconst 1, 1) := by decide +kernel
theorem dX9_land_231 : decode cX9_land 231 = .ok (.goto 4, 3) := by decide +kernel
theorem dX9_land_234 : decode cX9_land 234 = .ok (.iconst 0, 1) := by decide +kernel
theorem dX9_land_235 : decode cX9_land 235 = .ok (.iadd, 1) := by decide +kernel
theorem dX9_land_236 : decode cX9_land 236 = .ok (.istore_n 3, 1) := by decide +kernel
theorem dX9_land_237 : decode cX9_land 237 = .ok (.iinc 4 1, 3) := by decide +kernel
theorem dX9_land_240 : decode cX9_land 240 = .ok (.goto (-28), 3) := by decide +kernel
theorem dX9_land_243 : decode cX9_land 243 = .ok (.iload_n 3, 1) := by decide +kernel
theorem dX9_land_244 : decode cX9_land 244 = .ok (.ireturn, 1) := by decide +kernel
theorem dX9_current_0 : decode cX9_current 0 = .ok (.aload_n 0, 1) := by decide +kernel
theorem dX9_current_1 : decode cX9_current 1 = .ok (.iload_n 1, 1) := by decide +kernel
theorem dX9_current_2 : decode cX9_current 2 = .ok (.invokestatic 116, 3) := by decide +kernel
theorem dX9_current_5 : decode cX9_current 5 = .ok (.ifCond .ne 7, 3) := by decide +kernel
theorem dX9_current_8 : decode cX9_current 8 = .ok (.iconst 1, 1) := by decide +kernel
theorem dX9_current_9 : decode cX9_current 9 = .ok (.goto 17, 3) := by decide +kernel
theorem dX9_current_12 : decode cX9_current 12 = .ok (.iload_n 2, 1) := by decide +kernel
theorem dX9_current_13 : decode cX9_current 13 = .ok (.iconst 0, 1) := by decide +kernel
theorem dX9_current_14 : decode cX9_current 14 = .ok (.iconst 4, 1) := by decide +kernel
theorem dX9_current_15 : decode cX9_current 15 = .ok (.invokestatic 99, 3) := by decide +kernel
theorem dX9_current_18 : decode cX9_current 18 = .ok (.ifCond .ne 7, 3) := by decide +kernel
theorem dX9_current_21 : decode cX9_current 21 = .ok (.iconst 2, 1) := by decide +kernel
theorem dX9_current_22 : decode cX9_current 22 = .ok (.goto 4, 3) := by decide +kernel
theorem dX9_current_25 : decode cX9_current 25 = .ok (.iconst 0, 1) := by decide +kernel
theorem dX9_current_26 : decode cX9_current 26 = .ok (.putfield 96, 3) := by decide +kernel
theorem dX9_current_29 : decode cX9_current 29 = .ok (.aload_n 0, 1) := by decide +kernel
theorem dX9_current_30 : decode cX9_current 30 = .ok (.getfield 96, 3) := by decide +kernel
theorem dX9_current_33 : decode cX9_current 33 = .ok (.ifCond .le 5, 3) := by decide +kernel
theorem dX9_current_36 : decode cX9_current 36 = .ok (.iconst 0, 1) := by decide +kernel
theorem dX9_current_37 : decode cX9_current 37 = .ok (.ireturn, 1) := by decide +kernel
theorem dX9_current_38 : decode cX9_current 38 = .ok (.aload_n 0, 1) := by decide +kernel
theorem dX9_current_39 : decode cX9_current 39 = .ok (.getfield 13, 3) := by decide +kernel
theorem dX9_current_42 : decode cX9_current 42 = .ok (.iload_n 1, 1) := by decide +kernel
theorem dX9_current_43 : decode cX9_current 43 = .ok (.iaload, 1) := by decide +kernel
theorem dX9_current_44 : decode cX9_current 44 = .ok (.istore_n 3, 1) := by decide +kernel
theorem dX9_current_45 : decode cX9_current 45 = .ok (.aload_n 0, 1) := by decide +kernel
theorem dX9_current_46 : decode cX9_current 46 = .ok (.getfield 13, 3) := by decide +kernel
theorem dX9_current_49 : decode cX9_current 49 = .ok (.iload_n 1, 1) := by decide +kernel
theorem dX9_current_50 : decode cX9_current 50 = .ok (.iload_n 2, 1) := by decide +kernel
theorem dX9_current_51 : decode cX9_current 51 = .ok (.iastore, 1) := by decide +kernel
theorem dX9_current_52 : decode cX9_current 52 = .ok (.iload_n 3, 1) := by decide +kernel
theorem dX9_current_53 : decode cX9_current 53 = .ok (.ireturn, 1) := by decide +kernel
theorem dX9_sun_0 : decode cX9_sun 0 = .ok (.aload_n 0, 1) := by decide +kernel
theorem dX9_sun_1 : decode cX9_sun 1 = .ok (.iload_n 1, 1) := by decide +kernel
theorem dX9_sun_2 : decode cX9_sun 2 = .ok (.iconst 0, 1) := by decide +kernel
theorem dX9_sun_3 : decode cX9_sun 3 = .ok (.iconst 5, 1) := by decide +kernel
theorem dX9_sun_4 : decode cX9_sun 4 = .ok (.invokestatic 99, 3) := by decide +kernel
theorem dX9_sun_7 : decode cX9_sun 7 = .ok (.ifCond .eq 18, 3) := by decide +kernel
theorem dX9_sun_10 : decode cX9_sun 10 = .ok (.iload_n 2, 1) := by decide +kernel
theorem dX9_sun_11 : decode cX9_sun 11 = .ok (.bipush (-50), 2) := by decide +kernel
theorem dX9_sun_13 : decode cX9_sun 13 = .ok (.bipush 50, 2) := by decide +kernel
theorem dX9_sun_15 : decode cX9_sun 15 = .ok (.invokestatic 99, 3) := by decide +kernel
theorem dX9_sun_18 : decode cX9_sun 18 = .ok (.ifCond .eq 7, 3) := by decide +kernel
theorem dX9_sun_21 : decode cX9_sun 21 = .ok (.iconst 0, 1) := by decide +kernel
theorem dX9_sun_22 : decode cX9_sun 22 = .ok (.goto 4, 3) := by decide +kernel
theorem dX9_sun_25 : decode cX9_sun 25 = .ok (.iconst 1, 1) := by decide +kernel
theorem dX9_sun_26 : decode cX9_sun 26 = .ok (.putfield 96, 3) := by decide +kernel
theorem dX9_sun_29 : decode cX9_sun 29 = .ok (.aload_n 0, 1) := by decide +kernel
theorem dX9_sun_30 : decode cX9_sun 30 = .ok (.getfield 96, 3) := by decide +kernel
theorem dX9_sun_33 : decode cX9_sun 33 = .ok (.ifCond .le 5, 3) := by decide +kernel
theorem dX9_sun_36 : decode cX9_sun 36 = .ok (.iconst 0, 1) := by decide +kernel
theorem dX9_sun_37 : decode cX9_sun 37 = .ok (.ireturn, 1) := by decide +kernel
theorem dX9_sun_38 : decode cX9_sun 38 = .ok (.aload_n 0, 1) := by decide +kernel
theorem dX9_sun_39 : decode cX9_sun 39 = .ok (.getfield 17, 3) := by decide +kernel
theorem dX9_sun_42 : decode cX9_sun 42 = .ok (.iload_n 1, 1) := by decide +kernel
theorem dX9_sun_43 : decode cX9_sun 43 = .ok (.iaload, 1) := by decide +kernel
theorem dX9_sun_44 : decode cX9_sun 44 = .ok (.istore_n 3, 1) := by decide +kernel
theorem dX9_sun_45 : decode cX9_sun 45 = .ok (.aload_n 0, 1) := by decide +kernel
theorem dX9_sun_46 : decode cX9_sun 46 = .ok (.getfield 17, 3) := by decide +kernel
theorem dX9_sun_49 : decode cX9_sun 49 = .ok (.iload_n 1, 1) := by decide +kernel
theorem dX9_sun_50 : decode cX9_sun 50 = .ok (.iload_n 2, 1) := by decide +kernel
theorem dX9_sun_51 : decode cX9_sun 51 = .ok (.iastore, 1) := by decide +kernel
theorem dX9_sun_52 : decode cX9_sun 52 = .ok (.iload_n 3, 1) := by decide +kernel
theorem dX9_sun_53 : decode cX9_sun 53 = .ok (.ireturn, 1) := by decide +kernel
theorem dX9_flows_0 : decode cX9_flows 0 = .ok (.iconst 0, 1) := by decide +kernel
theorem dX9_flows_1 : decode cX9_flows 1 = .ok (.istore_n 1, 1) := by decide +kernel
theorem dX9_flows_2 : decode cX9_flows 2 = .ok (.iload_n 1, 1) := by decide +kernel
theorem dX9_flows_3 : decode cX9_flows 3 = .ok (.bipush 60, 2) := by decide +kernel
theorem dX9_flows_5 : decode cX9_flows 5 = .ok (.if_icmp .ge 23, 3) := by decide +kernel
theorem dX9_flows_8 : decode cX9_flows 8 = .ok (.aload_n 0, 1) := by decide +kernel
theorem dX9_flows_9 : decode cX9_flows 9 = .ok (.getfield 26, 3) := by decide +kernel
theorem dX9_flows_12 : decode cX9_flows 12 = .ok (.iload_n 1, 1) := by decide +kernel
theorem dX9_flows_13 : decode cX9_flows 13 = .ok (.iconst 0, 1) := by decide +kernel
theorem dX9_flows_14 : decode cX9_flows 14 = .ok (.iastore, 1) := by decide +kernel
theorem dX9_flows_15 : decode cX9_flows 15 = .ok (.aload_n 0, 1) := by decide +kernel
theorem dX9_flows_16 : decode cX9_flows 16 = .ok (.getfield 29, 3) := by decide +kernel
theorem dX9_flows_19 : decode cX9_flows 19 = .ok (.iload_n 1, 1) := by decide +kernel
theorem dX9_flows_20 : decode cX9_flows 20 = .ok (.iconst 0, 1) := by decide +kernel
theorem dX9_flows_21 : decode cX9_flows 21 = .ok (.iastore, 1) := by decide +kernel
theorem dX9_flows_22 : decode cX9_flows 22 = .ok (.iinc 1 1, 3) := by decide +kernel
theorem dX9_flows_25 : decode cX9_flows 25 = .ok (.goto (-23), 3) := by decide +kernel
theorem dX9_flows_28 : decode cX9_flows 28 = .ok (.iconst 0, 1) := by decide +kernel
theorem dX9_flows_29 : decode cX9_flows 29 = .ok (.istore_n 1, 1) := by decide +kernel
theorem dX9_flows_30 : decode cX9_flows 30 = .ok (.iload_n 1, 1) := by decide +kernel
theorem dX9_flows_31 : decode cX9_flows 31 = .ok (.bipush 60, 2) := by decide +kernel
theorem dX9_flows_33 : decode cX9_flows 33 = .ok (.if_icmp .ge 105, 3) := by decide +kernel
theorem dX9_flows_36 : decode cX9_flows 36 = .ok (.aload_n 0, 1) := by decide +kernel
theorem dX9_flows_37 : decode cX9_flows 37 = .ok (.getfield 7, 3) := by decide +kernel
theorem dX9_flows_40 : decode cX9_flows 40 = .ok (.iload_n 1, 1) := by decide +kernel
theorem dX9_flows_41 : decode cX9_flows 41 = .ok (.baload, 1) := by decide +kernel
theorem dX9_flows_42 : decode cX9_flows 42 = .ok (.ifCond .eq 7, 3) := by decide +kernel
theorem dX9_flows_45 : decode cX9_flows 45 = .ok (.iconst (-1), 1) := by decide +kernel
theorem dX9_flows_46 : decode cX9_flows 46 = .ok (.goto 8, 3) := by decide +kernel
theorem dX9_flows_49 : decode cX9_flows 49 = .ok (.aload_n 0, 1) := by decide +kernel
theorem dX9_flows_50 : decode cX9_flows 50 = .ok (.iload_n 1, 1) := by decide +kernel
theorem dX9_flows_51 : decode cX9_flows 51 = .ok (.invokevirtual 126, 3) := by decide +kernel
theorem dX9_flows_54 : decode cX9_flows 54 = .ok (.istore_n 2, 1) := by decide +kernel
theorem dX9_flows_55 : decode cX9_flows 55 = .ok (.iload_n 2, 1) := by decide +kernel
theorem dX9_flows_56 : decode cX9_flows 56 = .ok (.iconst (-1), 1) := by decide +kernel
theorem dX9_flows_57 : decode cX9_flows 57 = .ok (.if_icmp .eq 75, 3) := by decide +kernel
theorem dX9_flows_60 : decode cX9_flows 60 = .ok (.aload_n 0, 1) := by decide +kernel
theorem dX9_flows_61 : decode cX9_flows 61 = .ok (.getfield 26, 3) := by decide +kernel
theorem dX9_flows_64 : decode cX9_flows 64 = .ok (.iload_n 1, 1) := by decide +kernel
theorem dX9_flows_65 : decode cX9_flows 65 = .ok (.dup2, 1) := by decide +kernel
theorem dX9_flows_66 : decode cX9_flows 66 = .ok (.iaload, 1) := by decide +kernel
theorem dX9_flows_67 : decode cX9_flows 67 = .ok (.aload_n 0, 1) := by decide +kernel
theorem dX9_flows_68 : decode cX9_flows 68 = .ok (.getfield 20, 3) := by decide +kernel
theorem dX9_flows_71 : decode cX9_flows 71 = .ok (.iload_n 1, 1) := by decide +kernel
theorem dX9_flows_72 : decode cX9_flows 72 = .ok (.iaload, 1) := by decide +kernel
theorem dX9_flows_73 : decode cX9_flows 73 = .ok (.bipush 10, 2) := by decide +kernel
theorem dX9_flows_75 : decode cX9_flows 75 = .ok (.idiv, 1) := by decide +kernel
theorem dX9_flows_76 : decode cX9_flows 76 = .ok (.isub, 1) := by decide +kernel
theorem dX9_flows_77 : decode cX9_flows 77 = .ok (.iastore, 1) := by decide +kernel
theorem dX9_flows_78 : decode cX9_flows 78 = .ok (.aload_n 0, 1) := by decide +kernel
theorem dX9_flows_79 : decode cX9_flows 79 = .ok (.getfield 26, 3) := by decide +kernel
theorem dX9_flows_82 : decode cX9_flows 82 = .ok (.iload_n 2, 1) := by decide +kernel
theorem dX9_flows_83 : decode cX9_flows 83 = .ok (.dup2, 1) := by decide +kernel
theorem dX9_flows_84 : decode cX9_flows 84 = .ok (.iaload, 1) := by decide +kernel
theorem dX9_flows_85 : decode cX9_flows 85 = .ok (.aload_n 0, 1) := by decide +kernel
theorem dX9_flows_86 : decode cX9_flows 86 = .ok (.getfield 20, 3) := by decide +kernel
theorem dX9_flows_89 : decode cX9_flows 89 = .ok (.iload_n 1, 1) := by decide +kernel
theorem dX9_flows_90 : decode cX9_flows 90 = .ok (.iaload, 1) := by decide +kernel
theorem dX9_flows_91 : decode cX9_flows 91 = .ok (.bipush 10, 2) := by decide +kernel
theorem dX9_flows_93 : decode cX9_flows 93 = .ok (.idiv, 1) := by decide +kernel
theorem dX9_flows_94 : decode cX9_flows 94 = .ok (.iadd, 1) := by decide +kernel
theorem dX9_flows_95 : decode cX9_flows 95 = .ok (.iastore, 1) := by decide +kernel
theorem dX9_flows_96 : decode cX9_flows 96 = .ok (.aload_n 0, 1) := by decide +kernel
theorem dX9_flows_97 : decode cX9_flows 97 = .ok (.getfield 29, 3) := by decide +kernel
theorem dX9_flows_100 : decode cX9_flows 100 = .ok (.iload_n 1, 1) := by decide +kernel
theorem dX9_flows_101 : decode cX9_flows 101 = .ok (.dup2, 1) := by decide +kernel
theorem dX9_flows_102 : decode cX9_flows 102 = .ok (.iaload, 1) := by decide +kernel
theorem dX9_flows_103 : decode cX9_flows 103 = .ok (.aload_n 0, 1) := by decide +kernel
theorem dX9_flows_104 : decode cX9_flows 104 = .ok (.getfield 23, 3) := by decide +kernel
theorem dX9_flows_107 : decode cX9_flows 107 = .ok (.iload_n 1, 1) := by decide +kernel
theorem dX9_flows_108 : decode cX9_flows 108 = .ok (.iaload, 1) := by decide +kernel
theorem dX9_flows_109 : decode cX9_flows 109 = .ok (.bipush 10, 2) := by decide +kernel
theorem dX9_flows_111 : decode cX9_flows 111 = .ok (.idiv, 1) := by decide +kernel
theorem dX9_flows_112 : decode cX9_flows 112 = .ok (.isub, 1) := by decide +kernel
theorem dX9_flows_113 : decode cX9_flows 113 = .ok (.iastore, 1) := by decide +kernel
theorem dX9_flows_114 : decode cX9_flows 114 = .ok (.aload_n 0, 1) := by decide +kernel
theorem dX9_flows_115 : decode cX9_flows 115 = .ok (.getfield 29, 3) := by decide +kernel
theorem dX9_flows_118 : decode cX9_flows 118 = .ok (.iload_n 2, 1) := by decide +kernel
theorem dX9_flows_119 : decode cX9_flows 119 = .ok (.dup2, 1) := by decide +kernel
theorem dX9_flows_120 : decode cX9_flows 120 = .ok (.iaload, 1) := by decide +kernel
theorem dX9_flows_121 : decode cX9_flows 121 = .ok (.aload_n 0, 1) := by decide +kernel
theorem dX9_flows_122 : decode cX9_flows 122 = .ok (.getfield 23, 3) := by decide +kernel
theorem dX9_flows_125 : decode cX9_flows 125 = .ok (.iload_n 1, 1) := by decide +kernel
theorem dX9_flows_126 : decode cX9_flows 126 = .ok (.iaload, 1) := by decide +kernel
theorem dX9_flows_127 : decode cX9_flows 127 = .ok (.bipush 10, 2) := by decide +kernel
theorem dX9_flows_129 : decode cX9_flows 129 = .ok (.idiv, 1) := by decide +kernel
theorem dX9_flows_130 : decode cX9_flows 130 = .ok (.iadd, 1) := by decide +kernel
theorem dX9_flows_131 : decode cX9_flows 131 = .ok (.iastore, 1) := by decide +kernel
theorem dX9_flows_132 : decode cX9_flows 132 = .ok (.iinc 1 1, 3) := by decide +kernel
theorem dX9_flows_135 : decode cX9_flows 135 = .ok (.goto (-105), 3) := by decide +kernel
theorem dX9_flows_138 : decode cX9_flows 138 = .ok (.iconst 0, 1) := by decide +kernel
theorem dX9_flows_139 : decode cX9_flows 139 = .ok (.istore_n 1, 1) := by decide +kernel
theorem dX9_flows_140 : decode cX9_flows 140 = .ok (.iload_n 1, 1) := by decide +kernel
theorem dX9_flows_141 : decode cX9_flows 141 = .ok (.bipush 60, 2) := by decide +kernel
theorem dX9_flows_143 : decode cX9_flows 143 = .ok (.if_icmp .ge 39, 3) := by decide +kernel
theorem dX9_flows_146 : decode cX9_flows 146 = .ok (.aload_n 0, 1) := by decide +kernel
theorem dX9_flows_147 : decode cX9_flows 147 = .ok (.getfield 20, 3) := by decide +kernel
theorem dX9_flows_150 : decode cX9_flows 150 = .ok (.iload_n 1, 1) := by decide +kernel
theorem dX9_flows_151 : decode cX9_flows 151 = .ok (.dup2, 1) := by decide +kernel
theorem dX9_flows_152 : decode cX9_flows 152 = .ok (.iaload, 1) := by decide +kernel
theorem dX9_flows_153 : decode cX9_flows 153 = .ok (.aload_n 0, 1) := by decide +kernel
theorem dX9_flows_154 : decode cX9_flows 154 = .ok (.getfield 26, 3) := by decide +kernel
theorem dX9_flows_157 : decode cX9_flows 157 = .ok (.iload_n 1, 1) := by decide +kernel
theorem dX9_flows_158 : decode cX9_flows 158 = .ok (.iaload, 1) := by decide +kernel
theorem dX9_flows_159 : decode cX9_flows 159 = .ok (.iadd, 1) := by decide +kernel
theorem dX9_flows_160 : decode cX9_flows 160 = .ok (.iastore, 1) := by decide +kernel
theorem dX9_flows_161 : decode cX9_flows 161 = .ok (.aload_n 0, 1) := by decide +kernel
theorem dX9_flows_162 : decode cX9_flows 162 = .ok (.getfield 23, 3) := by decide +kernel
theorem dX9_flows_165 : decode cX9_flows 165 = .ok (.iload_n 1, 1) := by decide +kernel
theorem dX9_flows_166 : decode cX9_flows 166 = .ok (.dup2, 1) := by decide +kernel
theorem dX9_flows_167 : decode cX9_flows 167 = .ok (.iaload, 1) := by decide +kernel
theorem dX9_flows_168 : decode cX9_flows 168 = .ok (.aload_n 0, 1) := by decide +kernel
theorem dX9_flows_169 : decode cX9_flows 169 = .ok (.getfield 29, 3) := by decide +kernel
theorem dX9_flows_172 : decode cX9_flows 172 = .ok (.iload_n 1, 1) := by decide +kernel
theorem dX9_flows_173 : decode cX9_flows 173 = .ok (.iaload, 1) := by decide +kernel
theorem dX9_flows_174 : decode cX9_flows 174 = .ok (.iadd, 1) := by decide +kernel
theorem dX9_flows_175 : decode cX9_flows 175 = .ok (.iastore, 1) := by decide +kernel
theorem dX9_flows_176 : decode cX9_flows 176 = .ok (.iinc 1 1, 3) := by decide +kernel
theorem dX9_flows_179 : decode cX9_flows 179 = .ok (.goto (-39), 3) := by decide +kernel
theorem dX9_flows_182 : decode cX9_flows 182 = .ok (.return_, 1) := by decide +kernel
theorem dX9_warmsAndTurns_0 : decode cX9_warmsAndTurns 0 = .ok (.aload_n 0, 1) := by decide +kernel
theorem dX9_warmsAndTurns_1 : decode cX9_warmsAndTurns 1 = .ok (.getfield 20, 3) := by decide +kernel
theorem dX9_warmsAndTurns_4 : decode cX9_warmsAndTurns 4 = .ok (.iload_n 1, 1) := by decide +kernel
theorem dX9_warmsAndTurns_5 : decode cX9_warmsAndTurns 5 = .ok (.iaload, 1) := by decide +kernel
theorem dX9_warmsAndTurns_6 : decode cX9_warmsAndTurns 6 = .ok (.aload_n 0, 1) := by decide +kernel
theorem dX9_warmsAndTurns_7 : decode cX9_warmsAndTurns 7 = .ok (.getfield 17, 3) := by decide +kernel
theorem dX9_warmsAndTurns_10 : decode cX9_warmsAndTurns 10 = .ok (.iload_n 1, 1) := by decide +kernel
theorem dX9_warmsAndTurns_11 : decode cX9_warmsAndTurns 11 = .ok (.bipush 10, 2) := by decide +kernel
theorem dX9_warmsAndTurns_13 : decode cX9_warmsAndTurns 13 = .ok (.idiv, 1) := by decide +kernel
theorem dX9_warmsAndTurns_14 : decode cX9_warmsAndTurns 14 = .ok (.iaload, 1) := by decide +kernel
theorem dX9_warmsAndTurns_15 : decode cX9_warmsAndTurns 15 = .ok (.iadd, 1) := by decide +kernel
theorem dX9_warmsAndTurns_16 : decode cX9_warmsAndTurns 16 = .ok (.istore_n 2, 1) := by decide +kernel
theorem dX9_warmsAndTurns_17 : decode cX9_warmsAndTurns 17 = .ok (.iload_n 2, 1) := by decide +kernel
theorem dX9_warmsAndTurns_18 : decode cX9_warmsAndTurns 18 = .ok (.ifCond .ge 7, 3) := by decide +kernel
theorem dX9_warmsAndTurns_21 : decode cX9_warmsAndTurns 21 = .ok (.iconst 0, 1) := by decide +kernel
theorem dX9_warmsAndTurns_22 : decode cX9_warmsAndTurns 22 = .ok (.goto 4, 3) := by decide +kernel
theorem dX9_warmsAndTurns_25 : decode cX9_warmsAndTurns 25 = .ok (.iload_n 2, 1) := by decide +kernel
theorem dX9_warmsAndTurns_26 : decode cX9_warmsAndTurns 26 = .ok (.istore_n 2, 1) := by decide +kernel
theorem dX9_warmsAndTurns_27 : decode cX9_warmsAndTurns 27 = .ok (.aload_n 0, 1) := by decide +kernel
theorem dX9_warmsAndTurns_28 : decode cX9_warmsAndTurns 28 = .ok (.dup, 1) := by decide +kernel
theorem dX9_warmsAndTurns_29 : decode cX9_warmsAndTurns 29 = .ok (.getfield 130, 3) := by decide +kernel
theorem dX9_warmsAndTurns_32 : decode cX9_warmsAndTurns 32 = .ok (.iload_n 2, 1) := by decide +kernel
theorem dX9_warmsAndTurns_33 : decode cX9_warmsAndTurns 33 = .ok (.aload_n 0, 1) := by decide +kernel
theorem dX9_warmsAndTurns_34 : decode cX9_warmsAndTurns 34 = .ok (.getfield 20, 3) := by decide +kernel
theorem dX9_warmsAndTurns_37 : decode cX9_warmsAndTurns 37 = .ok (.iload_n 1, 1) := by decide +kernel
theorem dX9_warmsAndTurns_38 : decode cX9_warmsAndTurns 38 = .ok (.iaload, 1) := by decide +kernel
theorem dX9_warmsAndTurns_39 : decode cX9_warmsAndTurns 39 = .ok (.isub, 1) := by decide +kernel
theorem dX9_warmsAndTurns_40 : decode cX9_warmsAndTurns 40 = .ok (.iadd, 1) := by decide +kernel
theorem dX9_warmsAndTurns_41 : decode cX9_warmsAndTurns 41 = .ok (.putfield 130, 3) := by decide +kernel
theorem dX9_warmsAndTurns_44 : decode cX9_warmsAndTurns 44 = .ok (.aload_n 0, 1) := by decide +kernel
theorem dX9_warmsAndTurns_45 : decode cX9_warmsAndTurns 45 = .ok (.getfield 20, 3) := by decide +kernel
theorem dX9_warmsAndTurns_48 : decode cX9_warmsAndTurns 48 = .ok (.iload_n 1, 1) := by decide +kernel
theorem dX9_warmsAndTurns_49 : decode cX9_warmsAndTurns 49 = .ok (.iload_n 2, 1) := by decide +kernel
theorem dX9_warmsAndTurns_50 : decode cX9_warmsAndTurns 50 = .ok (.iastore, 1) := by decide +kernel
theorem dX9_warmsAndTurns_51 : decode cX9_warmsAndTurns 51 = .ok (.bipush 60, 2) := by decide +kernel
theorem dX9_warmsAndTurns_53 : decode cX9_warmsAndTurns 53 = .ok (.iload_n 1, 1) := by decide +kernel
theorem dX9_warmsAndTurns_54 : decode cX9_warmsAndTurns 54 = .ok (.iadd, 1) := by decide +kernel
theorem dX9_warmsAndTurns_55 : decode cX9_warmsAndTurns 55 = .ok (.istore_n 3, 1) := by decide +kernel
theorem dX9_warmsAndTurns_56 : decode cX9_warmsAndTurns 56 = .ok (.iconst 5, 1) := by decide +kernel
theorem dX9_warmsAndTurns_57 : decode cX9_warmsAndTurns 57 = .ok (.aload_n 0, 1) := by decide +kernel
theorem dX9_warmsAndTurns_58 : decode cX9_warmsAndTurns 58 = .ok (.getfield 23, 3) := by decide +kernel
theorem dX9_warmsAndTurns_61 : decode cX9_warmsAndTurns 61 = .ok (.iload_n 1, 1) := by decide +kernel
theorem dX9_warmsAndTurns_62 : decode cX9_warmsAndTurns 62 = .ok (.iaload, 1) := by decide +kernel
theorem dX9_warmsAndTurns_63 : decode cX9_warmsAndTurns 63 = .ok (.imul, 1) := by decide +kernel
theorem dX9_warmsAndTurns_64 : decode cX9_warmsAndTurns 64 = .ok (.aload_n 0, 1) := by decide +kernel
theorem dX9_warmsAndTurns_65 : decode cX9_warmsAndTurns 65 = .ok (.getfield 20, 3) := by decide +kernel
theorem dX9_warmsAndTurns_68 : decode cX9_warmsAndTurns 68 = .ok (.iload_n 1, 1) := by decide +kernel
theorem dX9_warmsAndTurns_69 : decode cX9_warmsAndTurns 69 = .ok (.iaload, 1) := by decide +kernel
theorem dX9_warmsAndTurns_70 : decode cX9_warmsAndTurns 70 = .ok (.isub, 1) := by decide +kernel
theorem dX9_warmsAndTurns_71 : decode cX9_warmsAndTurns 71 = .ok (.iconst 5, 1) := by decide +kernel
theorem dX9_warmsAndTurns_72 : decode cX9_warmsAndTurns 72 = .ok (.aload_n 0, 1) := by decide +kernel
theorem dX9_warmsAndTurns_73 : decode cX9_warmsAndTurns 73 = .ok (.getfield 23, 3) := by decide +kernel
theorem dX9_warmsAndTurns_76 : decode cX9_warmsAndTurns 76 = .ok (.iload_n 3, 1) := by decide +kernel
theorem dX9_warmsAndTurns_77 : decode cX9_warmsAndTurns 77 = .ok (.iaload, 1) := by decide +kernel
theorem dX9_warmsAndTurns_78 : decode cX9_warmsAndTurns 78 = .ok (.imul, 1) := by decide +kernel
theorem dX9_warmsAndTurns_79 : decode cX9_warmsAndTurns 79 = .ok (.aload_n 0, 1) := by decide +kernel
theorem dX9_warmsAndTurns_80 : decode cX9_warmsAndTurns 80 = .ok (.getfield 20, 3) := by decide +kernel
theorem dX9_warmsAndTurns_83 : decode cX9_warmsAndTurns 83 = .ok (.iload_n 3, 1) := by decide +kernel
theorem dX9_warmsAndTurns_84 : decode cX9_warmsAndTurns 84 = .ok (.iaload, 1) := by decide +kernel
theorem dX9_warmsAndTurns_85 : decode cX9_warmsAndTurns 85 = .ok (.isub, 1) := by decide +kernel
theorem dX9_warmsAndTurns_86 : decode cX9_warmsAndTurns 86 = .ok (.if_icmp .le 79, 3) := by decide +kernel
theorem dX9_warmsAndTurns_89 : decode cX9_warmsAndTurns 89 = .ok (.aload_n 0, 1) := by decide +kernel
theorem dX9_warmsAndTurns_90 : decode cX9_warmsAndTurns 90 = .ok (.getfield 20, 3) := by decide +kernel
theorem dX9_warmsAndTurns_93 : decode cX9_warmsAndTurns 93 = .ok (.iload_n 1, 1) := by decide +kernel
theorem dX9_warmsAndTurns_94 : decode cX9_warmsAndTurns 94 = .ok (.iaload, 1) := by decide +kernel
theorem dX9_warmsAndTurns_95 : decode cX9_warmsAndTurns 95 = .ok (.aload_n 0, 1) := by decide +kernel
theorem dX9_warmsAndTurns_96 : decode cX9_warmsAndTurns 96 = .ok (.getfield 20, 3) := by decide +kernel
theorem dX9_warmsAndTurns_99 : decode cX9_warmsAndTurns 99 = .ok (.iload_n 3, 1) := by decide +kernel
theorem dX9_warmsAndTurns_100 : decode cX9_warmsAndTurns 100 = .ok (.iaload, 1) := by decide +kernel
theorem dX9_warmsAndTurns_101 : decode cX9_warmsAndTurns 101 = .ok (.iadd, 1) := by decide +kernel
theorem dX9_warmsAndTurns_102 : decode cX9_warmsAndTurns 102 = .ok (.istore 4, 2) := by decide +kernel
theorem dX9_warmsAndTurns_104 : decode cX9_warmsAndTurns 104 = .ok (.aload_n 0, 1) := by decide +kernel
theorem dX9_warmsAndTurns_105 : decode cX9_warmsAndTurns 105 = .ok (.getfield 20, 3) := by decide +kernel
theorem dX9_warmsAndTurns_108 : decode cX9_warmsAndTurns 108 = .ok (.iload_n 1, 1) := by decide +kernel
theorem dX9_warmsAndTurns_109 : decode cX9_warmsAndTurns 109 = .ok (.iload 4, 2) := by decide +kernel
theorem dX9_warmsAndTurns_111 : decode cX9_warmsAndTurns 111 = .ok (.iconst 2, 1) := by decide +kernel
theorem dX9_warmsAndTurns_112 : decode cX9_warmsAndTurns 112 = .ok (.idiv, 1) := by decide +kernel
theorem dX9_warmsAndTurns_113 : decode cX9_warmsAndTurns 113 = .ok (.iastore, 1) := by decide +kernel
theorem dX9_warmsAndTurns_114 : decode cX9_warmsAndTurns 114 = .ok (.aload_n 0, 1) := by decide +kernel
theorem dX9_warmsAndTurns_115 : decode cX9_warmsAndTurns 115 = .ok (.getfield 20, 3) := by decide +kernel
theorem dX9_warmsAndTurns_118 : decode cX9_warmsAndTurns 118 = .ok (.iload_n 3, 1) := by decide +kernel
theorem dX9_warmsAndTurns_119 : decode cX9_warmsAndTurns 119 = .ok (.iload 4, 2) := by decide +kernel
theorem dX9_warmsAndTurns_121 : decode cX9_warmsAndTurns 121 = .ok (.iload 4, 2) := by decide +kernel
theorem dX9_warmsAndTurns_123 : decode cX9_warmsAndTurns 123 = .ok (.iconst 2, 1) := by decide +kernel
theorem dX9_warmsAndTurns_124 : decode cX9_warmsAndTurns 124 = .ok (.idiv, 1) := by decide +kernel
theorem dX9_warmsAndTurns_125 : decode cX9_warmsAndTurns 125 = .ok (.isub, 1) := by decide +kernel
theorem dX9_warmsAndTurns_126 : decode cX9_warmsAndTurns 126 = .ok (.iastore, 1) := by decide +kernel
theorem dX9_warmsAndTurns_127 : decode cX9_warmsAndTurns 127 = .ok (.aload_n 0, 1) := by decide +kernel
theorem dX9_warmsAndTurns_128 : decode cX9_warmsAndTurns 128 = .ok (.getfield 23, 3) := by decide +kernel
theorem dX9_warmsAndTurns_131 : decode cX9_warmsAndTurns 131 = .ok (.iload_n 1, 1) := by decide +kernel
theorem dX9_warmsAndTurns_132 : decode cX9_warmsAndTurns 132 = .ok (.iaload, 1) := by decide +kernel
theorem dX9_warmsAndTurns_133 : decode cX9_warmsAndTurns 133 = .ok (.aload_n 0, 1) := by decide +kernel
theorem dX9_warmsAndTurns_134 : decode cX9_warmsAndTurns 134 = .ok (.getfield 23, 3) := by decide +kernel
theorem dX9_warmsAndTurns_137 : decode cX9_warmsAndTurns 137 = .ok (.iload_n 3, 1) := by decide +kernel
theorem dX9_warmsAndTurns_138 : decode cX9_warmsAndTurns 138 = .ok (.iaload, 1) := by decide +kernel
theorem dX9_warmsAndTurns_139 : decode cX9_warmsAndTurns 139 = .ok (.iadd, 1) := by decide +kernel
theorem dX9_warmsAndTurns_140 : decode cX9_warmsAndTurns 140 = .ok (.istore 4, 2) := by decide +kernel
theorem dX9_warmsAndTurns_142 : decode cX9_warmsAndTurns 142 = .ok (.aload_n 0, 1) := by decide +kernel
theorem dX9_warmsAndTurns_143 : decode cX9_warmsAndTurns 143 = .ok (.getfield 23, 3) := by decide +kernel
theorem dX9_warmsAndTurns_146 : decode cX9_warmsAndTurns 146 = .ok (.iload_n 1, 1) := by decide +kernel
theorem dX9_warmsAndTurns_147 : decode cX9_warmsAndTurns 147 = .ok (.iload 4, 2) := by decide +kernel
theorem dX9_warmsAndTurns_149 : decode cX9_warmsAndTurns 149 = .ok (.iconst 2, 1) := by decide +kernel
theorem dX9_warmsAndTurns_150 : decode cX9_warmsAndTurns 150 = .ok (.idiv, 1) := by decide +kernel
theorem dX9_warmsAndTurns_151 : decode cX9_warmsAndTurns 151 = .ok (.iastore, 1) := by decide +kernel
theorem dX9_warmsAndTurns_152 : decode cX9_warmsAndTurns 152 = .ok (.aload_n 0, 1) := by decide +kernel
theorem dX9_warmsAndTurns_153 : decode cX9_warmsAndTurns 153 = .ok (.getfield 23, 3) := by decide +kernel
theorem dX9_warmsAndTurns_156 : decode cX9_warmsAndTurns 156 = .ok (.iload_n 3, 1) := by decide +kernel
theorem dX9_warmsAndTurns_157 : decode cX9_warmsAndTurns 157 = .ok (.iload 4, 2) := by decide +kernel
theorem dX9_warmsAndTurns_159 : decode cX9_warmsAndTurns 159 = .ok (.iload 4, 2) := by decide +kernel
theorem dX9_warmsAndTurns_161 : decode cX9_warmsAndTurns 161 = .ok (.iconst 2, 1) := by decide +kernel
theorem dX9_warmsAndTurns_162 : decode cX9_warmsAndTurns 162 = .ok (.idiv, 1) := by decide +kernel
theorem dX9_warmsAndTurns_163 : decode cX9_warmsAndTurns 163 = .ok (.isub, 1) := by decide +kernel
theorem dX9_warmsAndTurns_164 : decode cX9_warmsAndTurns 164 = .ok (.iastore, 1) := by decide +kernel
theorem dX9_warmsAndTurns_165 : decode cX9_warmsAndTurns 165 = .ok (.return_, 1) := by decide +kernel
theorem dX9_reads_0 : decode cX9_reads 0 = .ok (.aload_n 0, 1) := by decide +kernel
theorem dX9_reads_1 : decode cX9_reads 1 = .ok (.getfield 106, 3) := by decide +kernel
theorem dX9_reads_4 : decode cX9_reads 4 = .ok (.bipush 100, 2) := by decide +kernel
theorem dX9_reads_6 : decode cX9_reads 6 = .ok (.if_icmp .ge 73, 3) := by decide +kernel
theorem dX9_reads_9 : decode cX9_reads 9 = .ok (.aload_n 0, 1) := by decide +kernel
theorem dX9_reads_10 : decode cX9_reads 10 = .ok (.getfield 62, 3) := by decide +kernel
theorem dX9_reads_13 : decode cX9_reads 13 = .ok (.aload_n 0, 1) := by decide +kernel
theorem dX9_reads_14 : decode cX9_reads 14 = .ok (.getfield 106, 3) := by decide +kernel
theorem dX9_reads_17 : decode cX9_reads 17 = .ok (.aload_n 0, 1) := by decide +kernel
theorem dX9_reads_18 : decode cX9_reads 18 = .ok (.getfield 120, 3) := by decide +kernel
theorem dX9_reads_21 : decode cX9_reads 21 = .ok (.iastore, 1) := by decide +kernel
theorem dX9_reads_22 : decode cX9_reads 22 = .ok (.aload_n 0, 1) := by decide +kernel
theorem dX9_reads_23 : decode cX9_reads 23 = .ok (.getfield 65, 3) := by decide +kernel
theorem dX9_reads_26 : decode cX9_reads 26 = .ok (.aload_n 0, 1) := by decide +kernel
theorem dX9_reads_27 : decode cX9_reads 27 = .ok (.getfield 106, 3) := by decide +kernel
theorem dX9_reads_30 : decode cX9_reads 30 = .ok (.iload_n 1, 1) := by decide +kernel
theorem dX9_reads_31 : decode cX9_reads 31 = .ok (.iastore, 1) := by decide +kernel
theorem dX9_reads_32 : decode cX9_reads 32 = .ok (.aload_n 0, 1) := by decide +kernel
theorem dX9_reads_33 : decode cX9_reads 33 = .ok (.getfield 68, 3) := by decide +kernel
theorem dX9_reads_36 : decode cX9_reads 36 = .ok (.aload_n 0, 1) := by decide +kernel
theorem dX9_reads_37 : decode cX9_reads 37 = .ok (.getfield 106, 3) := by decide +kernel
theorem dX9_reads_40 : decode cX9_reads 40 = .ok (.aload_n 0, 1) := by decide +kernel
theorem dX9_reads_41 : decode cX9_reads 41 = .ok (.getfield 20, 3) := by decide +kernel
theorem dX9_reads_44 : decode cX9_reads 44 = .ok (.iload_n 1, 1) := by decide +kernel
theorem dX9_reads_45 : decode cX9_reads 45 = .ok (.iaload, 1) := by decide +kernel
theorem dX9_reads_46 : decode cX9_reads 46 = .ok (.iload_n 3, 1) := by decide +kernel
theorem dX9_reads_47 : decode cX9_reads 47 = .ok (.iadd, 1) := by decide +kernel
theorem dX9_reads_48 : decode cX9_reads 48 = .ok (.iastore, 1) := by decide +kernel
theorem dX9_reads_49 : decode cX9_reads 49 = .ok (.aload_n 0, 1) := by decide +kernel
theorem dX9_reads_50 : decode cX9_reads 50 = .ok (.getfield 71, 3) := by decide +kernel
theorem dX9_reads_53 : decode cX9_reads 53 = .ok (.aload_n 0, 1) := by decide +kernel
theorem dX9_reads_54 : decode cX9_reads 54 = .ok (.getfield 106, 3) := by decide +kernel
theorem dX9_reads_57 : decode cX9_reads 57 = .ok (.iload_n 2, 1) := by decide +kernel
theorem dX9_reads_58 : decode cX9_reads 58 = .ok (.iastore, 1) := by decide +kernel
theorem dX9_reads_59 : decode cX9_reads 59 = .ok (.aload_n 0, 1) := by decide +kernel
theorem dX9_reads_60 : decode cX9_reads 60 = .ok (.getfield 74, 3) := by decide +kernel
theorem dX9_reads_63 : decode cX9_reads 63 = .ok (.aload_n 0, 1) := by decide +kernel
theorem dX9_reads_64 : decode cX9_reads 64 = .ok (.getfield 106, 3) := by decide +kernel
theorem dX9_reads_67 : decode cX9_reads 67 = .ok (.iconst (-1), 1) := by decide +kernel
theorem dX9_reads_68 : decode cX9_reads 68 = .ok (.iastore, 1) := by decide +kernel
theorem dX9_reads_69 : decode cX9_reads 69 = .ok (.aload_n 0, 1) := by decide +kernel
theorem dX9_reads_70 : decode cX9_reads 70 = .ok (.dup, 1) := by decide +kernel
theorem dX9_reads_71 : decode cX9_reads 71 = .ok (.getfield 106, 3) := by decide +kernel
theorem dX9_reads_74 : decode cX9_reads 74 = .ok (.iconst 1, 1) := by decide +kernel
theorem dX9_reads_75 : decode cX9_reads 75 = .ok (.iadd, 1) := by decide +kernel
theorem dX9_reads_76 : decode cX9_reads 76 = .ok (.putfield 106, 3) := by decide +kernel
theorem dX9_reads_79 : decode cX9_reads 79 = .ok (.return_, 1) := by decide +kernel
theorem dX9_parks_0 : decode cX9_parks 0 = .ok (.aload_n 0, 1) := by decide +kernel
theorem dX9_parks_1 : decode cX9_parks 1 = .ok (.getfield 41, 3) := by decide +kernel
theorem dX9_parks_4 : decode cX9_parks 4 = .ok (.iload_n 1, 1) := by decide +kernel
theorem dX9_parks_5 : decode cX9_parks 5 = .ok (.iaload, 1) := by decide +kernel
theorem dX9_parks_6 : decode cX9_parks 6 = .ok (.ifCond .ne 4, 3) := by decide +kernel
theorem dX9_parks_9 : decode cX9_parks 9 = .ok (.return_, 1) := by decide +kernel
theorem dX9_parks_10 : decode cX9_parks 10 = .ok (.aload_n 0, 1) := by decide +kernel
theorem dX9_parks_11 : decode cX9_parks 11 = .ok (.getfield 38, 3) := by decide +kernel
theorem dX9_parks_14 : decode cX9_parks 14 = .ok (.iload_n 1, 1) := by decide +kernel
theorem dX9_parks_15 : decode cX9_parks 15 = .ok (.dup2, 1) := by decide +kernel
theorem dX9_parks_16 : decode cX9_parks 16 = .ok (.iaload, 1) := by decide +kernel
theorem dX9_parks_17 : decode cX9_parks 17 = .ok (.iconst 1, 1) := by decide +kernel
theorem dX9_parks_18 : decode cX9_parks 18 = .ok (.isub, 1) := by decide +kernel
theorem dX9_parks_19 : decode cX9_parks 19 = .ok (.iastore, 1) := by decide +kernel
theorem dX9_parks_20 : decode cX9_parks 20 = .ok (.aload_n 0, 1) := by decide +kernel
theorem dX9_parks_21 : decode cX9_parks 21 = .ok (.getfield 38, 3) := by decide +kernel
theorem dX9_parks_24 : decode cX9_parks 24 = .ok (.iload_n 1, 1) := by decide +kernel
theorem dX9_parks_25 : decode cX9_parks 25 = .ok (.iaload, 1) := by decide +kernel
theorem dX9_parks_26 : decode cX9_parks 26 = .ok (.ifCond .ne 87, 3) := by decide +kernel
theorem dX9_parks_29 : decode cX9_parks 29 = .ok (.aload_n 0, 1) := by decide +kernel
theorem dX9_parks_30 : decode cX9_parks 30 = .ok (.aload_n 0, 1) := by decide +kernel
theorem dX9_parks_31 : decode cX9_parks 31 = .ok (.getfield 32, 3) := by decide +kernel
theorem dX9_parks_34 : decode cX9_parks 34 = .ok (.iload_n 1, 1) := by decide +kernel
theorem dX9_parks_35 : decode cX9_parks 35 = .ok (.iaload, 1) := by decide +kernel
theorem dX9_parks_36 : decode cX9_parks 36 = .ok (.invokevirtual 126, 3) := by decide +kernel
theorem dX9_parks_39 : decode cX9_parks 39 = .ok (.istore_n 2, 1) := by decide +kernel
theorem dX9_parks_40 : decode cX9_parks 40 = .ok (.aload_n 0, 1) := by decide +kernel
theorem dX9_parks_41 : decode cX9_parks 41 = .ok (.getfield 32, 3) := by decide +kernel
theorem dX9_parks_44 : decode cX9_parks 44 = .ok (.iload_n 1, 1) := by decide +kernel
theorem dX9_parks_45 : decode cX9_parks 45 = .ok (.iload_n 2, 1) := by decide +kernel
theorem dX9_parks_46 : decode cX9_parks 46 = .ok (.iconst (-1), 1) := by decide +kernel
theorem dX9_parks_47 : decode cX9_parks 47 = .ok (.if_icmp .ne 12, 3) := by decide +kernel
theorem dX9_parks_50 : decode cX9_parks 50 = .ok (.aload_n 0, 1) := by decide +kernel
theorem dX9_parks_51 : decode cX9_parks 51 = .ok (.getfield 32, 3) := by decide +kernel
theorem dX9_parks_54 : decode cX9_parks 54 = .ok (.iload_n 1, 1) := by decide +kernel
theorem dX9_parks_55 : decode cX9_parks 55 = .ok (.iaload, 1) := by decide +kernel
theorem dX9_parks_56 : decode cX9_parks 56 = .ok (.goto 4, 3) := by decide +kernel
theorem dX9_parks_59 : decode cX9_parks 59 = .ok (.iload_n 2, 1) := by decide +kernel
theorem dX9_parks_60 : decode cX9_parks 60 = .ok (.iastore, 1) := by decide +kernel
theorem dX9_parks_61 : decode cX9_parks 61 = .ok (.aload_n 0, 1) := by decide +kernel
theorem dX9_parks_62 : decode cX9_parks 62 = .ok (.aload_n 0, 1) := by decide +kernel
theorem dX9_parks_63 : decode cX9_parks 63 = .ok (.getfield 32, 3) := by decide +kernel
theorem dX9_parks_66 : decode cX9_parks 66 = .ok (.iload_n 1, 1) := by decide +kernel
theorem dX9_parks_67 : decode cX9_parks 67 = .ok (.iaload, 1) := by decide +kernel
theorem dX9_parks_68 : decode cX9_parks 68 = .ok (.iload_n 1, 1) := by decide +kernel
theorem dX9_parks_69 : decode cX9_parks 69 = .ok (.aload_n 0, 1) := by decide +kernel
theorem dX9_parks_70 : decode cX9_parks 70 = .ok (.getfield 44, 3) := by decide +kernel
theorem dX9_parks_73 : decode cX9_parks 73 = .ok (.iload_n 1, 1) := by decide +kernel
theorem dX9_parks_74 : decode cX9_parks 74 = .ok (.iaload, 1) := by decide +kernel
theorem dX9_parks_75 : decode cX9_parks 75 = .ok (.invokevirtual 133, 3) := by decide +kernel
theorem dX9_parks_78 : decode cX9_parks 78 = .ok (.aload_n 0, 1) := by decide +kernel
theorem dX9_parks_79 : decode cX9_parks 79 = .ok (.getfield 41, 3) := by decide +kernel
theorem dX9_parks_82 : decode cX9_parks 82 = .ok (.iload_n 1, 1) := by decide +kernel
theorem dX9_parks_83 : decode cX9_parks 83 = .ok (.dup2, 1) := by decide +kernel
theorem dX9_parks_84 : decode cX9_parks 84 = .ok (.iaload, 1) := by decide +kernel
theorem dX9_parks_85 : decode cX9_parks 85 = .ok (.iconst 1, 1) := by decide +kernel
theorem dX9_parks_86 : decode cX9_parks 86 = .ok (.isub, 1) := by decide +kernel
theorem dX9_parks_87 : decode cX9_parks 87 = .ok (.iastore, 1) := by decide +kernel
theorem dX9_parks_88 : decode cX9_parks 88 = .ok (.aload_n 0, 1) := by decide +kernel
theorem dX9_parks_89 : decode cX9_parks 89 = .ok (.getfield 38, 3) := by decide +kernel
theorem dX9_parks_92 : decode cX9_parks 92 = .ok (.iload_n 1, 1) := by decide +kernel
theorem dX9_parks_93 : decode cX9_parks 93 = .ok (.aload_n 0, 1) := by decide +kernel
theorem dX9_parks_94 : decode cX9_parks 94 = .ok (.getfield 41, 3) := by decide +kernel
theorem dX9_parks_97 : decode cX9_parks 97 = .ok (.iload_n 1, 1) := by decide +kernel
theorem dX9_parks_98 : decode cX9_parks 98 = .ok (.iaload, 1) := by decide +kernel
theorem dX9_parks_99 : decode cX9_parks 99 = .ok (.ifCond .ne 7, 3) := by decide +kernel
theorem dX9_parks_102 : decode cX9_parks 102 = .ok (.iconst 0, 1) := by decide +kernel
theorem dX9_parks_103 : decode cX9_parks 103 = .ok (.goto 9, 3) := by decide +kernel
theorem dX9_parks_106 : decode cX9_parks 106 = .ok (.aload_n 0, 1) := by decide +kernel
theorem dX9_parks_107 : decode cX9_parks 107 = .ok (.getfield 35, 3) := by decide +kernel
theorem dX9_parks_110 : decode cX9_parks 110 = .ok (.iload_n 1, 1) := by decide +kernel
theorem dX9_parks_111 : decode cX9_parks 111 = .ok (.iaload, 1) := by decide +kernel
theorem dX9_parks_112 : decode cX9_parks 112 = .ok (.iastore, 1) := by decide +kernel
theorem dX9_parks_113 : decode cX9_parks 113 = .ok (.return_, 1) := by decide +kernel
theorem dX9_drifts_0 : decode cX9_drifts 0 = .ok (.iconst 0, 1) := by decide +kernel
theorem dX9_drifts_1 : decode cX9_drifts 1 = .ok (.istore_n 2, 1) := by decide +kernel
theorem dX9_drifts_2 : decode cX9_drifts 2 = .ok (.iload_n 2, 1) := by decide +kernel
theorem dX9_drifts_3 : decode cX9_drifts 3 = .ok (.bipush 60, 2) := by decide +kernel
theorem dX9_drifts_5 : decode cX9_drifts 5 = .ok (.if_icmp .ge 16, 3) := by decide +kernel
theorem dX9_drifts_8 : decode cX9_drifts 8 = .ok (.aload_n 0, 1) := by decide +kernel
theorem dX9_drifts_9 : decode cX9_drifts 9 = .ok (.getfield 26, 3) := by decide +kernel
theorem dX9_drifts_12 : decode cX9_drifts 12 = .ok (.iload_n 2, 1) := by decide +kernel
theorem dX9_drifts_13 : decode cX9_drifts 13 = .ok (.iconst 0, 1) := by decide +kernel
theorem dX9_drifts_14 : decode cX9_drifts 14 = .ok (.iastore, 1) := by decide +kernel
theorem dX9_drifts_15 : decode cX9_drifts 15 = .ok (.iinc 2 1, 3) := by decide +kernel
theorem dX9_drifts_18 : decode cX9_drifts 18 = .ok (.goto (-16), 3) := by decide +kernel
theorem dX9_drifts_21 : decode cX9_drifts 21 = .ok (.iconst 0, 1) := by decide +kernel
theorem dX9_drifts_22 : decode cX9_drifts 22 = .ok (.istore_n 2, 1) := by decide +kernel
theorem dX9_drifts_23 : decode cX9_drifts 23 = .ok (.iload_n 2, 1) := by decide +kernel
theorem dX9_drifts_24 : decode cX9_drifts 24 = .ok (.bipush 60, 2) := by decide +kernel
theorem dX9_drifts_26 : decode cX9_drifts 26 = .ok (.if_icmp .ge 107, 3) := by decide +kernel
theorem dX9_drifts_29 : decode cX9_drifts 29 = .ok (.aload_n 0, 1) := by decide +kernel
theorem dX9_drifts_30 : decode cX9_drifts 30 = .ok (.getfield 84, 3) := by decide +kernel
theorem dX9_drifts_33 : decode cX9_drifts 33 = .ok (.bipush 60, 2) := by decide +kernel
theorem dX9_drifts_35 : decode cX9_drifts 35 = .ok (.iload_n 1, 1) := by decide +kernel
theorem dX9_drifts_36 : decode cX9_drifts 36 = .ok (.imul, 1) := by decide +kernel
theorem dX9_drifts_37 : decode cX9_drifts 37 = .ok (.iload_n 2, 1) := by decide +kernel
theorem dX9_drifts_38 : decode cX9_drifts 38 = .ok (.iadd, 1) := by decide +kernel
theorem dX9_drifts_39 : decode cX9_drifts 39 = .ok (.iaload, 1) := by decide +kernel
theorem dX9_drifts_40 : decode cX9_drifts 40 = .ok (.istore_n 3, 1) := by decide +kernel
theorem dX9_drifts_41 : decode cX9_drifts 41 = .ok (.iconst 0, 1) := by decide +kernel
theorem dX9_drifts_42 : decode cX9_drifts 42 = .ok (.istore 4, 2) := by decide +kernel
theorem dX9_drifts_44 : decode cX9_drifts 44 = .ok (.iload 4, 2) := by decide +kernel
theorem dX9_drifts_46 : decode cX9_drifts 46 = .ok (.iconst 5, 1) := by decide +kernel
theorem dX9_drifts_47 : decode cX9_drifts 47 = .ok (.if_icmp .ge 80, 3) := by decide +kernel
theorem dX9_drifts_50 : decode cX9_drifts 50 = .ok (.iload 4, 2) := by decide +kernel
theorem dX9_drifts_52 : decode cX9_drifts 52 = .ok (.ifCond .ne 11, 3) := by decide +kernel
theorem dX9_drifts_55 : decode cX9_drifts 55 = .ok (.aload_n 0, 1) := by decide +kernel
theorem dX9_drifts_56 : decode cX9_drifts 56 = .ok (.iload_n 2, 1) := by decide +kernel
theorem dX9_drifts_57 : decode cX9_drifts 57 = .ok (.invokevirtual 126, 3) := by decide +kernel
theorem dX9_drifts_60 : decode cX9_drifts 60 = .ok (.goto 10, 3) := by decide +kernel
theorem dX9_drifts_63 : decode cX9_drifts 63 = .ok (.aload_n 0, 1) := by decide +kernel
theorem dX9_drifts_64 : decode cX9_drifts 64 = .ok (.iload_n 2, 1) := by decide +kernel
theorem dX9_drifts_65 : decode cX9_drifts 65 = .ok (.iload 4, 2) := by decide +kernel
theorem dX9_drifts_67 : decode cX9_drifts 67 = .ok (.invokevirtual 112, 3) := by decide +kernel
theorem dX9_drifts_70 : decode cX9_drifts 70 = .ok (.istore 5, 2) := by decide +kernel
theorem dX9_drifts_72 : decode cX9_drifts 72 = .ok (.iload 4, 2) := by decide +kernel
theorem dX9_drifts_74 : decode cX9_drifts 74 = .ok (.ifCond .ne 12, 3) := by decide +kernel
theorem dX9_drifts_77 : decode cX9_drifts 77 = .ok (.iconst 4, 1) := by decide +kernel
theorem dX9_drifts_78 : decode cX9_drifts 78 = .ok (.iload_n 3, 1) := by decide +kernel
theorem dX9_drifts_79 : decode cX9_drifts 79 = .ok (.imul, 1) := by decide +kernel
theorem dX9_drifts_80 : decode cX9_drifts 80 = .ok (.bipush 10, 2) := by decide +kernel
theorem dX9_drifts_82 : decode cX9_drifts 82 = .ok (.idiv, 1) := by decide +kernel
theorem dX9_drifts_83 : decode cX9_drifts 83 = .ok (.goto 7, 3) := by decide +kernel
theorem dX9_drifts_86 : decode cX9_drifts 86 = .ok (.iload_n 3, 1) := by decide +kernel
theorem dX9_drifts_87 : decode cX9_drifts 87 = .ok (.bipush 10, 2) := by decide +kernel
theorem dX9_drifts_89 : decode cX9_drifts 89 = .ok (.idiv, 1) := by decide +kernel
theorem dX9_drifts_90 : decode cX9_drifts 90 = .ok (.istore 6, 2) := by decide +kernel
theorem dX9_drifts_92 : decode cX9_drifts 92 = .ok (.iload 5, 2) := by decide +kernel
theorem dX9_drifts_94 : decode cX9_drifts 94 = .ok (.iconst (-1), 1) := by decide +kernel
theorem dX9_drifts_95 : decode cX9_drifts 95 = .ok (.if_icmp .eq 26, 3) := by decide +kernel
theorem dX9_drifts_98 : decode cX9_drifts 98 = .ok (.aload_n 0, 1) := by decide +kernel
theorem dX9_drifts_99 : decode cX9_drifts 99 = .ok (.getfield 26, 3) := by decide +kernel
theorem dX9_drifts_102 : decode cX9_drifts 102 = .ok (.iload_n 2, 1) := by decide +kernel
theorem dX9_drifts_103 : decode cX9_drifts 103 = .ok (.dup2, 1) := by decide +kernel
theorem dX9_drifts_104 : decode cX9_drifts 104 = .ok (.iaload, 1) := by decide +kernel
theorem dX9_drifts_105 : decode cX9_drifts 105 = .ok (.iload 6, 2) := by decide +kernel
theorem dX9_drifts_107 : decode cX9_drifts 107 = .ok (.isub, 1) := by decide +kernel
theorem dX9_drifts_108 : decode cX9_drifts 108 = .ok (.iastore, 1) := by decide +kernel
theorem dX9_drifts_109 : decode cX9_drifts 109 = .ok (.aload_n 0, 1) := by decide +kernel
theorem dX9_drifts_110 : decode cX9_drifts 110 = .ok (.getfield 26, 3) := by decide +kernel
theorem dX9_drifts_113 : decode cX9_drifts 113 = .ok (.iload 5, 2) := by decide +kernel
theorem dX9_drifts_115 : decode cX9_drifts 115 = .ok (.dup2, 1) := by decide +kernel
theorem dX9_drifts_116 : decode cX9_drifts 116 = .ok (.iaload, 1) := by decide +kernel
theorem dX9_drifts_117 : decode cX9_drifts 117 = .ok (.iload 6, 2) := by decide +kernel
theorem dX9_drifts_119 : decode cX9_drifts 119 = .ok (.iadd, 1) := by decide +kernel
theorem dX9_drifts_120 : decode cX9_drifts 120 = .ok (.iastore, 1) := by decide +kernel
theorem dX9_drifts_121 : decode cX9_drifts 121 = .ok (.iinc 4 1, 3) := by decide +kernel
theorem dX9_drifts_124 : decode cX9_drifts 124 = .ok (.goto (-80), 3) := by decide +kernel
theorem dX9_drifts_127 : decode cX9_drifts 127 = .ok (.iinc 2 1, 3) := by decide +kernel
theorem dX9_drifts_130 : decode cX9_drifts 130 = .ok (.goto (-107), 3) := by decide +kernel
theorem dX9_drifts_133 : decode cX9_drifts 133 = .ok (.iconst 0, 1) := by decide +kernel
theorem dX9_drifts_134 : decode cX9_drifts 134 = .ok (.istore_n 2, 1) := by decide +kernel
theorem dX9_drifts_135 : decode cX9_drifts 135 = .ok (.iload_n 2, 1) := by decide +kernel
theorem dX9_drifts_136 : decode cX9_drifts 136 = .ok (.bipush 60, 2) := by decide +kernel
theorem dX9_drifts_138 : decode cX9_drifts 138 = .ok (.if_icmp .ge 29, 3) := by decide +kernel
theorem dX9_drifts_141 : decode cX9_drifts 141 = .ok (.aload_n 0, 1) := by decide +kernel
theorem dX9_drifts_142 : decode cX9_drifts 142 = .ok (.getfield 84, 3) := by decide +kernel
theorem dX9_drifts_145 : decode cX9_drifts 145 = .ok (.bipush 60, 2) := by decide +kernel
theorem dX9_drifts_147 : decode cX9_drifts 147 = .ok (.iload_n 1, 1) := by decide +kernel
theorem dX9_drifts_148 : decode cX9_drifts 148 = .ok (.imul, 1) := by decide +kernel
theorem dX9_drifts_149 : decode cX9_drifts 149 = .ok (.iload_n 2, 1) := by decide +kernel
theorem dX9_drifts_150 : decode cX9_drifts 150 = .ok (.iadd, 1) := by decide +kernel
theorem dX9_drifts_151 : decode cX9_drifts 151 = .ok (.dup2, 1) := by decide +kernel
theorem dX9_drifts_152 : decode cX9_drifts 152 = .ok (.iaload, 1) := by decide +kernel
theorem dX9_drifts_153 : decode cX9_drifts 153 = .ok (.aload_n 0, 1) := by decide +kernel
theorem dX9_drifts_154 : decode cX9_drifts 154 = .ok (.getfield 26, 3) := by decide +kernel
theorem dX9_drifts_157 : decode cX9_drifts 157 = .ok (.iload_n 2, 1) := by decide +kernel
theorem dX9_drifts_158 : decode cX9_drifts 158 = .ok (.iaload, 1) := by decide +kernel
theorem dX9_drifts_159 : decode cX9_drifts 159 = .ok (.iadd, 1) := by decide +kernel
theorem dX9_drifts_160 : decode cX9_drifts 160 = .ok (.iastore, 1) := by decide +kernel
theorem dX9_drifts_161 : decode cX9_drifts 161 = .ok (.iinc 2 1, 3) := by decide +kernel
theorem dX9_drifts_164 : decode cX9_drifts 164 = .ok (.goto (-29), 3) := by decide +kernel
theorem dX9_drifts_167 : decode cX9_drifts 167 = .ok (.return_, 1) := by decide +kernel
theorem dX9_isStorm_0 : decode cX9_isStorm 0 = .ok (.iconst 0, 1) := by decide +kernel
theorem dX9_isStorm_1 : decode cX9_isStorm 1 = .ok (.istore_n 2, 1) := by decide +kernel
theorem dX9_isStorm_2 : decode cX9_isStorm 2 = .ok (.iconst 0, 1) := by decide +kernel
theorem dX9_isStorm_3 : decode cX9_isStorm 3 = .ok (.istore_n 3, 1) := by decide +kernel
theorem dX9_isStorm_4 : decode cX9_isStorm 4 = .ok (.iload_n 3, 1) := by decide +kernel
theorem dX9_isStorm_5 : decode cX9_isStorm 5 = .ok (.aload_n 0, 1) := by decide +kernel
theorem dX9_isStorm_6 : decode cX9_isStorm 6 = .ok (.getfield 137, 3) := by decide +kernel
theorem dX9_isStorm_9 : decode cX9_isStorm 9 = .ok (.if_icmp .ge 38, 3) := by decide +kernel
theorem dX9_isStorm_12 : decode cX9_isStorm 12 = .ok (.iload_n 2, 1) := by decide +kernel
theorem dX9_isStorm_13 : decode cX9_isStorm 13 = .ok (.ifCond .ne 22, 3) := by decide +kernel
theorem dX9_isStorm_16 : decode cX9_isStorm 16 = .ok (.iload_n 1, 1) := by decide +kernel
theorem dX9_isStorm_17 : decode cX9_isStorm 17 = .ok (.aload_n 0, 1) := by decide +kernel
theorem dX9_isStorm_18 : decode cX9_isStorm 18 = .ok (.getfield 56, 3) := by decide +kernel
theorem dX9_isStorm_21 : decode cX9_isStorm 21 = .ok (.iload_n 3, 1) := by decide +kernel
theorem dX9_isStorm_22 : decode cX9_isStorm 22 = .ok (.iaload, 1) := by decide +kernel
theorem dX9_isStorm_23 : decode cX9_isStorm 23 = .ok (.aload_n 0, 1) := by decide +kernel
theorem dX9_isStorm_24 : decode cX9_isStorm 24 = .ok (.getfield 59, 3) := by decide +kernel
theorem dX9_isStorm_27 : decode cX9_isStorm 27 = .ok (.iload_n 3, 1) := by decide +kernel
theorem dX9_isStorm_28 : decode cX9_isStorm 28 = .ok (.iaload, 1) := by decide +kernel
theorem dX9_isStorm_29 : decode cX9_isStorm 29 = .ok (.invokestatic 99, 3) := by decide +kernel
theorem dX9_isStorm_32 : decode cX9_isStorm 32 = .ok (.ifCond .eq 7, 3) := by decide +kernel
theorem dX9_isStorm_35 : decode cX9_isStorm 35 = .ok (.iconst 1, 1) := by decide +kernel
theorem dX9_isStorm_36 : decode cX9_isStorm 36 = .ok (.goto 4, 3) := by decide +kernel
theorem dX9_isStorm_39 : decode cX9_isStorm 39 = .ok (.iconst 0, 1) := by decide +kernel
theorem dX9_isStorm_40 : decode cX9_isStorm 40 = .ok (.istore_n 2, 1) := by decide +kernel
theorem dX9_isStorm_41 : decode cX9_isStorm 41 = .ok (.iinc 3 1, 3) := by decide +kernel
theorem dX9_isStorm_44 : decode cX9_isStorm 44 = .ok (.goto (-40), 3) := by decide +kernel
theorem dX9_isStorm_47 : decode cX9_isStorm 47 = .ok (.iload_n 2, 1) := by decide +kernel
theorem dX9_isStorm_48 : decode cX9_isStorm 48 = .ok (.ireturn, 1) := by decide +kernel
theorem dX9_stationOf_0 : decode cX9_stationOf 0 = .ok (.iconst (-1), 1) := by decide +kernel
theorem dX9_stationOf_1 : decode cX9_stationOf 1 = .ok (.istore_n 3, 1) := by decide +kernel
theorem dX9_stationOf_2 : decode cX9_stationOf 2 = .ok (.iconst 0, 1) := by decide +kernel
theorem dX9_stationOf_3 : decode cX9_stationOf 3 = .ok (.istore 4, 2) := by decide +kernel
theorem dX9_stationOf_5 : decode cX9_stationOf 5 = .ok (.iload 4, 2) := by decide +kernel
theorem dX9_stationOf_7 : decode cX9_stationOf 7 = .ok (.aload_n 0, 1) := by decide +kernel
theorem dX9_stationOf_8 : decode cX9_stationOf 8 = .ok (.getfield 123, 3) := by decide +kernel
theorem dX9_stationOf_11 : decode cX9_stationOf 11 = .ok (.if_icmp .ge 38, 3) := by decide +kernel
theorem dX9_stationOf_14 : decode cX9_stationOf 14 = .ok (.aload_n 0, 1) := by decide +kernel
theorem dX9_stationOf_15 : decode cX9_stationOf 15 = .ok (.getfield 50, 3) := by decide +kernel
theorem dX9_stationOf_18 : decode cX9_stationOf 18 = .ok (.iload 4, 2) := by decide +kernel
theorem dX9_stationOf_20 : decode cX9_stationOf 20 = .ok (.iaload, 1) := by decide +kernel
theorem dX9_stationOf_21 : decode cX9_stationOf 21 = .ok (.iload_n 1, 1) := by decide +kernel
theorem dX9_stationOf_22 : decode cX9_stationOf 22 = .ok (.if_icmp .ne 19, 3) := by decide +kernel
theorem dX9_stationOf_25 : decode cX9_stationOf 25 = .ok (.aload_n 0, 1) := by decide +kernel
theorem dX9_stationOf_26 : decode cX9_stationOf 26 = .ok (.getfield 53, 3) := by decide +kernel
theorem dX9_stationOf_29 : decode cX9_stationOf 29 = .ok (.iload 4, 2) := by decide +kernel
theorem dX9_stationOf_31 : decode cX9_stationOf 31 = .ok (.iaload, 1) := by decide +kernel
theorem dX9_stationOf_32 : decode cX9_stationOf 32 = .ok (.iload_n 2, 1) := by decide +kernel
theorem dX9_stationOf_33 : decode cX9_stationOf 33 = .ok (.if_icmp .ne 8, 3) := by decide +kernel
theorem dX9_stationOf_36 : decode cX9_stationOf 36 = .ok (.iload 4, 2) := by decide +kernel
theorem dX9_stationOf_38 : decode cX9_stationOf 38 = .ok (.goto 4, 3) := by decide +kernel
theorem dX9_stationOf_41 : decode cX9_stationOf 41 = .ok (.iload_n 3, 1) := by decide +kernel
theorem dX9_stationOf_42 : decode cX9_stationOf 42 = .ok (.istore_n 3, 1) := by decide +kernel
theorem dX9_stationOf_43 : decode cX9_stationOf 43 = .ok (.iinc 4 1, 3) := by decide +kernel
theorem dX9_stationOf_46 : decode cX9_stationOf 46 = .ok (.goto (-41), 3) := by decide +kernel
theorem dX9_stationOf_49 : decode cX9_stationOf 49 = .ok (.iload_n 3, 1) := by decide +kernel
theorem dX9_stationOf_50 : decode cX9_stationOf 50 = .ok (.ireturn, 1) := by decide +kernel
theorem dX9_ships_0 : decode cX9_ships 0 = .ok (.iconst 0, 1) := by decide +kernel
theorem dX9_ships_1 : decode cX9_ships 1 = .ok (.istore_n 1, 1) := by decide +kernel
theorem dX9_ships_2 : decode cX9_ships 2 = .ok (.iload_n 1, 1) := by decide +kernel
theorem dX9_ships_3 : decode cX9_ships 3 = .ok (.bipush 60, 2) := by decide +kernel
theorem dX9_ships_5 : decode cX9_ships 5 = .ok (.if_icmp .ge 82, 3) := by decide +kernel
theorem dX9_ships_8 : decode cX9_ships 8 = .ok (.aload_n 0, 1) := by decide +kernel
theorem dX9_ships_9 : decode cX9_ships 9 = .ok (.aload_n 0, 1) := by decide +kernel
theorem dX9_ships_10 : decode cX9_ships 10 = .ok (.getfield 120, 3) := by decide +kernel
theorem dX9_ships_13 : decode cX9_ships 13 = .ok (.iload_n 1, 1) := by decide +kernel
theorem dX9_ships_14 : decode cX9_ships 14 = .ok (.invokevirtual 140, 3) := by decide +kernel
theorem dX9_ships_17 : decode cX9_ships 17 = .ok (.istore_n 2, 1) := by decide +kernel
theorem dX9_ships_18 : decode cX9_ships 18 = .ok (.iload_n 2, 1) := by decide +kernel
theorem dX9_ships_19 : decode cX9_ships 19 = .ok (.iconst (-1), 1) := by decide +kernel
theorem dX9_ships_20 : decode cX9_ships 20 = .ok (.if_icmp .eq 61, 3) := by decide +kernel
theorem dX9_ships_23 : decode cX9_ships 23 = .ok (.aload_n 0, 1) := by decide +kernel
theorem dX9_ships_24 : decode cX9_ships 24 = .ok (.aload_n 0, 1) := by decide +kernel
theorem dX9_ships_25 : decode cX9_ships 25 = .ok (.getfield 120, 3) := by decide +kernel
theorem dX9_ships_28 : decode cX9_ships 28 = .ok (.invokevirtual 143, 3) := by decide +kernel
theorem dX9_ships_31 : decode cX9_ships 31 = .ok (.ifCond .ne 10, 3) := by decide +kernel
theorem dX9_ships_34 : decode cX9_ships 34 = .ok (.aload_n 0, 1) := by decide +kernel
theorem dX9_ships_35 : decode cX9_ships 35 = .ok (.iload_n 1, 1) := by decide +kernel
theorem dX9_ships_36 : decode cX9_ships 36 = .ok (.iconst (-1), 1) := by decide +kernel
theorem dX9_ships_37 : decode cX9_ships 37 = .ok (.iconst 0, 1) := by decide +kernel
theorem dX9_ships_38 : decode cX9_ships 38 = .ok (.invokevirtual 133, 3) := by decide +kernel
theorem dX9_ships_41 : decode cX9_ships 41 = .ok (.aload_n 0, 1) := by decide +kernel
theorem dX9_ships_42 : decode cX9_ships 42 = .ok (.dup, 1) := by decide +kernel
theorem dX9_ships_43 : decode cX9_ships 43 = .ok (.getfield 123, 3) := by decide +kernel
theorem dX9_ships_46 : decode cX9_ships 46 = .ok (.iconst 1, 1) := by decide +kernel
theorem dX9_ships_47 : decode cX9_ships 47 = .ok (.isub, 1) := by decide +kernel
theorem dX9_ships_48 : decode cX9_ships 48 = .ok (.putfield 123, 3) := by decide +kernel
theorem dX9_ships_51 : decode cX9_ships 51 = .ok (.aload_n 0, 1) := by decide +kernel
theorem dX9_ships_52 : decode cX9_ships 52 = .ok (.getfield 50, 3) := by decide +kernel
theorem dX9_ships_55 : decode cX9_ships 55 = .ok (.iload_n 2, 1) := by decide +kernel
theorem dX9_ships_56 : decode cX9_ships 56 = .ok (.aload_n 0, 1) := by decide +kernel
theorem dX9_ships_57 : decode cX9_ships 57 = .ok (.getfield 50, 3) := by decide +kernel
theorem dX9_ships_60 : decode cX9_ships 60 = .ok (.aload_n 0, 1) := by decide +kernel
theorem dX9_ships_61 : decode cX9_ships 61 = .ok (.getfield 123, 3) := by decide +kernel
theorem dX9_ships_64 : decode cX9_ships 64 = .ok (.iaload, 1) := by decide +kernel
theorem dX9_ships_65 : decode cX9_ships 65 = .ok (.iastore, 1) := by decide +kernel
theorem dX9_ships_66 : decode cX9_ships 66 = .ok (.aload_n 0, 1) := by decide +kernel
theorem dX9_ships_67 : decode cX9_ships 67 = .ok (.getfield 53, 3) := by decide +kernel
theorem dX9_ships_70 : decode cX9_ships 70 = .ok (.iload_n 2, 1) := by decide +kernel
theorem dX9_ships_71 : decode cX9_ships 71 = .ok (.aload_n 0, 1) := by decide +kernel
theorem dX9_ships_72 : decode cX9_ships 72 = .ok (.getfield 53, 3) := by decide +kernel
theorem dX9_ships_75 : decode cX9_ships 75 = .ok (.aload_n 0, 1) := by decide +kernel
theorem dX9_ships_76 : decode cX9_ships 76 = .ok (.getfield 123, 3) := by decide +kernel
theorem dX9_ships_79 : decode cX9_ships 79 = .ok (.iaload, 1) := by decide +kernel
theorem dX9_ships_80 : decode cX9_ships 80 = .ok (.iastore, 1) := by decide +kernel
theorem dX9_ships_81 : decode cX9_ships 81 = .ok (.iinc 1 1, 3) := by decide +kernel
theorem dX9_ships_84 : decode cX9_ships 84 = .ok (.goto (-82), 3) := by decide +kernel
theorem dX9_ships_87 : decode cX9_ships 87 = .ok (.return_, 1) := by decide +kernel
theorem dX9_pass_0 : decode cX9_pass 0 = .ok (.aload_n 0, 1) := by decide +kernel
theorem dX9_pass_1 : decode cX9_pass 1 = .ok (.iload_n 1, 1) := by decide +kernel
theorem dX9_pass_2 : decode cX9_pass 2 = .ok (.iconst 1, 1) := by decide +kernel
theorem dX9_pass_3 : decode cX9_pass 3 = .ok (.bipush 50, 2) := by decide +kernel
theorem dX9_pass_5 : decode cX9_pass 5 = .ok (.invokestatic 99, 3) := by decide +kernel
theorem dX9_pass_8 : decode cX9_pass 8 = .ok (.ifCond .ne 7, 3) := by decide +kernel
theorem dX9_pass_11 : decode cX9_pass 11 = .ok (.iconst 1, 1) := by decide +kernel
theorem dX9_pass_12 : decode cX9_pass 12 = .ok (.goto 20, 3) := by decide +kernel
theorem dX9_pass_15 : decode cX9_pass 15 = .ok (.aload_n 0, 1) := by decide +kernel
theorem dX9_pass_16 : decode cX9_pass 16 = .ok (.getfield 120, 3) := by decide +kernel
theorem dX9_pass_19 : decode cX9_pass 19 = .ok (.iload_n 1, 1) := by decide +kernel
theorem dX9_pass_20 : decode cX9_pass 20 = .ok (.iadd, 1) := by decide +kernel
theorem dX9_pass_21 : decode cX9_pass 21 = .ok (.sipush 1000, 3) := by decide +kernel
theorem dX9_pass_24 : decode cX9_pass 24 = .ok (.if_icmp .le 7, 3) := by decide +kernel
theorem dX9_pass_27 : decode cX9_pass 27 = .ok (.iconst 2, 1) := by decide +kernel
theorem dX9_pass_28 : decode cX9_pass 28 = .ok (.goto 4, 3) := by decide +kernel
theorem dX9_pass_31 : decode cX9_pass 31 = .ok (.iconst 0, 1) := by decide +kernel
theorem dX9_pass_32 : decode cX9_pass 32 = .ok (.putfield 96, 3) := by decide +kernel
