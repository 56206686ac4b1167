theorem dX9_pass_35 : decode cX9_pass 35 = .ok (.iconst 0, 1) := by decide +kernel
theorem dX9_pass_36 : decode cX9_pass 36 = .ok (.istore_n 2, 1) := by decide +kernel
theorem dX9_pass_37 : decode cX9_pass 37 = .ok (.iload_n 2, 1) := by decide +kernel
theorem dX9_pass_38 : decode cX9_pass 38 = .ok (.iload_n 1, 1) := by decide +kernel
theorem dX9_pass_39 : decode cX9_pass 39 = .ok (.if_icmp .ge 104, 3) := by decide +kernel
theorem dX9_pass_42 : decode cX9_pass 42 = .ok (.aload_n 0, 1) := by decide +kernel
theorem dX9_pass_43 : decode cX9_pass 43 = .ok (.getfield 96, 3) := by decide +kernel
theorem dX9_pass_46 : decode cX9_pass 46 = .ok (.ifCond .ne 97, 3) := by decide +kernel
theorem dX9_pass_49 : decode cX9_pass 49 = .ok (.aload_n 0, 1) := by decide +kernel
theorem dX9_pass_50 : decode cX9_pass 50 = .ok (.dup, 1) := by decide +kernel
theorem dX9_pass_51 : decode cX9_pass 51 = .ok (.getfield 120, 3) := by decide +kernel
theorem dX9_pass_54 : decode cX9_pass 54 = .ok (.iconst 1, 1) := by decide +kernel
theorem dX9_pass_55 : decode cX9_pass 55 = .ok (.iadd, 1) := by decide +kernel
theorem dX9_pass_56 : decode cX9_pass 56 = .ok (.putfield 120, 3) := by decide +kernel
theorem dX9_pass_59 : decode cX9_pass 59 = .ok (.aload_n 0, 1) := by decide +kernel
theorem dX9_pass_60 : decode cX9_pass 60 = .ok (.invokevirtual 146, 3) := by decide +kernel
theorem dX9_pass_63 : decode cX9_pass 63 = .ok (.iconst 0, 1) := by decide +kernel
theorem dX9_pass_64 : decode cX9_pass 64 = .ok (.istore_n 3, 1) := by decide +kernel
theorem dX9_pass_65 : decode cX9_pass 65 = .ok (.iload_n 3, 1) := by decide +kernel
theorem dX9_pass_66 : decode cX9_pass 66 = .ok (.bipush 60, 2) := by decide +kernel
theorem dX9_pass_68 : decode cX9_pass 68 = .ok (.if_icmp .ge 23, 3) := by decide +kernel
theorem dX9_pass_71 : decode cX9_pass 71 = .ok (.aload_n 0, 1) := by decide +kernel
theorem dX9_pass_72 : decode cX9_pass 72 = .ok (.getfield 7, 3) := by decide +kernel
theorem dX9_pass_75 : decode cX9_pass 75 = .ok (.iload_n 3, 1) := by decide +kernel
theorem dX9_pass_76 : decode cX9_pass 76 = .ok (.baload, 1) := by decide +kernel
theorem dX9_pass_77 : decode cX9_pass 77 = .ok (.ifCond .ne 8, 3) := by decide +kernel
theorem dX9_pass_80 : decode cX9_pass 80 = .ok (.aload_n 0, 1) := by decide +kernel
theorem dX9_pass_81 : decode cX9_pass 81 = .ok (.iload_n 3, 1) := by decide +kernel
theorem dX9_pass_82 : decode cX9_pass 82 = .ok (.invokevirtual 149, 3) := by decide +kernel
theorem dX9_pass_85 : decode cX9_pass 85 = .ok (.iinc 3 1, 3) := by decide +kernel
theorem dX9_pass_88 : decode cX9_pass 88 = .ok (.goto (-23), 3) := by decide +kernel
theorem dX9_pass_91 : decode cX9_pass 91 = .ok (.iconst 0, 1) := by decide +kernel
theorem dX9_pass_92 : decode cX9_pass 92 = .ok (.istore_n 3, 1) := by decide +kernel
theorem dX9_pass_93 : decode cX9_pass 93 = .ok (.iload_n 3, 1) := by decide +kernel
theorem dX9_pass_94 : decode cX9_pass 94 = .ok (.aload_n 0, 1) := by decide +kernel
theorem dX9_pass_95 : decode cX9_pass 95 = .ok (.getfield 103, 3) := by decide +kernel
theorem dX9_pass_98 : decode cX9_pass 98 = .ok (.if_icmp .ge 14, 3) := by decide +kernel
theorem dX9_pass_101 : decode cX9_pass 101 = .ok (.aload_n 0, 1) := by decide +kernel
theorem dX9_pass_102 : decode cX9_pass 102 = .ok (.iload_n 3, 1) := by decide +kernel
theorem dX9_pass_103 : decode cX9_pass 103 = .ok (.invokevirtual 153, 3) := by decide +kernel
theorem dX9_pass_106 : decode cX9_pass 106 = .ok (.iinc 3 1, 3) := by decide +kernel
theorem dX9_pass_109 : decode cX9_pass 109 = .ok (.goto (-16), 3) := by decide +kernel
theorem dX9_pass_112 : decode cX9_pass 112 = .ok (.iconst 0, 1) := by decide +kernel
theorem dX9_pass_113 : decode cX9_pass 113 = .ok (.istore_n 3, 1) := by decide +kernel
theorem dX9_pass_114 : decode cX9_pass 114 = .ok (.iload_n 3, 1) := by decide +kernel
theorem dX9_pass_115 : decode cX9_pass 115 = .ok (.aload_n 0, 1) := by decide +kernel
theorem dX9_pass_116 : decode cX9_pass 116 = .ok (.getfield 109, 3) := by decide +kernel
theorem dX9_pass_119 : decode cX9_pass 119 = .ok (.if_icmp .ge 14, 3) := by decide +kernel
theorem dX9_pass_122 : decode cX9_pass 122 = .ok (.aload_n 0, 1) := by decide +kernel
theorem dX9_pass_123 : decode cX9_pass 123 = .ok (.iload_n 3, 1) := by decide +kernel
theorem dX9_pass_124 : decode cX9_pass 124 = .ok (.invokevirtual 155, 3) := by decide +kernel
theorem dX9_pass_127 : decode cX9_pass 127 = .ok (.iinc 3 1, 3) := by decide +kernel
theorem dX9_pass_130 : decode cX9_pass 130 = .ok (.goto (-16), 3) := by decide +kernel
theorem dX9_pass_133 : decode cX9_pass 133 = .ok (.aload_n 0, 1) := by decide +kernel
theorem dX9_pass_134 : decode cX9_pass 134 = .ok (.invokevirtual 158, 3) := by decide +kernel
theorem dX9_pass_137 : decode cX9_pass 137 = .ok (.iinc 2 1, 3) := by decide +kernel
theorem dX9_pass_140 : decode cX9_pass 140 = .ok (.goto (-103), 3) := by decide +kernel
theorem dX9_pass_143 : decode cX9_pass 143 = .ok (.aload_n 0, 1) := by decide +kernel
theorem dX9_pass_144 : decode cX9_pass 144 = .ok (.getfield 96, 3) := by decide +kernel
theorem dX9_pass_147 : decode cX9_pass 147 = .ok (.ifCond .le 7, 3) := by decide +kernel
theorem dX9_pass_150 : decode cX9_pass 150 = .ok (.iconst 0, 1) := by decide +kernel
theorem dX9_pass_151 : decode cX9_pass 151 = .ok (.goto 7, 3) := by decide +kernel
theorem dX9_pass_154 : decode cX9_pass 154 = .ok (.aload_n 0, 1) := by decide +kernel
theorem dX9_pass_155 : decode cX9_pass 155 = .ok (.getfield 120, 3) := by decide +kernel
theorem dX9_pass_158 : decode cX9_pass 158 = .ok (.ireturn, 1) := by decide +kernel
theorem dX9_lay_0 : decode cX9_lay 0 = .ok (.aload_n 0, 1) := by decide +kernel
theorem dX9_lay_1 : decode cX9_lay 1 = .ok (.iload_n 1, 1) := by decide +kernel
theorem dX9_lay_2 : decode cX9_lay 2 = .ok (.invokestatic 116, 3) := by decide +kernel
theorem dX9_lay_5 : decode cX9_lay 5 = .ok (.ifCond .ne 7, 3) := by decide +kernel
theorem dX9_lay_8 : decode cX9_lay 8 = .ok (.iconst 1, 1) := by decide +kernel
theorem dX9_lay_9 : decode cX9_lay 9 = .ok (.goto 40, 3) := by decide +kernel
theorem dX9_lay_12 : decode cX9_lay 12 = .ok (.iload_n 2, 1) := by decide +kernel
theorem dX9_lay_13 : decode cX9_lay 13 = .ok (.iconst 1, 1) := by decide +kernel
theorem dX9_lay_14 : decode cX9_lay 14 = .ok (.bipush 20, 2) := by decide +kernel
theorem dX9_lay_16 : decode cX9_lay 16 = .ok (.invokestatic 99, 3) := by decide +kernel
theorem dX9_lay_19 : decode cX9_lay 19 = .ok (.ifCond .eq 25, 3) := by decide +kernel
theorem dX9_lay_22 : decode cX9_lay 22 = .ok (.iload_n 3, 1) := by decide +kernel
theorem dX9_lay_23 : decode cX9_lay 23 = .ok (.iconst 1, 1) := by decide +kernel
theorem dX9_lay_24 : decode cX9_lay 24 = .ok (.bipush 100, 2) := by decide +kernel
theorem dX9_lay_26 : decode cX9_lay 26 = .ok (.invokestatic 99, 3) := by decide +kernel
theorem dX9_lay_29 : decode cX9_lay 29 = .ok (.ifCond .eq 15, 3) := by decide +kernel
theorem dX9_lay_32 : decode cX9_lay 32 = .ok (.iload 4, 2) := by decide +kernel
theorem dX9_lay_34 : decode cX9_lay 34 = .ok (.bipush (-50), 2) := by decide +kernel
theorem dX9_lay_36 : decode cX9_lay 36 = .ok (.bipush 50, 2) := by decide +kernel
theorem dX9_lay_38 : decode cX9_lay 38 = .ok (.invokestatic 99, 3) := by decide +kernel
theorem dX9_lay_41 : decode cX9_lay 41 = .ok (.ifCond .ne 7, 3) := by decide +kernel
theorem dX9_lay_44 : decode cX9_lay 44 = .ok (.iconst 2, 1) := by decide +kernel
theorem dX9_lay_45 : decode cX9_lay 45 = .ok (.goto 4, 3) := by decide +kernel
theorem dX9_lay_48 : decode cX9_lay 48 = .ok (.iconst 0, 1) := by decide +kernel
theorem dX9_lay_49 : decode cX9_lay 49 = .ok (.putfield 96, 3) := by decide +kernel
theorem dX9_lay_52 : decode cX9_lay 52 = .ok (.aload_n 0, 1) := by decide +kernel
theorem dX9_lay_53 : decode cX9_lay 53 = .ok (.aload_n 0, 1) := by decide +kernel
theorem dX9_lay_54 : decode cX9_lay 54 = .ok (.getfield 96, 3) := by decide +kernel
theorem dX9_lay_57 : decode cX9_lay 57 = .ok (.ifCond .ne 25, 3) := by decide +kernel
theorem dX9_lay_60 : decode cX9_lay 60 = .ok (.aload_n 0, 1) := by decide +kernel
theorem dX9_lay_61 : decode cX9_lay 61 = .ok (.getfield 7, 3) := by decide +kernel
theorem dX9_lay_64 : decode cX9_lay 64 = .ok (.iload_n 1, 1) := by decide +kernel
theorem dX9_lay_65 : decode cX9_lay 65 = .ok (.baload, 1) := by decide +kernel
theorem dX9_lay_66 : decode cX9_lay 66 = .ok (.ifCond .ne 12, 3) := by decide +kernel
theorem dX9_lay_69 : decode cX9_lay 69 = .ok (.aload_n 0, 1) := by decide +kernel
theorem dX9_lay_70 : decode cX9_lay 70 = .ok (.getfield 103, 3) := by decide +kernel
theorem dX9_lay_73 : decode cX9_lay 73 = .ok (.bipush 8, 2) := by decide +kernel
theorem dX9_lay_75 : decode cX9_lay 75 = .ok (.if_icmp .ne 7, 3) := by decide +kernel
theorem dX9_lay_78 : decode cX9_lay 78 = .ok (.iconst 3, 1) := by decide +kernel
theorem dX9_lay_79 : decode cX9_lay 79 = .ok (.goto 7, 3) := by decide +kernel
theorem dX9_lay_82 : decode cX9_lay 82 = .ok (.aload_n 0, 1) := by decide +kernel
theorem dX9_lay_83 : decode cX9_lay 83 = .ok (.getfield 96, 3) := by decide +kernel
theorem dX9_lay_86 : decode cX9_lay 86 = .ok (.putfield 96, 3) := by decide +kernel
theorem dX9_lay_89 : decode cX9_lay 89 = .ok (.aload_n 0, 1) := by decide +kernel
theorem dX9_lay_90 : decode cX9_lay 90 = .ok (.getfield 96, 3) := by decide +kernel
theorem dX9_lay_93 : decode cX9_lay 93 = .ok (.ifCond .le 5, 3) := by decide +kernel
theorem dX9_lay_96 : decode cX9_lay 96 = .ok (.iconst 0, 1) := by decide +kernel
theorem dX9_lay_97 : decode cX9_lay 97 = .ok (.ireturn, 1) := by decide +kernel
theorem dX9_lay_98 : decode cX9_lay 98 = .ok (.aload_n 0, 1) := by decide +kernel
theorem dX9_lay_99 : decode cX9_lay 99 = .ok (.getfield 32, 3) := by decide +kernel
theorem dX9_lay_102 : decode cX9_lay 102 = .ok (.aload_n 0, 1) := by decide +kernel
theorem dX9_lay_103 : decode cX9_lay 103 = .ok (.getfield 103, 3) := by decide +kernel
theorem dX9_lay_106 : decode cX9_lay 106 = .ok (.iload_n 1, 1) := by decide +kernel
theorem dX9_lay_107 : decode cX9_lay 107 = .ok (.iastore, 1) := by decide +kernel
theorem dX9_lay_108 : decode cX9_lay 108 = .ok (.aload_n 0, 1) := by decide +kernel
theorem dX9_lay_109 : decode cX9_lay 109 = .ok (.getfield 35, 3) := by decide +kernel
theorem dX9_lay_112 : decode cX9_lay 112 = .ok (.aload_n 0, 1) := by decide +kernel
theorem dX9_lay_113 : decode cX9_lay 113 = .ok (.getfield 103, 3) := by decide +kernel
theorem dX9_lay_116 : decode cX9_lay 116 = .ok (.iload_n 2, 1) := by decide +kernel
theorem dX9_lay_117 : decode cX9_lay 117 = .ok (.iastore, 1) := by decide +kernel
theorem dX9_lay_118 : decode cX9_lay 118 = .ok (.aload_n 0, 1) := by decide +kernel
theorem dX9_lay_119 : decode cX9_lay 119 = .ok (.getfield 38, 3) := by decide +kernel
theorem dX9_lay_122 : decode cX9_lay 122 = .ok (.aload_n 0, 1) := by decide +kernel
theorem dX9_lay_123 : decode cX9_lay 123 = .ok (.getfield 103, 3) := by decide +kernel
theorem dX9_lay_126 : decode cX9_lay 126 = .ok (.iload_n 2, 1) := by decide +kernel
theorem dX9_lay_127 : decode cX9_lay 127 = .ok (.iastore, 1) := by decide +kernel
theorem dX9_lay_128 : decode cX9_lay 128 = .ok (.aload_n 0, 1) := by decide +kernel
theorem dX9_lay_129 : decode cX9_lay 129 = .ok (.getfield 41, 3) := by decide +kernel
theorem dX9_lay_132 : decode cX9_lay 132 = .ok (.aload_n 0, 1) := by decide +kernel
theorem dX9_lay_133 : decode cX9_lay 133 = .ok (.getfield 103, 3) := by decide +kernel
theorem dX9_lay_136 : decode cX9_lay 136 = .ok (.iload_n 3, 1) := by decide +kernel
theorem dX9_lay_137 : decode cX9_lay 137 = .ok (.iastore, 1) := by decide +kernel
theorem dX9_lay_138 : decode cX9_lay 138 = .ok (.aload_n 0, 1) := by decide +kernel
theorem dX9_lay_139 : decode cX9_lay 139 = .ok (.getfield 44, 3) := by decide +kernel
theorem dX9_lay_142 : decode cX9_lay 142 = .ok (.aload_n 0, 1) := by decide +kernel
theorem dX9_lay_143 : decode cX9_lay 143 = .ok (.getfield 103, 3) := by decide +kernel
theorem dX9_lay_146 : decode cX9_lay 146 = .ok (.iload 4, 2) := by decide +kernel
theorem dX9_lay_148 : decode cX9_lay 148 = .ok (.iastore, 1) := by decide +kernel
theorem dX9_lay_149 : decode cX9_lay 149 = .ok (.aload_n 0, 1) := by decide +kernel
theorem dX9_lay_150 : decode cX9_lay 150 = .ok (.dup, 1) := by decide +kernel
theorem dX9_lay_151 : decode cX9_lay 151 = .ok (.getfield 103, 3) := by decide +kernel
theorem dX9_lay_154 : decode cX9_lay 154 = .ok (.iconst 1, 1) := by decide +kernel
theorem dX9_lay_155 : decode cX9_lay 155 = .ok (.iadd, 1) := by decide +kernel
theorem dX9_lay_156 : decode cX9_lay 156 = .ok (.putfield 103, 3) := by decide +kernel
theorem dX9_lay_159 : decode cX9_lay 159 = .ok (.aload_n 0, 1) := by decide +kernel
theorem dX9_lay_160 : decode cX9_lay 160 = .ok (.getfield 103, 3) := by decide +kernel
theorem dX9_lay_163 : decode cX9_lay 163 = .ok (.iconst 1, 1) := by decide +kernel
theorem dX9_lay_164 : decode cX9_lay 164 = .ok (.isub, 1) := by decide +kernel
theorem dX9_lay_165 : decode cX9_lay 165 = .ok (.ireturn, 1) := by decide +kernel
theorem dX9_station_0 : decode cX9_station 0 = .ok (.aload_n 0, 1) := by decide +kernel
theorem dX9_station_1 : decode cX9_station 1 = .ok (.iload_n 2, 1) := by decide +kernel
theorem dX9_station_2 : decode cX9_station 2 = .ok (.invokestatic 116, 3) := by decide +kernel
theorem dX9_station_5 : decode cX9_station 5 = .ok (.ifCond .ne 7, 3) := by decide +kernel
theorem dX9_station_8 : decode cX9_station 8 = .ok (.iconst 1, 1) := by decide +kernel
theorem dX9_station_9 : decode cX9_station 9 = .ok (.goto 24, 3) := by decide +kernel
theorem dX9_station_12 : decode cX9_station 12 = .ok (.iload_n 1, 1) := by decide +kernel
theorem dX9_station_13 : decode cX9_station 13 = .ok (.aload_n 0, 1) := by decide +kernel
theorem dX9_station_14 : decode cX9_station 14 = .ok (.getfield 120, 3) := by decide +kernel
theorem dX9_station_17 : decode cX9_station 17 = .ok (.iconst 1, 1) := by decide +kernel
theorem dX9_station_18 : decode cX9_station 18 = .ok (.iadd, 1) := by decide +kernel
theorem dX9_station_19 : decode cX9_station 19 = .ok (.sipush 1000, 3) := by decide +kernel
theorem dX9_station_22 : decode cX9_station 22 = .ok (.invokestatic 99, 3) := by decide +kernel
theorem dX9_station_25 : decode cX9_station 25 = .ok (.ifCond .ne 7, 3) := by decide +kernel
theorem dX9_station_28 : decode cX9_station 28 = .ok (.iconst 2, 1) := by decide +kernel
theorem dX9_station_29 : decode cX9_station 29 = .ok (.goto 4, 3) := by decide +kernel
theorem dX9_station_32 : decode cX9_station 32 = .ok (.iconst 0, 1) := by decide +kernel
theorem dX9_station_33 : decode cX9_station 33 = .ok (.putfield 96, 3) := by decide +kernel
theorem dX9_station_36 : decode cX9_station 36 = .ok (.aload_n 0, 1) := by decide +kernel
theorem dX9_station_37 : decode cX9_station 37 = .ok (.aload_n 0, 1) := by decide +kernel
theorem dX9_station_38 : decode cX9_station 38 = .ok (.getfield 96, 3) := by decide +kernel
theorem dX9_station_41 : decode cX9_station 41 = .ok (.ifCond .ne 35, 3) := by decide +kernel
theorem dX9_station_44 : decode cX9_station 44 = .ok (.aload_n 0, 1) := by decide +kernel
theorem dX9_station_45 : decode cX9_station 45 = .ok (.getfield 7, 3) := by decide +kernel
theorem dX9_station_48 : decode cX9_station 48 = .ok (.iload_n 2, 1) := by decide +kernel
theorem dX9_station_49 : decode cX9_station 49 = .ok (.baload, 1) := by decide +kernel
theorem dX9_station_50 : decode cX9_station 50 = .ok (.ifCond .ne 22, 3) := by decide +kernel
theorem dX9_station_53 : decode cX9_station 53 = .ok (.aload_n 0, 1) := by decide +kernel
theorem dX9_station_54 : decode cX9_station 54 = .ok (.iload_n 1, 1) := by decide +kernel
theorem dX9_station_55 : decode cX9_station 55 = .ok (.iload_n 2, 1) := by decide +kernel
theorem dX9_station_56 : decode cX9_station 56 = .ok (.invokevirtual 140, 3) := by decide +kernel
theorem dX9_station_59 : decode cX9_station 59 = .ok (.iconst (-1), 1) := by decide +kernel
theorem dX9_station_60 : decode cX9_station 60 = .ok (.if_icmp .ne 12, 3) := by decide +kernel
theorem dX9_station_63 : decode cX9_station 63 = .ok (.aload_n 0, 1) := by decide +kernel
theorem dX9_station_64 : decode cX9_station 64 = .ok (.getfield 123, 3) := by decide +kernel
theorem dX9_station_67 : decode cX9_station 67 = .ok (.bipush 30, 2) := by decide +kernel
theorem dX9_station_69 : decode cX9_station 69 = .ok (.if_icmp .ne 7, 3) := by decide +kernel
theorem dX9_station_72 : decode cX9_station 72 = .ok (.iconst 3, 1) := by decide +kernel
theorem dX9_station_73 : decode cX9_station 73 = .ok (.goto 7, 3) := by decide +kernel
theorem dX9_station_76 : decode cX9_station 76 = .ok (.aload_n 0, 1) := by decide +kernel
theorem dX9_station_77 : decode cX9_station 77 = .ok (.getfield 96, 3) := by decide +kernel
theorem dX9_station_80 : decode cX9_station 80 = .ok (.putfield 96, 3) := by decide +kernel
theorem dX9_station_83 : decode cX9_station 83 = .ok (.aload_n 0, 1) := by decide +kernel
theorem dX9_station_84 : decode cX9_station 84 = .ok (.getfield 96, 3) := by decide +kernel
theorem dX9_station_87 : decode cX9_station 87 = .ok (.ifCond .le 5, 3) := by decide +kernel
theorem dX9_station_90 : decode cX9_station 90 = .ok (.iconst 0, 1) := by decide +kernel
theorem dX9_station_91 : decode cX9_station 91 = .ok (.ireturn, 1) := by decide +kernel
theorem dX9_station_92 : decode cX9_station 92 = .ok (.aload_n 0, 1) := by decide +kernel
theorem dX9_station_93 : decode cX9_station 93 = .ok (.getfield 50, 3) := by decide +kernel
theorem dX9_station_96 : decode cX9_station 96 = .ok (.aload_n 0, 1) := by decide +kernel
theorem dX9_station_97 : decode cX9_station 97 = .ok (.getfield 123, 3) := by decide +kernel
theorem dX9_station_100 : decode cX9_station 100 = .ok (.iload_n 1, 1) := by decide +kernel
theorem dX9_station_101 : decode cX9_station 101 = .ok (.iastore, 1) := by decide +kernel
theorem dX9_station_102 : decode cX9_station 102 = .ok (.aload_n 0, 1) := by decide +kernel
theorem dX9_station_103 : decode cX9_station 103 = .ok (.getfield 53, 3) := by decide +kernel
theorem dX9_station_106 : decode cX9_station 106 = .ok (.aload_n 0, 1) := by decide +kernel
theorem dX9_station_107 : decode cX9_station 107 = .ok (.getfield 123, 3) := by decide +kernel
theorem dX9_station_110 : decode cX9_station 110 = .ok (.iload_n 2, 1) := by decide +kernel
theorem dX9_station_111 : decode cX9_station 111 = .ok (.iastore, 1) := by decide +kernel
theorem dX9_station_112 : decode cX9_station 112 = .ok (.aload_n 0, 1) := by decide +kernel
theorem dX9_station_113 : decode cX9_station 113 = .ok (.dup, 1) := by decide +kernel
theorem dX9_station_114 : decode cX9_station 114 = .ok (.getfield 123, 3) := by decide +kernel
theorem dX9_station_117 : decode cX9_station 117 = .ok (.iconst 1, 1) := by decide +kernel
theorem dX9_station_118 : decode cX9_station 118 = .ok (.iadd, 1) := by decide +kernel
theorem dX9_station_119 : decode cX9_station 119 = .ok (.putfield 123, 3) := by decide +kernel
theorem dX9_station_122 : decode cX9_station 122 = .ok (.aload_n 0, 1) := by decide +kernel
theorem dX9_station_123 : decode cX9_station 123 = .ok (.getfield 123, 3) := by decide +kernel
theorem dX9_station_126 : decode cX9_station 126 = .ok (.ireturn, 1) := by decide +kernel
theorem dX9_storm_0 : decode cX9_storm 0 = .ok (.aload_n 0, 1) := by decide +kernel
theorem dX9_storm_1 : decode cX9_storm 1 = .ok (.iload_n 1, 1) := by decide +kernel
theorem dX9_storm_2 : decode cX9_storm 2 = .ok (.aload_n 0, 1) := by decide +kernel
theorem dX9_storm_3 : decode cX9_storm 3 = .ok (.getfield 120, 3) := by decide +kernel
theorem dX9_storm_6 : decode cX9_storm 6 = .ok (.iconst 1, 1) := by decide +kernel
theorem dX9_storm_7 : decode cX9_storm 7 = .ok (.iadd, 1) := by decide +kernel
theorem dX9_storm_8 : decode cX9_storm 8 = .ok (.sipush 1000, 3) := by decide +kernel
theorem dX9_storm_11 : decode cX9_storm 11 = .ok (.invokestatic 99, 3) := by decide +kernel
theorem dX9_storm_14 : decode cX9_storm 14 = .ok (.ifCond .eq 14, 3) := by decide +kernel
theorem dX9_storm_17 : decode cX9_storm 17 = .ok (.iload_n 2, 1) := by decide +kernel
theorem dX9_storm_18 : decode cX9_storm 18 = .ok (.iload_n 1, 1) := by decide +kernel
theorem dX9_storm_19 : decode cX9_storm 19 = .ok (.sipush 1000, 3) := by decide +kernel
theorem dX9_storm_22 : decode cX9_storm 22 = .ok (.invokestatic 99, 3) := by decide +kernel
theorem dX9_storm_25 : decode cX9_storm 25 = .ok (.ifCond .ne 7, 3) := by decide +kernel
theorem dX9_storm_28 : decode cX9_storm 28 = .ok (.iconst 1, 1) := by decide +kernel
theorem dX9_storm_29 : decode cX9_storm 29 = .ok (.goto 17, 3) := by decide +kernel
theorem dX9_storm_32 : decode cX9_storm 32 = .ok (.aload_n 0, 1) := by decide +kernel
theorem dX9_storm_33 : decode cX9_storm 33 = .ok (.getfield 137, 3) := by decide +kernel
theorem dX9_storm_36 : decode cX9_storm 36 = .ok (.bipush 20, 2) := by decide +kernel
theorem dX9_storm_38 : decode cX9_storm 38 = .ok (.if_icmp .ne 7, 3) := by decide +kernel
theorem dX9_storm_41 : decode cX9_storm 41 = .ok (.iconst 2, 1) := by decide +kernel
theorem dX9_storm_42 : decode cX9_storm 42 = .ok (.goto 4, 3) := by decide +kernel
theorem dX9_storm_45 : decode cX9_storm 45 = .ok (.iconst 0, 1) := by decide +kernel
theorem dX9_storm_46 : decode cX9_storm 46 = .ok (.putfield 96, 3) := by decide +kernel
theorem dX9_storm_49 : decode cX9_storm 49 = .ok (.aload_n 0, 1) := by decide +kernel
theorem dX9_storm_50 : decode cX9_storm 50 = .ok (.getfield 96, 3) := by decide +kernel
theorem dX9_storm_53 : decode cX9_storm 53 = .ok (.ifCond .le 5, 3) := by decide +kernel
theorem dX9_storm_56 : decode cX9_storm 56 = .ok (.iconst 0, 1) := by decide +kernel
theorem dX9_storm_57 : decode cX9_storm 57 = .ok (.ireturn, 1) := by decide +kernel
theorem dX9_storm_58 : decode cX9_storm 58 = .ok (.iconst 0, 1) := by decide +kernel
theorem dX9_storm_59 : decode cX9_storm 59 = .ok (.istore_n 3, 1) := by decide +kernel
theorem dX9_storm_60 : decode cX9_storm 60 = .ok (.iconst 0, 1) := by decide +kernel
theorem dX9_storm_61 : decode cX9_storm 61 = .ok (.istore 4, 2) := by decide +kernel
theorem dX9_storm_63 : decode cX9_storm 63 = .ok (.iload 4, 2) := by decide +kernel
theorem dX9_storm_65 : decode cX9_storm 65 = .ok (.aload_n 0, 1) := by decide +kernel
theorem dX9_storm_66 : decode cX9_storm 66 = .ok (.getfield 123, 3) := by decide +kernel
theorem dX9_storm_69 : decode cX9_storm 69 = .ok (.if_icmp .ge 46, 3) := by decide +kernel
theorem dX9_storm_72 : decode cX9_storm 72 = .ok (.iload_n 3, 1) := by decide +kernel
theorem dX9_storm_73 : decode cX9_storm 73 = .ok (.aload_n 0, 1) := by decide +kernel
theorem dX9_storm_74 : decode cX9_storm 74 = .ok (.getfield 50, 3) := by decide +kernel
theorem dX9_storm_77 : decode cX9_storm 77 = .ok (.iload 4, 2) := by decide +kernel
theorem dX9_storm_79 : decode cX9_storm 79 = .ok (.iaload, 1) := by decide +kernel
theorem dX9_storm_80 : decode cX9_storm 80 = .ok (.iload_n 1, 1) := by decide +kernel
theorem dX9_storm_81 : decode cX9_storm 81 = .ok (.iload_n 2, 1) := by decide +kernel
theorem dX9_storm_82 : decode cX9_storm 82 = .ok (.invokestatic 99, 3) := by decide +kernel
theorem dX9_storm_85 : decode cX9_storm 85 = .ok (.ifCond .eq 21, 3) := by decide +kernel
theorem dX9_storm_88 : decode cX9_storm 88 = .ok (.aload_n 0, 1) := by decide +kernel
theorem dX9_storm_89 : decode cX9_storm 89 = .ok (.aload_n 0, 1) := by decide +kernel
theorem dX9_storm_90 : decode cX9_storm 90 = .ok (.getfield 50, 3) := by decide +kernel
theorem dX9_storm_93 : decode cX9_storm 93 = .ok (.iload 4, 2) := by decide +kernel
theorem dX9_storm_95 : decode cX9_storm 95 = .ok (.iaload, 1) := by decide +kernel
theorem dX9_storm_96 : decode cX9_storm 96 = .ok (.invokevirtual 143, 3) := by decide +kernel
theorem dX9_storm_99 : decode cX9_storm 99 = .ok (.ifCond .ne 7, 3) := by decide +kernel
theorem dX9_storm_102 : decode cX9_storm 102 = .ok (.iconst 1, 1) := by decide +kernel
theorem dX9_storm_103 : decode cX9_storm 103 = .ok (.goto 4, 3) := by decide +kernel
theorem dX9_storm_106 : decode cX9_storm 106 = .ok (.iconst 0, 1) := by decide +kernel
theorem dX9_storm_107 : decode cX9_storm 107 = .ok (.iadd, 1) := by decide +kernel
theorem dX9_storm_108 : decode cX9_storm 108 = .ok (.istore_n 3, 1) := by decide +kernel
theorem dX9_storm_109 : decode cX9_storm 109 = .ok (.iinc 4 1, 3) := by decide +kernel
theorem dX9_storm_112 : decode cX9_storm 112 = .ok (.goto (-49), 3) := by decide +kernel
theorem dX9_storm_115 : decode cX9_storm 115 = .ok (.aload_n 0, 1) := by decide +kernel
theorem dX9_storm_116 : decode cX9_storm 116 = .ok (.getfield 56, 3) := by decide +kernel
theorem dX9_storm_119 : decode cX9_storm 119 = .ok (.aload_n 0, 1) := by decide +kernel
theorem dX9_storm_120 : decode cX9_storm 120 = .ok (.getfield 137, 3) := by decide +kernel
theorem dX9_storm_123 : decode cX9_storm 123 = .ok (.iload_n 1, 1) := by decide +kernel
theorem dX9_storm_124 : decode cX9_storm 124 = .ok (.iastore, 1) := by decide +kernel
theorem dX9_storm_125 : decode cX9_storm 125 = .ok (.aload_n 0, 1) := by decide +kernel
theorem dX9_storm_126 : decode cX9_storm 126 = .ok (.getfield 59, 3) := by decide +kernel
theorem dX9_storm_129 : decode cX9_storm 129 = .ok (.aload_n 0, 1) := by decide +kernel
theorem dX9_storm_130 : decode cX9_storm 130 = .ok (.getfield 137, 3) := by decide +kernel
theorem dX9_storm_133 : decode cX9_storm 133 = .ok (.iload_n 2, 1) := by decide +kernel
theorem dX9_storm_134 : decode cX9_storm 134 = .ok (.iastore, 1) := by decide +kernel
theorem dX9_storm_135 : decode cX9_storm 135 = .ok (.aload_n 0, 1) := by decide +kernel
theorem dX9_storm_136 : decode cX9_storm 136 = .ok (.dup, 1) := by decide +kernel
theorem dX9_storm_137 : decode cX9_storm 137 = .ok (.getfield 137, 3) := by decide +kernel
theorem dX9_storm_140 : decode cX9_storm 140 = .ok (.iconst 1, 1) := by decide +kernel
theorem dX9_storm_141 : decode cX9_storm 141 = .ok (.iadd, 1) := by decide +kernel
theorem dX9_storm_142 : decode cX9_storm 142 = .ok (.putfield 137, 3) := by decide +kernel
theorem dX9_storm_145 : decode cX9_storm 145 = .ok (.iload_n 3, 1) := by decide +kernel
theorem dX9_storm_146 : decode cX9_storm 146 = .ok (.ireturn, 1) := by decide +kernel
theorem dX9_shipFor_0 : decode cX9_shipFor 0 = .ok (.iconst (-1), 1) := by decide +kernel
theorem dX9_shipFor_1 : decode cX9_shipFor 1 = .ok (.istore_n 2, 1) := by decide +kernel
theorem dX9_shipFor_2 : decode cX9_shipFor 2 = .ok (.iconst 0, 1) := by decide +kernel
theorem dX9_shipFor_3 : decode cX9_shipFor 3 = .ok (.istore_n 3, 1) := by decide +kernel
theorem dX9_shipFor_4 : decode cX9_shipFor 4 = .ok (.iload_n 3, 1) := by decide +kernel
theorem dX9_shipFor_5 : decode cX9_shipFor 5 = .ok (.aload_n 0, 1) := by decide +kernel
theorem dX9_shipFor_6 : decode cX9_shipFor 6 = .ok (.getfield 106, 3) := by decide +kernel
theorem dX9_shipFor_9 : decode cX9_shipFor 9 = .ok (.if_icmp .ge 102, 3) := by decide +kernel
theorem dX9_shipFor_12 : decode cX9_shipFor 12 = .ok (.aload_n 0, 1) := by decide +kernel
theorem dX9_shipFor_13 : decode cX9_shipFor 13 = .ok (.getfield 62, 3) := by decide +kernel
theorem dX9_shipFor_16 : decode cX9_shipFor 16 = .ok (.iload_n 3, 1) := by decide +kernel
theorem dX9_shipFor_17 : decode cX9_shipFor 17 = .ok (.iaload, 1) := by decide +kernel
theorem dX9_shipFor_18 : decode cX9_shipFor 18 = .ok (.aload_n 0, 1) := by decide +kernel
theorem dX9_shipFor_19 : decode cX9_shipFor 19 = .ok (.getfield 62, 3) := by decide +kernel
theorem dX9_shipFor_22 : decode cX9_shipFor 22 = .ok (.iload_n 1, 1) := by decide +kernel
theorem dX9_shipFor_23 : decode cX9_shipFor 23 = .ok (.iaload, 1) := by decide +kernel
theorem dX9_shipFor_24 : decode cX9_shipFor 24 = .ok (.isub, 1) := by decide +kernel
theorem dX9_shipFor_25 : decode cX9_shipFor 25 = .ok (.invokestatic 161, 3) := by decide +kernel
theorem dX9_shipFor_28 : decode cX9_shipFor 28 = .ok (.istore 4, 2) := by decide +kernel
theorem dX9_shipFor_30 : decode cX9_shipFor 30 = .ok (.aload_n 0, 1) := by decide +kernel
theorem dX9_shipFor_31 : decode cX9_shipFor 31 = .ok (.getfield 71, 3) := by decide +kernel
theorem dX9_shipFor_34 : decode cX9_shipFor 34 = .ok (.iload_n 3, 1) := by decide +kernel
theorem dX9_shipFor_35 : decode cX9_shipFor 35 = .ok (.iaload, 1) := by decide +kernel
theorem dX9_shipFor_36 : decode cX9_shipFor 36 = .ok (.iconst (-1), 1) := by decide +kernel
theorem dX9_shipFor_37 : decode cX9_shipFor 37 = .ok (.if_icmp .ne 28, 3) := by decide +kernel
theorem dX9_shipFor_40 : decode cX9_shipFor 40 = .ok (.aload_n 0, 1) := by decide +kernel
theorem dX9_shipFor_41 : decode cX9_shipFor 41 = .ok (.getfield 65, 3) := by decide +kernel
theorem dX9_shipFor_44 : decode cX9_shipFor 44 = .ok (.iload_n 3, 1) := by decide +kernel
theorem dX9_shipFor_45 : decode cX9_shipFor 45 = .ok (.iaload, 1) := by decide +kernel
theorem dX9_shipFor_46 : decode cX9_shipFor 46 = .ok (.aload_n 0, 1) := by decide +kernel
theorem dX9_shipFor_47 : decode cX9_shipFor 47 = .ok (.getfield 65, 3) := by decide +kernel
theorem dX9_shipFor_50 : decode cX9_shipFor 50 = .ok (.iload_n 1, 1) := by decide +kernel
theorem dX9_shipFor_51 : decode cX9_shipFor 51 = .ok (.iaload, 1) := by decide +kernel
theorem dX9_shipFor_52 : decode cX9_shipFor 52 = .ok (.if_icmp .ne 13, 3) := by decide +kernel
theorem dX9_shipFor_55 : decode cX9_shipFor 55 = .ok (.iload 4, 2) := by decide +kernel
theorem dX9_shipFor_57 : decode cX9_shipFor 57 = .ok (.iconst 2, 1) := by decide +kernel
theorem dX9_shipFor_58 : decode cX9_shipFor 58 = .ok (.if_icmp .gt 7, 3) := by decide +kernel
theorem dX9_shipFor_61 : decode cX9_shipFor 61 = .ok (.iconst 1, 1) := by decide +kernel
theorem dX9_shipFor_62 : decode cX9_shipFor 62 = .ok (.goto 4, 3) := by decide +kernel
theorem dX9_shipFor_65 : decode cX9_shipFor 65 = .ok (.iconst 0, 1) := by decide +kernel
theorem dX9_shipFor_66 : decode cX9_shipFor 66 = .ok (.istore 5, 2) := by decide +kernel
theorem dX9_shipFor_68 : decode cX9_shipFor 68 = .ok (.iload 5, 2) := by decide +kernel
theorem dX9_shipFor_70 : decode cX9_shipFor 70 = .ok (.ifCond .eq 33, 3) := by decide +kernel
theorem dX9_shipFor_73 : decode cX9_shipFor 73 = .ok (.iload_n 2, 1) := by decide +kernel
theorem dX9_shipFor_74 : decode cX9_shipFor 74 = .ok (.iconst (-1), 1) := by decide +kernel
theorem dX9_shipFor_75 : decode cX9_shipFor 75 = .ok (.if_icmp .eq 24, 3) := by decide +kernel
theorem dX9_shipFor_78 : decode cX9_shipFor 78 = .ok (.iload 4, 2) := by decide +kernel
theorem dX9_shipFor_80 : decode cX9_shipFor 80 = .ok (.aload_n 0, 1) := by decide +kernel
theorem dX9_shipFor_81 : decode cX9_shipFor 81 = .ok (.getfield 62, 3) := by decide +kernel
theorem dX9_shipFor_84 : decode cX9_shipFor 84 = .ok (.iload_n 2, 1) := by decide +kernel
theorem dX9_shipFor_85 : decode cX9_shipFor 85 = .ok (.iaload, 1) := by decide +kernel
theorem dX9_shipFor_86 : decode cX9_shipFor 86 = .ok (.aload_n 0, 1) := by decide +kernel
theorem dX9_shipFor_87 : decode cX9_shipFor 87 = .ok (.getfield 62, 3) := by decide +kernel
theorem dX9_shipFor_90 : decode cX9_shipFor 90 = .ok (.iload_n 1, 1) := by decide +kernel
theorem dX9_shipFor_91 : decode cX9_shipFor 91 = .ok (.iaload, 1) := by decide +kernel
theorem dX9_shipFor_92 : decode cX9_shipFor 92 = .ok (.isub, 1) := by decide +kernel
theorem dX9_shipFor_93 : decode cX9_shipFor 93 = .ok (.invokestatic 161, 3) := by decide +kernel
theorem dX9_shipFor_96 : decode cX9_shipFor 96 = .ok (.if_icmp .ge 7, 3) := by decide +kernel
theorem dX9_shipFor_99 : decode cX9_shipFor 99 = .ok (.iload_n 3, 1) := by decide +kernel
theorem dX9_shipFor_100 : decode cX9_shipFor 100 = .ok (.goto 4, 3) := by decide +kernel
theorem dX9_shipFor_103 : decode cX9_shipFor 103 = .ok (.iload_n 2, 1) := by decide +kernel
theorem dX9_shipFor_104 : decode cX9_shipFor 104 = .ok (.istore_n 2, 1) := by decide +kernel
theorem dX9_shipFor_105 : decode cX9_shipFor 105 = .ok (.iinc 3 1, 3) := by decide +kernel
theorem dX9_shipFor_108 : decode cX9_shipFor 108 = .ok (.goto (-104), 3) := by decide +kernel
theorem dX9_shipFor_111 : decode cX9_shipFor 111 = .ok (.iload_n 2, 1) := by decide +kernel
theorem dX9_shipFor_112 : decode cX9_shipFor 112 = .ok (.ireturn, 1) := by decide +kernel
theorem dX9_calibrate_0 : decode cX9_calibrate 0 = .ok (.aload_n 0, 1) := by decide +kernel
theorem dX9_calibrate_1 : decode cX9_calibrate 1 = .ok (.iload_n 1, 1) := by decide +kernel
theorem dX9_calibrate_2 : decode cX9_calibrate 2 = .ok (.invokevirtual 164, 3) := by decide +kernel
theorem dX9_calibrate_5 : decode cX9_calibrate 5 = .ok (.ifCond .ne 10, 3) := by decide +kernel
theorem dX9_calibrate_8 : decode cX9_calibrate 8 = .ok (.aload_n 0, 1) := by decide +kernel
theorem dX9_calibrate_9 : decode cX9_calibrate 9 = .ok (.iconst 1, 1) := by decide +kernel
theorem dX9_calibrate_10 : decode cX9_calibrate 10 = .ok (.putfield 96, 3) := by decide +kernel
theorem dX9_calibrate_13 : decode cX9_calibrate 13 = .ok (.iconst 0, 1) := by decide +kernel
theorem dX9_calibrate_14 : decode cX9_calibrate 14 = .ok (.ireturn, 1) := by decide +kernel
theorem dX9_calibrate_15 : decode cX9_calibrate 15 = .ok (.aload_n 0, 1) := by decide +kernel
theorem dX9_calibrate_16 : decode cX9_calibrate 16 = .ok (.iconst 2, 1) := by decide +kernel
theorem dX9_calibrate_17 : decode cX9_calibrate 17 = .ok (.putfield 96, 3) := by decide +kernel
theorem dX9_calibrate_20 : decode cX9_calibrate 20 = .ok (.aload_n 0, 1) := by decide +kernel
theorem dX9_calibrate_21 : decode cX9_calibrate 21 = .ok (.getfield 106, 3) := by decide +kernel
theorem dX9_calibrate_24 : decode cX9_calibrate 24 = .ok (.iconst 1, 1) := by decide +kernel
theorem dX9_calibrate_25 : decode cX9_calibrate 25 = .ok (.isub, 1) := by decide +kernel
theorem dX9_calibrate_26 : decode cX9_calibrate 26 = .ok (.istore_n 2, 1) := by decide +kernel
theorem dX9_calibrate_27 : decode cX9_calibrate 27 = .ok (.iload_n 2, 1) := by decide +kernel
theorem dX9_calibrate_28 : decode cX9_calibrate 28 = .ok (.ifCond .lt 65, 3) := by decide +kernel
theorem dX9_calibrate_31 : decode cX9_calibrate 31 = .ok (.aload_n 0, 1) := by decide +kernel
theorem dX9_calibrate_32 : decode cX9_calibrate 32 = .ok (.getfield 96, 3) := by decide +kernel
theorem dX9_calibrate_35 : decode cX9_calibrate 35 = .ok (.ifCond .le 58, 3) := by decide +kernel
theorem dX9_calibrate_38 : decode cX9_calibrate 38 = .ok (.aload_n 0, 1) := by decide +kernel
theorem dX9_calibrate_39 : decode cX9_calibrate 39 = .ok (.getfield 71, 3) := by decide +kernel
theorem dX9_calibrate_42 : decode cX9_calibrate 42 = .ok (.iload_n 2, 1) := by decide +kernel
theorem dX9_calibrate_43 : decode cX9_calibrate 43 = .ok (.iaload, 1) := by decide +kernel
theorem dX9_calibrate_44 : decode cX9_calibrate 44 = .ok (.iload_n 1, 1) := by decide +kernel
theorem dX9_calibrate_45 : decode cX9_calibrate 45 = .ok (.if_icmp .ne 11, 3) := by decide +kernel
theorem dX9_calibrate_48 : decode cX9_calibrate 48 = .ok (.aload_n 0, 1) := by decide +kernel
theorem dX9_calibrate_49 : decode cX9_calibrate 49 = .ok (.iload_n 2, 1) := by decide +kernel
theorem dX9_calibrate_50 : decode cX9_calibrate 50 = .ok (.invokevirtual 167, 3) := by decide +kernel
theorem dX9_calibrate_53 : decode cX9_calibrate 53 = .ok (.goto 4, 3) := by decide +kernel
theorem dX9_calibrate_56 : decode cX9_calibrate 56 = .ok (.iconst (-1), 1) := by decide +kernel
theorem dX9_calibrate_57 : decode cX9_calibrate 57 = .ok (.istore_n 3, 1) := by decide +kernel
theorem dX9_calibrate_58 : decode cX9_calibrate 58 = .ok (.iload_n 3, 1) := by decide +kernel
theorem dX9_calibrate_59 : decode cX9_calibrate 59 = .ok (.iconst (-1), 1) := by decide +kernel
theorem dX9_calibrate_60 : decode cX9_calibrate 60 = .ok (.if_icmp .eq 27, 3) := by decide +kernel
theorem dX9_calibrate_63 : decode cX9_calibrate 63 = .ok (.aload_n 0, 1) := by decide +kernel
theorem dX9_calibrate_64 : decode cX9_calibrate 64 = .ok (.getfield 47, 3) := by decide +kernel
theorem dX9_calibrate_67 : decode cX9_calibrate 67 = .ok (.iload_n 1, 1) := by decide +kernel
theorem dX9_calibrate_68 : decode cX9_calibrate 68 = .ok (.aload_n 0, 1) := by decide +kernel
theorem dX9_calibrate_69 : decode cX9_calibrate 69 = .ok (.getfield 68, 3) := by decide +kernel
theorem dX9_calibrate_72 : decode cX9_calibrate 72 = .ok (.iload_n 2, 1) := by decide +kernel
theorem dX9_calibrate_73 : decode cX9_calibrate 73 = .ok (.iaload, 1) := by decide +kernel
theorem dX9_calibrate_74 : decode cX9_calibrate 74 = .ok (.aload_n 0, 1) := by decide +kernel
theorem dX9_calibrate_75 : decode cX9_calibrate 75 = .ok (.getfield 68, 3) := by decide +kernel
theorem dX9_calibrate_78 : decode cX9_calibrate 78 = .ok (.iload_n 3, 1) := by decide +kernel
theorem dX9_calibrate_79 : decode cX9_calibrate 79 = .ok (.iaload, 1) := by decide +kernel
theorem dX9_calibrate_80 : decode cX9_calibrate 80 = .ok (.isub, 1) := by decide +kernel
theorem dX9_calibrate_81 : decode cX9_calibrate 81 = .ok (.iastore, 1) := by decide +kernel
theorem dX9_calibrate_82 : decode cX9_calibrate 82 = .ok (.aload_n 0, 1) := by decide +kernel
theorem dX9_calibrate_83 : decode cX9_calibrate 83 = .ok (.iconst 0, 1) := by decide +kernel
theorem dX9_calibrate_84 : decode cX9_calibrate 84 = .ok (.putfield 96, 3) := by decide +kernel
theorem dX9_calibrate_87 : decode cX9_calibrate 87 = .ok (.iinc 2 (-1), 3) := by decide +kernel
theorem dX9_calibrate_90 : decode cX9_calibrate 90 = .ok (.goto (-63), 3) := by decide +kernel
theorem dX9_calibrate_93 : decode cX9_calibrate 93 = .ok (.aload_n 0, 1) := by decide +kernel
theorem dX9_calibrate_94 : decode cX9_calibrate 94 = .ok (.getfield 96, 3) := by decide +kernel
theorem dX9_calibrate_97 : decode cX9_calibrate 97 = .ok (.ifCond .le 7, 3) := by decide +kernel
theorem dX9_calibrate_100 : decode cX9_calibrate 100 = .ok (.iconst 0, 1) := by decide +kernel
theorem dX9_calibrate_101 : decode cX9_calibrate 101 = .ok (.goto 9, 3) := by decide +kernel
theorem dX9_calibrate_104 : decode cX9_calibrate 104 = .ok (.aload_n 0, 1) := by decide +kernel
theorem dX9_calibrate_105 : decode cX9_calibrate 105 = .ok (.getfield 47, 3) := by decide +kernel
theorem dX9_calibrate_108 : decode cX9_calibrate 108 = .ok (.iload_n 1, 1) := by decide +kernel
theorem dX9_calibrate_109 : decode cX9_calibrate 109 = .ok (.iaload, 1) := by decide +kernel
theorem dX9_calibrate_110 : decode cX9_calibrate 110 = .ok (.ireturn, 1) := by decide +kernel
theorem dX9_corrected_0 : decode cX9_corrected 0 = .ok (.aload_n 0, 1) := by decide +kernel
theorem dX9_corrected_1 : decode cX9_corrected 1 = .ok (.getfield 71, 3) := by decide +kernel
theorem dX9_corrected_4 : decode cX9_corrected 4 = .ok (.iload_n 1, 1) := by decide +kernel
theorem dX9_corrected_5 : decode cX9_corrected 5 = .ok (.iaload, 1) := by decide +kernel
theorem dX9_corrected_6 : decode cX9_corrected 6 = .ok (.iconst (-1), 1) := by decide +kernel
theorem dX9_corrected_7 : decode cX9_corrected 7 = .ok (.if_icmp .ne 12, 3) := by decide +kernel
theorem dX9_corrected_10 : decode cX9_corrected 10 = .ok (.aload_n 0, 1) := by decide +kernel
theorem dX9_corrected_11 : decode cX9_corrected 11 = .ok (.getfield 68, 3) := by decide +kernel
theorem dX9_corrected_14 : decode cX9_corrected 14 = .ok (.iload_n 1, 1) := by decide +kernel
theorem dX9_corrected_15 : decode cX9_corrected 15 = .ok (.iaload, 1) := by decide +kernel
theorem dX9_corrected_16 : decode cX9_corrected 16 = .ok (.goto 21, 3) := by decide +kernel
theorem dX9_corrected_19 : decode cX9_corrected 19 = .ok (.aload_n 0, 1) := by decide +kernel
theorem dX9_corrected_20 : decode cX9_corrected 20 = .ok (.getfield 68, 3) := by decide +kernel
theorem dX9_corrected_23 : decode cX9_corrected 23 = .ok (.iload_n 1, 1) := by decide +kernel
theorem dX9_corrected_24 : decode cX9_corrected 24 = .ok (.iaload, 1) := by decide +kernel
theorem dX9_corrected_25 : decode cX9_corrected 25 = .ok (.aload_n 0, 1) := by decide +kernel
theorem dX9_corrected_26 : decode cX9_corrected 26 = .ok (.getfield 47, 3) := by decide +kernel
theorem dX9_corrected_29 : decode cX9_corrected 29 = .ok (.aload_n 0, 1) := by decide +kernel
theorem dX9_corrected_30 : decode cX9_corrected 30 = .ok (.getfield 71, 3) := by decide +kernel
theorem dX9_corrected_33 : decode cX9_corrected 33 = .ok (.iload_n 1, 1) := by decide +kernel
theorem dX9_corrected_34 : decode cX9_corrected 34 = .ok (.iaload, 1) := by decide +kernel
theorem dX9_corrected_35 : decode cX9_corrected 35 = .ok (.iaload, 1) := by decide +kernel
theorem dX9_corrected_36 : decode cX9_corrected 36 = .ok (.isub, 1) := by decide +kernel
theorem dX9_corrected_37 : decode cX9_corrected 37 = .ok (.ireturn, 1) := by decide +kernel
theorem dX9_flagOf_0 : decode cX9_flagOf 0 = .ok (.aload_n 0, 1) := by decide +kernel
theorem dX9_flagOf_1 : decode cX9_flagOf 1 = .ok (.getfield 74, 3) := by decide +kernel
theorem dX9_flagOf_4 : decode cX9_flagOf 4 = .ok (.iload_n 1, 1) := by decide +kernel
theorem dX9_flagOf_5 : decode cX9_flagOf 5 = .ok (.iaload, 1) := by decide +kernel
theorem dX9_flagOf_6 : decode cX9_flagOf 6 = .ok (.iconst (-1), 1) := by decide +kernel
theorem dX9_flagOf_7 : decode cX9_flagOf 7 = .ok (.if_icmp .ne 13, 3) := by decide +kernel
theorem dX9_flagOf_10 : decode cX9_flagOf 10 = .ok (.aload_n 0, 1) := by decide +kernel
theorem dX9_flagOf_11 : decode cX9_flagOf 11 = .ok (.getfield 71, 3) := by decide +kernel
theorem dX9_flagOf_14 : decode cX9_flagOf 14 = .ok (.iload_n 1, 1) := by decide +kernel
theorem dX9_flagOf_15 : decode cX9_flagOf 15 = .ok (.iaload, 1) := by decide +kernel
theorem dX9_flagOf_16 : decode cX9_flagOf 16 = .ok (.iconst (-1), 1) := by decide +kernel
theorem dX9_flagOf_17 : decode cX9_flagOf 17 = .ok (.if_icmp .ne 24, 3) := by decide +kernel
theorem dX9_flagOf_20 : decode cX9_flagOf 20 = .ok (.aload_n 0, 1) := by decide +kernel
theorem dX9_flagOf_21 : decode cX9_flagOf 21 = .ok (.getfield 74, 3) := by decide +kernel
theorem dX9_flagOf_24 : decode cX9_flagOf 24 = .ok (.iload_n 1, 1) := by decide +kernel
theorem dX9_flagOf_25 : decode cX9_flagOf 25 = .ok (.iaload, 1) := by decide +kernel
theorem dX9_flagOf_26 : decode cX9_flagOf 26 = .ok (.iconst (-1), 1) := by decide +kernel
theorem dX9_flagOf_27 : decode cX9_flagOf 27 = .ok (.if_icmp .eq 12, 3) := by decide +kernel
theorem dX9_flagOf_30 : decode cX9_flagOf 30 = .ok (.aload_n 0, 1) := by decide +kernel
theorem dX9_flagOf_31 : decode cX9_flagOf 31 = .ok (.getfield 74, 3) := by decide +kernel
theorem dX9_flagOf_34 : decode cX9_flagOf 34 = .ok (.iload_n 1, 1) := by decide +kernel
theorem dX9_flagOf_35 : decode cX9_flagOf 35 = .ok (.iaload, 1) := by decide +kernel
theorem dX9_flagOf_36 : decode cX9_flagOf 36 = .ok (.goto 4, 3) := by decide +kernel
theorem dX9_flagOf_39 : decode cX9_flagOf 39 = .ok (.iconst 0, 1) := by decide +kernel
theorem dX9_flagOf_40 : decode cX9_flagOf 40 = .ok (.ireturn, 1) := by decide +kernel
theorem dX9_flagOf_41 : decode cX9_flagOf 41 = .ok (.iconst (-1), 1) := by decide +kernel
theorem dX9_flagOf_42 : decode cX9_flagOf 42 = .ok (.istore_n 2, 1) := by decide +kernel
theorem dX9_flagOf_43 : decode cX9_flagOf 43 = .ok (.iconst (-1), 1) := by decide +kernel
theorem dX9_flagOf_44 : decode cX9_flagOf 44 = .ok (.istore_n 3, 1) := by decide +kernel
theorem dX9_flagOf_45 : decode cX9_flagOf 45 = .ok (.iconst 0, 1) := by decide +kernel
theorem dX9_flagOf_46 : decode cX9_flagOf 46 = .ok (.istore 4, 2) := by decide +kernel
theorem dX9_flagOf_48 : decode cX9_flagOf 48 = .ok (.iload 4, 2) := by decide +kernel
theorem dX9_flagOf_50 : decode cX9_flagOf 50 = .ok (.aload_n 0, 1) := by decide +kernel
theorem dX9_flagOf_51 : decode cX9_flagOf 51 = .ok (.getfield 106, 3) := by decide +kernel
theorem dX9_flagOf_54 : decode cX9_flagOf 54 = .ok (.if_icmp .ge 72, 3) := by decide +kernel
theorem dX9_flagOf_57 : decode cX9_flagOf 57 = .ok (.iload 4, 2) := by decide +kernel
theorem dX9_flagOf_59 : decode cX9_flagOf 59 = .ok (.iload_n 1, 1) := by decide +kernel
theorem dX9_flagOf_60 : decode cX9_flagOf 60 = .ok (.if_icmp .ge 24, 3) := by decide +kernel
theorem dX9_flagOf_63 : decode cX9_flagOf 63 = .ok (.aload_n 0, 1) := by decide +kernel
theorem dX9_flagOf_64 : decode cX9_flagOf 64 = .ok (.getfield 71, 3) := by decide +kernel
theorem dX9_flagOf_67 : decode cX9_flagOf 67 = .ok (.iload 4, 2) := by decide +kernel
theorem dX9_flagOf_69 : decode cX9_flagOf 69 = .ok (.iaload, 1) := by decide +kernel
theorem dX9_flagOf_70 : decode cX9_flagOf 70 = .ok (.aload_n 0, 1) := by decide +kernel
theorem dX9_flagOf_71 : decode cX9_flagOf 71 = .ok (.getfield 71, 3) := by decide +kernel
theorem dX9_flagOf_74 : decode cX9_flagOf 74 = .ok (.iload_n 1, 1) := by decide +kernel
theorem dX9_flagOf_75 : decode cX9_flagOf 75 = .ok (.iaload, 1) := by decide +kernel
theorem dX9_flagOf_76 : decode cX9_flagOf 76 = .ok (.if_icmp .ne 8, 3) := by decide +kernel
theorem dX9_flagOf_79 : decode cX9_flagOf 79 = .ok (.iload 4, 2) := by decide +kernel
theorem dX9_flagOf_81 : decode cX9_flagOf 81 = .ok (.goto 4, 3) := by decide +kernel
theorem dX9_flagOf_84 : decode cX9_flagOf 84 = .ok (.iload_n 2, 1) := by decide +kernel
theorem dX9_flagOf_85 : decode cX9_flagOf 85 = .ok (.istore_n 2, 1) := by decide +kernel
theorem dX9_flagOf_86 : decode cX9_flagOf 86 = .ok (.iload 4, 2) := by decide +kernel
theorem dX9_flagOf_88 : decode cX9_flagOf 88 = .ok (.iload_n 1, 1) := by decide +kernel
theorem dX9_flagOf_89 : decode cX9_flagOf 89 = .ok (.if_icmp .le 29, 3) := by decide +kernel
theorem dX9_flagOf_92 : decode cX9_flagOf 92 = .ok (.iload_n 3, 1) := by decide +kernel
theorem dX9_flagOf_93 : decode cX9_flagOf 93 = .ok (.iconst (-1), 1) := by decide +kernel
theorem dX9_flagOf_94 : decode cX9_flagOf 94 = .ok (.if_icmp .ne 24, 3) := by decide +kernel
theorem dX9_flagOf_97 : decode cX9_flagOf 97 = .ok (.aload_n 0, 1) := by decide +kernel
theorem dX9_flagOf_98 : decode cX9_flagOf 98 = .ok (.getfield 71, 3) := by decide +kernel
theorem dX9_flagOf_101 : decode cX9_flagOf 101 = .ok (.iload 4, 2) := by decide +kernel
theorem dX9_flagOf_103 : decode cX9_flagOf 103 = .ok (.iaload, 1) := by decide +kernel
theorem dX9_flagOf_104 : decode cX9_flagOf 104 = .ok (.aload_n 0, 1) := by decide +kernel
theorem dX9_flagOf_105 : decode cX9_flagOf 105 = .ok (.getfield 71, 3) := by decide +kernel
theorem dX9_flagOf_108 : decode cX9_flagOf 108 = .ok (.iload_n 1, 1) := by decide +kernel
theorem dX9_flagOf_109 : decode cX9_flagOf 109 = .ok (.iaload, 1) := by decide +kernel
theorem dX9_flagOf_110 : decode cX9_flagOf 110 = .ok (.if_icmp .ne 8, 3) := by decide +kernel
theorem dX9_flagOf_113 : decode cX9_flagOf 113 = .ok (.iload 4, 2) := by decide +kernel
theorem dX9_flagOf_115 : decode cX9_flagOf 115 = .ok (.goto 4, 3) := by decide +kernel
theorem dX9_flagOf_118 : decode cX9_flagOf 118 = .ok (.iload_n 3, 1) := by decide +kernel
theorem dX9_flagOf_119 : decode cX9_flagOf 119 = .ok (.istore_n 3, 1) := by decide +kernel
theorem dX9_flagOf_120 : decode cX9_flagOf 120 = .ok (.iinc 4 1, 3) := by decide +kernel
theorem dX9_flagOf_123 : decode cX9_flagOf 123 = .ok (.goto (-75), 3) := by decide +kernel
theorem dX9_flagOf_126 : decode cX9_flagOf 126 = .ok (.iload_n 2, 1) := by decide +kernel
theorem dX9_flagOf_127 : decode cX9_flagOf 127 = .ok (.iconst (-1), 1) := by decide +kernel
theorem dX9_flagOf_128 : decode cX9_flagOf 128 = .ok (.if_icmp .eq 8, 3) := by decide +kernel
theorem dX9_flagOf_131 : decode cX9_flagOf 131 = .ok (.iload_n 3, 1) := by decide +kernel
theorem dX9_flagOf_132 : decode cX9_flagOf 132 = .ok (.iconst (-1), 1) := by decide +kernel
theorem dX9_flagOf_133 : decode cX9_flagOf 133 = .ok (.if_icmp .ne 5, 3) := by decide +kernel
theorem dX9_flagOf_136 : decode cX9_flagOf 136 = .ok (.iconst 0, 1) := by decide +kernel
theorem dX9_flagOf_137 : decode cX9_flagOf 137 = .ok (.ireturn, 1) := by decide +kernel
theorem dX9_flagOf_138 : decode cX9_flagOf 138 = .ok (.aload_n 0, 1) := by decide +kernel
theorem dX9_flagOf_139 : decode cX9_flagOf 139 = .ok (.iload_n 1, 1) := by decide +kernel
theorem dX9_flagOf_140 : decode cX9_flagOf 140 = .ok (.invokevirtual 170, 3) := by decide +kernel
theorem dX9_flagOf_143 : decode cX9_flagOf 143 = .ok (.aload_n 0, 1) := by decide +kernel
theorem dX9_flagOf_144 : decode cX9_flagOf 144 = .ok (.iload_n 2, 1) := by decide +kernel
theorem dX9_flagOf_145 : decode cX9_flagOf 145 = .ok (.invokevirtual 170, 3) := by decide +kernel
theorem dX9_flagOf_148 : decode cX9_flagOf 148 = .ok (.isub, 1) := by decide +kernel
theorem dX9_flagOf_149 : decode cX9_flagOf 149 = .ok (.istore 4, 2) := by decide +kernel
theorem dX9_flagOf_151 : decode cX9_flagOf 151 = .ok (.aload_n 0, 1) := by decide +kernel
theorem dX9_flagOf_152 : decode cX9_flagOf 152 = .ok (.iload_n 1, 1) := by decide +kernel
theorem dX9_flagOf_153 : decode cX9_flagOf 153 = .ok (.invokevirtual 170, 3) := by decide +kernel
theorem dX9_flagOf_156 : decode cX9_flagOf 156 = .ok (.aload_n 0, 1) := by decide +kernel
theorem dX9_flagOf_157 : decode cX9_flagOf 157 = .ok (.iload_n 3, 1) := by decide +kernel
theorem dX9_flagOf_158 : decode cX9_flagOf 158 = .ok (.invokevirtual 170, 3) := by decide +kernel
theorem dX9_flagOf_161 : decode cX9_flagOf 161 = .ok (.isub, 1) := by decide +kernel
theorem dX9_flagOf_162 : decode cX9_flagOf 162 = .ok (.istore 5, 2) := by decide +kernel
theorem dX9_flagOf_164 : decode cX9_flagOf 164 = .ok (.iload 4, 2) := by decide +kernel
theorem dX9_flagOf_166 : decode cX9_flagOf 166 = .ok (.aload_n 0, 1) := by decide +kernel
theorem dX9_flagOf_167 : decode cX9_flagOf 167 = .ok (.getfield 77, 3) := by decide +kernel
theorem dX9_flagOf_170 : decode cX9_flagOf 170 = .ok (.if_icmp .le 12, 3) := by decide +kernel
theorem dX9_flagOf_173 : decode cX9_flagOf 173 = .ok (.iload 5, 2) := by decide +kernel
theorem dX9_flagOf_175 : decode cX9_flagOf 175 = .ok (.aload_n 0, 1) := by decide +kernel
theorem dX9_flagOf_176 : decode cX9_flagOf 176 = .ok (.getfield 77, 3) := by decide +kernel
theorem dX9_flagOf_179 : decode cX9_flagOf 179 = .ok (.if_icmp .gt 23, 3) := by decide +kernel
theorem dX9_flagOf_182 : decode cX9_flagOf 182 = .ok (.iload 4, 2) := by decide +kernel
theorem dX9_flagOf_184 : decode cX9_flagOf 184 = .ok (.aload_n 0, 1) := by decide +kernel
theorem dX9_flagOf_185 : decode cX9_flagOf 185 = .ok (.getfield 77, 3) := by decide +kernel
theorem dX9_flagOf_188 : decode cX9_flagOf 188 = .ok (.ineg, 1) := by decide +kernel
theorem dX9_flagOf_189 : decode cX9_flagOf 189 = .ok (.if_icmp .ge 17, 3) := by decide +kernel
theorem dX9_flagOf_192 : decode cX9_flagOf 192 = .ok (.iload 5, 2) := by decide +kernel
theorem dX9_flagOf_194 : decode cX9_flagOf 194 = .ok (.aload_n 0, 1) := by decide +kernel
theorem dX9_flagOf_195 : decode cX9_flagOf 195 = .ok (.getfield 77, 3) := by decide +kernel
theorem dX9_flagOf_198 : decode cX9_flagOf 198 = .ok (.ineg, 1) := by decide +kernel
theorem dX9_flagOf_199 : decode cX9_flagOf 199 = .ok (.if_icmp .ge 7, 3) := by decide +kernel
theorem dX9_flagOf_202 : decode cX9_flagOf 202 = .ok (.iconst 1, 1) := by decide +kernel
theorem dX9_flagOf_203 : decode cX9_flagOf 203 = .ok (.goto 4, 3) := by decide +kernel
theorem dX9_flagOf_206 : decode cX9_flagOf 206 = .ok (.iconst 0, 1) := by decide +kernel
theorem dX9_flagOf_207 : decode cX9_flagOf 207 = .ok (.ireturn, 1) := by decide +kernel
theorem dX9_flag_0 : decode cX9_flag 0 = .ok (.aload_n 0, 1) := by decide +kernel
theorem dX9_flag_1 : decode cX9_flag 1 = .ok (.aload_n 0, 1) := by decide +kernel
theorem dX9_flag_2 : decode cX9_flag 2 = .ok (.iload_n 1, 1) := by decide +kernel
theorem dX9_flag_3 : decode cX9_flag 3 = .ok (.invokevirtual 173, 3) := by decide +kernel
theorem dX9_flag_6 : decode cX9_flag 6 = .ok (.ifCond .ne 7, 3) := by decide +kernel
theorem dX9_flag_9 : decode cX9_flag 9 = .ok (.iconst 1, 1) := by decide +kernel
theorem dX9_flag_10 : decode cX9_flag 10 = .ok (.goto 17, 3) := by decide +kernel
theorem dX9_flag_13 : decode cX9_flag 13 = .ok (.iload_n 2, 1) := by decide +kernel
theorem dX9_flag_14 : decode cX9_flag 14 = .ok (.iconst (-1), 1) := by decide +kernel
theorem dX9_flag_15 : decode cX9_flag 15 = .ok (.iconst 2, 1) := by decide +kernel
theorem dX9_flag_16 : decode cX9_flag 16 = .ok (.invokestatic 99, 3) := by decide +kernel
theorem dX9_flag_19 : decode cX9_flag 19 = .ok (.ifCond .ne 7, 3) := by decide +kernel
theorem dX9_flag_22 : decode cX9_flag 22 = .ok (.iconst 2, 1) := by decide +kernel
theorem dX9_flag_23 : decode cX9_flag 23 = .ok (.goto 4, 3) := by decide +kernel
theorem dX9_flag_26 : decode cX9_flag 26 = .ok (.iconst 0, 1) := by decide +kernel
theorem dX9_flag_27 : decode cX9_flag 27 = .ok (.putfield 96, 3) := by decide +kernel
theorem dX9_flag_30 : decode cX9_flag 30 = .ok (.aload_n 0, 1) := by decide +kernel
theorem dX9_flag_31 : decode cX9_flag 31 = .ok (.getfield 96, 3) := by decide +kernel
theorem dX9_flag_34 : decode cX9_flag 34 = .ok (.ifCond .le 5, 3) := by decide +kernel
theorem dX9_flag_37 : decode cX9_flag 37 = .ok (.iconst 0, 1) := by decide +kernel
theorem dX9_flag_38 : decode cX9_flag 38 = .ok (.ireturn, 1) := by decide +kernel
theorem dX9_flag_39 : decode cX9_flag 39 = .ok (.aload_n 0, 1) := by decide +kernel
theorem dX9_flag_40 : decode cX9_flag 40 = .ok (.iload_n 1, 1) := by decide +kernel
theorem dX9_flag_41 : decode cX9_flag 41 = .ok (.invokevirtual 176, 3) := by decide +kernel
theorem dX9_flag_44 : decode cX9_flag 44 = .ok (.istore_n 3, 1) := by decide +kernel
theorem dX9_flag_45 : decode cX9_flag 45 = .ok (.aload_n 0, 1) := by decide +kernel
theorem dX9_flag_46 : decode cX9_flag 46 = .ok (.getfield 74, 3) := by decide +kernel
theorem dX9_flag_49 : decode cX9_flag 49 = .ok (.iload_n 1, 1) := by decide +kernel
theorem dX9_flag_50 : decode cX9_flag 50 = .ok (.iload_n 2, 1) := by decide +kernel
theorem dX9_flag_51 : decode cX9_flag 51 = .ok (.iastore, 1) := by decide +kernel
theorem dX9_flag_52 : decode cX9_flag 52 = .ok (.iload_n 3, 1) := by decide +kernel
theorem dX9_flag_53 : decode cX9_flag 53 = .ok (.ireturn, 1) := by decide +kernel
theorem dX9_bound_0 : decode cX9_bound 0 = .ok (.aload_n 0, 1) := by decide +kernel
theorem dX9_bound_1 : decode cX9_bound 1 = .ok (.iload_n 1, 1) := by decide +kernel
theorem dX9_bound_2 : decode cX9_bound 2 = .ok (.iconst 0, 1) := by decide +kernel
theorem dX9_bound_3 : decode cX9_bound 3 = .ok (.sipush 1000, 3) := by decide +kernel
theorem dX9_bound_6 : decode cX9_bound 6 = .ok (.invokestatic 99, 3) := by decide +kernel
theorem dX9_bound_9 : decode cX9_bound 9 = .ok (.ifCond .eq 7, 3) := by decide +kernel
theorem dX9_bound_12 : decode cX9_bound 12 = .ok (.iconst 0, 1) := by decide +kernel
theorem dX9_bound_13 : decode cX9_bound 13 = .ok (.goto 4, 3) := by decide +kernel
theorem dX9_bound_16 : decode cX9_bound 16 = .ok (.iconst 1, 1) := by decide +kernel
theorem dX9_bound_17 : decode cX9_bound 17 = .ok (.putfield 96, 3) := by decide +kernel
theorem dX9_bound_20 : decode cX9_bound 20 = .ok (.aload_n 0, 1) := by decide +kernel
theorem dX9_bound_21 : decode cX9_bound 21 = .ok (.getfield 96, 3) := by decide +kernel
theorem dX9_bound_24 : decode cX9_bound 24 = .ok (.ifCond .le 5, 3) := by decide +kernel
theorem dX9_bound_27 : decode cX9_bound 27 = .ok (.iconst 0, 1) := by decide +kernel
theorem dX9_bound_28 : decode cX9_bound 28 = .ok (.ireturn, 1) := by decide +kernel
theorem dX9_bound_29 : decode cX9_bound 29 = .ok (.aload_n 0, 1) := by decide +kernel
theorem dX9_bound_30 : decode cX9_bound 30 = .ok (.getfield 77, 3) := by decide +kernel
theorem dX9_bound_33 : decode cX9_bound 33 = .ok (.istore_n 2, 1) := by decide +kernel
theorem dX9_bound_34 : decode cX9_bound 34 = .ok (.aload_n 0, 1) := by decide +kernel
theorem dX9_bound_35 : decode cX9_bound 35 = .ok (.iload_n 1, 1) := by decide +kernel
theorem dX9_bound_36 : decode cX9_bound 36 = .ok (.putfield 77, 3) := by decide +kernel
theorem dX9_bound_39 : decode cX9_bound 39 = .ok (.iload_n 2, 1) := by decide +kernel
theorem dX9_bound_40 : decode cX9_bound 40 = .ok (.ireturn, 1) := by decide +kernel
theorem dX9_search_0 : decode cX9_search 0 = .ok (.aload_n 0, 1) := by decide +kernel
theorem dX9_search_1 : decode cX9_search 1 = .ok (.iload_n 1, 1) := by decide +kernel
theorem dX9_search_2 : decode cX9_search 2 = .ok (.invokestatic 116, 3) := by decide +kernel
theorem dX9_search_5 : decode cX9_search 5 = .ok (.ifCond .ne 7, 3) := by decide +kernel
theorem dX9_search_8 : decode cX9_search 8 = .ok (.iconst 1, 1) := by decide +kernel
theorem dX9_search_9 : decode cX9_search 9 = .ok (.goto 25, 3) := by decide +kernel
theorem dX9_search_12 : decode cX9_search 12 = .ok (.aload_n 0, 1) := by decide +kernel
theorem dX9_search_13 : decode cX9_search 13 = .ok (.getfield 7, 3) := by decide +kernel
theorem dX9_search_16 : decode cX9_search 16 = .ok (.iload_n 1, 1) := by decide +kernel
theorem dX9_search_17 : decode cX9_search 17 = .ok (.baload, 1) := by decide +kernel
theorem dX9_search_18 : decode cX9_search 18 = .ok (.ifCond .ne 11, 3) := by decide +kernel
theorem dX9_search_21 : decode cX9_search 21 = .ok (.aload_n 0, 1) := by decide +kernel
theorem dX9_search_22 : decode cX9_search 22 = .ok (.getfield 109, 3) := by decide +kernel
theorem dX9_search_25 : decode cX9_search 25 = .ok (.iconst 4, 1) := by decide +kernel
theorem dX9_search_26 : decode cX9_search 26 = .ok (.if_icmp .ne 7, 3) := by decide +kernel
theorem dX9_search_29 : decode cX9_search 29 = .ok (.iconst 2, 1) := by decide +kernel
theorem dX9_search_30 : decode cX9_search 30 = .ok (.goto 4, 3) := by decide +kernel
theorem dX9_search_33 : decode cX9_search 33 = .ok (.iconst 0, 1) := by decide +kernel
theorem dX9_search_34 : decode cX9_search 34 = .ok (.putfield 96, 3) := by decide +kernel
theorem dX9_search_37 : decode cX9_search 37 = .ok (.aload_n 0, 1) := by decide +kernel
theorem dX9_search_38 : decode cX9_search 38 = .ok (.getfield 96, 3) := by decide +kernel
theorem dX9_search_41 : decode cX9_search 41 = .ok (.ifCond .le 5, 3) := by decide +kernel
theorem dX9_search_44 : decode cX9_search 44 = .ok (.iconst 0, 1) := by decide +kernel
theorem dX9_search_45 : decode cX9_search 45 = .ok (.ireturn, 1) := by decide +kernel
theorem dX9_search_46 : decode cX9_search 46 = .ok (.aload_n 0, 1) := by decide +kernel
theorem dX9_search_47 : decode cX9_search 47 = .ok (.getfield 84, 3) := by decide +kernel
theorem dX9_search_50 : decode cX9_search 50 = .ok (.bipush 60, 2) := by decide +kernel
theorem dX9_search_52 : decode cX9_search 52 = .ok (.aload_n 0, 1) := by decide +kernel
theorem dX9_search_53 : decode cX9_search 53 = .ok (.getfield 109, 3) := by decide +kernel
theorem dX9_search_56 : decode cX9_search 56 = .ok (.imul, 1) := by decide +kernel
theorem dX9_search_57 : decode cX9_search 57 = .ok (.iload_n 1, 1) := by decide +kernel
theorem dX9_search_58 : decode cX9_search 58 = .ok (.iadd, 1) := by decide +kernel
theorem dX9_search_59 : decode cX9_search 59 = .ok (.sipush 10000, 3) := by decide +kernel
theorem dX9_search_62 : decode cX9_search 62 = .ok (.iastore, 1) := by decide +kernel
theorem dX9_search_63 : decode cX9_search 63 = .ok (.aload_n 0, 1) := by decide +kernel
theorem dX9_search_64 : decode cX9_search 64 = .ok (.getfield 81, 3) := by decide +kernel
theorem dX9_search_67 : decode cX9_search 67 = .ok (.aload_n 0, 1) := by decide +kernel
theorem dX9_search_68 : decode cX9_search 68 = .ok (.getfield 109, 3) := by decide +kernel
theorem dX9_search_71 : decode cX9_search 71 = .ok (.iload_n 1, 1) := by decide +kernel
theorem dX9_search_72 : decode cX9_search 72 = .ok (.iastore, 1) := by decide +kernel
theorem dX9_search_73 : decode cX9_search 73 = .ok (.aload_n 0, 1) := by decide +kernel
theorem dX9_search_74 : decode cX9_search 74 = .ok (.dup, 1) := by decide +kernel
theorem dX9_search_75 : decode cX9_search 75 = .ok (.getfield 109, 3) := by decide +kernel
theorem dX9_search_78 : decode cX9_search 78 = .ok (.iconst 1, 1) := by decide +kernel
theorem dX9_search_79 : decode cX9_search 79 = .ok (.iadd, 1) := by decide +kernel
theorem dX9_search_80 : decode cX9_search 80 = .ok (.putfield 109, 3) := by decide +kernel
theorem dX9_search_83 : decode cX9_search 83 = .ok (.aload_n 0, 1) := by decide +kernel
theorem dX9_search_84 : decode cX9_search 84 = .ok (.getfield 109, 3) := by decide +kernel
theorem dX9_search_87 : decode cX9_search 87 = .ok (.iconst 1, 1) := by decide +kernel
theorem dX9_search_88 : decode cX9_search 88 = .ok (.isub, 1) := by decide +kernel
theorem dX9_search_89 : decode cX9_search 89 = .ok (.ireturn, 1) := by decide +kernel
theorem dX9_leg_0 : decode cX9_leg 0 = .ok (.aload_n 0, 1) := by decide +kernel
theorem dX9_leg_1 : decode cX9_leg 1 = .ok (.aload_n 0, 1) := by decide +kernel
theorem dX9_leg_2 : decode cX9_leg 2 = .ok (.iload_n 1, 1) := by decide +kernel
theorem dX9_leg_3 : decode cX9_leg 3 = .ok (.invokevirtual 179, 3) := by decide +kernel
theorem dX9_leg_6 : decode cX9_leg 6 = .ok (.ifCond .eq 10, 3) := by decide +kernel
theorem dX9_leg_9 : decode cX9_leg 9 = .ok (.iload_n 2, 1) := by decide +kernel
theorem dX9_leg_10 : decode cX9_leg 10 = .ok (.invokestatic 116, 3) := by decide +kernel
theorem dX9_leg_13 : decode cX9_leg 13 = .ok (.ifCond .ne 7, 3) := by decide +kernel
theorem dX9_leg_16 : decode cX9_leg 16 = .ok (.iconst 1, 1) := by decide +kernel
theorem dX9_leg_17 : decode cX9_leg 17 = .ok (.goto 18, 3) := by decide +kernel
theorem dX9_leg_20 : decode cX9_leg 20 = .ok (.iload_n 3, 1) := by decide +kernel
theorem dX9_leg_21 : decode cX9_leg 21 = .ok (.iconst 1, 1) := by decide +kernel
theorem dX9_leg_22 : decode cX9_leg 22 = .ok (.bipush 100, 2) := by decide +kernel
theorem dX9_leg_24 : decode cX9_leg 24 = .ok (.invokestatic 99, 3) := by decide +kernel
theorem dX9_leg_27 : decode cX9_leg 27 = .ok (.ifCond .ne 7, 3) := by decide +kernel
theorem dX9_leg_30 : decode cX9_leg 30 = .ok (.iconst 2, 1) := by decide +kernel
theorem dX9_leg_31 : decode cX9_leg 31 = .ok (.goto 4, 3) := by decide +kernel
theorem dX9_leg_34 : decode cX9_leg 34 = .ok (.iconst 0, 1) := by decide +kernel
theorem dX9_leg_35 : decode cX9_leg 35 = .ok (.putfield 96, 3) := by decide +kernel
theorem dX9_leg_38 : decode cX9_leg 38 = .ok (.aload_n 0, 1) := by decide +kernel
theorem dX9_leg_39 : decode cX9_leg 39 = .ok (.getfield 96, 3) := by decide +kernel
theorem dX9_leg_42 : decode cX9_leg 42 = .ok (.ifCond .le 5, 3) := by decide +kernel
theorem dX9_leg_45 : decode cX9_leg 45 = .ok (.iconst 0, 1) := by decide +kernel
theorem dX9_leg_46 : decode cX9_leg 46 = .ok (.ireturn, 1) := by decide +kernel
theorem dX9_leg_47 : decode cX9_leg 47 = .ok (.aload_n 0, 1) := by decide +kernel
theorem dX9_leg_48 : decode cX9_leg 48 = .ok (.getfield 84, 3) := by decide +kernel
theorem dX9_leg_51 : decode cX9_leg 51 = .ok (.bipush 60, 2) := by decide +kernel
theorem dX9_leg_53 : decode cX9_leg 53 = .ok (.iload_n 1, 1) := by decide +kernel
theorem dX9_leg_54 : decode cX9_leg 54 = .ok (.imul, 1) := by decide +kernel
theorem dX9_leg_55 : decode cX9_leg 55 = .ok (.iload_n 2, 1) := by decide +kernel
theorem dX9_leg_56 : decode cX9_leg 56 = .ok (.iadd, 1) := by decide +kernel
theorem dX9_leg_57 : decode cX9_leg 57 = .ok (.iaload, 1) := by decide +kernel
theorem dX9_leg_58 : decode cX9_leg 58 = .ok (.iload_n 3, 1) := by decide +kernel
theorem dX9_leg_59 : decode cX9_leg 59 = .ok (.imul, 1) := by decide +kernel
theorem dX9_leg_60 : decode cX9_leg 60 = .ok (.bipush 100, 2) := by decide +kernel
theorem dX9_leg_62 : decode cX9_leg 62 = .ok (.idiv, 1) := by decide +kernel
theorem dX9_leg_63 : decode cX9_leg 63 = .ok (.istore 4, 2) := by decide +kernel
theorem dX9_leg_65 : decode cX9_leg 65 = .ok (.aload_n 0, 1) := by decide +kernel
theorem dX9_leg_66 : decode cX9_leg 66 = .ok (.getfield 84, 3) := by decide +kernel
theorem dX9_leg_69 : decode cX9_leg 69 = .ok (.bipush 60, 2) := by decide +kernel
theorem dX9_leg_71 : decode cX9_leg 71 = .ok (.iload_n 1, 1) := by decide +kernel
theorem dX9_leg_72 : decode cX9_leg 72 = .ok (.imul, 1) := by decide +kernel
theorem dX9_leg_73 : decode cX9_leg 73 = .ok (.iload_n 2, 1) := by decide +kernel
theorem dX9_leg_74 : decode cX9_leg 74 = .ok (.iadd, 1) := by decide +kernel
theorem dX9_leg_75 : decode cX9_leg 75 = .ok (.dup2, 1) := by decide +kernel
theorem dX9_leg_76 : decode cX9_leg 76 = .ok (.iaload, 1) := by decide +kernel
theorem dX9_leg_77 : decode cX9_leg 77 = .ok (.iload 4, 2) := by decide +kernel
theorem dX9_leg_79 : decode cX9_leg 79 = .ok (.isub, 1) := by decide +kernel
theorem dX9_leg_80 : decode cX9_leg 80 = .ok (.iastore, 1) := by decide +kernel
theorem dX9_leg_81 : decode cX9_leg 81 = .ok (.iload 4, 2) := by decide +kernel
theorem dX9_leg_83 : decode cX9_leg 83 = .ok (.ireturn, 1) := by decide +kernel
theorem dX9_part_0 : decode cX9_part 0 = .ok (.aload_n 0, 1) := by decide +kernel
theorem dX9_part_1 : decode cX9_part 1 = .ok (.iload_n 1, 1) := by decide +kernel
theorem dX9_part_2 : decode cX9_part 2 = .ok (.iconst 2, 1) := by decide +kernel
theorem dX9_part_3 : decode cX9_part 3 = .ok (.bipush 60, 2) := by decide +kernel
theorem dX9_part_5 : decode cX9_part 5 = .ok (.invokestatic 99, 3) := by decide +kernel
theorem dX9_part_8 : decode cX9_part 8 = .ok (.ifCond .eq 24, 3) := by decide +kernel
theorem dX9_part_11 : decode cX9_part 11 = .ok (.iload_n 2, 1) := by decide +kernel
theorem dX9_part_12 : decode cX9_part 12 = .ok (.iconst 0, 1) := by decide +kernel
theorem dX9_part_13 : decode cX9_part 13 = .ok (.bipush 100, 2) := by decide +kernel
theorem dX9_part_15 : decode cX9_part 15 = .ok (.invokestatic 99, 3) := by decide +kernel
theorem dX9_part_18 : decode cX9_part 18 = .ok (.ifCond .eq 14, 3) := by decide +kernel
theorem dX9_part_21 : decode cX9_part 21 = .ok (.iload_n 3, 1) := by decide +kernel
theorem dX9_part_22 : decode cX9_part 22 = .ok (.iconst 0, 1) := by decide +kernel
theorem dX9_part_23 : decode cX9_part 23 = .ok (.iload_n 1, 1) := by decide +kernel
theorem dX9_part_24 : decode cX9_part 24 = .ok (.iconst 1, 1) := by decide +kernel
theorem dX9_part_25 : decode cX9_part 25 = .ok (.isub, 1) := by decide +kernel
theorem dX9_part_26 : decode cX9_part 26 = .ok (.invokestatic 99, 3) := by decide +kernel
theorem dX9_part_29 : decode cX9_part 29 = .ok (.ifCond .ne 7, 3) := by decide +kernel
theorem dX9_part_32 : decode cX9_part 32 = .ok (.iconst 1, 1) := by decide +kernel
theorem dX9_part_33 : decode cX9_part 33 = .ok (.goto 17, 3) := by decide +kernel
theorem dX9_part_36 : decode cX9_part 36 = .ok (.aload_n 0, 1) := by decide +kernel
theorem dX9_part_37 : decode cX9_part 37 = .ok (.getfield 182, 3) := by decide +kernel
theorem dX9_part_40 : decode cX9_part 40 = .ok (.bipush 6, 2) := by decide +kernel
theorem dX9_part_42 : decode cX9_part 42 = .ok (.if_icmp .ne 7, 3) := by decide +kernel
theorem dX9_part_45 : decode cX9_part 45 = .ok (.iconst 2, 1) := by decide +kernel
theorem dX9_part_46 : decode cX9_part 46 = .ok (.goto 4, 3) := by decide +kernel
theorem dX9_part_49 : decode cX9_part 49 = .ok (.iconst 0, 1) := by decide +kernel
theorem dX9_part_50 : decode cX9_part 50 = .ok (.putfield 96, 3) := by decide +kernel
theorem dX9_part_53 : decode cX9_part 53 = .ok (.aload_n 0, 1) := by decide +kernel
theorem dX9_part_54 : decode cX9_part 54 = .ok (.getfield 96, 3) := by decide +kernel
theorem dX9_part_57 : decode cX9_part 57 = .ok (.ifCond .le 5, 3) := by decide +kernel
theorem dX9_part_60 : decode cX9_part 60 = .ok (.iconst 0, 1) := by decide +kernel
theorem dX9_part_61 : decode cX9_part 61 = .ok (.ireturn, 1) := by decide +kernel
theorem dX9_part_62 : decode cX9_part 62 = .ok (.aload_n 0, 1) := by decide +kernel
theorem dX9_part_63 : decode cX9_part 63 = .ok (.getfield 87, 3) := by decide +kernel
theorem dX9_part_66 : decode cX9_part 66 = .ok (.aload_n 0, 1) := by decide +kernel
theorem dX9_part_67 : decode cX9_part 67 = .ok (.getfield 182, 3) := by decide +kernel
theorem dX9_part_70 : decode cX9_part 70 = .ok (.iload_n 1, 1) := by decide +kernel
theorem dX9_part_71 : decode cX9_part 71 = .ok (.iastore, 1) := by decide +kernel
theorem dX9_part_72 : decode cX9_part 72 = .ok (.aload_n 0, 1) := by decide +kernel
theorem dX9_part_73 : decode cX9_part 73 = .ok (.getfield 90, 3) := by decide +kernel
theorem dX9_part_76 : decode cX9_part 76 = .ok (.aload_n 0, 1) := by decide +kernel
theorem dX9_part_77 : decode cX9_part 77 = .ok (.getfield 182, 3) := by decide +kernel
theorem dX9_part_80 : decode cX9_part 80 = .ok (.iload_n 2, 1) := by decide +kernel
theorem dX9_part_81 : decode cX9_part 81 = .ok (.iastore, 1) := by decide +kernel
theorem dX9_part_82 : decode cX9_part 82 = .ok (.aload_n 0, 1) := by decide +kernel
theorem dX9_part_83 : decode cX9_part 83 = .ok (.getfield 93, 3) := by decide +kernel
theorem dX9_part_86 : decode cX9_part 86 = .ok (.aload_n 0, 1) := by decide +kernel
theorem dX9_part_87 : decode cX9_part 87 = .ok (.getfield 182, 3) := by decide +kernel
theorem dX9_part_90 : decode cX9_part 90 = .ok (.iload_n 3, 1) := by decide +kernel
theorem dX9_part_91 : decode cX9_part 91 = .ok (.iastore, 1) := by decide +kernel
theorem dX9_part_92 : decode cX9_part 92 = .ok (.aload_n 0, 1) := by decide +kernel
theorem dX9_part_93 : decode cX9_part 93 = .ok (.dup, 1) := by decide +kernel
theorem dX9_part_94 : decode cX9_part 94 = .ok (.getfield 182, 3) := by decide +kernel
theorem dX9_part_97 : decode cX9_part 97 = .ok (.iconst 1, 1) := by decide +kernel
theorem dX9_part_98 : decode cX9_part 98 = .ok (.iadd, 1) := by decide +kernel
theorem dX9_part_99 : decode cX9_part 99 = .ok (.putfield 182, 3) := by decide +kernel
theorem dX9_part_102 : decode cX9_part 102 = .ok (.aload_n 0, 1) := by decide +kernel
theorem dX9_part_103 : decode cX9_part 103 = .ok (.getfield 182, 3) := by decide +kernel
theorem dX9_part_106 : decode cX9_part 106 = .ok (.ireturn, 1) := by decide +kernel
theorem dX9_day_0 : decode cX9_day 0 = .ok (.aload_n 0, 1) := by decide +kernel
theorem dX9_day_1 : decode cX9_day 1 = .ok (.iconst 0, 1) := by decide +kernel
theorem dX9_day_2 : decode cX9_day 2 = .ok (.putfield 96, 3) := by decide +kernel
theorem dX9_day_5 : decode cX9_day 5 = .ok (.aload_n 0, 1) := by decide +kernel
theorem dX9_day_6 : decode cX9_day 6 = .ok (.getfield 120, 3) := by decide +kernel
theorem dX9_day_9 : decode cX9_day 9 = .ok (.ireturn, 1) := by decide +kernel
theorem dX9_ofLayer_0 : decode cX9_ofLayer 0 = .ok (.aload_n 0, 1) := by decide +kernel
theorem dX9_ofLayer_1 : decode cX9_ofLayer 1 = .ok (.iload_n 1, 1) := by decide +kernel
theorem dX9_ofLayer_2 : decode cX9_ofLayer 2 = .ok (.invokestatic 116, 3) := by decide +kernel
theorem dX9_ofLayer_5 : decode cX9_ofLayer 5 = .ok (.ifCond .ne 7, 3) := by decide +kernel
theorem dX9_ofLayer_8 : decode cX9_ofLayer 8 = .ok (.iconst 1, 1) := by decide +kernel
theorem dX9_ofLayer_9 : decode cX9_ofLayer 9 = .ok (.goto 26, 3) := by decide +kernel
theorem dX9_ofLayer_12 : decode cX9_ofLayer 12 = .ok (.iload_n 2, 1) := by decide +kernel
theorem dX9_ofLayer_13 : decode cX9_ofLayer 13 = .ok (.iconst 0, 1) := by decide +kernel
theorem dX9_ofLayer_14 : decode cX9_ofLayer 14 = .ok (.iconst 1, 1) := by decide +kernel
theorem dX9_ofLayer_15 : decode cX9_ofLayer 15 = .ok (.invokestatic 99, 3) := by decide +kernel
theorem dX9_ofLayer_18 : decode cX9_ofLayer 18 = .ok (.ifCond .eq 12, 3) := by decide +kernel
theorem dX9_ofLayer_21 : decode cX9_ofLayer 21 = .ok (.iload_n 3, 1) := by decide +kernel
theorem dX9_ofLayer_22 : decode cX9_ofLayer 22 = .ok (.iconst 0, 1) := by decide +kernel
theorem dX9_ofLayer_23 : decode cX9_ofLayer 23 = .ok (.iconst 2, 1) := by decide +kernel
theorem dX9_ofLayer_24 : decode cX9_ofLayer 24 = .ok (.invokestatic 99, 3) := by decide +kernel
theorem dX9_ofLayer_27 : decode cX9_ofLayer 27 = .ok (.ifCond .ne 7, 3) := by decide +kernel
theorem dX9_ofLayer_30 : decode cX9_ofLayer 30 = .ok (.iconst 2, 1) := by decide +kernel
theorem dX9_ofLayer_31 : decode cX9_ofLayer 31 = .ok (.goto 4, 3) := by decide +kernel
theorem dX9_ofLayer_34 : decode cX9_ofLayer 34 = .ok (.iconst 0, 1) := by decide +kernel
theorem dX9_ofLayer_35 : decode cX9_ofLayer 35 = .ok (.putfield 96, 3) := by decide +kernel
theorem dX9_ofLayer_38 : decode cX9_ofLayer 38 = .ok (.aload_n 0, 1) := by decide +kernel
theorem dX9_ofLayer_39 : decode cX9_ofLayer 39 = .ok (.getfield 96, 3) := by decide +kernel
theorem dX9_ofLayer_42 : decode cX9_ofLayer 42 = .ok (.ifCond .gt 12, 3) := by decide +kernel
theorem dX9_ofLayer_45 : decode cX9_ofLayer 45 = .ok (.aload_n 0, 1) := by decide +kernel
theorem dX9_ofLayer_46 : decode cX9_ofLayer 46 = .ok (.getfield 7, 3) := by decide +kernel
theorem dX9_ofLayer_49 : decode cX9_ofLayer 49 = .ok (.iload_n 1, 1) := by decide +kernel
theorem dX9_ofLayer_50 : decode cX9_ofLayer 50 = .ok (.baload, 1) := by decide +kernel
theorem dX9_ofLayer_51 : decode cX9_ofLayer 51 = .ok (.ifCond .eq 5, 3) := by decide +kernel
theorem dX9_ofLayer_54 : decode cX9_ofLayer 54 = .ok (.iconst 0, 1) := by decide +kernel
theorem dX9_ofLayer_55 : decode cX9_ofLayer 55 = .ok (.ireturn, 1) := by decide +kernel
theorem dX9_ofLayer_56 : decode cX9_ofLayer 56 = .ok (.bipush 60, 2) := by decide +kernel
theorem dX9_ofLayer_58 : decode cX9_ofLayer 58 = .ok (.iload_n 2, 1) := by decide +kernel
theorem dX9_ofLayer_59 : decode cX9_ofLayer 59 = .ok (.imul, 1) := by decide +kernel
theorem dX9_ofLayer_60 : decode cX9_ofLayer 60 = .ok (.iload_n 1, 1) := by decide +kernel
theorem dX9_ofLayer_61 : decode cX9_ofLayer 61 = .ok (.iadd, 1) := by decide +kernel
theorem dX9_ofLayer_62 : decode cX9_ofLayer 62 = .ok (.istore 4, 2) := by decide +kernel
theorem dX9_ofLayer_64 : decode cX9_ofLayer 64 = .ok (.iload_n 3, 1) := by decide +kernel
theorem dX9_ofLayer_65 : decode cX9_ofLayer 65 = .ok (.ifCond .ne 13, 3) := by decide +kernel
theorem dX9_ofLayer_68 : decode cX9_ofLayer 68 = .ok (.aload_n 0, 1) := by decide +kernel
theorem dX9_ofLayer_69 : decode cX9_ofLayer 69 = .ok (.getfield 20, 3) := by decide +kernel
theorem dX9_ofLayer_72 : decode cX9_ofLayer 72 = .ok (.iload 4, 2) := by decide +kernel
theorem dX9_ofLayer_74 : decode cX9_ofLayer 74 = .ok (.iaload, 1) := by decide +kernel
theorem dX9_ofLayer_75 : decode cX9_ofLayer 75 = .ok (.goto 35, 3) := by decide +kernel
theorem dX9_ofLayer_78 : decode cX9_ofLayer 78 = .ok (.iload_n 3, 1) := by decide +kernel
theorem dX9_ofLayer_79 : decode cX9_ofLayer 79 = .ok (.iconst 1, 1) := by decide +kernel
theorem dX9_ofLayer_80 : decode cX9_ofLayer 80 = .ok (.if_icmp .ne 13, 3) := by decide +kernel
theorem dX9_ofLayer_83 : decode cX9_ofLayer 83 = .ok (.aload_n 0, 1) := by decide +kernel
theorem dX9_ofLayer_84 : decode cX9_ofLayer 84 = .ok (.getfield 23, 3) := by decide +kernel
theorem dX9_ofLayer_87 : decode cX9_ofLayer 87 = .ok (.iload 4, 2) := by decide +kernel
theorem dX9_ofLayer_89 : decode cX9_ofLayer 89 = .ok (.iaload, 1) := by decide +kernel
theorem dX9_ofLayer_90 : decode cX9_ofLayer 90 = .ok (.goto 20, 3) := by decide +kernel
theorem dX9_ofLayer_93 : decode cX9_ofLayer 93 = .ok (.iconst 5, 1) := by decide +kernel
theorem dX9_ofLayer_94 : decode cX9_ofLayer 94 = .ok (.aload_n 0, 1) := by decide +kernel
theorem dX9_ofLayer_95 : decode cX9_ofLayer 95 = .ok (.getfield 23, 3) := by decide +kernel
theorem dX9_ofLayer_98 : decode cX9_ofLayer 98 = .ok (.iload 4, 2) := by decide +kernel
theorem dX9_ofLayer_100 : decode cX9_ofLayer 100 = .ok (.iaload, 1) := by decide +kernel
theorem dX9_ofLayer_101 : decode cX9_ofLayer 101 = .ok (.imul, 1) := by decide +kernel
theorem dX9_ofLayer_102 : decode cX9_ofLayer 102 = .ok (.aload_n 0, 1) := by decide +kernel
theorem dX9_ofLayer_103 : decode cX9_ofLayer 103 = .ok (.getfield 20, 3) := by decide +kernel
theorem dX9_ofLayer_106 : decode cX9_ofLayer 106 = .ok (.iload 4, 2) := by decide +kernel
theorem dX9_ofLayer_108 : decode cX9_ofLayer 108 = .ok (.iaload, 1) := by decide +kernel
theorem dX9_ofLayer_109 : decode cX9_ofLayer 109 = .ok (.isub, 1) := by decide +kernel
theorem dX9_ofLayer_110 : decode cX9_ofLayer 110 = .ok (.ireturn, 1) := by decide +kernel
theorem dX9_total_0 : decode cX9_total 0 = .ok (.aload_n 0, 1) := by decide +kernel
theorem dX9_total_1 : decode cX9_total 1 = .ok (.iload_n 1, 1) := by decide +kernel
theorem dX9_total_2 : decode cX9_total 2 = .ok (.iconst 0, 1) := by decide +kernel
theorem dX9_total_3 : decode cX9_total 3 = .ok (.iconst 2, 1) := by decide +kernel
theorem dX9_total_4 : decode cX9_total 4 = .ok (.invokestatic 99, 3) := by decide +kernel
theorem dX9_total_7 : decode cX9_total 7 = .ok (.ifCond .eq 7, 3) := by decide +kernel
theorem dX9_total_10 : decode cX9_total 10 = .ok (.iconst 0, 1) := by decide +kernel
theorem dX9_total_11 : decode cX9_total 11 = .ok (.goto 4, 3) := by decide +kernel
theorem dX9_total_14 : decode cX9_total 14 = .ok (.iconst 1, 1) := by decide +kernel
theorem dX9_total_15 : decode cX9_total 15 = .ok (.putfield 96, 3) := by decide +kernel
theorem dX9_total_18 : decode cX9_total 18 = .ok (.aload_n 0, 1) := by decide +kernel
theorem dX9_total_19 : decode cX9_total 19 = .ok (.getfield 96, 3) := by decide +kernel
theorem dX9_total_22 : decode cX9_total 22 = .ok (.ifCond .ne 15, 3) := by decide +kernel
theorem dX9_total_25 : decode cX9_total 25 = .ok (.iload_n 1, 1) := by decide +kernel
theorem dX9_total_26 : decode cX9_total 26 = .ok (.iconst 2, 1) := by decide +kernel
theorem dX9_total_27 : decode cX9_total 27 = .ok (.if_icmp .ne 10, 3) := by decide +kernel
theorem dX9_total_30 : decode cX9_total 30 = .ok (.aload_n 0, 1) := by decide +kernel
theorem dX9_total_31 : decode cX9_total 31 = .ok (.getfield 130, 3) := by decide +kernel
theorem dX9_total_34 : decode cX9_total 34 = .ok (.goto 4, 3) := by decide +kernel
theorem dX9_total_37 : decode cX9_total 37 = .ok (.iconst 0, 1) := by decide +kernel
theorem dX9_total_38 : decode cX9_total 38 = .ok (.istore_n 2, 1) := by decide +kernel
theorem dX9_total_39 : decode cX9_total 39 = .ok (.iconst 0, 1) := by decide +kernel
theorem dX9_total_40 : decode cX9_total 40 = .ok (.istore_n 3, 1) := by decide +kernel
theorem dX9_total_41 : decode cX9_total 41 = .ok (.iload_n 3, 1) := by decide +kernel
theorem dX9_total_42 : decode cX9_total 42 = .ok (.bipush 120, 2) := by decide +kernel
theorem dX9_total_44 : decode cX9_total 44 = .ok (.if_icmp .ge 43, 3) := by decide +kernel
theorem dX9_total_47 : decode cX9_total 47 = .ok (.aload_n 0, 1) := by decide +kernel
theorem dX9_total_48 : decode cX9_total 48 = .ok (.getfield 96, 3) := by decide +kernel
theorem dX9_total_51 : decode cX9_total 51 = .ok (.ifCond .ne 36, 3) := by decide +kernel
theorem dX9_total_54 : decode cX9_total 54 = .ok (.iload_n 1, 1) := by decide +kernel
theorem dX9_total_55 : decode cX9_total 55 = .ok (.iconst 2, 1) := by decide +kernel
theorem dX9_total_56 : decode cX9_total 56 = .ok (.if_icmp .ge 31, 3) := by decide +kernel
theorem dX9_total_59 : decode cX9_total 59 = .ok (.iload_n 2, 1) := by decide +kernel
theorem dX9_total_60 : decode cX9_total 60 = .ok (.iload_n 1, 1) := by decide +kernel
theorem dX9_total_61 : decode cX9_total 61 = .ok (.ifCond .ne 12, 3) := by decide +kernel
theorem dX9_total_64 : decode cX9_total 64 = .ok (.aload_n 0, 1) := by decide +kernel
theorem dX9_total_65 : decode cX9_total 65 = .ok (.getfield 20, 3) := by decide +kernel
theorem dX9_total_68 : decode cX9_total 68 = .ok (.iload_n 3, 1) := by decide +kernel
theorem dX9_total_69 : decode cX9_total 69 = .ok (.iaload, 1) := by decide +kernel
theorem dX9_total_70 : decode cX9_total 70 = .ok (.goto 9, 3) := by decide +kernel
theorem dX9_total_73 : decode cX9_total 73 = .ok (.aload_n 0, 1) := by decide +kernel
theorem dX9_total_74 : decode cX9_total 74 = .ok (.getfield 23, 3) := by decide +kernel
theorem dX9_total_77 : decode cX9_total 77 = .ok (.iload_n 3, 1) := by decide +kernel
theorem dX9_total_78 : decode cX9_total 78 = .ok (.iaload, 1) := by decide +kernel
theorem dX9_total_79 : decode cX9_total 79 = .ok (.iadd, 1) := by decide +kernel
theorem dX9_total_80 : decode cX9_total 80 = .ok (.istore_n 2, 1) := by decide +kernel
theorem dX9_total_81 : decode cX9_total 81 = .ok (.iinc 3 1, 3) := by decide +kernel
theorem dX9_total_84 : decode cX9_total 84 = .ok (.goto (-43), 3) := by decide +kernel
theorem dX9_total_87 : decode cX9_total 87 = .ok (.iload_n 2, 1) := by decide +kernel
theorem dX9_total_88 : decode cX9_total 88 = .ok (.ireturn, 1) := by decide +kernel
theorem dX9_ofFloat_0 : decode cX9_ofFloat 0 = .ok (.aload_n 0, 1) := by decide +kernel
theorem dX9_ofFloat_1 : decode cX9_ofFloat 1 = .ok (.aload_n 0, 1) := by decide +kernel
theorem dX9_ofFloat_2 : decode cX9_ofFloat 2 = .ok (.iload_n 1, 1) := by decide +kernel
theorem dX9_ofFloat_3 : decode cX9_ofFloat 3 = .ok (.invokevirtual 164, 3) := by decide +kernel
theorem dX9_ofFloat_6 : decode cX9_ofFloat 6 = .ok (.ifCond .ne 7, 3) := by decide +kernel
theorem dX9_ofFloat_9 : decode cX9_ofFloat 9 = .ok (.iconst 1, 1) := by decide +kernel
theorem dX9_ofFloat_10 : decode cX9_ofFloat 10 = .ok (.goto 17, 3) := by decide +kernel
theorem dX9_ofFloat_13 : decode cX9_ofFloat 13 = .ok (.iload_n 2, 1) := by decide +kernel
theorem dX9_ofFloat_14 : decode cX9_ofFloat 14 = .ok (.iconst 0, 1) := by decide +kernel
theorem dX9_ofFloat_15 : decode cX9_ofFloat 15 = .ok (.iconst 4, 1) := by decide +kernel
theorem dX9_ofFloat_16 : decode cX9_ofFloat 16 = .ok (.invokestatic 99, 3) := by decide +kernel
theorem dX9_ofFloat_19 : decode cX9_ofFloat 19 = .ok (.ifCond .ne 7, 3) := by decide +kernel
theorem dX9_ofFloat_22 : decode cX9_ofFloat 22 = .ok (.iconst 2, 1) := by decide +kernel
theorem dX9_ofFloat_23 : decode cX9_ofFloat 23 = .ok (.goto 4, 3) := by decide +kernel
theorem dX9_ofFloat_26 : decode cX9_ofFloat 26 = .ok (.iconst 0, 1) := by decide +kernel
theorem dX9_ofFloat_27 : decode cX9_ofFloat 27 = .ok (.putfield 96, 3) := by decide +kernel
theorem dX9_ofFloat_30 : decode cX9_ofFloat 30 = .ok (.aload_n 0, 1) := by decide +kernel
theorem dX9_ofFloat_31 : decode cX9_ofFloat 31 = .ok (.getfield 96, 3) := by decide +kernel
theorem dX9_ofFloat_34 : decode cX9_ofFloat 34 = .ok (.ifCond .le 5, 3) := by decide +kernel
theorem dX9_ofFloat_37 : decode cX9_ofFloat 37 = .ok (.iconst 0, 1) := by decide +kernel
theorem dX9_ofFloat_38 : decode cX9_ofFloat 38 = .ok (.ireturn, 1) := by decide +kernel
theorem dX9_ofFloat_39 : decode cX9_ofFloat 39 = .ok (.iconst 0, 1) := by decide +kernel
theorem dX9_ofFloat_40 : decode cX9_ofFloat 40 = .ok (.istore_n 3, 1) := by decide +kernel
theorem dX9_ofFloat_41 : decode cX9_ofFloat 41 = .ok (.iconst 0, 1) := by decide +kernel
theorem dX9_ofFloat_42 : decode cX9_ofFloat 42 = .ok (.istore 4, 2) := by decide +kernel
theorem dX9_ofFloat_44 : decode cX9_ofFloat 44 = .ok (.iload 4, 2) := by decide +kernel
theorem dX9_ofFloat_46 : decode cX9_ofFloat 46 = .ok (.aload_n 0, 1) := by decide +kernel
theorem dX9_ofFloat_47 : decode cX9_ofFloat 47 = .ok (.getfield 106, 3) := by decide +kernel
theorem dX9_ofFloat_50 : decode cX9_ofFloat 50 = .ok (.if_icmp .ge 28, 3) := by decide +kernel
theorem dX9_ofFloat_53 : decode cX9_ofFloat 53 = .ok (.iload_n 3, 1) := by decide +kernel
theorem dX9_ofFloat_54 : decode cX9_ofFloat 54 = .ok (.aload_n 0, 1) := by decide +kernel
theorem dX9_ofFloat_55 : decode cX9_ofFloat 55 = .ok (.getfield 71, 3) := by decide +kernel
theorem dX9_ofFloat_58 : decode cX9_ofFloat 58 = .ok (.iload 4, 2) := by decide +kernel
theorem dX9_ofFloat_60 : decode cX9_ofFloat 60 = .ok (.iaload, 1) := by decide +kernel
theorem dX9_ofFloat_61 : decode cX9_ofFloat 61 = .ok (.iload_n 1, 1) := by decide +kernel
theorem dX9_ofFloat_62 : decode cX9_ofFloat 62 = .ok (.if_icmp .ne 7, 3) := by decide +kernel
theorem dX9_ofFloat_65 : decode cX9_ofFloat 65 = .ok (.iconst 1, 1) := by decide +kernel
theorem dX9_ofFloat_66 : decode cX9_ofFloat 66 = .ok (.goto 4, 3) := by decide +kernel
theorem dX9_ofFloat_69 : decode cX9_ofFloat 69 = .ok (.iconst 0, 1) := by decide +kernel
theorem dX9_ofFloat_70 : decode cX9_ofFloat 70 = .ok (.iadd, 1) := by decide +kernel
theorem dX9_ofFloat_71 : decode cX9_ofFloat 71 = .ok (.istore_n 3, 1) := by decide +kernel
theorem dX9_ofFloat_72 : decode cX9_ofFloat 72 = .ok (.iinc 4 1, 3) := by decide +kernel
theorem dX9_ofFloat_75 : decode cX9_ofFloat 75 = .ok (.goto (-31), 3) := by decide +kernel
theorem dX9_ofFloat_78 : decode cX9_ofFloat 78 = .ok (.iload_n 2, 1) := by decide +kernel
theorem dX9_ofFloat_79 : decode cX9_ofFloat 79 = .ok (.ifCond .ne 12, 3) := by decide +kernel
theorem dX9_ofFloat_82 : decode cX9_ofFloat 82 = .ok (.aload_n 0, 1) := by decide +kernel
theorem dX9_ofFloat_83 : decode cX9_ofFloat 83 = .ok (.getfield 32, 3) := by decide +kernel
theorem dX9_ofFloat_86 : decode cX9_ofFloat 86 = .ok (.iload_n 1, 1) := by decide +kernel
theorem dX9_ofFloat_87 : decode cX9_ofFloat 87 = .ok (.iaload, 1) := by decide +kernel
theorem dX9_ofFloat_88 : decode cX9_ofFloat 88 = .ok (.goto 46, 3) := by decide +kernel
theorem dX9_ofFloat_91 : decode cX9_ofFloat 91 = .ok (.iload_n 2, 1) := by decide +kernel
theorem dX9_ofFloat_92 : decode cX9_ofFloat 92 = .ok (.iconst 1, 1) := by decide +kernel
theorem dX9_ofFloat_93 : decode cX9_ofFloat 93 = .ok (.if_icmp .ne 12, 3) := by decide +kernel
theorem dX9_ofFloat_96 : decode cX9_ofFloat 96 = .ok (.aload_n 0, 1) := by decide +kernel
theorem dX9_ofFloat_97 : decode cX9_ofFloat 97 = .ok (.getfield 38, 3) := by decide +kernel
theorem dX9_ofFloat_100 : decode cX9_ofFloat 100 = .ok (.iload_n 1, 1) := by decide +kernel
theorem dX9_ofFloat_101 : decode cX9_ofFloat 101 = .ok (.iaload, 1) := by decide +kernel
theorem dX9_ofFloat_102 : decode cX9_ofFloat 102 = .ok (.goto 32, 3) := by decide +kernel
theorem dX9_ofFloat_105 : decode cX9_ofFloat 105 = .ok (.iload_n 2, 1) := by decide +kernel
theorem dX9_ofFloat_106 : decode cX9_ofFloat 106 = .ok (.iconst 2, 1) := by decide +kernel
theorem dX9_ofFloat_107 : decode cX9_ofFloat 107 = .ok (.if_icmp .ne 12, 3) := by decide +kernel
theorem dX9_ofFloat_110 : decode cX9_ofFloat 110 = .ok (.aload_n 0, 1) := by decide +kernel
theorem dX9_ofFloat_111 : decode cX9_ofFloat 111 = .ok (.getfield 41, 3) := by decide +kernel
theorem dX9_ofFloat_114 : decode cX9_ofFloat 114 = .ok (.iload_n 1, 1) := by decide +kernel
theorem dX9_ofFloat_115 : decode cX9_ofFloat 115 = .ok (.iaload, 1) := by decide +kernel
theorem dX9_ofFloat_116 : decode cX9_ofFloat 116 = .ok (.goto 18, 3) := by decide +kernel
theorem dX9_ofFloat_119 : decode cX9_ofFloat 119 = .ok (.iload_n 2, 1) := by decide +kernel
theorem dX9_ofFloat_120 : decode cX9_ofFloat 120 = .ok (.iconst 3, 1) := by decide +kernel
theorem dX9_ofFloat_121 : decode cX9_ofFloat 121 = .ok (.if_icmp .ne 12, 3) := by decide +kernel
theorem dX9_ofFloat_124 : decode cX9_ofFloat 124 = .ok (.aload_n 0, 1) := by decide +kernel
theorem dX9_ofFloat_125 : decode cX9_ofFloat 125 = .ok (.getfield 47, 3) := by decide +kernel
theorem dX9_ofFloat_128 : decode cX9_ofFloat 128 = .ok (.iload_n 1, 1) := by decide +kernel
theorem dX9_ofFloat_129 : decode cX9_ofFloat 129 = .ok (.iaload, 1) := by decide +kernel
theorem dX9_ofFloat_130 : decode cX9_ofFloat 130 = .ok (.goto 4, 3) := by decide +kernel
theorem dX9_ofFloat_133 : decode cX9_ofFloat 133 = .ok (.iload_n 3, 1) := by decide +kernel
theorem dX9_ofFloat_134 : decode cX9_ofFloat 134 = .ok (.ireturn, 1) := by decide +kernel
theorem dX9_stations_0 : decode cX9_stations 0 = .ok (.aload_n 0, 1) := by decide +kernel
theorem dX9_stations_1 : decode cX9_stations 1 = .ok (.iconst 0, 1) := by decide +kernel
theorem dX9_stations_2 : decode cX9_stations 2 = .ok (.putfield 96, 3) := by decide +kernel
theorem dX9_stations_5 : decode cX9_stations 5 = .ok (.aload_n 0, 1) := by decide +kernel
theorem dX9_stations_6 : decode cX9_stations 6 = .ok (.getfield 123, 3) := by decide +kernel
theorem dX9_stations_9 : decode cX9_stations 9 = .ok (.ireturn, 1) := by decide +kernel
theorem dX9_readings_0 : decode cX9_readings 0 = .ok (.aload_n 0, 1) := by decide +kernel
theorem dX9_readings_1 : decode cX9_readings 1 = .ok (.iconst 0, 1) := by decide +kernel
theorem dX9_readings_2 : decode cX9_readings 2 = .ok (.putfield 96, 3) := by decide +kernel
theorem dX9_readings_5 : decode cX9_readings 5 = .ok (.aload_n 0, 1) := by decide +kernel
theorem dX9_readings_6 : decode cX9_readings 6 = .ok (.getfield 106, 3) := by decide +kernel
theorem dX9_readings_9 : decode cX9_readings 9 = .ok (.ireturn, 1) := by decide +kernel
theorem dX9_ofReading_0 : decode cX9_ofReading 0 = .ok (.aload_n 0, 1) := by decide +kernel
theorem dX9_ofReading_1 : decode cX9_ofReading 1 = .ok (.aload_n 0, 1) := by decide +kernel
theorem dX9_ofReading_2 : decode cX9_ofReading 2 = .ok (.iload_n 1, 1) := by decide +kernel
theorem dX9_ofReading_3 : decode cX9_ofReading 3 = .ok (.invokevirtual 173, 3) := by decide +kernel
theorem dX9_ofReading_6 : decode cX9_ofReading 6 = .ok (.ifCond .ne 7, 3) := by decide +kernel
theorem dX9_ofReading_9 : decode cX9_ofReading 9 = .ok (.iconst 1, 1) := by decide +kernel
theorem dX9_ofReading_10 : decode cX9_ofReading 10 = .ok (.goto 17, 3) := by decide +kernel
theorem dX9_ofReading_13 : decode cX9_ofReading 13 = .ok (.iload_n 2, 1) := by decide +kernel
theorem dX9_ofReading_14 : decode cX9_ofReading 14 = .ok (.iconst 0, 1) := by decide +kernel
theorem dX9_ofReading_15 : decode cX9_ofReading 15 = .ok (.iconst 5, 1) := by decide +kernel
theorem dX9_ofReading_16 : decode cX9_ofReading 16 = .ok (.invokestatic 99, 3) := by decide +kernel
theorem dX9_ofReading_19 : decode cX9_ofReading 19 = .ok (.ifCond .ne 7, 3) := by decide +kernel
theorem dX9_ofReading_22 : decode cX9_ofReading 22 = .ok (.iconst 2, 1) := by decide +kernel
theorem dX9_ofReading_23 : decode cX9_ofReading 23 = .ok (.goto 4, 3) := by decide +kernel
theorem dX9_ofReading_26 : decode cX9_ofReading 26 = .ok (.iconst 0, 1) := by decide +kernel
theorem dX9_ofReading_27 : decode cX9_ofReading 27 = .ok (.putfield 96, 3) := by decide +kernel
theorem dX9_ofReading_30 : decode cX9_ofReading 30 = .ok (.aload_n 0, 1) := by decide +kernel
theorem dX9_ofReading_31 : decode cX9_ofReading 31 = .ok (.getfield 96, 3) := by decide +kernel
theorem dX9_ofReading_34 : decode cX9_ofReading 34 = .ok (.ifCond .le 5, 3) := by decide +kernel
theorem dX9_ofReading_37 : decode cX9_ofReading 37 = .ok (.iconst 0, 1) := by decide +kernel
theorem dX9_ofReading_38 : decode cX9_ofReading 38 = .ok (.ireturn, 1) := by decide +kernel
theorem dX9_ofReading_39 : decode cX9_ofReading 39 = .ok (.iload_n 2, 1) := by decide +kernel
theorem dX9_ofReading_40 : decode cX9_ofReading 40 = .ok (.ifCond .ne 12, 3) := by decide +kernel
theorem dX9_ofReading_43 : decode cX9_ofReading 43 = .ok (.aload_n 0, 1) := by decide +kernel
theorem dX9_ofReading_44 : decode cX9_ofReading 44 = .ok (.getfield 62, 3) := by decide +kernel
theorem dX9_ofReading_47 : decode cX9_ofReading 47 = .ok (.iload_n 1, 1) := by decide +kernel
theorem dX9_ofReading_48 : decode cX9_ofReading 48 = .ok (.iaload, 1) := by decide +kernel
theorem dX9_ofReading_49 : decode cX9_ofReading 49 = .ok (.goto 63, 3) := by decide +kernel
theorem dX9_ofReading_52 : decode cX9_ofReading 52 = .ok (.iload_n 2, 1) := by decide +kernel
theorem dX9_ofReading_53 : decode cX9_ofReading 53 = .ok (.iconst 1, 1) := by decide +kernel
theorem dX9_ofReading_54 : decode cX9_ofReading 54 = .ok (.if_icmp .ne 12, 3) := by decide +kernel
theorem dX9_ofReading_57 : decode cX9_ofReading 57 = .ok (.aload_n 0, 1) := by decide +kernel
theorem dX9_ofReading_58 : decode cX9_ofReading 58 = .ok (.getfield 65, 3) := by decide +kernel
theorem dX9_ofReading_61 : decode cX9_ofReading 61 = .ok (.iload_n 1, 1) := by decide +kernel
theorem dX9_ofReading_62 : decode cX9_ofReading 62 = .ok (.iaload, 1) := by decide +kernel
theorem dX9_ofReading_63 : decode cX9_ofReading 63 = .ok (.goto 49, 3) := by decide +kernel
theorem dX9_ofReading_66 : decode cX9_ofReading 66 = .ok (.iload_n 2, 1) := by decide +kernel
theorem dX9_ofReading_67 : decode cX9_ofReading 67 = .ok (.iconst 2, 1) := by decide +kernel
theorem dX9_ofReading_68 : decode cX9_ofReading 68 = .ok (.if_icmp .ne 12, 3) := by decide +kernel
theorem dX9_ofReading_71 : decode cX9_ofReading 71 = .ok (.aload_n 0, 1) := by decide +kernel
theorem dX9_ofReading_72 : decode cX9_ofReading 72 = .ok (.getfield 68, 3) := by decide +kernel
theorem dX9_ofReading_75 : decode cX9_ofReading 75 = .ok (.iload_n 1, 1) := by decide +kernel
theorem dX9_ofReading_76 : decode cX9_ofReading 76 = .ok (.iaload, 1) := by decide +kernel
theorem dX9_ofReading_77 : decode cX9_ofReading 77 = .ok (.goto 35, 3) := by decide +kernel
theorem dX9_ofReading_80 : decode cX9_ofReading 80 = .ok (.iload_n 2, 1) := by decide +kernel
theorem dX9_ofReading_81 : decode cX9_ofReading 81 = .ok (.iconst 3, 1) := by decide +kernel
theorem dX9_ofReading_82 : decode cX9_ofReading 82 = .ok (.if_icmp .ne 11, 3) := by decide +kernel
theorem dX9_ofReading_85 : decode cX9_ofReading 85 = .ok (.aload_n 0, 1) := by decide +kernel
theorem dX9_ofReading_86 : decode cX9_ofReading 86 = .ok (.iload_n 1, 1) := by decide +kernel
theorem dX9_ofReading_87 : decode cX9_ofReading 87 = .ok (.invokevirtual 170, 3) := by decide +kernel
theorem dX9_ofReading_90 : decode cX9_ofReading 90 = .ok (.goto 22, 3) := by decide +kernel
theorem dX9_ofReading_93 : decode cX9_ofReading 93 = .ok (.iload_n 2, 1) := by decide +kernel
theorem dX9_ofReading_94 : decode cX9_ofReading 94 = .ok (.iconst 4, 1) := by decide +kernel
theorem dX9_ofReading_95 : decode cX9_ofReading 95 = .ok (.if_icmp .ne 11, 3) := by decide +kernel
theorem dX9_ofReading_98 : decode cX9_ofReading 98 = .ok (.aload_n 0, 1) := by decide +kernel
theorem dX9_ofReading_99 : decode cX9_ofReading 99 = .ok (.iload_n 1, 1) := by decide +kernel
theorem dX9_ofReading_100 : decode cX9_ofReading 100 = .ok (.invokevirtual 176, 3) := by decide +kernel
theorem dX9_ofReading_103 : decode cX9_ofReading 103 = .ok (.goto 9, 3) := by decide +kernel
theorem dX9_ofReading_106 : decode cX9_ofReading 106 = .ok (.aload_n 0, 1) := by decide +kernel
theorem dX9_ofReading_107 : decode cX9_ofReading 107 = .ok (.getfield 71, 3) := by decide +kernel
theorem dX9_ofReading_110 : decode cX9_ofReading 110 = .ok (.iload_n 1, 1) := by decide +kernel
theorem dX9_ofReading_111 : decode cX9_ofReading 111 = .ok (.iaload, 1) := by decide +kernel
theorem dX9_ofReading_112 : decode cX9_ofReading 112 = .ok (.ireturn, 1) := by decide +kernel
theorem dX9_weight_0 : decode cX9_weight 0 = .ok (.aload_n 0, 1) := by decide +kernel
theorem dX9_weight_1 : decode cX9_weight 1 = .ok (.getfield 65, 3) := by decide +kernel
theorem dX9_weight_4 : decode cX9_weight 4 = .ok (.iload_n 1, 1) := by decide +kernel
theorem dX9_weight_5 : decode cX9_weight 5 = .ok (.iaload, 1) := by decide +kernel
theorem dX9_weight_6 : decode cX9_weight 6 = .ok (.bipush 10, 2) := by decide +kernel
theorem dX9_weight_8 : decode cX9_weight 8 = .ok (.irem, 1) := by decide +kernel
theorem dX9_weight_9 : decode cX9_weight 9 = .ok (.iload_n 2, 1) := by decide +kernel
theorem dX9_weight_10 : decode cX9_weight 10 = .ok (.bipush 10, 2) := by decide +kernel
theorem dX9_weight_12 : decode cX9_weight 12 = .ok (.irem, 1) := by decide +kernel
theorem dX9_weight_13 : decode cX9_weight 13 = .ok (.isub, 1) := by decide +kernel
theorem dX9_weight_14 : decode cX9_weight 14 = .ok (.invokestatic 161, 3) := by decide +kernel
theorem dX9_weight_17 : decode cX9_weight 17 = .ok (.aload_n 0, 1) := by decide +kernel
theorem dX9_weight_18 : decode cX9_weight 18 = .ok (.getfield 65, 3) := by decide +kernel
theorem dX9_weight_21 : decode cX9_weight 21 = .ok (.iload_n 1, 1) := by decide +kernel
theorem dX9_weight_22 : decode cX9_weight 22 = .ok (.iaload, 1) := by decide +kernel
theorem dX9_weight_23 : decode cX9_weight 23 = .ok (.bipush 10, 2) := by decide +kernel
theorem dX9_weight_25 : decode cX9_weight 25 = .ok (.idiv, 1) := by decide +kernel
theorem dX9_weight_26 : decode cX9_weight 26 = .ok (.iload_n 2, 1) := by decide +kernel
theorem dX9_weight_27 : decode cX9_weight 27 = .ok (.bipush 10, 2) := by decide +kernel
theorem dX9_weight_29 : decode cX9_weight 29 = .ok (.idiv, 1) := by decide +kernel
theorem dX9_weight_30 : decode cX9_weight 30 = .ok (.isub, 1) := by decide +kernel
theorem dX9_weight_31 : decode cX9_weight 31 = .ok (.invokestatic 161, 3) := by decide +kernel
theorem dX9_weight_34 : decode cX9_weight 34 = .ok (.iadd, 1) := by decide +kernel
theorem dX9_weight_35 : decode cX9_weight 35 = .ok (.istore 5, 2) := by decide +kernel
theorem dX9_weight_37 : decode cX9_weight 37 = .ok (.iload 5, 2) := by decide +kernel
theorem dX9_weight_39 : decode cX9_weight 39 = .ok (.bipush 8, 2) := by decide +kernel
theorem dX9_weight_41 : decode cX9_weight 41 = .ok (.if_icmp .ge 35, 3) := by decide +kernel
theorem dX9_weight_44 : decode cX9_weight 44 = .ok (.aload_n 0, 1) := by decide +kernel
theorem dX9_weight_45 : decode cX9_weight 45 = .ok (.getfield 62, 3) := by decide +kernel
theorem dX9_weight_48 : decode cX9_weight 48 = .ok (.iload_n 1, 1) := by decide +kernel
theorem dX9_weight_49 : decode cX9_weight 49 = .ok (.iaload, 1) := by decide +kernel
theorem dX9_weight_50 : decode cX9_weight 50 = .ok (.iload_n 3, 1) := by decide +kernel
theorem dX9_weight_51 : decode cX9_weight 51 = .ok (.isub, 1) := by decide +kernel
theorem dX9_weight_52 : decode cX9_weight 52 = .ok (.invokestatic 161, 3) := by decide +kernel
theorem dX9_weight_55 : decode cX9_weight 55 = .ok (.iload 4, 2) := by decide +kernel
theorem dX9_weight_57 : decode cX9_weight 57 = .ok (.if_icmp .gt 19, 3) := by decide +kernel
theorem dX9_weight_60 : decode cX9_weight 60 = .ok (.aload_n 0, 1) := by decide +kernel
theorem dX9_weight_61 : decode cX9_weight 61 = .ok (.iload_n 1, 1) := by decide +kernel
theorem dX9_weight_62 : decode cX9_weight 62 = .ok (.invokevirtual 176, 3) := by decide +kernel
theorem dX9_weight_65 : decode cX9_weight 65 = .ok (.ifCond .ne 11, 3) := by decide +kernel
theorem dX9_weight_68 : decode cX9_weight 68 = .ok (.bipush 8, 2) := by decide +kernel
theorem dX9_weight_70 : decode cX9_weight 70 = .ok (.iload 5, 2) := by decide +kernel
theorem dX9_weight_72 : decode cX9_weight 72 = .ok (.isub, 1) := by decide +kernel
theorem dX9_weight_73 : decode cX9_weight 73 = .ok (.goto 4, 3) := by decide +kernel
theorem dX9_weight_76 : decode cX9_weight 76 = .ok (.iconst 0, 1) := by decide +kernel
theorem dX9_weight_77 : decode cX9_weight 77 = .ok (.ireturn, 1) := by decide +kernel
theorem dX9_weights_0 : decode cX9_weights 0 = .ok (.iconst 0, 1) := by decide +kernel
theorem dX9_weights_1 : decode cX9_weights 1 = .ok (.istore 5, 2) := by decide +kernel
theorem dX9_weights_3 : decode cX9_weights 3 = .ok (.iconst 0, 1) := by decide +kernel
theorem dX9_weights_4 : decode cX9_weights 4 = .ok (.istore 6, 2) := by decide +kernel
theorem dX9_weights_6 : decode cX9_weights 6 = .ok (.iload 6, 2) := by decide +kernel
theorem dX9_weights_8 : decode cX9_weights 8 = .ok (.aload_n 0, 1) := by decide +kernel
theorem dX9_weights_9 : decode cX9_weights 9 = .ok (.getfield 106, 3) := by decide +kernel
theorem dX9_weights_12 : decode cX9_weights 12 = .ok (.if_icmp .ge 34, 3) := by decide +kernel
theorem dX9_weights_15 : decode cX9_weights 15 = .ok (.iload 5, 2) := by decide +kernel
theorem dX9_weights_17 : decode cX9_weights 17 = .ok (.iload 6, 2) := by decide +kernel
theorem dX9_weights_19 : decode cX9_weights 19 = .ok (.iload 4, 2) := by decide +kernel
theorem dX9_weights_21 : decode cX9_weights 21 = .ok (.if_icmp .ne 7, 3) := by decide +kernel
theorem dX9_weights_24 : decode cX9_weights 24 = .ok (.iconst 0, 1) := by decide +kernel
theorem dX9_weights_25 : decode cX9_weights 25 = .ok (.goto 12, 3) := by decide +kernel
theorem dX9_weights_28 : decode cX9_weights 28 = .ok (.aload_n 0, 1) := by decide +kernel
theorem dX9_weights_29 : decode cX9_weights 29 = .ok (.iload 6, 2) := by decide +kernel
theorem dX9_weights_31 : decode cX9_weights 31 = .ok (.iload_n 1, 1) := by decide +kernel
theorem dX9_weights_32 : decode cX9_weights 32 = .ok (.iload_n 2, 1) := by decide +kernel
theorem dX9_weights_33 : decode cX9_weights 33 = .ok (.iload_n 3, 1) := by decide +kernel
theorem dX9_weights_34 : decode cX9_weights 34 = .ok (.invokevirtual 185, 3) := by decide +kernel
theorem dX9_weights_37 : decode cX9_weights 37 = .ok (.iadd, 1) := by decide +kernel
theorem dX9_weights_38 : decode cX9_weights 38 = .ok (.istore 5, 2) := by decide +kernel
theorem dX9_weights_40 : decode cX9_weights 40 = .ok (.iinc 6 1, 3) := by decide +kernel
theorem dX9_weights_43 : decode cX9_weights 43 = .ok (.goto (-37), 3) := by decide +kernel
theorem dX9_weights_46 : decode cX9_weights 46 = .ok (.iload 5, 2) := by decide +kernel
theorem dX9_weights_48 : decode cX9_weights 48 = .ok (.ireturn, 1) := by decide +kernel
theorem dX9_meanOf_0 : decode cX9_meanOf 0 = .ok (.lconst 0, 1) := by decide +kernel
theorem dX9_meanOf_1 : decode cX9_meanOf 1 = .ok (.lstore 5, 2) := by decide +kernel
theorem dX9_meanOf_3 : decode cX9_meanOf 3 = .ok (.iconst 0, 1) := by decide +kernel
theorem dX9_meanOf_4 : decode cX9_meanOf 4 = .ok (.istore 7, 2) := by decide +kernel
theorem dX9_meanOf_6 : decode cX9_meanOf 6 = .ok (.iload 7, 2) := by decide +kernel
theorem dX9_meanOf_8 : decode cX9_meanOf 8 = .ok (.aload_n 0, 1) := by decide +kernel
theorem dX9_meanOf_9 : decode cX9_meanOf 9 = .ok (.getfield 106, 3) := by decide +kernel
theorem dX9_meanOf_12 : decode cX9_meanOf 12 = .ok (.if_icmp .ge 43, 3) := by decide +kernel
theorem dX9_meanOf_15 : decode cX9_meanOf 15 = .ok (.lload 5, 2) := by decide +kernel
theorem dX9_meanOf_17 : decode cX9_meanOf 17 = .ok (.iload 7, 2) := by decide +kernel
theorem dX9_meanOf_19 : decode cX9_meanOf 19 = .ok (.iload 4, 2) := by decide +kernel
theorem dX9_meanOf_21 : decode cX9_meanOf 21 = .ok (.if_icmp .ne 7, 3) := by decide +kernel
theorem dX9_meanOf_24 : decode cX9_meanOf 24 = .ok (.lconst 0, 1) := by decide +kernel
theorem dX9_meanOf_25 : decode cX9_meanOf 25 = .ok (.goto 21, 3) := by decide +kernel
theorem dX9_meanOf_28 : decode cX9_meanOf 28 = .ok (.aload_n 0, 1) := by decide +kernel
theorem dX9_meanOf_29 : decode cX9_meanOf 29 = .ok (.iload 7, 2) := by decide +kernel
theorem dX9_meanOf_31 : decode cX9_meanOf 31 = .ok (.iload_n 1, 1) := by decide +kernel
theorem dX9_meanOf_32 : decode cX9_meanOf 32 = .ok (.iload_n 2, 1) := by decide +kernel
theorem dX9_meanOf_33 : decode cX9_meanOf 33 = .ok (.iload_n 3, 1) := by decide +kernel
theorem dX9_meanOf_34 : decode cX9_meanOf 34 = .ok (.invokevirtual 185, 3) := by decide +kernel
theorem dX9_meanOf_37 : decode cX9_meanOf 37 = .ok (.i2l, 1) := by decide +kernel
theorem dX9_meanOf_38 : decode cX9_meanOf 38 = .ok (.aload_n 0, 1) := by decide +kernel
theorem dX9_meanOf_39 : decode cX9_meanOf 39 = .ok (.iload 7, 2) := by decide +kernel
theorem dX9_meanOf_41 : decode cX9_meanOf 41 = .ok (.invokevirtual 170, 3) := by decide +kernel
theorem dX9_meanOf_44 : decode cX9_meanOf 44 = .ok (.i2l, 1) := by decide +kernel
theorem dX9_meanOf_45 : decode cX9_meanOf 45 = .ok (.lmul, 1) := by decide +kernel
theorem dX9_meanOf_46 : decode cX9_meanOf 46 = .ok (.ladd, 1) := by decide +kernel
theorem dX9_meanOf_47 : decode cX9_meanOf 47 = .ok (.lstore 5, 2) := by decide +kernel
theorem dX9_meanOf_49 : decode cX9_meanOf 49 = .ok (.iinc 7 1, 3) := by decide +kernel
theorem dX9_meanOf_52 : decode cX9_meanOf 52 = .ok (.goto (-46), 3) := by decide +kernel
theorem dX9_meanOf_55 : decode cX9_meanOf 55 = .ok (.lload 5, 2) := by decide +kernel
theorem dX9_meanOf_57 : decode cX9_meanOf 57 = .ok (.aload_n 0, 1) := by decide +kernel
theorem dX9_meanOf_58 : decode cX9_meanOf 58 = .ok (.iload_n 1, 1) := by decide +kernel
theorem dX9_meanOf_59 : decode cX9_meanOf 59 = .ok (.iload_n 2, 1) := by decide +kernel
theorem dX9_meanOf_60 : decode cX9_meanOf 60 = .ok (.iload_n 3, 1) := by decide +kernel
theorem dX9_meanOf_61 : decode cX9_meanOf 61 = .ok (.iload 4, 2) := by decide +kernel
theorem dX9_meanOf_63 : decode cX9_meanOf 63 = .ok (.invokevirtual 189, 3) := by decide +kernel
theorem dX9_meanOf_66 : decode cX9_meanOf 66 = .ok (.i2l, 1) := by decide +kernel
theorem dX9_meanOf_67 : decode cX9_meanOf 67 = .ok (.ldiv, 1) := by decide +kernel
theorem dX9_meanOf_68 : decode cX9_meanOf 68 = .ok (.l2i, 1) := by decide +kernel
theorem dX9_meanOf_69 : decode cX9_meanOf 69 = .ok (.ireturn, 1) := by decide +kernel
theorem dX9_misses_0 : decode cX9_misses 0 = .ok (.iload_n 1, 1) := by decide +kernel
theorem dX9_misses_1 : decode cX9_misses 1 = .ok (.invokestatic 116, 3) := by decide +kernel
theorem dX9_misses_4 : decode cX9_misses 4 = .ok (.ifCond .ne 7, 3) := by decide +kernel
theorem dX9_misses_7 : decode cX9_misses 7 = .ok (.iconst 1, 1) := by decide +kernel
theorem dX9_misses_8 : decode cX9_misses 8 = .ok (.goto 43, 3) := by decide +kernel
theorem dX9_misses_11 : decode cX9_misses 11 = .ok (.iload_n 2, 1) := by decide +kernel
theorem dX9_misses_12 : decode cX9_misses 12 = .ok (.iconst 0, 1) := by decide +kernel
theorem dX9_misses_13 : decode cX9_misses 13 = .ok (.sipush 1000, 3) := by decide +kernel
theorem dX9_misses_16 : decode cX9_misses 16 = .ok (.invokestatic 99, 3) := by decide +kernel
theorem dX9_misses_19 : decode cX9_misses 19 = .ok (.ifCond .eq 14, 3) := by decide +kernel
theorem dX9_misses_22 : decode cX9_misses 22 = .ok (.iload_n 3, 1) := by decide +kernel
theorem dX9_misses_23 : decode cX9_misses 23 = .ok (.iconst 0, 1) := by decide +kernel
theorem dX9_misses_24 : decode cX9_misses 24 = .ok (.sipush 1000, 3) := by decide +kernel
theorem dX9_misses_27 : decode cX9_misses 27 = .ok (.invokestatic 99, 3) := by decide +kernel
theorem dX9_misses_30 : decode cX9_misses 30 = .ok (.ifCond .ne 7, 3) := by decide +kernel
theorem dX9_misses_33 : decode cX9_misses 33 = .ok (.iconst 2, 1) := by decide +kernel
theorem dX9_misses_34 : decode cX9_misses 34 = .ok (.goto 17, 3) := by decide +kernel
theorem dX9_misses_37 : decode cX9_misses 37 = .ok (.aload_n 0, 1) := by decide +kernel
theorem dX9_misses_38 : decode cX9_misses 38 = .ok (.getfield 7, 3) := by decide +kernel
theorem dX9_misses_41 : decode cX9_misses 41 = .ok (.iload_n 1, 1) := by decide +kernel
theorem dX9_misses_42 : decode cX9_misses 42 = .ok (.baload, 1) := by decide +kernel
theorem dX9_misses_43 : decode cX9_misses 43 = .ok (.ifCond .eq 7, 3) := by decide +kernel
theorem dX9_misses_46 : decode cX9_misses 46 = .ok (.iconst 3, 1) := by decide +kernel
theorem dX9_misses_47 : decode cX9_misses 47 = .ok (.goto 4, 3) := by decide +kernel
theorem dX9_misses_50 : decode cX9_misses 50 = .ok (.iconst 0, 1) := by decide +kernel
theorem dX9_misses_51 : decode cX9_misses 51 = .ok (.ireturn, 1) := by decide +kernel
theorem dX9_mean_0 : decode cX9_mean 0 = .ok (.aload_n 0, 1) := by decide +kernel
theorem dX9_mean_1 : decode cX9_mean 1 = .ok (.aload_n 0, 1) := by decide +kernel
theorem dX9_mean_2 : decode cX9_mean 2 = .ok (.iload_n 1, 1) := by decide +kernel
theorem dX9_mean_3 : decode cX9_mean 3 = .ok (.iload_n 2, 1) := by decide +kernel
theorem dX9_mean_4 : decode cX9_mean 4 = .ok (.iload_n 3, 1) := by decide +kernel
theorem dX9_mean_5 : decode cX9_mean 5 = .ok (.invokevirtual 192, 3) := by decide +kernel
theorem dX9_mean_8 : decode cX9_mean 8 = .ok (.putfield 96, 3) := by decide +kernel
theorem dX9_mean_11 : decode cX9_mean 11 = .ok (.aload_n 0, 1) := by decide +kernel
theorem dX9_mean_12 : decode cX9_mean 12 = .ok (.aload_n 0, 1) := by decide +kernel
theorem dX9_mean_13 : decode cX9_mean 13 = .ok (.getfield 96, 3) := by decide +kernel
theorem dX9_mean_16 : decode cX9_mean 16 = .ok (.ifCond .ne 18, 3) := by decide +kernel
theorem dX9_mean_19 : decode cX9_mean 19 = .ok (.aload_n 0, 1) := by decide +kernel
theorem dX9_mean_20 : decode cX9_mean 20 = .ok (.iload_n 1, 1) := by decide +kernel
theorem dX9_mean_21 : decode cX9_mean 21 = .ok (.iload_n 2, 1) := by decide +kernel
theorem dX9_mean_22 : decode cX9_mean 22 = .ok (.iload_n 3, 1) := by decide +kernel
theorem dX9_mean_23 : decode cX9_mean 23 = .ok (.iconst (-1), 1) := by decide +kernel
theorem dX9_mean_24 : decode cX9_mean 24 = .ok (.invokevirtual 189, 3) := by decide +kernel
theorem dX9_mean_27 : decode cX9_mean 27 = .ok (.ifCond .ne 7, 3) := by decide +kernel
theorem dX9_mean_30 : decode cX9_mean 30 = .ok (.iconst 3, 1) := by decide +kernel
theorem dX9_mean_31 : decode cX9_mean 31 = .ok (.goto 7, 3) := by decide +kernel
theorem dX9_mean_34 : decode cX9_mean 34 = .ok (.aload_n 0, 1) := by decide +kernel
theorem dX9_mean_35 : decode cX9_mean 35 = .ok (.getfield 96, 3) := by decide +kernel
theorem dX9_mean_38 : decode cX9_mean 38 = .ok (.putfield 96, 3) := by decide +kernel
theorem dX9_mean_41 : decode cX9_mean 41 = .ok (.aload_n 0, 1) := by decide +kernel
theorem dX9_mean_42 : decode cX9_mean 42 = .ok (.getfield 96, 3) := by decide +kernel
theorem dX9_mean_45 : decode cX9_mean 45 = .ok (.ifCond .le 7, 3) := by decide +kernel
theorem dX9_mean_48 : decode cX9_mean 48 = .ok (.iconst 0, 1) := by decide +kernel
theorem dX9_mean_49 : decode cX9_mean 49 = .ok (.goto 11, 3) := by decide +kernel
theorem dX9_mean_52 : decode cX9_mean 52 = .ok (.aload_n 0, 1) := by decide +kernel
theorem dX9_mean_53 : decode cX9_mean 53 = .ok (.iload_n 1, 1) := by decide +kernel
theorem dX9_mean_54 : decode cX9_mean 54 = .ok (.iload_n 2, 1) := by decide +kernel
theorem dX9_mean_55 : decode cX9_mean 55 = .ok (.iload_n 3, 1) := by decide +kernel
theorem dX9_mean_56 : decode cX9_mean 56 = .ok (.iconst (-1), 1) := by decide +kernel
theorem dX9_mean_57 : decode cX9_mean 57 = .ok (.invokevirtual 196, 3) := by decide +kernel
theorem dX9_mean_60 : decode cX9_mean 60 = .ok (.ireturn, 1) := by decide +kernel
theorem dX9_error_0 : decode cX9_error 0 = .ok (.aload_n 0, 1) := by decide +kernel
theorem dX9_error_1 : decode cX9_error 1 = .ok (.aload_n 0, 1) := by decide +kernel
theorem dX9_error_2 : decode cX9_error 2 = .ok (.iload_n 1, 1) := by decide +kernel
theorem dX9_error_3 : decode cX9_error 3 = .ok (.iload_n 2, 1) := by decide +kernel
theorem dX9_error_4 : decode cX9_error 4 = .ok (.iload_n 3, 1) := by decide +kernel
theorem dX9_error_5 : decode cX9_error 5 = .ok (.invokevirtual 192, 3) := by decide +kernel
theorem dX9_error_8 : decode cX9_error 8 = .ok (.putfield 96, 3) := by decide +kernel
theorem dX9_error_11 : decode cX9_error 11 = .ok (.aload_n 0, 1) := by decide +kernel
theorem dX9_error_12 : decode cX9_error 12 = .ok (.getfield 96, 3) := by decide +kernel
theorem dX9_error_15 : decode cX9_error 15 = .ok (.ifCond .le 7, 3) := by decide +kernel
theorem dX9_error_18 : decode cX9_error 18 = .ok (.iconst 0, 1) := by decide +kernel
theorem dX9_error_19 : decode cX9_error 19 = .ok (.goto 17, 3) := by decide +kernel
theorem dX9_error_22 : decode cX9_error 22 = .ok (.sipush 1000, 3) := by decide +kernel
theorem dX9_error_25 : decode cX9_error 25 = .ok (.iconst 1, 1) := by decide +kernel
theorem dX9_error_26 : decode cX9_error 26 = .ok (.aload_n 0, 1) := by decide +kernel
theorem dX9_error_27 : decode cX9_error 27 = .ok (.iload_n 1, 1) := by decide +kernel
theorem dX9_error_28 : decode cX9_error 28 = .ok (.iload_n 2, 1) := by decide +kernel
theorem dX9_error_29 : decode cX9_error 29 = .ok (.iload_n 3, 1) := by decide +kernel
theorem dX9_error_30 : decode cX9_error 30 = .ok (.iconst (-1), 1) := by decide +kernel
theorem dX9_error_31 : decode cX9_error 31 = .ok (.invokevirtual 189, 3) := by decide +kernel
theorem dX9_error_34 : decode cX9_error 34 = .ok (.iadd, 1) := by decide +kernel
theorem dX9_error_35 : decode cX9_error 35 = .ok (.idiv, 1) := by decide +kernel
theorem dX9_error_36 : decode cX9_error 36 = .ok (.ireturn, 1) := by decide +kernel
theorem dX9_residual_0 : decode cX9_residual 0 = .ok (.aload_n 0, 1) := by decide +kernel
theorem dX9_residual_1 : decode cX9_residual 1 = .ok (.aload_n 0, 1) := by decide +kernel
theorem dX9_residual_2 : decode cX9_residual 2 = .ok (.iload_n 1, 1) := by decide +kernel
theorem dX9_residual_3 : decode cX9_residual 3 = .ok (.invokevirtual 173, 3) := by decide +kernel
theorem dX9_residual_6 : decode cX9_residual 6 = .ok (.ifCond .ne 7, 3) := by decide +kernel
theorem dX9_residual_9 : decode cX9_residual 9 = .ok (.iconst 1, 1) := by decide +kernel
theorem dX9_residual_10 : decode cX9_residual 10 = .ok (.goto 19, 3) := by decide +kernel
theorem dX9_residual_13 : decode cX9_residual 13 = .ok (.iload_n 2, 1) := by decide +kernel
theorem dX9_residual_14 : decode cX9_residual 14 = .ok (.iconst 0, 1) := by decide +kernel
theorem dX9_residual_15 : decode cX9_residual 15 = .ok (.sipush 1000, 3) := by decide +kernel
theorem dX9_residual_18 : decode cX9_residual 18 = .ok (.invokestatic 99, 3) := by decide +kernel
theorem dX9_residual_21 : decode cX9_residual 21 = .ok (.ifCond .ne 7, 3) := by decide +kernel
theorem dX9_residual_24 : decode cX9_residual 24 = .ok (.iconst 2, 1) := by decide +kernel
theorem dX9_residual_25 : decode cX9_residual 25 = .ok (.goto 4, 3) := by decide +kernel
theorem dX9_residual_28 : decode cX9_residual 28 = .ok (.iconst 0, 1) := by decide +kernel
theorem dX9_residual_29 : decode cX9_residual 29 = .ok (.putfield 96, 3) := by decide +kernel
theorem dX9_residual_32 : decode cX9_residual 32 = .ok (.aload_n 0, 1) := by decide +kernel
theorem dX9_residual_33 : decode cX9_residual 33 = .ok (.aload_n 0, 1) := by decide +kernel
theorem dX9_residual_34 : decode cX9_residual 34 = .ok (.getfield 96, 3) := by decide +kernel
theorem dX9_residual_37 : decode cX9_residual 37 = .ok (.ifCond .ne 28, 3) := by decide +kernel
theorem dX9_residual_40 : decode cX9_residual 40 = .ok (.aload_n 0, 1) := by decide +kernel
theorem dX9_residual_41 : decode cX9_residual 41 = .ok (.aload_n 0, 1) := by decide +kernel
theorem dX9_residual_42 : decode cX9_residual 42 = .ok (.getfield 65, 3) := by decide +kernel
theorem dX9_residual_45 : decode cX9_residual 45 = .ok (.iload_n 1, 1) := by decide +kernel
theorem dX9_residual_46 : decode cX9_residual 46 = .ok (.iaload, 1) := by decide +kernel
theorem dX9_residual_47 : decode cX9_residual 47 = .ok (.aload_n 0, 1) := by decide +kernel
theorem dX9_residual_48 : decode cX9_residual 48 = .ok (.getfield 62, 3) := by decide +kernel
theorem dX9_residual_51 : decode cX9_residual 51 = .ok (.iload_n 1, 1) := by decide +kernel
theorem dX9_residual_52 : decode cX9_residual 52 = .ok (.iaload, 1) := by decide +kernel
theorem dX9_residual_53 : decode cX9_residual 53 = .ok (.iload_n 2, 1) := by decide +kernel
theorem dX9_residual_54 : decode cX9_residual 54 = .ok (.iload_n 1, 1) := by decide +kernel
theorem dX9_residual_55 : decode cX9_residual 55 = .ok (.invokevirtual 189, 3) := by decide +kernel
theorem dX9_residual_58 : decode cX9_residual 58 = .ok (.ifCond .ne 7, 3) := by decide +kernel
theorem dX9_residual_61 : decode cX9_residual 61 = .ok (.iconst 3, 1) := by decide +kernel
theorem dX9_residual_62 : decode cX9_residual 62 = .ok (.goto 7, 3) := by decide +kernel
theorem dX9_residual_65 : decode cX9_residual 65 = .ok (.aload_n 0, 1) := by decide +kernel
theorem dX9_residual_66 : decode cX9_residual 66 = .ok (.getfield 96, 3) := by decide +kernel
theorem dX9_residual_69 : decode cX9_residual 69 = .ok (.putfield 96, 3) := by decide +kernel
theorem dX9_residual_72 : decode cX9_residual 72 = .ok (.aload_n 0, 1) := by decide +kernel
theorem dX9_residual_73 : decode cX9_residual 73 = .ok (.getfield 96, 3) := by decide +kernel
theorem dX9_residual_76 : decode cX9_residual 76 = .ok (.ifCond .le 7, 3) := by decide +kernel
theorem dX9_residual_79 : decode cX9_residual 79 = .ok (.iconst 0, 1) := by decide +kernel
theorem dX9_residual_80 : decode cX9_residual 80 = .ok (.goto 27, 3) := by decide +kernel
theorem dX9_residual_83 : decode cX9_residual 83 = .ok (.aload_n 0, 1) := by decide +kernel
theorem dX9_residual_84 : decode cX9_residual 84 = .ok (.iload_n 1, 1) := by decide +kernel
theorem dX9_residual_85 : decode cX9_residual 85 = .ok (.invokevirtual 170, 3) := by decide +kernel
theorem dX9_residual_88 : decode cX9_residual 88 = .ok (.aload_n 0, 1) := by decide +kernel
theorem dX9_residual_89 : decode cX9_residual 89 = .ok (.aload_n 0, 1) := by decide +kernel
theorem dX9_residual_90 : decode cX9_residual 90 = .ok (.getfield 65, 3) := by decide +kernel
theorem dX9_residual_93 : decode cX9_residual 93 = .ok (.iload_n 1, 1) := by decide +kernel
theorem dX9_residual_94 : decode cX9_residual 94 = .ok (.iaload, 1) := by decide +kernel
theorem dX9_residual_95 : decode cX9_residual 95 = .ok (.aload_n 0, 1) := by decide +kernel
theorem dX9_residual_96 : decode cX9_residual 96 = .ok (.getfield 62, 3) := by decide +kernel
theorem dX9_residual_99 : decode cX9_residual 99 = .ok (.iload_n 1, 1) := by decide +kernel
theorem dX9_residual_100 : decode cX9_residual 100 = .ok (.iaload, 1) := by decide +kernel
theorem dX9_residual_101 : decode cX9_residual 101 = .ok (.iload_n 2, 1) := by decide +kernel
theorem dX9_residual_102 : decode cX9_residual 102 = .ok (.iload_n 1, 1) := by decide +kernel
theorem dX9_residual_103 : decode cX9_residual 103 = .ok (.invokevirtual 196, 3) := by decide +kernel
theorem dX9_residual_106 : decode cX9_residual 106 = .ok (.isub, 1) := by decide +kernel
theorem dX9_residual_107 : decode cX9_residual 107 = .ok (.ireturn, 1) := by decide +kernel
theorem dX9_chance_0 : decode cX9_chance 0 = .ok (.aload_n 0, 1) := by decide +kernel
theorem dX9_chance_1 : decode cX9_chance 1 = .ok (.aload_n 0, 1) := by decide +kernel
theorem dX9_chance_2 : decode cX9_chance 2 = .ok (.iload_n 1, 1) := by decide +kernel
theorem dX9_chance_3 : decode cX9_chance 3 = .ok (.invokevirtual 179, 3) := by decide +kernel
theorem dX9_chance_6 : decode cX9_chance 6 = .ok (.ifCond .eq 14, 3) := by decide +kernel
theorem dX9_chance_9 : decode cX9_chance 9 = .ok (.iload_n 2, 1) := by decide +kernel
theorem dX9_chance_10 : decode cX9_chance 10 = .ok (.invokestatic 116, 3) := by decide +kernel
theorem dX9_chance_13 : decode cX9_chance 13 = .ok (.ifCond .eq 7, 3) := by decide +kernel
theorem dX9_chance_16 : decode cX9_chance 16 = .ok (.iconst 0, 1) := by decide +kernel
theorem dX9_chance_17 : decode cX9_chance 17 = .ok (.goto 4, 3) := by decide +kernel
theorem dX9_chance_20 : decode cX9_chance 20 = .ok (.iconst 1, 1) := by decide +kernel
theorem dX9_chance_21 : decode cX9_chance 21 = .ok (.putfield 96, 3) := by decide +kernel
theorem dX9_chance_24 : decode cX9_chance 24 = .ok (.aload_n 0, 1) := by decide +kernel
theorem dX9_chance_25 : decode cX9_chance 25 = .ok (.getfield 96, 3) := by decide +kernel
theorem dX9_chance_28 : decode cX9_chance 28 = .ok (.ifCond .le 7, 3) := by decide +kernel
theorem dX9_chance_31 : decode cX9_chance 31 = .ok (.iconst 0, 1) := by decide +kernel
theorem dX9_chance_32 : decode cX9_chance 32 = .ok (.goto 14, 3) := by decide +kernel
theorem dX9_chance_35 : decode cX9_chance 35 = .ok (.aload_n 0, 1) := by decide +kernel
theorem dX9_chance_36 : decode cX9_chance 36 = .ok (.getfield 84, 3) := by decide +kernel
theorem dX9_chance_39 : decode cX9_chance 39 = .ok (.bipush 60, 2) := by decide +kernel
theorem dX9_chance_41 : decode cX9_chance 41 = .ok (.iload_n 1, 1) := by decide +kernel
theorem dX9_chance_42 : decode cX9_chance 42 = .ok (.imul, 1) := by decide +kernel
theorem dX9_chance_43 : decode cX9_chance 43 = .ok (.iload_n 2, 1) := by decide +kernel
theorem dX9_chance_44 : decode cX9_chance 44 = .ok (.iadd, 1) := by decide +kernel
theorem dX9_chance_45 : decode cX9_chance 45 = .ok (.iaload, 1) := by decide +kernel
theorem dX9_chance_46 : decode cX9_chance 46 = .ok (.ireturn, 1) := by decide +kernel
theorem dX9_bestOf_0 : decode cX9_bestOf 0 = .ok (.iconst 0, 1) := by decide +kernel
theorem dX9_bestOf_1 : decode cX9_bestOf 1 = .ok (.istore_n 2, 1) := by decide +kernel
theorem dX9_bestOf_2 : decode cX9_bestOf 2 = .ok (.iconst 1, 1) := by decide +kernel
theorem dX9_bestOf_3 : decode cX9_bestOf 3 = .ok (.istore_n 3, 1) := by decide +kernel
theorem dX9_bestOf_4 : decode cX9_bestOf 4 = .ok (.iload_n 3, 1) := by decide +kernel
theorem dX9_bestOf_5 : decode cX9_bestOf 5 = .ok (.bipush 60, 2) := by decide +kernel
theorem dX9_bestOf_7 : decode cX9_bestOf 7 = .ok (.if_icmp .ge 40, 3) := by decide +kernel
theorem dX9_bestOf_10 : decode cX9_bestOf 10 = .ok (.aload_n 0, 1) := by decide +kernel
theorem dX9_bestOf_11 : decode cX9_bestOf 11 = .ok (.getfield 84, 3) := by decide +kernel
theorem dX9_bestOf_14 : decode cX9_bestOf 14 = .ok (.bipush 60, 2) := by decide +kernel
theorem dX9_bestOf_16 : decode cX9_bestOf 16 = .ok (.iload_n 1, 1) := by decide +kernel
theorem dX9_bestOf_17 : decode cX9_bestOf 17 = .ok (.imul, 1) := by decide +kernel
theorem dX9_bestOf_18 : decode cX9_bestOf 18 = .ok (.iload_n 3, 1) := by decide +kernel
theorem dX9_bestOf_19 : decode cX9_bestOf 19 = .ok (.iadd, 1) := by decide +kernel
theorem dX9_bestOf_20 : decode cX9_bestOf 20 = .ok (.iaload, 1) := by decide +kernel
theorem dX9_bestOf_21 : decode cX9_bestOf 21 = .ok (.aload_n 0, 1) := by decide +kernel
theorem dX9_bestOf_22 : decode cX9_bestOf 22 = .ok (.getfield 84, 3) := by decide +kernel
theorem dX9_bestOf_25 : decode cX9_bestOf 25 = .ok (.bipush 60, 2) := by decide +kernel
theorem dX9_bestOf_27 : decode cX9_bestOf 27 = .ok (.iload_n 1, 1) := by decide +kernel
theorem dX9_bestOf_28 : decode cX9_bestOf 28 = .ok (.imul, 1) := by decide +kernel
theorem dX9_bestOf_29 : decode cX9_bestOf 29 = .ok (.iload_n 2, 1) := by decide +kernel
theorem dX9_bestOf_30 : decode cX9_bestOf 30 = .ok (.iadd, 1) := by decide +kernel
theorem dX9_bestOf_31 : decode cX9_bestOf 31 = .ok (.iaload, 1) := by decide +kernel
theorem dX9_bestOf_32 : decode cX9_bestOf 32 = .ok (.if_icmp .le 7, 3) := by decide +kernel
theorem dX9_bestOf_35 : decode cX9_bestOf 35 = .ok (.iload_n 3, 1) := by decide +kernel
theorem dX9_bestOf_36 : decode cX9_bestOf 36 = .ok (.goto 4, 3) := by decide +kernel
theorem dX9_bestOf_39 : decode cX9_bestOf 39 = .ok (.iload_n 2, 1) := by decide +kernel
theorem dX9_bestOf_40 : decode cX9_bestOf 40 = .ok (.istore_n 2, 1) := by decide +kernel
theorem dX9_bestOf_41 : decode cX9_bestOf 41 = .ok (.iinc 3 1, 3) := by decide +kernel
theorem dX9_bestOf_44 : decode cX9_bestOf 44 = .ok (.goto (-40), 3) := by decide +kernel
theorem dX9_bestOf_47 : decode cX9_bestOf 47 = .ok (.iload_n 2, 1) := by decide +kernel
theorem dX9_bestOf_48 : decode cX9_bestOf 48 = .ok (.ireturn, 1) := by decide +kernel
theorem dX9_best_0 : decode cX9_best 0 = .ok (.aload_n 0, 1) := by decide +kernel
theorem dX9_best_1 : decode cX9_best 1 = .ok (.aload_n 0, 1) := by decide +kernel
theorem dX9_best_2 : decode cX9_best 2 = .ok (.iload_n 1, 1) := by decide +kernel
theorem dX9_best_3 : decode cX9_best 3 = .ok (.invokevirtual 179, 3) := by decide +kernel
theorem dX9_best_6 : decode cX9_best 6 = .ok (.ifCond .eq 7, 3) := by decide +kernel
theorem dX9_best_9 : decode cX9_best 9 = .ok (.iconst 0, 1) := by decide +kernel
theorem dX9_best_10 : decode cX9_best 10 = .ok (.goto 4, 3) := by decide +kernel
theorem dX9_best_13 : decode cX9_best 13 = .ok (.iconst 1, 1) := by decide +kernel
theorem dX9_best_14 : decode cX9_best 14 = .ok (.putfield 96, 3) := by decide +kernel
theorem dX9_best_17 : decode cX9_best 17 = .ok (.aload_n 0, 1) := by decide +kernel
theorem dX9_best_18 : decode cX9_best 18 = .ok (.getfield 96, 3) := by decide +kernel
theorem dX9_best_21 : decode cX9_best 21 = .ok (.ifCond .le 7, 3) := by decide +kernel
theorem dX9_best_24 : decode cX9_best 24 = .ok (.iconst 0, 1) := by decide +kernel
theorem dX9_best_25 : decode cX9_best 25 = .ok (.goto 8, 3) := by decide +kernel
theorem dX9_best_28 : decode cX9_best 28 = .ok (.aload_n 0, 1) := by decide +kernel
theorem dX9_best_29 : decode cX9_best 29 = .ok (.iload_n 1, 1) := by decide +kernel
theorem dX9_best_30 : decode cX9_best 30 = .ok (.invokevirtual 199, 3) := by decide +kernel
theorem dX9_best_33 : decode cX9_best 33 = .ok (.ireturn, 1) := by decide +kernel
theorem dX9_plan_0 : decode cX9_plan 0 = .ok (.aload_n 0, 1) := by decide +kernel
theorem dX9_plan_1 : decode cX9_plan 1 = .ok (.aload_n 0, 1) := by decide +kernel
theorem dX9_plan_2 : decode cX9_plan 2 = .ok (.iload_n 1, 1) := by decide +kernel
theorem dX9_plan_3 : decode cX9_plan 3 = .ok (.invokevirtual 179, 3) := by decide +kernel
theorem dX9_plan_6 : decode cX9_plan 6 = .ok (.ifCond .ne 7, 3) := by decide +kernel
theorem dX9_plan_9 : decode cX9_plan 9 = .ok (.iconst 1, 1) := by decide +kernel
theorem dX9_plan_10 : decode cX9_plan 10 = .ok (.goto 28, 3) := by decide +kernel
theorem dX9_plan_13 : decode cX9_plan 13 = .ok (.iload_n 2, 1) := by decide +kernel
theorem dX9_plan_14 : decode cX9_plan 14 = .ok (.iconst 1, 1) := by decide +kernel
theorem dX9_plan_15 : decode cX9_plan 15 = .ok (.bipush 20, 2) := by decide +kernel
theorem dX9_plan_17 : decode cX9_plan 17 = .ok (.invokestatic 99, 3) := by decide +kernel
theorem dX9_plan_20 : decode cX9_plan 20 = .ok (.ifCond .eq 13, 3) := by decide +kernel
theorem dX9_plan_23 : decode cX9_plan 23 = .ok (.iload_n 3, 1) := by decide +kernel
theorem dX9_plan_24 : decode cX9_plan 24 = .ok (.iconst 1, 1) := by decide +kernel
theorem dX9_plan_25 : decode cX9_plan 25 = .ok (.bipush 100, 2) := by decide +kernel
theorem dX9_plan_27 : decode cX9_plan 27 = .ok (.invokestatic 99, 3) := by decide +kernel
theorem dX9_plan_30 : decode cX9_plan 30 = .ok (.ifCond .ne 7, 3) := by decide +kernel
theorem dX9_plan_33 : decode cX9_plan 33 = .ok (.iconst 2, 1) := by decide +kernel
theorem dX9_plan_34 : decode cX9_plan 34 = .ok (.goto 4, 3) := by decide +kernel
theorem dX9_plan_37 : decode cX9_plan 37 = .ok (.iconst 0, 1) := by decide +kernel
theorem dX9_plan_38 : decode cX9_plan 38 = .ok (.putfield 96, 3) := by decide +kernel
theorem dX9_plan_41 : decode cX9_plan 41 = .ok (.aload_n 0, 1) := by decide +kernel
theorem dX9_plan_42 : decode cX9_plan 42 = .ok (.getfield 96, 3) := by decide +kernel
theorem dX9_plan_45 : decode cX9_plan 45 = .ok (.ifCond .le 5, 3) := by decide +kernel
theorem dX9_plan_48 : decode cX9_plan 48 = .ok (.iconst 0, 1) := by decide +kernel
theorem dX9_plan_49 : decode cX9_plan 49 = .ok (.ireturn, 1) := by decide +kernel
theorem dX9_plan_50 : decode cX9_plan 50 = .ok (.iconst 0, 1) := by decide +kernel
theorem dX9_plan_51 : decode cX9_plan 51 = .ok (.istore 4, 2) := by decide +kernel
theorem dX9_plan_53 : decode cX9_plan 53 = .ok (.iload 4, 2) := by decide +kernel
theorem dX9_plan_55 : decode cX9_plan 55 = .ok (.bipush 60, 2) := by decide +kernel
theorem dX9_plan_57 : decode cX9_plan 57 = .ok (.if_icmp .ge 32, 3) := by decide +kernel
theorem dX9_plan_60 : decode cX9_plan 60 = .ok (.aload_n 0, 1) := by decide +kernel
theorem dX9_plan_61 : decode cX9_plan 61 = .ok (.getfield 84, 3) := by decide +kernel
theorem dX9_plan_64 : decode cX9_plan 64 = .ok (.sipush 240, 3) := by decide +kernel
theorem dX9_plan_67 : decode cX9_plan 67 = .ok (.iload 4, 2) := by decide +kernel
theorem dX9_plan_69 : decode cX9_plan 69 = .ok (.iadd, 1) := by decide +kernel
theorem dX9_plan_70 : decode cX9_plan 70 = .ok (.aload_n 0, 1) := by decide +kernel
theorem dX9_plan_71 : decode cX9_plan 71 = .ok (.getfield 84, 3) := by decide +kernel
theorem dX9_plan_74 : decode cX9_plan 74 = .ok (.bipush 60, 2) := by decide +kernel
theorem dX9_plan_76 : decode cX9_plan 76 = .ok (.iload_n 1, 1) := by decide +kernel
theorem dX9_plan_77 : decode cX9_plan 77 = .ok (.imul, 1) := by decide +kernel
theorem dX9_plan_78 : decode cX9_plan 78 = .ok (.iload 4, 2) := by decide +kernel
theorem dX9_plan_80 : decode cX9_plan 80 = .ok (.iadd, 1) := by decide +kernel
theorem dX9_plan_81 : decode cX9_plan 81 = .ok (.iaload, 1) := by decide +kernel
theorem dX9_plan_82 : decode cX9_plan 82 = .ok (.iastore, 1) := by decide +kernel
theorem dX9_plan_83 : decode cX9_plan 83 = .ok (.iinc 4 1, 3) := by decide +kernel
theorem dX9_plan_86 : decode cX9_plan 86 = .ok (.goto (-33), 3) := by decide +kernel
theorem dX9_plan_89 : decode cX9_plan 89 = .ok (.iconst 0, 1) := by decide +kernel
theorem dX9_plan_90 : decode cX9_plan 90 = .ok (.istore 4, 2) := by decide +kernel
theorem dX9_plan_92 : decode cX9_plan 92 = .ok (.iconst 0, 1) := by decide +kernel
theorem dX9_plan_93 : decode cX9_plan 93 = .ok (.istore 5, 2) := by decide +kernel
theorem dX9_plan_95 : decode cX9_plan 95 = .ok (.iload 5, 2) := by decide +kernel
theorem dX9_plan_97 : decode cX9_plan 97 = .ok (.iload_n 2, 1) := by decide +kernel
theorem dX9_plan_98 : decode cX9_plan 98 = .ok (.if_icmp .ge 53, 3) := by decide +kernel
theorem dX9_plan_101 : decode cX9_plan 101 = .ok (.sipush 240, 3) := by decide +kernel
theorem dX9_plan_104 : decode cX9_plan 104 = .ok (.aload_n 0, 1) := by decide +kernel
theorem dX9_plan_105 : decode cX9_plan 105 = .ok (.iconst 4, 1) := by decide +kernel
theorem dX9_plan_106 : decode cX9_plan 106 = .ok (.invokevirtual 199, 3) := by decide +kernel
theorem dX9_plan_109 : decode cX9_plan 109 = .ok (.iadd, 1) := by decide +kernel
theorem dX9_plan_110 : decode cX9_plan 110 = .ok (.istore 6, 2) := by decide +kernel
theorem dX9_plan_112 : decode cX9_plan 112 = .ok (.aload_n 0, 1) := by decide +kernel
theorem dX9_plan_113 : decode cX9_plan 113 = .ok (.getfield 84, 3) := by decide +kernel
theorem dX9_plan_116 : decode cX9_plan 116 = .ok (.iload 6, 2) := by decide +kernel
theorem dX9_plan_118 : decode cX9_plan 118 = .ok (.iaload, 1) := by decide +kernel
theorem dX9_plan_119 : decode cX9_plan 119 = .ok (.iload_n 3, 1) := by decide +kernel
theorem dX9_plan_120 : decode cX9_plan 120 = .ok (.imul, 1) := by decide +kernel
theorem dX9_plan_121 : decode cX9_plan 121 = .ok (.bipush 100, 2) := by decide +kernel
theorem dX9_plan_123 : decode cX9_plan 123 = .ok (.idiv, 1) := by decide +kernel
theorem dX9_plan_124 : decode cX9_plan 124 = .ok (.istore 7, 2) := by decide +kernel
theorem dX9_plan_126 : decode cX9_plan 126 = .ok (.aload_n 0, 1) := by decide +kernel
theorem dX9_plan_127 : decode cX9_plan 127 = .ok (.getfield 84, 3) := by decide +kernel
theorem dX9_plan_130 : decode cX9_plan 130 = .ok (.iload 6, 2) := by decide +kernel
theorem dX9_plan_132 : decode cX9_plan 132 = .ok (.dup2, 1) := by decide +kernel
theorem dX9_plan_133 : decode cX9_plan 133 = .ok (.iaload, 1) := by decide +kernel
theorem dX9_plan_134 : decode cX9_plan 134 = .ok (.iload 7, 2) := by decide +kernel
theorem dX9_plan_136 : decode cX9_plan 136 = .ok (.isub, 1) := by decide +kernel
theorem dX9_plan_137 : decode cX9_plan 137 = .ok (.iastore, 1) := by decide +kernel
theorem dX9_plan_138 : decode cX9_plan 138 = .ok (.iload 4, 2) := by decide +kernel
theorem dX9_plan_140 : decode cX9_plan 140 = .ok (.iload 7, 2) := by decide +kernel
theorem dX9_plan_142 : decode cX9_plan 142 = .ok (.iadd, 1) := by decide +kernel
theorem dX9_plan_143 : decode cX9_plan 143 = .ok (.istore 4, 2) := by decide +kernel
theorem dX9_plan_145 : decode cX9_plan 145 = .ok (.iinc 5 1, 3) := by decide +kernel
theorem dX9_plan_148 : decode cX9_plan 148 = .ok (.goto (-53), 3) := by decide +kernel
theorem dX9_plan_151 : decode cX9_plan 151 = .ok (.iload 4, 2) := by decide +kernel
theorem dX9_plan_153 : decode cX9_plan 153 = .ok (.ireturn, 1) := by decide +kernel
theorem dX9_tideAt_0 : decode cX9_tideAt 0 = .ok (.iconst 0, 1) := by decide +kernel
theorem dX9_tideAt_1 : decode cX9_tideAt 1 = .ok (.istore_n 2, 1) := by decide +kernel
theorem dX9_tideAt_2 : decode cX9_tideAt 2 = .ok (.iconst 0, 1) := by decide +kernel
theorem dX9_tideAt_3 : decode cX9_tideAt 3 = .ok (.istore_n 3, 1) := by decide +kernel
theorem dX9_tideAt_4 : decode cX9_tideAt 4 = .ok (.iload_n 3, 1) := by decide +kernel
theorem dX9_tideAt_5 : decode cX9_tideAt 5 = .ok (.aload_n 0, 1) := by decide +kernel
theorem dX9_tideAt_6 : decode cX9_tideAt 6 = .ok (.getfield 182, 3) := by decide +kernel
theorem dX9_tideAt_9 : decode cX9_tideAt 9 = .ok (.if_icmp .ge 66, 3) := by decide +kernel
theorem dX9_tideAt_12 : decode cX9_tideAt 12 = .ok (.iload_n 1, 1) := by decide +kernel
theorem dX9_tideAt_13 : decode cX9_tideAt 13 = .ok (.aload_n 0, 1) := by decide +kernel
theorem dX9_tideAt_14 : decode cX9_tideAt 14 = .ok (.getfield 93, 3) := by decide +kernel
theorem dX9_tideAt_17 : decode cX9_tideAt 17 = .ok (.iload_n 3, 1) := by decide +kernel
theorem dX9_tideAt_18 : decode cX9_tideAt 18 = .ok (.iaload, 1) := by decide +kernel
theorem dX9_tideAt_19 : decode cX9_tideAt 19 = .ok (.iadd, 1) := by decide +kernel
theorem dX9_tideAt_20 : decode cX9_tideAt 20 = .ok (.aload_n 0, 1) := by decide +kernel
theorem dX9_tideAt_21 : decode cX9_tideAt 21 = .ok (.getfield 87, 3) := by decide +kernel
theorem dX9_tideAt_24 : decode cX9_tideAt 24 = .ok (.iload_n 3, 1) := by decide +kernel
theorem dX9_tideAt_25 : decode cX9_tideAt 25 = .ok (.iaload, 1) := by decide +kernel
theorem dX9_tideAt_26 : decode cX9_tideAt 26 = .ok (.irem, 1) := by decide +kernel
theorem dX9_tideAt_27 : decode cX9_tideAt 27 = .ok (.istore 4, 2) := by decide +kernel
theorem dX9_tideAt_29 : decode cX9_tideAt 29 = .ok (.iload_n 2, 1) := by decide +kernel
theorem dX9_tideAt_30 : decode cX9_tideAt 30 = .ok (.aload_n 0, 1) := by decide +kernel
theorem dX9_tideAt_31 : decode cX9_tideAt 31 = .ok (.getfield 90, 3) := by decide +kernel
theorem dX9_tideAt_34 : decode cX9_tideAt 34 = .ok (.iload_n 3, 1) := by decide +kernel
theorem dX9_tideAt_35 : decode cX9_tideAt 35 = .ok (.iaload, 1) := by decide +kernel
theorem dX9_tideAt_36 : decode cX9_tideAt 36 = .ok (.iconst 2, 1) := by decide +kernel
theorem dX9_tideAt_37 : decode cX9_tideAt 37 = .ok (.iconst 2, 1) := by decide +kernel
theorem dX9_tideAt_38 : decode cX9_tideAt 38 = .ok (.iload 4, 2) := by decide +kernel
theorem dX9_tideAt_40 : decode cX9_tideAt 40 = .ok (.imul, 1) := by decide +kernel
theorem dX9_tideAt_41 : decode cX9_tideAt 41 = .ok (.aload_n 0, 1) := by decide +kernel
theorem dX9_tideAt_42 : decode cX9_tideAt 42 = .ok (.getfield 87, 3) := by decide +kernel
theorem dX9_tideAt_45 : decode cX9_tideAt 45 = .ok (.iload_n 3, 1) := by decide +kernel
theorem dX9_tideAt_46 : decode cX9_tideAt 46 = .ok (.iaload, 1) := by decide +kernel
theorem dX9_tideAt_47 : decode cX9_tideAt 47 = .ok (.isub, 1) := by decide +kernel
theorem dX9_tideAt_48 : decode cX9_tideAt 48 = .ok (.invokestatic 161, 3) := by decide +kernel
theorem dX9_tideAt_51 : decode cX9_tideAt 51 = .ok (.imul, 1) := by decide +kernel
theorem dX9_tideAt_52 : decode cX9_tideAt 52 = .ok (.aload_n 0, 1) := by decide +kernel
theorem dX9_tideAt_53 : decode cX9_tideAt 53 = .ok (.getfield 87, 3) := by decide +kernel
theorem dX9_tideAt_56 : decode cX9_tideAt 56 = .ok (.iload_n 3, 1) := by decide +kernel
theorem dX9_tideAt_57 : decode cX9_tideAt 57 = .ok (.iaload, 1) := by decide +kernel
theorem dX9_tideAt_58 : decode cX9_tideAt 58 = .ok (.isub, 1) := by decide +kernel
theorem dX9_tideAt_59 : decode cX9_tideAt 59 = .ok (.imul, 1) := by decide +kernel
theorem dX9_tideAt_60 : decode cX9_tideAt 60 = .ok (.aload_n 0, 1) := by decide +kernel
theorem dX9_tideAt_61 : decode cX9_tideAt 61 = .ok (.getfield 87, 3) := by decide +kernel
theorem dX9_tideAt_64 : decode cX9_tideAt 64 = .ok (.iload_n 3, 1) := by decide +kernel
theorem dX9_tideAt_65 : decode cX9_tideAt 65 = .ok (.iaload, 1) := by decide +kernel
theorem dX9_tideAt_66 : decode cX9_tideAt 66 = .ok (.idiv, 1) := by decide +kernel
theorem dX9_tideAt_67 : decode cX9_tideAt 67 = .ok (.iadd, 1) := by decide +kernel
theorem dX9_tideAt_68 : decode cX9_tideAt 68 = .ok (.istore_n 2, 1) := by decide +kernel
theorem dX9_tideAt_69 : decode cX9_tideAt 69 = .ok (.iinc 3 1, 3) := by decide +kernel
theorem dX9_tideAt_72 : decode cX9_tideAt 72 = .ok (.goto (-68), 3) := by decide +kernel
theorem dX9_tideAt_75 : decode cX9_tideAt 75 = .ok (.iload_n 2, 1) := by decide +kernel
theorem dX9_tideAt_76 : decode cX9_tideAt 76 = .ok (.ireturn, 1) := by decide +kernel
theorem dX9_tide_0 : decode cX9_tide 0 = .ok (.aload_n 0, 1) := by decide +kernel
theorem dX9_tide_1 : decode cX9_tide 1 = .ok (.iload_n 1, 1) := by decide +kernel
theorem dX9_tide_2 : decode cX9_tide 2 = .ok (.iconst 0, 1) := by decide +kernel
theorem dX9_tide_3 : decode cX9_tide 3 = .ok (.ldc 202, 2) := by decide +kernel
theorem dX9_tide_5 : decode cX9_tide 5 = .ok (.invokestatic 99, 3) := by decide +kernel
theorem dX9_tide_8 : decode cX9_tide 8 = .ok (.ifCond .eq 7, 3) := by decide +kernel
theorem dX9_tide_11 : decode cX9_tide 11 = .ok (.iconst 0, 1) := by decide +kernel
theorem dX9_tide_12 : decode cX9_tide 12 = .ok (.goto 4, 3) := by decide +kernel
theorem dX9_tide_15 : decode cX9_tide 15 = .ok (.iconst 1, 1) := by decide +kernel
theorem dX9_tide_16 : decode cX9_tide 16 = .ok (.putfield 96, 3) := by decide +kernel
theorem dX9_tide_19 : decode cX9_tide 19 = .ok (.aload_n 0, 1) := by decide +kernel
theorem dX9_tide_20 : decode cX9_tide 20 = .ok (.getfield 96, 3) := by decide +kernel
theorem dX9_tide_23 : decode cX9_tide 23 = .ok (.ifCond .le 7, 3) := by decide +kernel
theorem dX9_tide_26 : decode cX9_tide 26 = .ok (.iconst 0, 1) := by decide +kernel
theorem dX9_tide_27 : decode cX9_tide 27 = .ok (.goto 8, 3) := by decide +kernel
theorem dX9_tide_30 : decode cX9_tide 30 = .ok (.aload_n 0, 1) := by decide +kernel
theorem dX9_tide_31 : decode cX9_tide 31 = .ok (.iload_n 1, 1) := by decide +kernel
theorem dX9_tide_32 : decode cX9_tide 32 = .ok (.invokevirtual 203, 3) := by decide +kernel
theorem dX9_tide_35 : decode cX9_tide 35 = .ok (.ireturn, 1) := by decide +kernel
theorem dX9_highest_0 : decode cX9_highest 0 = .ok (.aload_n 0, 1) := by decide +kernel
theorem dX9_highest_1 : decode cX9_highest 1 = .ok (.iload_n 1, 1) := by decide +kernel
theorem dX9_highest_2 : decode cX9_highest 2 = .ok (.iconst 0, 1) := by decide +kernel
theorem dX9_highest_3 : decode cX9_highest 3 = .ok (.ldc 202, 2) := by decide +kernel
theorem dX9_highest_5 : decode cX9_highest 5 = .ok (.invokestatic 99, 3) := by decide +kernel
theorem dX9_highest_8 : decode cX9_highest 8 = .ok (.ifCond .eq 31, 3) := by decide +kernel
theorem dX9_highest_11 : decode cX9_highest 11 = .ok (.iload_n 2, 1) := by decide +kernel
theorem dX9_highest_12 : decode cX9_highest 12 = .ok (.iload_n 1, 1) := by decide +kernel
theorem dX9_highest_13 : decode cX9_highest 13 = .ok (.iload_n 1, 1) := by decide +kernel
theorem dX9_highest_14 : decode cX9_highest 14 = .ok (.sipush 500, 3) := by decide +kernel
theorem dX9_highest_17 : decode cX9_highest 17 = .ok (.iadd, 1) := by decide +kernel
theorem dX9_highest_18 : decode cX9_highest 18 = .ok (.ldc 202, 2) := by decide +kernel
theorem dX9_highest_20 : decode cX9_highest 20 = .ok (.if_icmp .le 8, 3) := by decide +kernel
theorem dX9_highest_23 : decode cX9_highest 23 = .ok (.ldc 202, 2) := by decide +kernel
theorem dX9_highest_25 : decode cX9_highest 25 = .ok (.goto 8, 3) := by decide +kernel
theorem dX9_highest_28 : decode cX9_highest 28 = .ok (.iload_n 1, 1) := by decide +kernel
theorem dX9_highest_29 : decode cX9_highest 29 = .ok (.sipush 500, 3) := by decide +kernel
theorem dX9_highest_32 : decode cX9_highest 32 = .ok (.iadd, 1) := by decide +kernel
theorem dX9_highest_33 : decode cX9_highest 33 = .ok (.invokestatic 99, 3) := by decide +kernel
theorem dX9_highest_36 : decode cX9_highest 36 = .ok (.ifCond .ne 7, 3) := by decide +kernel
theorem dX9_highest_39 : decode cX9_highest 39 = .ok (.iconst 1, 1) := by decide +kernel
theorem dX9_highest_40 : decode cX9_highest 40 = .ok (.goto 4, 3) := by decide +kernel
theorem dX9_highest_43 : decode cX9_highest 43 = .ok (.iconst 0, 1) := by decide +kernel
theorem dX9_highest_44 : decode cX9_highest 44 = .ok (.putfield 96, 3) := by decide +kernel
theorem dX9_highest_47 : decode cX9_highest 47 = .ok (.aload_n 0, 1) := by decide +kernel
theorem dX9_highest_48 : decode cX9_highest 48 = .ok (.getfield 96, 3) := by decide +kernel
theorem dX9_highest_51 : decode cX9_highest 51 = .ok (.ifCond .le 5, 3) := by decide +kernel
theorem dX9_highest_54 : decode cX9_highest 54 = .ok (.iconst 0, 1) := by decide +kernel
theorem dX9_highest_55 : decode cX9_highest 55 = .ok (.ireturn, 1) := by decide +kernel
theorem dX9_highest_56 : decode cX9_highest 56 = .ok (.iload_n 1, 1) := by decide +kernel
theorem dX9_highest_57 : decode cX9_highest 57 = .ok (.istore_n 3, 1) := by decide +kernel
theorem dX9_highest_58 : decode cX9_highest 58 = .ok (.iload_n 1, 1) := by decide +kernel
theorem dX9_highest_59 : decode cX9_highest 59 = .ok (.iconst 1, 1) := by decide +kernel
theorem dX9_highest_60 : decode cX9_highest 60 = .ok (.iadd, 1) := by decide +kernel
theorem dX9_highest_61 : decode cX9_highest 61 = .ok (.istore 4, 2) := by decide +kernel
theorem dX9_highest_63 : decode cX9_highest 63 = .ok (.iload 4, 2) := by decide +kernel
theorem dX9_highest_65 : decode cX9_highest 65 = .ok (.iload_n 2, 1) := by decide +kernel
theorem dX9_highest_66 : decode cX9_highest 66 = .ok (.if_icmp .gt 30, 3) := by decide +kernel
theorem dX9_highest_69 : decode cX9_highest 69 = .ok (.aload_n 0, 1) := by decide +kernel
theorem dX9_highest_70 : decode cX9_highest 70 = .ok (.iload 4, 2) := by decide +kernel
theorem dX9_highest_72 : decode cX9_highest 72 = .ok (.invokevirtual 203, 3) := by decide +kernel
theorem dX9_highest_75 : decode cX9_highest 75 = .ok (.aload_n 0, 1) := by decide +kernel
theorem dX9_highest_76 : decode cX9_highest 76 = .ok (.iload_n 3, 1) := by decide +kernel
theorem dX9_highest_77 : decode cX9_highest 77 = .ok (.invokevirtual 203, 3) := by decide +kernel
theorem dX9_highest_80 : decode cX9_highest 80 = .ok (.if_icmp .le 8, 3) := by decide +kernel
theorem dX9_highest_83 : decode cX9_highest 83 = .ok (.iload 4, 2) := by decide +kernel
theorem dX9_highest_85 : decode cX9_highest 85 = .ok (.goto 4, 3) := by decide +kernel
theorem dX9_highest_88 : decode cX9_highest 88 = .ok (.iload_n 3, 1) := by decide +kernel
theorem dX9_highest_89 : decode cX9_highest 89 = .ok (.istore_n 3, 1) := by decide +kernel
theorem dX9_highest_90 : decode cX9_highest 90 = .ok (.iinc 4 1, 3) := by decide +kernel
theorem dX9_highest_93 : decode cX9_highest 93 = .ok (.goto (-30), 3) := by decide +kernel
theorem dX9_highest_96 : decode cX9_highest 96 = .ok (.iload_n 3, 1) := by decide +kernel
theorem dX9_highest_97 : decode cX9_highest 97 = .ok (.ireturn, 1) := by decide +kernel
theorem dJ9_abs_0f7a4_0 : decode cJ9_abs_0f7a4 0 = .ok (.iload_n 0, 1) := by decide +kernel
theorem dJ9_abs_0f7a4_1 : decode cJ9_abs_0f7a4 1 = .ok (.ifCond .ge 8, 3) := by decide +kernel
theorem dJ9_abs_0f7a4_4 : decode cJ9_abs_0f7a4 4 = .ok (.iload_n 0, 1) := by decide +kernel
theorem dJ9_abs_0f7a4_5 : decode cJ9_abs_0f7a4 5 = .ok (.ineg, 1) := by decide +kernel
theorem dJ9_abs_0f7a4_6 : decode cJ9_abs_0f7a4 6 = .ok (.goto 4, 3) := by decide +kernel
theorem dJ9_abs_0f7a4_9 : decode cJ9_abs_0f7a4 9 = .ok (.iload_n 0, 1) := by decide +kernel
theorem dJ9_abs_0f7a4_10 : decode cJ9_abs_0f7a4 10 = .ok (.ireturn, 1) := by decide +kernel
theorem dJ9_max_7cf53_0 : decode cJ9_max_7cf53 0 = .ok (.iload_n 0, 1) := by decide +kernel
theorem dJ9_max_7cf53_1 : decode cJ9_max_7cf53 1 = .ok (.iload_n 1, 1) := by decide +kernel
theorem dJ9_max_7cf53_2 : decode cJ9_max_7cf53 2 = .ok (.if_icmp .lt 7, 3) := by decide +kernel
theorem dJ9_max_7cf53_5 : decode cJ9_max_7cf53 5 = .ok (.iload_n 0, 1) := by decide +kernel
theorem dJ9_max_7cf53_6 : decode cJ9_max_7cf53 6 = .ok (.goto 4, 3) := by decide +kernel
theorem dJ9_max_7cf53_9 : decode cJ9_max_7cf53 9 = .ok (.iload_n 1, 1) := by decide +kernel
theorem dJ9_max_7cf53_10 : decode cJ9_max_7cf53 10 = .ok (.ireturn, 1) := by decide +kernel
theorem dJ9_min_7cf53_0 : decode cJ9_min_7cf53 0 = .ok (.iload_n 0, 1) := by decide +kernel
theorem dJ9_min_7cf53_1 : decode cJ9_min_7cf53 1 = .ok (.iload_n 1, 1) := by decide +kernel
theorem dJ9_min_7cf53_2 : decode cJ9_min_7cf53 2 = .ok (.if_icmp .gt 7, 3) := by decide +kernel
theorem dJ9_min_7cf53_5 : decode cJ9_min_7cf53 5 = .ok (.iload_n 0, 1) := by decide +kernel
theorem dJ9_min_7cf53_6 : decode cJ9_min_7cf53 6 = .ok (.goto 4, 3) := by decide +kernel
theorem dJ9_min_7cf53_9 : decode cJ9_min_7cf53 9 = .ok (.iload_n 1, 1) := by decide +kernel
theorem dJ9_min_7cf53_10 : decode cJ9_min_7cf53 10 = .ok (.ireturn, 1) := by decide +kernel
theorem dJ7_fill_53178_0 : decode cJ7_fill_53178 0 = .ok (.iconst 0, 1) := by decide +kernel
theorem dJ7_fill_53178_1 : decode cJ7_fill_53178 1 = .ok (.istore_n 2, 1) := by decide +kernel
theorem dJ7_fill_53178_2 : decode cJ7_fill_53178 2 = .ok (.aload_n 0, 1) := by decide +kernel
theorem dJ7_fill_53178_3 : decode cJ7_fill_53178 3 = .ok (.arraylength, 1) := by decide +kernel
theorem dJ7_fill_53178_4 : decode cJ7_fill_53178 4 = .ok (.istore_n 3, 1) := by decide +kernel
theorem dJ7_fill_53178_5 : decode cJ7_fill_53178 5 = .ok (.iload_n 2, 1) := by decide +kernel
theorem dJ7_fill_53178_6 : decode cJ7_fill_53178 6 = .ok (.iload_n 3, 1) := by decide +kernel
theorem dJ7_fill_53178_7 : decode cJ7_fill_53178 7 = .ok (.if_icmp .ge 13, 3) := by decide +kernel
theorem dJ7_fill_53178_10 : decode cJ7_fill_53178 10 = .ok (.aload_n 0, 1) := by decide +kernel
theorem dJ7_fill_53178_11 : decode cJ7_fill_53178 11 = .ok (.iload_n 2, 1) := by decide +kernel
theorem dJ7_fill_53178_12 : decode cJ7_fill_53178 12 = .ok (.iload_n 1, 1) := by decide +kernel
theorem dJ7_fill_53178_13 : decode cJ7_fill_53178 13 = .ok (.iastore, 1) := by decide +kernel
theorem dJ7_fill_53178_14 : decode cJ7_fill_53178 14 = .ok (.iinc 2 1, 3) := by decide +kernel
theorem dJ7_fill_53178_17 : decode cJ7_fill_53178 17 = .ok (.goto (-12), 3) := by decide +kernel
theorem dJ7_fill_53178_20 : decode cJ7_fill_53178 20 = .ok (.return_, 1) := by decide +kernel
theorem dL_land_0 : decode cL_land 0 = .ok (.aload_n 2, 1) := by decide +kernel
theorem dL_land_1 : decode cL_land 1 = .ok (.iconst 0, 1) := by decide +kernel
theorem dL_land_2 : decode cL_land 2 = .ok (.aload_n 0, 1) := by decide +kernel
theorem dL_land_3 : decode cL_land 3 = .ok (.iload_n 1, 1) := by decide +kernel
theorem dL_land_4 : decode cL_land 4 = .ok (.invokevirtual 7, 3) := by decide +kernel
theorem dL_land_7 : decode cL_land 7 = .ok (.i2l, 1) := by decide +kernel
theorem dL_land_8 : decode cL_land 8 = .ok (.lastore, 1) := by decide +kernel
theorem dL_land_9 : decode cL_land 9 = .ok (.goto 9, 3) := by decide +kernel
theorem dL_land_12 : decode cL_land 12 = .ok (.astore_n 3, 1) := by decide +kernel
theorem dL_land_13 : decode cL_land 13 = .ok (.iconst 1, 1) := by decide +kernel
theorem dL_land_14 : decode cL_land 14 = .ok (.ireturn, 1) := by decide +kernel
theorem dL_land_15 : decode cL_land 15 = .ok (.astore_n 3, 1) := by decide +kernel
theorem dL_land_16 : decode cL_land 16 = .ok (.iconst 2, 1) := by decide +kernel
theorem dL_land_17 : decode cL_land 17 = .ok (.ireturn, 1) := by decide +kernel
theorem dL_land_18 : decode cL_land 18 = .ok (.iconst 0, 1) := by decide +kernel
theorem dL_land_19 : decode cL_land 19 = .ok (.ireturn, 1) := by decide +kernel
theorem dL_current_0 : decode cL_current 0 = .ok (.aload_n 3, 1) := by decide +kernel
theorem dL_current_1 : decode cL_current 1 = .ok (.iconst 0, 1) := by decide +kernel
theorem dL_current_2 : decode cL_current 2 = .ok (.aload_n 0, 1) := by decide +kernel
theorem dL_current_3 : decode cL_current 3 = .ok (.iload_n 1, 1) := by decide +kernel
theorem dL_current_4 : decode cL_current 4 = .ok (.iload_n 2, 1) := by decide +kernel
theorem dL_current_5 : decode cL_current 5 = .ok (.invokevirtual 17, 3) := by decide +kernel
theorem dL_current_8 : decode cL_current 8 = .ok (.i2l, 1) := by decide +kernel
theorem dL_current_9 : decode cL_current 9 = .ok (.lastore, 1) := by decide +kernel
theorem dL_current_10 : decode cL_current 10 = .ok (.goto 11, 3) := by decide +kernel
theorem dL_current_13 : decode cL_current 13 = .ok (.astore 4, 2) := by decide +kernel
theorem dL_current_15 : decode cL_current 15 = .ok (.iconst 1, 1) := by decide +kernel
theorem dL_current_16 : decode cL_current 16 = .ok (.ireturn, 1) := by decide +kernel
theorem dL_current_17 : decode cL_current 17 = .ok (.astore 4, 2) := by decide +kernel
theorem dL_current_19 : decode cL_current 19 = .ok (.iconst 2, 1) := by decide +kernel
theorem dL_current_20 : decode cL_current 20 = .ok (.ireturn, 1) := by decide +kernel
theorem dL_current_21 : decode cL_current 21 = .ok (.iconst 0, 1) := by decide +kernel
theorem dL_current_22 : decode cL_current 22 = .ok (.ireturn, 1) := by decide +kernel
theorem dL_sun_0 : decode cL_sun 0 = .ok (.aload_n 3, 1) := by decide +kernel
theorem dL_sun_1 : decode cL_sun 1 = .ok (.iconst 0, 1) := by decide +kernel
theorem dL_sun_2 : decode cL_sun 2 = .ok (.aload_n 0, 1) := by decide +kernel
theorem dL_sun_3 : decode cL_sun 3 = .ok (.iload_n 1, 1) := by decide +kernel
theorem dL_sun_4 : decode cL_sun 4 = .ok (.iload_n 2, 1) := by decide +kernel
theorem dL_sun_5 : decode cL_sun 5 = .ok (.invokevirtual 23, 3) := by decide +kernel
theorem dL_sun_8 : decode cL_sun 8 = .ok (.i2l, 1) := by decide +kernel
theorem dL_sun_9 : decode cL_sun 9 = .ok (.lastore, 1) := by decide +kernel
theorem dL_sun_10 : decode cL_sun 10 = .ok (.goto 7, 3) := by decide +kernel
theorem dL_sun_13 : decode cL_sun 13 = .ok (.astore 4, 2) := by decide +kernel
theorem dL_sun_15 : decode cL_sun 15 = .ok (.iconst 1, 1) := by decide +kernel
theorem dL_sun_16 : decode cL_sun 16 = .ok (.ireturn, 1) := by decide +kernel
theorem dL_sun_17 : decode cL_sun 17 = .ok (.iconst 0, 1) := by decide +kernel
theorem dL_sun_18 : decode cL_sun 18 = .ok (.ireturn, 1) := by decide +kernel
theorem dL_pass_0 : decode cL_pass 0 = .ok (.aload_n 2, 1) := by decide +kernel
theorem dL_pass_1 : decode cL_pass 1 = .ok (.iconst 0, 1) := by decide +kernel
theorem dL_pass_2 : decode cL_pass 2 = .ok (.aload_n 0, 1) := by decide +kernel
theorem dL_pass_3 : decode cL_pass 3 = .ok (.iload_n 1, 1) := by decide +kernel
theorem dL_pass_4 : decode cL_pass 4 = .ok (.invokevirtual 26, 3) := by decide +kernel
theorem dL_pass_7 : decode cL_pass 7 = .ok (.i2l, 1) := by decide +kernel
theorem dL_pass_8 : decode cL_pass 8 = .ok (.lastore, 1) := by decide +kernel
theorem dL_pass_9 : decode cL_pass 9 = .ok (.goto 9, 3) := by decide +kernel
theorem dL_pass_12 : decode cL_pass 12 = .ok (.astore_n 3, 1) := by decide +kernel
theorem dL_pass_13 : decode cL_pass 13 = .ok (.iconst 1, 1) := by decide +kernel
theorem dL_pass_14 : decode cL_pass 14 = .ok (.ireturn, 1) := by decide +kernel
theorem dL_pass_15 : decode cL_pass 15 = .ok (.astore_n 3, 1) := by decide +kernel
