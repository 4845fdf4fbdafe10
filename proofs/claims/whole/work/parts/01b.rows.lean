theorem d_td_init_0 : decode c_td_init 0 = .ok (.aload_n 0, 1) := by decide +kernel
theorem d_td_init_1 : decode c_td_init 1 = .ok (.invokespecial 1, 3) := by decide +kernel
theorem d_td_init_4 : decode c_td_init 4 = .ok (.aload_n 0, 1) := by decide +kernel
theorem d_td_init_5 : decode c_td_init 5 = .ok (.new 7, 3) := by decide +kernel
theorem d_td_init_8 : decode c_td_init 8 = .ok (.dup, 1) := by decide +kernel
theorem d_td_init_9 : decode c_td_init 9 = .ok (.invokespecial 9, 3) := by decide +kernel
theorem d_td_init_12 : decode c_td_init 12 = .ok (.putfield 10, 3) := by decide +kernel
theorem d_td_init_15 : decode c_td_init 15 = .ok (.aload_n 0, 1) := by decide +kernel
theorem d_td_init_16 : decode c_td_init 16 = .ok (.new 16, 3) := by decide +kernel
theorem d_td_init_19 : decode c_td_init 19 = .ok (.dup, 1) := by decide +kernel
theorem d_td_init_20 : decode c_td_init 20 = .ok (.invokespecial 18, 3) := by decide +kernel
theorem d_td_init_23 : decode c_td_init 23 = .ok (.putfield 19, 3) := by decide +kernel
theorem d_td_init_26 : decode c_td_init 26 = .ok (.aload_n 0, 1) := by decide +kernel
theorem d_td_init_27 : decode c_td_init 27 = .ok (.new 23, 3) := by decide +kernel
theorem d_td_init_30 : decode c_td_init 30 = .ok (.dup, 1) := by decide +kernel
theorem d_td_init_31 : decode c_td_init 31 = .ok (.invokespecial 25, 3) := by decide +kernel
theorem d_td_init_34 : decode c_td_init 34 = .ok (.putfield 26, 3) := by decide +kernel
theorem d_td_init_37 : decode c_td_init 37 = .ok (.return_, 1) := by decide +kernel
theorem d_td_curve_0 : decode c_td_curve 0 = .ok (.iload_n 1, 1) := by decide +kernel
theorem d_td_curve_1 : decode c_td_curve 1 = .ok (.invokestatic 30, 3) := by decide +kernel
theorem d_td_curve_4 : decode c_td_curve 4 = .ok (.ifCond .eq 33, 3) := by decide +kernel
theorem d_td_curve_7 : decode c_td_curve 7 = .ok (.iload_n 2, 1) := by decide +kernel
theorem d_td_curve_8 : decode c_td_curve 8 = .ok (.invokestatic 30, 3) := by decide +kernel
theorem d_td_curve_11 : decode c_td_curve 11 = .ok (.ifCond .eq 26, 3) := by decide +kernel
theorem d_td_curve_14 : decode c_td_curve 14 = .ok (.iload_n 3, 1) := by decide +kernel
theorem d_td_curve_15 : decode c_td_curve 15 = .ok (.invokestatic 30, 3) := by decide +kernel
theorem d_td_curve_18 : decode c_td_curve 18 = .ok (.ifCond .eq 19, 3) := by decide +kernel
theorem d_td_curve_21 : decode c_td_curve 21 = .ok (.iload 4, 2) := by decide +kernel
theorem d_td_curve_23 : decode c_td_curve 23 = .ok (.invokestatic 30, 3) := by decide +kernel
theorem d_td_curve_26 : decode c_td_curve 26 = .ok (.ifCond .eq 11, 3) := by decide +kernel
theorem d_td_curve_29 : decode c_td_curve 29 = .ok (.iload 5, 2) := by decide +kernel
theorem d_td_curve_31 : decode c_td_curve 31 = .ok (.invokestatic 30, 3) := by decide +kernel
theorem d_td_curve_34 : decode c_td_curve 34 = .ok (.ifCond .ne 13, 3) := by decide +kernel
theorem d_td_curve_37 : decode c_td_curve 37 = .ok (.new 34, 3) := by decide +kernel
theorem d_td_curve_40 : decode c_td_curve 40 = .ok (.dup, 1) := by decide +kernel
theorem d_td_curve_41 : decode c_td_curve 41 = .ok (.ldc 36, 2) := by decide +kernel
theorem d_td_curve_43 : decode c_td_curve 43 = .ok (.invokespecial 38, 3) := by decide +kernel
theorem d_td_curve_46 : decode c_td_curve 46 = .ok (.athrow, 1) := by decide +kernel
theorem d_td_curve_47 : decode c_td_curve 47 = .ok (.iload_n 1, 1) := by decide +kernel
theorem d_td_curve_48 : decode c_td_curve 48 = .ok (.iload_n 1, 1) := by decide +kernel
theorem d_td_curve_49 : decode c_td_curve 49 = .ok (.imul, 1) := by decide +kernel
theorem d_td_curve_50 : decode c_td_curve 50 = .ok (.iconst 4, 1) := by decide +kernel
theorem d_td_curve_51 : decode c_td_curve 51 = .ok (.iload_n 2, 1) := by decide +kernel
theorem d_td_curve_52 : decode c_td_curve 52 = .ok (.imul, 1) := by decide +kernel
theorem d_td_curve_53 : decode c_td_curve 53 = .ok (.iadd, 1) := by decide +kernel
theorem d_td_curve_54 : decode c_td_curve 54 = .ok (.i2l, 1) := by decide +kernel
theorem d_td_curve_55 : decode c_td_curve 55 = .ok (.lstore 6, 2) := by decide +kernel
theorem d_td_curve_57 : decode c_td_curve 57 = .ok (.bipush 16, 2) := by decide +kernel
theorem d_td_curve_59 : decode c_td_curve 59 = .ok (.iload 4, 2) := by decide +kernel
theorem d_td_curve_61 : decode c_td_curve 61 = .ok (.imul, 1) := by decide +kernel
theorem d_td_curve_62 : decode c_td_curve 62 = .ok (.bipush 8, 2) := by decide +kernel
theorem d_td_curve_64 : decode c_td_curve 64 = .ok (.iload_n 1, 1) := by decide +kernel
theorem d_td_curve_65 : decode c_td_curve 65 = .ok (.imul, 1) := by decide +kernel
theorem d_td_curve_66 : decode c_td_curve 66 = .ok (.iload_n 3, 1) := by decide +kernel
theorem d_td_curve_67 : decode c_td_curve 67 = .ok (.imul, 1) := by decide +kernel
theorem d_td_curve_68 : decode c_td_curve 68 = .ok (.iadd, 1) := by decide +kernel
theorem d_td_curve_69 : decode c_td_curve 69 = .ok (.i2l, 1) := by decide +kernel
theorem d_td_curve_70 : decode c_td_curve 70 = .ok (.lstore 8, 2) := by decide +kernel
theorem d_td_curve_72 : decode c_td_curve 72 = .ok (.bipush 16, 2) := by decide +kernel
theorem d_td_curve_74 : decode c_td_curve 74 = .ok (.iload_n 3, 1) := by decide +kernel
theorem d_td_curve_75 : decode c_td_curve 75 = .ok (.imul, 1) := by decide +kernel
theorem d_td_curve_76 : decode c_td_curve 76 = .ok (.iload_n 3, 1) := by decide +kernel
theorem d_td_curve_77 : decode c_td_curve 77 = .ok (.imul, 1) := by decide +kernel
theorem d_td_curve_78 : decode c_td_curve 78 = .ok (.bipush 64, 2) := by decide +kernel
theorem d_td_curve_80 : decode c_td_curve 80 = .ok (.iload 5, 2) := by decide +kernel
theorem d_td_curve_82 : decode c_td_curve 82 = .ok (.imul, 1) := by decide +kernel
theorem d_td_curve_83 : decode c_td_curve 83 = .ok (.iadd, 1) := by decide +kernel
theorem d_td_curve_84 : decode c_td_curve 84 = .ok (.i2l, 1) := by decide +kernel
theorem d_td_curve_85 : decode c_td_curve 85 = .ok (.lstore 10, 2) := by decide +kernel
theorem d_td_curve_87 : decode c_td_curve 87 = .ok (.lload 6, 2) := by decide +kernel
theorem d_td_curve_89 : decode c_td_curve 89 = .ok (.lload 8, 2) := by decide +kernel
theorem d_td_curve_91 : decode c_td_curve 91 = .ok (.lload 10, 2) := by decide +kernel
theorem d_td_curve_93 : decode c_td_curve 93 = .ok (.invokestatic 41, 3) := by decide +kernel
theorem d_td_curve_96 : decode c_td_curve 96 = .ok (.lconst 0, 1) := by decide +kernel
theorem d_td_curve_97 : decode c_td_curve 97 = .ok (.lcmp, 1) := by decide +kernel
theorem d_td_curve_98 : decode c_td_curve 98 = .ok (.ifCond .ne 13, 3) := by decide +kernel
theorem d_td_curve_101 : decode c_td_curve 101 = .ok (.new 45, 3) := by decide +kernel
theorem d_td_curve_104 : decode c_td_curve 104 = .ok (.dup, 1) := by decide +kernel
theorem d_td_curve_105 : decode c_td_curve 105 = .ok (.ldc 47, 2) := by decide +kernel
theorem d_td_curve_107 : decode c_td_curve 107 = .ok (.invokespecial 49, 3) := by decide +kernel
theorem d_td_curve_110 : decode c_td_curve 110 = .ok (.athrow, 1) := by decide +kernel
theorem d_td_curve_111 : decode c_td_curve 111 = .ok (.aload_n 0, 1) := by decide +kernel
theorem d_td_curve_112 : decode c_td_curve 112 = .ok (.iload_n 1, 1) := by decide +kernel
theorem d_td_curve_113 : decode c_td_curve 113 = .ok (.putfield 50, 3) := by decide +kernel
theorem d_td_curve_116 : decode c_td_curve 116 = .ok (.aload_n 0, 1) := by decide +kernel
theorem d_td_curve_117 : decode c_td_curve 117 = .ok (.iload_n 3, 1) := by decide +kernel
theorem d_td_curve_118 : decode c_td_curve 118 = .ok (.putfield 54, 3) := by decide +kernel
theorem d_td_curve_121 : decode c_td_curve 121 = .ok (.aload_n 0, 1) := by decide +kernel
theorem d_td_curve_122 : decode c_td_curve 122 = .ok (.getfield 10, 3) := by decide +kernel
theorem d_td_curve_125 : decode c_td_curve 125 = .ok (.lload 6, 2) := by decide +kernel
theorem d_td_curve_127 : decode c_td_curve 127 = .ok (.lload 8, 2) := by decide +kernel
theorem d_td_curve_129 : decode c_td_curve 129 = .ok (.lload 10, 2) := by decide +kernel
theorem d_td_curve_131 : decode c_td_curve 131 = .ok (.invokevirtual 57, 3) := by decide +kernel
theorem d_td_curve_134 : decode c_td_curve 134 = .ok (.aload_n 0, 1) := by decide +kernel
theorem d_td_curve_135 : decode c_td_curve 135 = .ok (.getfield 19, 3) := by decide +kernel
theorem d_td_curve_138 : decode c_td_curve 138 = .ok (.aload_n 0, 1) := by decide +kernel
theorem d_td_curve_139 : decode c_td_curve 139 = .ok (.getfield 10, 3) := by decide +kernel
theorem d_td_curve_142 : decode c_td_curve 142 = .ok (.getfield 61, 3) := by decide +kernel
theorem d_td_curve_145 : decode c_td_curve 145 = .ok (.invokevirtual 65, 3) := by decide +kernel
theorem d_td_curve_148 : decode c_td_curve 148 = .ok (.aload_n 0, 1) := by decide +kernel
theorem d_td_curve_149 : decode c_td_curve 149 = .ok (.getfield 26, 3) := by decide +kernel
theorem d_td_curve_152 : decode c_td_curve 152 = .ok (.aload_n 0, 1) := by decide +kernel
theorem d_td_curve_153 : decode c_td_curve 153 = .ok (.getfield 10, 3) := by decide +kernel
theorem d_td_curve_156 : decode c_td_curve 156 = .ok (.aload_n 0, 1) := by decide +kernel
theorem d_td_curve_157 : decode c_td_curve 157 = .ok (.getfield 19, 3) := by decide +kernel
theorem d_td_curve_160 : decode c_td_curve 160 = .ok (.invokevirtual 69, 3) := by decide +kernel
theorem d_td_curve_163 : decode c_td_curve 163 = .ok (.aload_n 0, 1) := by decide +kernel
theorem d_td_curve_164 : decode c_td_curve 164 = .ok (.iconst 1, 1) := by decide +kernel
theorem d_td_curve_165 : decode c_td_curve 165 = .ok (.putfield 73, 3) := by decide +kernel
theorem d_td_curve_168 : decode c_td_curve 168 = .ok (.aload_n 0, 1) := by decide +kernel
theorem d_td_curve_169 : decode c_td_curve 169 = .ok (.getfield 26, 3) := by decide +kernel
theorem d_td_curve_172 : decode c_td_curve 172 = .ok (.getfield 77, 3) := by decide +kernel
theorem d_td_curve_175 : decode c_td_curve 175 = .ok (.ireturn, 1) := by decide +kernel
theorem d_td_discriminant_0 : decode c_td_discriminant 0 = .ok (.aload_n 0, 1) := by decide +kernel
theorem d_td_discriminant_1 : decode c_td_discriminant 1 = .ok (.getfield 73, 3) := by decide +kernel
theorem d_td_discriminant_4 : decode c_td_discriminant 4 = .ok (.ifCond .eq 13, 3) := by decide +kernel
theorem d_td_discriminant_7 : decode c_td_discriminant 7 = .ok (.aload_n 0, 1) := by decide +kernel
theorem d_td_discriminant_8 : decode c_td_discriminant 8 = .ok (.getfield 10, 3) := by decide +kernel
theorem d_td_discriminant_11 : decode c_td_discriminant 11 = .ok (.getfield 61, 3) := by decide +kernel
theorem d_td_discriminant_14 : decode c_td_discriminant 14 = .ok (.goto 4, 3) := by decide +kernel
theorem d_td_discriminant_17 : decode c_td_discriminant 17 = .ok (.lconst 0, 1) := by decide +kernel
theorem d_td_discriminant_18 : decode c_td_discriminant 18 = .ok (.lreturn, 1) := by decide +kernel
theorem d_td_candidate_0 : decode c_td_candidate 0 = .ok (.iload_n 1, 1) := by decide +kernel
theorem d_td_candidate_1 : decode c_td_candidate 1 = .ok (.ifCond .lt 26, 3) := by decide +kernel
theorem d_td_candidate_4 : decode c_td_candidate 4 = .ok (.iload_n 1, 1) := by decide +kernel
theorem d_td_candidate_5 : decode c_td_candidate 5 = .ok (.aload_n 0, 1) := by decide +kernel
theorem d_td_candidate_6 : decode c_td_candidate 6 = .ok (.getfield 19, 3) := by decide +kernel
theorem d_td_candidate_9 : decode c_td_candidate 9 = .ok (.getfield 80, 3) := by decide +kernel
theorem d_td_candidate_12 : decode c_td_candidate 12 = .ok (.if_icmp .ge 15, 3) := by decide +kernel
theorem d_td_candidate_15 : decode c_td_candidate 15 = .ok (.aload_n 0, 1) := by decide +kernel
theorem d_td_candidate_16 : decode c_td_candidate 16 = .ok (.getfield 19, 3) := by decide +kernel
theorem d_td_candidate_19 : decode c_td_candidate 19 = .ok (.getfield 81, 3) := by decide +kernel
theorem d_td_candidate_22 : decode c_td_candidate 22 = .ok (.iload_n 1, 1) := by decide +kernel
theorem d_td_candidate_23 : decode c_td_candidate 23 = .ok (.iaload, 1) := by decide +kernel
theorem d_td_candidate_24 : decode c_td_candidate 24 = .ok (.goto 4, 3) := by decide +kernel
theorem d_td_candidate_27 : decode c_td_candidate 27 = .ok (.iconst (-1), 1) := by decide +kernel
theorem d_td_candidate_28 : decode c_td_candidate 28 = .ok (.ireturn, 1) := by decide +kernel
theorem d_td_points_0 : decode c_td_points 0 = .ok (.aload_n 0, 1) := by decide +kernel
theorem d_td_points_1 : decode c_td_points 1 = .ok (.getfield 26, 3) := by decide +kernel
theorem d_td_points_4 : decode c_td_points 4 = .ok (.getfield 77, 3) := by decide +kernel
theorem d_td_points_7 : decode c_td_points 7 = .ok (.ireturn, 1) := by decide +kernel
theorem d_td_point_0 : decode c_td_point 0 = .ok (.aload_n 0, 1) := by decide +kernel
theorem d_td_point_1 : decode c_td_point 1 = .ok (.getfield 26, 3) := by decide +kernel
theorem d_td_point_4 : decode c_td_point 4 = .ok (.iload_n 1, 1) := by decide +kernel
theorem d_td_point_5 : decode c_td_point 5 = .ok (.invokevirtual 85, 3) := by decide +kernel
theorem d_td_point_8 : decode c_td_point 8 = .ok (.ifCond .ne 5, 3) := by decide +kernel
theorem d_td_point_11 : decode c_td_point 11 = .ok (.iconst 0, 1) := by decide +kernel
theorem d_td_point_12 : decode c_td_point 12 = .ok (.ireturn, 1) := by decide +kernel
theorem d_td_point_13 : decode c_td_point 13 = .ok (.iload_n 1, 1) := by decide +kernel
theorem d_td_point_14 : decode c_td_point 14 = .ok (.ifCond .ne 14, 3) := by decide +kernel
theorem d_td_point_17 : decode c_td_point 17 = .ok (.iload_n 2, 1) := by decide +kernel
theorem d_td_point_18 : decode c_td_point 18 = .ok (.iconst 2, 1) := by decide +kernel
theorem d_td_point_19 : decode c_td_point 19 = .ok (.if_icmp .ne 7, 3) := by decide +kernel
theorem d_td_point_22 : decode c_td_point 22 = .ok (.iconst 1, 1) := by decide +kernel
theorem d_td_point_23 : decode c_td_point 23 = .ok (.goto 4, 3) := by decide +kernel
theorem d_td_point_26 : decode c_td_point 26 = .ok (.iconst 0, 1) := by decide +kernel
theorem d_td_point_27 : decode c_td_point 27 = .ok (.ireturn, 1) := by decide +kernel
theorem d_td_point_28 : decode c_td_point 28 = .ok (.aload_n 0, 1) := by decide +kernel
theorem d_td_point_29 : decode c_td_point 29 = .ok (.getfield 26, 3) := by decide +kernel
theorem d_td_point_32 : decode c_td_point 32 = .ok (.getfield 88, 3) := by decide +kernel
theorem d_td_point_35 : decode c_td_point 35 = .ok (.iload_n 1, 1) := by decide +kernel
theorem d_td_point_36 : decode c_td_point 36 = .ok (.iaload, 1) := by decide +kernel
theorem d_td_point_37 : decode c_td_point 37 = .ok (.istore_n 3, 1) := by decide +kernel
theorem d_td_point_38 : decode c_td_point 38 = .ok (.aload_n 0, 1) := by decide +kernel
theorem d_td_point_39 : decode c_td_point 39 = .ok (.getfield 26, 3) := by decide +kernel
theorem d_td_point_42 : decode c_td_point 42 = .ok (.getfield 91, 3) := by decide +kernel
theorem d_td_point_45 : decode c_td_point 45 = .ok (.iload_n 1, 1) := by decide +kernel
theorem d_td_point_46 : decode c_td_point 46 = .ok (.iaload, 1) := by decide +kernel
theorem d_td_point_47 : decode c_td_point 47 = .ok (.istore 4, 2) := by decide +kernel
theorem d_td_point_49 : decode c_td_point 49 = .ok (.iload 4, 2) := by decide +kernel
theorem d_td_point_51 : decode c_td_point 51 = .ok (.aload_n 0, 1) := by decide +kernel
theorem d_td_point_52 : decode c_td_point 52 = .ok (.getfield 50, 3) := by decide +kernel
theorem d_td_point_55 : decode c_td_point 55 = .ok (.iload_n 3, 1) := by decide +kernel
theorem d_td_point_56 : decode c_td_point 56 = .ok (.imul, 1) := by decide +kernel
theorem d_td_point_57 : decode c_td_point 57 = .ok (.isub, 1) := by decide +kernel
theorem d_td_point_58 : decode c_td_point 58 = .ok (.iconst 4, 1) := by decide +kernel
theorem d_td_point_59 : decode c_td_point 59 = .ok (.aload_n 0, 1) := by decide +kernel
theorem d_td_point_60 : decode c_td_point 60 = .ok (.getfield 54, 3) := by decide +kernel
theorem d_td_point_63 : decode c_td_point 63 = .ok (.imul, 1) := by decide +kernel
theorem d_td_point_64 : decode c_td_point 64 = .ok (.isub, 1) := by decide +kernel
theorem d_td_point_65 : decode c_td_point 65 = .ok (.istore 5, 2) := by decide +kernel
theorem d_td_point_67 : decode c_td_point 67 = .ok (.iload_n 2, 1) := by decide +kernel
theorem d_td_point_68 : decode c_td_point 68 = .ok (.tableswitch 95 0 6 #[44, 46, 49, 59, 67, 75, 85], 44) := by decide +kernel
theorem d_td_point_112 : decode c_td_point 112 = .ok (.iload_n 3, 1) := by decide +kernel
theorem d_td_point_113 : decode c_td_point 113 = .ok (.ireturn, 1) := by decide +kernel
theorem d_td_point_114 : decode c_td_point 114 = .ok (.iload 4, 2) := by decide +kernel
theorem d_td_point_116 : decode c_td_point 116 = .ok (.ireturn, 1) := by decide +kernel
theorem d_td_point_117 : decode c_td_point 117 = .ok (.aload_n 0, 1) := by decide +kernel
theorem d_td_point_118 : decode c_td_point 118 = .ok (.getfield 26, 3) := by decide +kernel
theorem d_td_point_121 : decode c_td_point 121 = .ok (.getfield 94, 3) := by decide +kernel
theorem d_td_point_124 : decode c_td_point 124 = .ok (.iload_n 1, 1) := by decide +kernel
theorem d_td_point_125 : decode c_td_point 125 = .ok (.iaload, 1) := by decide +kernel
theorem d_td_point_126 : decode c_td_point 126 = .ok (.ireturn, 1) := by decide +kernel
theorem d_td_point_127 : decode c_td_point 127 = .ok (.iload_n 3, 1) := by decide +kernel
theorem d_td_point_128 : decode c_td_point 128 = .ok (.iload_n 3, 1) := by decide +kernel
theorem d_td_point_129 : decode c_td_point 129 = .ok (.iconst 2, 1) := by decide +kernel
theorem d_td_point_130 : decode c_td_point 130 = .ok (.invokestatic 97, 3) := by decide +kernel
theorem d_td_point_133 : decode c_td_point 133 = .ok (.ishr, 1) := by decide +kernel
theorem d_td_point_134 : decode c_td_point 134 = .ok (.ireturn, 1) := by decide +kernel
theorem d_td_point_135 : decode c_td_point 135 = .ok (.iconst 4, 1) := by decide +kernel
theorem d_td_point_136 : decode c_td_point 136 = .ok (.iload_n 3, 1) := by decide +kernel
theorem d_td_point_137 : decode c_td_point 137 = .ok (.iconst 2, 1) := by decide +kernel
theorem d_td_point_138 : decode c_td_point 138 = .ok (.invokestatic 97, 3) := by decide +kernel
theorem d_td_point_141 : decode c_td_point 141 = .ok (.ishr, 1) := by decide +kernel
theorem d_td_point_142 : decode c_td_point 142 = .ok (.ireturn, 1) := by decide +kernel
theorem d_td_point_143 : decode c_td_point 143 = .ok (.iload 5, 2) := by decide +kernel
theorem d_td_point_145 : decode c_td_point 145 = .ok (.iload 5, 2) := by decide +kernel
theorem d_td_point_147 : decode c_td_point 147 = .ok (.iconst 3, 1) := by decide +kernel
theorem d_td_point_148 : decode c_td_point 148 = .ok (.invokestatic 97, 3) := by decide +kernel
theorem d_td_point_151 : decode c_td_point 151 = .ok (.ishr, 1) := by decide +kernel
theorem d_td_point_152 : decode c_td_point 152 = .ok (.ireturn, 1) := by decide +kernel
theorem d_td_point_153 : decode c_td_point 153 = .ok (.bipush 8, 2) := by decide +kernel
theorem d_td_point_155 : decode c_td_point 155 = .ok (.iload 5, 2) := by decide +kernel
theorem d_td_point_157 : decode c_td_point 157 = .ok (.iconst 3, 1) := by decide +kernel
theorem d_td_point_158 : decode c_td_point 158 = .ok (.invokestatic 97, 3) := by decide +kernel
theorem d_td_point_161 : decode c_td_point 161 = .ok (.ishr, 1) := by decide +kernel
theorem d_td_point_162 : decode c_td_point 162 = .ok (.ireturn, 1) := by decide +kernel
theorem d_td_point_163 : decode c_td_point 163 = .ok (.iconst 0, 1) := by decide +kernel
theorem d_td_point_164 : decode c_td_point 164 = .ok (.ireturn, 1) := by decide +kernel
theorem d_td_find_0 : decode c_td_find 0 = .ok (.aload_n 0, 1) := by decide +kernel
theorem d_td_find_1 : decode c_td_find 1 = .ok (.getfield 26, 3) := by decide +kernel
theorem d_td_find_4 : decode c_td_find 4 = .ok (.iload_n 1, 1) := by decide +kernel
theorem d_td_find_5 : decode c_td_find 5 = .ok (.i2l, 1) := by decide +kernel
theorem d_td_find_6 : decode c_td_find 6 = .ok (.iload_n 2, 1) := by decide +kernel
theorem d_td_find_7 : decode c_td_find 7 = .ok (.i2l, 1) := by decide +kernel
theorem d_td_find_8 : decode c_td_find 8 = .ok (.invokevirtual 101, 3) := by decide +kernel
theorem d_td_find_11 : decode c_td_find 11 = .ok (.ireturn, 1) := by decide +kernel
theorem d_td_sum_0 : decode c_td_sum 0 = .ok (.aload_n 0, 1) := by decide +kernel
theorem d_td_sum_1 : decode c_td_sum 1 = .ok (.getfield 26, 3) := by decide +kernel
theorem d_td_sum_4 : decode c_td_sum 4 = .ok (.aload_n 0, 1) := by decide +kernel
theorem d_td_sum_5 : decode c_td_sum 5 = .ok (.getfield 10, 3) := by decide +kernel
theorem d_td_sum_8 : decode c_td_sum 8 = .ok (.iload_n 1, 1) := by decide +kernel
theorem d_td_sum_9 : decode c_td_sum 9 = .ok (.iload_n 2, 1) := by decide +kernel
theorem d_td_sum_10 : decode c_td_sum 10 = .ok (.invokevirtual 105, 3) := by decide +kernel
theorem d_td_sum_13 : decode c_td_sum 13 = .ok (.ireturn, 1) := by decide +kernel
theorem d_td_times_0 : decode c_td_times 0 = .ok (.aload_n 0, 1) := by decide +kernel
theorem d_td_times_1 : decode c_td_times 1 = .ok (.getfield 26, 3) := by decide +kernel
theorem d_td_times_4 : decode c_td_times 4 = .ok (.aload_n 0, 1) := by decide +kernel
theorem d_td_times_5 : decode c_td_times 5 = .ok (.getfield 10, 3) := by decide +kernel
theorem d_td_times_8 : decode c_td_times 8 = .ok (.iload_n 1, 1) := by decide +kernel
theorem d_td_times_9 : decode c_td_times 9 = .ok (.iload_n 2, 1) := by decide +kernel
theorem d_td_times_10 : decode c_td_times 10 = .ok (.invokevirtual 109, 3) := by decide +kernel
theorem d_td_times_13 : decode c_td_times 13 = .ok (.ireturn, 1) := by decide +kernel
theorem d_td_structure_0 : decode c_td_structure 0 = .ok (.aload_n 0, 1) := by decide +kernel
theorem d_td_structure_1 : decode c_td_structure 1 = .ok (.getfield 73, 3) := by decide +kernel
theorem d_td_structure_4 : decode c_td_structure 4 = .ok (.ifCond .ne 5, 3) := by decide +kernel
theorem d_td_structure_7 : decode c_td_structure 7 = .ok (.iconst (-1), 1) := by decide +kernel
theorem d_td_structure_8 : decode c_td_structure 8 = .ok (.ireturn, 1) := by decide +kernel
theorem d_td_structure_9 : decode c_td_structure 9 = .ok (.iload_n 1, 1) := by decide +kernel
theorem d_td_structure_10 : decode c_td_structure 10 = .ok (.tableswitch 66 0 3 #[30, 38, 46, 58], 30) := by decide +kernel
theorem d_td_structure_40 : decode c_td_structure 40 = .ok (.aload_n 0, 1) := by decide +kernel
theorem d_td_structure_41 : decode c_td_structure 41 = .ok (.getfield 26, 3) := by decide +kernel
theorem d_td_structure_44 : decode c_td_structure 44 = .ok (.invokevirtual 112, 3) := by decide +kernel
theorem d_td_structure_47 : decode c_td_structure 47 = .ok (.ireturn, 1) := by decide +kernel
theorem d_td_structure_48 : decode c_td_structure 48 = .ok (.aload_n 0, 1) := by decide +kernel
theorem d_td_structure_49 : decode c_td_structure 49 = .ok (.getfield 26, 3) := by decide +kernel
theorem d_td_structure_52 : decode c_td_structure 52 = .ok (.invokevirtual 116, 3) := by decide +kernel
theorem d_td_structure_55 : decode c_td_structure 55 = .ok (.ireturn, 1) := by decide +kernel
theorem d_td_structure_56 : decode c_td_structure 56 = .ok (.aload_n 0, 1) := by decide +kernel
theorem d_td_structure_57 : decode c_td_structure 57 = .ok (.getfield 26, 3) := by decide +kernel
theorem d_td_structure_60 : decode c_td_structure 60 = .ok (.aload_n 0, 1) := by decide +kernel
theorem d_td_structure_61 : decode c_td_structure 61 = .ok (.getfield 10, 3) := by decide +kernel
theorem d_td_structure_64 : decode c_td_structure 64 = .ok (.invokevirtual 119, 3) := by decide +kernel
theorem d_td_structure_67 : decode c_td_structure 67 = .ok (.ireturn, 1) := by decide +kernel
theorem d_td_structure_68 : decode c_td_structure 68 = .ok (.aload_n 0, 1) := by decide +kernel
theorem d_td_structure_69 : decode c_td_structure 69 = .ok (.getfield 26, 3) := by decide +kernel
theorem d_td_structure_72 : decode c_td_structure 72 = .ok (.invokevirtual 123, 3) := by decide +kernel
theorem d_td_structure_75 : decode c_td_structure 75 = .ok (.ireturn, 1) := by decide +kernel
theorem d_td_structure_76 : decode c_td_structure 76 = .ok (.iconst (-1), 1) := by decide +kernel
theorem d_td_structure_77 : decode c_td_structure 77 = .ok (.ireturn, 1) := by decide +kernel
theorem d_td_modulo_0 : decode c_td_modulo 0 = .ok (.iload_n 1, 1) := by decide +kernel
theorem d_td_modulo_1 : decode c_td_modulo 1 = .ok (.invokestatic 126, 3) := by decide +kernel
theorem d_td_modulo_4 : decode c_td_modulo 4 = .ok (.ifCond .ne 13, 3) := by decide +kernel
theorem d_td_modulo_7 : decode c_td_modulo 7 = .ok (.new 34, 3) := by decide +kernel
theorem d_td_modulo_10 : decode c_td_modulo 10 = .ok (.dup, 1) := by decide +kernel
theorem d_td_modulo_11 : decode c_td_modulo 11 = .ok (.ldc 129, 2) := by decide +kernel
theorem d_td_modulo_13 : decode c_td_modulo 13 = .ok (.invokespecial 38, 3) := by decide +kernel
theorem d_td_modulo_16 : decode c_td_modulo 16 = .ok (.athrow, 1) := by decide +kernel
theorem d_td_modulo_17 : decode c_td_modulo 17 = .ok (.aload_n 0, 1) := by decide +kernel
theorem d_td_modulo_18 : decode c_td_modulo 18 = .ok (.getfield 73, 3) := by decide +kernel
theorem d_td_modulo_21 : decode c_td_modulo 21 = .ok (.ifCond .ne 13, 3) := by decide +kernel
theorem d_td_modulo_24 : decode c_td_modulo 24 = .ok (.new 131, 3) := by decide +kernel
theorem d_td_modulo_27 : decode c_td_modulo 27 = .ok (.dup, 1) := by decide +kernel
theorem d_td_modulo_28 : decode c_td_modulo 28 = .ok (.ldc 133, 2) := by decide +kernel
theorem d_td_modulo_30 : decode c_td_modulo 30 = .ok (.invokespecial 135, 3) := by decide +kernel
theorem d_td_modulo_33 : decode c_td_modulo 33 = .ok (.athrow, 1) := by decide +kernel
theorem d_td_modulo_34 : decode c_td_modulo 34 = .ok (.aload_n 0, 1) := by decide +kernel
theorem d_td_modulo_35 : decode c_td_modulo 35 = .ok (.getfield 10, 3) := by decide +kernel
theorem d_td_modulo_38 : decode c_td_modulo 38 = .ok (.iload_n 1, 1) := by decide +kernel
theorem d_td_modulo_39 : decode c_td_modulo 39 = .ok (.invokevirtual 136, 3) := by decide +kernel
theorem d_td_modulo_42 : decode c_td_modulo 42 = .ok (.ifCond .ne 13, 3) := by decide +kernel
theorem d_td_modulo_45 : decode c_td_modulo 45 = .ok (.new 45, 3) := by decide +kernel
theorem d_td_modulo_48 : decode c_td_modulo 48 = .ok (.dup, 1) := by decide +kernel
theorem d_td_modulo_49 : decode c_td_modulo 49 = .ok (.ldc 139, 2) := by decide +kernel
theorem d_td_modulo_51 : decode c_td_modulo 51 = .ok (.invokespecial 49, 3) := by decide +kernel
theorem d_td_modulo_54 : decode c_td_modulo 54 = .ok (.athrow, 1) := by decide +kernel
theorem d_td_modulo_55 : decode c_td_modulo 55 = .ok (.aload_n 0, 1) := by decide +kernel
theorem d_td_modulo_56 : decode c_td_modulo 56 = .ok (.getfield 10, 3) := by decide +kernel
theorem d_td_modulo_59 : decode c_td_modulo 59 = .ok (.iload_n 1, 1) := by decide +kernel
theorem d_td_modulo_60 : decode c_td_modulo 60 = .ok (.invokevirtual 141, 3) := by decide +kernel
theorem d_td_modulo_63 : decode c_td_modulo 63 = .ok (.ireturn, 1) := by decide +kernel
theorem d_td_bound_0 : decode c_td_bound 0 = .ok (.aload_n 0, 1) := by decide +kernel
theorem d_td_bound_1 : decode c_td_bound 1 = .ok (.getfield 73, 3) := by decide +kernel
theorem d_td_bound_4 : decode c_td_bound 4 = .ok (.ifCond .eq 9, 3) := by decide +kernel
theorem d_td_bound_7 : decode c_td_bound 7 = .ok (.iload_n 1, 1) := by decide +kernel
theorem d_td_bound_8 : decode c_td_bound 8 = .ok (.bipush 97, 2) := by decide +kernel
theorem d_td_bound_10 : decode c_td_bound 10 = .ok (.if_icmp .le 5, 3) := by decide +kernel
theorem d_td_bound_13 : decode c_td_bound 13 = .ok (.iconst 0, 1) := by decide +kernel
theorem d_td_bound_14 : decode c_td_bound 14 = .ok (.ireturn, 1) := by decide +kernel
theorem d_td_bound_15 : decode c_td_bound 15 = .ok (.iconst 0, 1) := by decide +kernel
theorem d_td_bound_16 : decode c_td_bound 16 = .ok (.istore_n 2, 1) := by decide +kernel
theorem d_td_bound_17 : decode c_td_bound 17 = .ok (.getstatic 145, 3) := by decide +kernel
theorem d_td_bound_20 : decode c_td_bound 20 = .ok (.astore_n 3, 1) := by decide +kernel
theorem d_td_bound_21 : decode c_td_bound 21 = .ok (.aload_n 3, 1) := by decide +kernel
theorem d_td_bound_22 : decode c_td_bound 22 = .ok (.arraylength, 1) := by decide +kernel
theorem d_td_bound_23 : decode c_td_bound 23 = .ok (.istore 4, 2) := by decide +kernel
theorem d_td_bound_25 : decode c_td_bound 25 = .ok (.iconst 0, 1) := by decide +kernel
theorem d_td_bound_26 : decode c_td_bound 26 = .ok (.istore 5, 2) := by decide +kernel
theorem d_td_bound_28 : decode c_td_bound 28 = .ok (.iload 5, 2) := by decide +kernel
theorem d_td_bound_30 : decode c_td_bound 30 = .ok (.iload 4, 2) := by decide +kernel
theorem d_td_bound_32 : decode c_td_bound 32 = .ok (.if_icmp .ge 47, 3) := by decide +kernel
theorem d_td_bound_35 : decode c_td_bound 35 = .ok (.aload_n 3, 1) := by decide +kernel
theorem d_td_bound_36 : decode c_td_bound 36 = .ok (.iload 5, 2) := by decide +kernel
theorem d_td_bound_38 : decode c_td_bound 38 = .ok (.iaload, 1) := by decide +kernel
theorem d_td_bound_39 : decode c_td_bound 39 = .ok (.istore 6, 2) := by decide +kernel
theorem d_td_bound_41 : decode c_td_bound 41 = .ok (.iload 6, 2) := by decide +kernel
theorem d_td_bound_43 : decode c_td_bound 43 = .ok (.iload_n 1, 1) := by decide +kernel
theorem d_td_bound_44 : decode c_td_bound 44 = .ok (.if_icmp .gt 29, 3) := by decide +kernel
theorem d_td_bound_47 : decode c_td_bound 47 = .ok (.aload_n 0, 1) := by decide +kernel
theorem d_td_bound_48 : decode c_td_bound 48 = .ok (.getfield 10, 3) := by decide +kernel
theorem d_td_bound_51 : decode c_td_bound 51 = .ok (.iload 6, 2) := by decide +kernel
theorem d_td_bound_53 : decode c_td_bound 53 = .ok (.invokevirtual 136, 3) := by decide +kernel
theorem d_td_bound_56 : decode c_td_bound 56 = .ok (.ifCond .eq 17, 3) := by decide +kernel
theorem d_td_bound_59 : decode c_td_bound 59 = .ok (.iload_n 2, 1) := by decide +kernel
theorem d_td_bound_60 : decode c_td_bound 60 = .ok (.aload_n 0, 1) := by decide +kernel
theorem d_td_bound_61 : decode c_td_bound 61 = .ok (.getfield 10, 3) := by decide +kernel
theorem d_td_bound_64 : decode c_td_bound 64 = .ok (.iload 6, 2) := by decide +kernel
theorem d_td_bound_66 : decode c_td_bound 66 = .ok (.invokevirtual 141, 3) := by decide +kernel
theorem d_td_bound_69 : decode c_td_bound 69 = .ok (.invokestatic 148, 3) := by decide +kernel
theorem d_td_bound_72 : decode c_td_bound 72 = .ok (.istore_n 2, 1) := by decide +kernel
theorem d_td_bound_73 : decode c_td_bound 73 = .ok (.iinc 5 1, 3) := by decide +kernel
theorem d_td_bound_76 : decode c_td_bound 76 = .ok (.goto (-48), 3) := by decide +kernel
theorem d_td_bound_79 : decode c_td_bound 79 = .ok (.iload_n 2, 1) := by decide +kernel
theorem d_td_bound_80 : decode c_td_bound 80 = .ok (.ireturn, 1) := by decide +kernel
theorem d_td_isCoefficient_0 : decode c_td_isCoefficient 0 = .ok (.iload_n 0, 1) := by decide +kernel
theorem d_td_isCoefficient_1 : decode c_td_isCoefficient 1 = .ok (.bipush (-6), 2) := by decide +kernel
theorem d_td_isCoefficient_3 : decode c_td_isCoefficient 3 = .ok (.if_icmp .lt 13, 3) := by decide +kernel
theorem d_td_isCoefficient_6 : decode c_td_isCoefficient 6 = .ok (.iload_n 0, 1) := by decide +kernel
theorem d_td_isCoefficient_7 : decode c_td_isCoefficient 7 = .ok (.bipush 6, 2) := by decide +kernel
theorem d_td_isCoefficient_9 : decode c_td_isCoefficient 9 = .ok (.if_icmp .gt 7, 3) := by decide +kernel
theorem d_td_isCoefficient_12 : decode c_td_isCoefficient 12 = .ok (.iconst 1, 1) := by decide +kernel
theorem d_td_isCoefficient_13 : decode c_td_isCoefficient 13 = .ok (.goto 4, 3) := by decide +kernel
theorem d_td_isCoefficient_16 : decode c_td_isCoefficient 16 = .ok (.iconst 0, 1) := by decide +kernel
theorem d_td_isCoefficient_17 : decode c_td_isCoefficient 17 = .ok (.ireturn, 1) := by decide +kernel
theorem d_td_isPrime_0 : decode c_td_isPrime 0 = .ok (.getstatic 145, 3) := by decide +kernel
theorem d_td_isPrime_3 : decode c_td_isPrime 3 = .ok (.astore_n 1, 1) := by decide +kernel
theorem d_td_isPrime_4 : decode c_td_isPrime 4 = .ok (.aload_n 1, 1) := by decide +kernel
theorem d_td_isPrime_5 : decode c_td_isPrime 5 = .ok (.arraylength, 1) := by decide +kernel
theorem d_td_isPrime_6 : decode c_td_isPrime 6 = .ok (.istore_n 2, 1) := by decide +kernel
theorem d_td_isPrime_7 : decode c_td_isPrime 7 = .ok (.iconst 0, 1) := by decide +kernel
theorem d_td_isPrime_8 : decode c_td_isPrime 8 = .ok (.istore_n 3, 1) := by decide +kernel
theorem d_td_isPrime_9 : decode c_td_isPrime 9 = .ok (.iload_n 3, 1) := by decide +kernel
theorem d_td_isPrime_10 : decode c_td_isPrime 10 = .ok (.iload_n 2, 1) := by decide +kernel
theorem d_td_isPrime_11 : decode c_td_isPrime 11 = .ok (.if_icmp .ge 22, 3) := by decide +kernel
theorem d_td_isPrime_14 : decode c_td_isPrime 14 = .ok (.aload_n 1, 1) := by decide +kernel
theorem d_td_isPrime_15 : decode c_td_isPrime 15 = .ok (.iload_n 3, 1) := by decide +kernel
theorem d_td_isPrime_16 : decode c_td_isPrime 16 = .ok (.iaload, 1) := by decide +kernel
theorem d_td_isPrime_17 : decode c_td_isPrime 17 = .ok (.istore 4, 2) := by decide +kernel
theorem d_td_isPrime_19 : decode c_td_isPrime 19 = .ok (.iload 4, 2) := by decide +kernel
theorem d_td_isPrime_21 : decode c_td_isPrime 21 = .ok (.iload_n 0, 1) := by decide +kernel
theorem d_td_isPrime_22 : decode c_td_isPrime 22 = .ok (.if_icmp .ne 5, 3) := by decide +kernel
theorem d_td_isPrime_25 : decode c_td_isPrime 25 = .ok (.iconst 1, 1) := by decide +kernel
theorem d_td_isPrime_26 : decode c_td_isPrime 26 = .ok (.ireturn, 1) := by decide +kernel
theorem d_td_isPrime_27 : decode c_td_isPrime 27 = .ok (.iinc 3 1, 3) := by decide +kernel
theorem d_td_isPrime_30 : decode c_td_isPrime 30 = .ok (.goto (-21), 3) := by decide +kernel
theorem d_td_isPrime_33 : decode c_td_isPrime 33 = .ok (.iconst 0, 1) := by decide +kernel
theorem d_td_isPrime_34 : decode c_td_isPrime 34 = .ok (.ireturn, 1) := by decide +kernel
theorem d_td_sharedTwos_0 : decode c_td_sharedTwos 0 = .ok (.iconst 0, 1) := by decide +kernel
theorem d_td_sharedTwos_1 : decode c_td_sharedTwos 1 = .ok (.istore_n 2, 1) := by decide +kernel
theorem d_td_sharedTwos_2 : decode c_td_sharedTwos 2 = .ok (.iload_n 2, 1) := by decide +kernel
theorem d_td_sharedTwos_3 : decode c_td_sharedTwos 3 = .ok (.iload_n 1, 1) := by decide +kernel
theorem d_td_sharedTwos_4 : decode c_td_sharedTwos 4 = .ok (.if_icmp .ge 17, 3) := by decide +kernel
theorem d_td_sharedTwos_7 : decode c_td_sharedTwos 7 = .ok (.iload_n 0, 1) := by decide +kernel
theorem d_td_sharedTwos_8 : decode c_td_sharedTwos 8 = .ok (.iload_n 2, 1) := by decide +kernel
theorem d_td_sharedTwos_9 : decode c_td_sharedTwos 9 = .ok (.ishr, 1) := by decide +kernel
theorem d_td_sharedTwos_10 : decode c_td_sharedTwos 10 = .ok (.iconst 1, 1) := by decide +kernel
theorem d_td_sharedTwos_11 : decode c_td_sharedTwos 11 = .ok (.iand, 1) := by decide +kernel
theorem d_td_sharedTwos_12 : decode c_td_sharedTwos 12 = .ok (.ifCond .ne 9, 3) := by decide +kernel
theorem d_td_sharedTwos_15 : decode c_td_sharedTwos 15 = .ok (.iinc 2 1, 3) := by decide +kernel
theorem d_td_sharedTwos_18 : decode c_td_sharedTwos 18 = .ok (.goto (-16), 3) := by decide +kernel
theorem d_td_sharedTwos_21 : decode c_td_sharedTwos 21 = .ok (.iload_n 2, 1) := by decide +kernel
theorem d_td_sharedTwos_22 : decode c_td_sharedTwos 22 = .ok (.ireturn, 1) := by decide +kernel
theorem d_td_greatestDivisor_0 : decode c_td_greatestDivisor 0 = .ok (.iload_n 0, 1) := by decide +kernel
theorem d_td_greatestDivisor_1 : decode c_td_greatestDivisor 1 = .ok (.istore_n 2, 1) := by decide +kernel
theorem d_td_greatestDivisor_2 : decode c_td_greatestDivisor 2 = .ok (.iload_n 1, 1) := by decide +kernel
theorem d_td_greatestDivisor_3 : decode c_td_greatestDivisor 3 = .ok (.istore_n 3, 1) := by decide +kernel
theorem d_td_greatestDivisor_4 : decode c_td_greatestDivisor 4 = .ok (.iconst 0, 1) := by decide +kernel
theorem d_td_greatestDivisor_5 : decode c_td_greatestDivisor 5 = .ok (.istore 4, 2) := by decide +kernel
theorem d_td_greatestDivisor_7 : decode c_td_greatestDivisor 7 = .ok (.iload 4, 2) := by decide +kernel
theorem d_td_greatestDivisor_9 : decode c_td_greatestDivisor 9 = .ok (.bipush 64, 2) := by decide +kernel
theorem d_td_greatestDivisor_11 : decode c_td_greatestDivisor 11 = .ok (.if_icmp .ge 23, 3) := by decide +kernel
theorem d_td_greatestDivisor_14 : decode c_td_greatestDivisor 14 = .ok (.iload_n 3, 1) := by decide +kernel
theorem d_td_greatestDivisor_15 : decode c_td_greatestDivisor 15 = .ok (.ifCond .eq 19, 3) := by decide +kernel
theorem d_td_greatestDivisor_18 : decode c_td_greatestDivisor 18 = .ok (.iload_n 2, 1) := by decide +kernel
theorem d_td_greatestDivisor_19 : decode c_td_greatestDivisor 19 = .ok (.iload_n 3, 1) := by decide +kernel
theorem d_td_greatestDivisor_20 : decode c_td_greatestDivisor 20 = .ok (.irem, 1) := by decide +kernel
theorem d_td_greatestDivisor_21 : decode c_td_greatestDivisor 21 = .ok (.istore 5, 2) := by decide +kernel
theorem d_td_greatestDivisor_23 : decode c_td_greatestDivisor 23 = .ok (.iload_n 3, 1) := by decide +kernel
theorem d_td_greatestDivisor_24 : decode c_td_greatestDivisor 24 = .ok (.istore_n 2, 1) := by decide +kernel
theorem d_td_greatestDivisor_25 : decode c_td_greatestDivisor 25 = .ok (.iload 5, 2) := by decide +kernel
theorem d_td_greatestDivisor_27 : decode c_td_greatestDivisor 27 = .ok (.istore_n 3, 1) := by decide +kernel
theorem d_td_greatestDivisor_28 : decode c_td_greatestDivisor 28 = .ok (.iinc 4 1, 3) := by decide +kernel
theorem d_td_greatestDivisor_31 : decode c_td_greatestDivisor 31 = .ok (.goto (-24), 3) := by decide +kernel
theorem d_td_greatestDivisor_34 : decode c_td_greatestDivisor 34 = .ok (.iload_n 2, 1) := by decide +kernel
theorem d_td_greatestDivisor_35 : decode c_td_greatestDivisor 35 = .ok (.ireturn, 1) := by decide +kernel
theorem d_md_init_0 : decode c_md_init 0 = .ok (.aload_n 0, 1) := by decide +kernel
theorem d_md_init_1 : decode c_md_init 1 = .ok (.invokespecial 1, 3) := by decide +kernel
theorem d_md_init_4 : decode c_md_init 4 = .ok (.aload_n 0, 1) := by decide +kernel
theorem d_md_init_5 : decode c_md_init 5 = .ok (.bipush 40, 2) := by decide +kernel
theorem d_md_init_7 : decode c_md_init 7 = .ok (.newarray .int, 2) := by decide +kernel
theorem d_md_init_9 : decode c_md_init 9 = .ok (.putfield 7, 3) := by decide +kernel
theorem d_md_init_12 : decode c_md_init 12 = .ok (.aload_n 0, 1) := by decide +kernel
theorem d_md_init_13 : decode c_md_init 13 = .ok (.bipush 40, 2) := by decide +kernel
theorem d_md_init_15 : decode c_md_init 15 = .ok (.newarray .int, 2) := by decide +kernel
theorem d_md_init_17 : decode c_md_init 17 = .ok (.putfield 13, 3) := by decide +kernel
theorem d_md_init_20 : decode c_md_init 20 = .ok (.aload_n 0, 1) := by decide +kernel
theorem d_md_init_21 : decode c_md_init 21 = .ok (.bipush 40, 2) := by decide +kernel
theorem d_md_init_23 : decode c_md_init 23 = .ok (.newarray .int, 2) := by decide +kernel
theorem d_md_init_25 : decode c_md_init 25 = .ok (.putfield 16, 3) := by decide +kernel
theorem d_md_init_28 : decode c_md_init 28 = .ok (.return_, 1) := by decide +kernel
theorem d_md_thrown_0 : decode c_md_thrown 0 = .ok (.aload_n 0, 1) := by decide +kernel
theorem d_md_thrown_1 : decode c_md_thrown 1 = .ok (.getfield 19, 3) := by decide +kernel
theorem d_md_thrown_4 : decode c_md_thrown 4 = .ok (.ireturn, 1) := by decide +kernel
theorem d_md_discriminantOf_0 : decode c_md_discriminantOf 0 = .ok (.lload_n 0, 1) := by decide +kernel
theorem d_md_discriminantOf_1 : decode c_md_discriminantOf 1 = .ok (.lload_n 0, 1) := by decide +kernel
theorem d_md_discriminantOf_2 : decode c_md_discriminantOf 2 = .ok (.lmul, 1) := by decide +kernel
theorem d_md_discriminantOf_3 : decode c_md_discriminantOf 3 = .ok (.lload_n 2, 1) := by decide +kernel
theorem d_md_discriminantOf_4 : decode c_md_discriminantOf 4 = .ok (.lmul, 1) := by decide +kernel
theorem d_md_discriminantOf_5 : decode c_md_discriminantOf 5 = .ok (.lload_n 2, 1) := by decide +kernel
theorem d_md_discriminantOf_6 : decode c_md_discriminantOf 6 = .ok (.lmul, 1) := by decide +kernel
theorem d_md_discriminantOf_7 : decode c_md_discriminantOf 7 = .ok (.ldc2_w 23, 3) := by decide +kernel
theorem d_md_discriminantOf_10 : decode c_md_discriminantOf 10 = .ok (.lload_n 2, 1) := by decide +kernel
theorem d_md_discriminantOf_11 : decode c_md_discriminantOf 11 = .ok (.lmul, 1) := by decide +kernel
theorem d_md_discriminantOf_12 : decode c_md_discriminantOf 12 = .ok (.lload_n 2, 1) := by decide +kernel
theorem d_md_discriminantOf_13 : decode c_md_discriminantOf 13 = .ok (.lmul, 1) := by decide +kernel
theorem d_md_discriminantOf_14 : decode c_md_discriminantOf 14 = .ok (.lload_n 2, 1) := by decide +kernel
theorem d_md_discriminantOf_15 : decode c_md_discriminantOf 15 = .ok (.lmul, 1) := by decide +kernel
theorem d_md_discriminantOf_16 : decode c_md_discriminantOf 16 = .ok (.lsub, 1) := by decide +kernel
theorem d_md_discriminantOf_17 : decode c_md_discriminantOf 17 = .ok (.ldc2_w 23, 3) := by decide +kernel
theorem d_md_discriminantOf_20 : decode c_md_discriminantOf 20 = .ok (.lload_n 0, 1) := by decide +kernel
theorem d_md_discriminantOf_21 : decode c_md_discriminantOf 21 = .ok (.lmul, 1) := by decide +kernel
theorem d_md_discriminantOf_22 : decode c_md_discriminantOf 22 = .ok (.lload_n 0, 1) := by decide +kernel
theorem d_md_discriminantOf_23 : decode c_md_discriminantOf 23 = .ok (.lmul, 1) := by decide +kernel
theorem d_md_discriminantOf_24 : decode c_md_discriminantOf 24 = .ok (.lload_n 0, 1) := by decide +kernel
theorem d_md_discriminantOf_25 : decode c_md_discriminantOf 25 = .ok (.lmul, 1) := by decide +kernel
theorem d_md_discriminantOf_26 : decode c_md_discriminantOf 26 = .ok (.lload 4, 2) := by decide +kernel
theorem d_md_discriminantOf_28 : decode c_md_discriminantOf 28 = .ok (.lmul, 1) := by decide +kernel
theorem d_md_discriminantOf_29 : decode c_md_discriminantOf 29 = .ok (.lsub, 1) := by decide +kernel
theorem d_md_discriminantOf_30 : decode c_md_discriminantOf 30 = .ok (.ldc2_w 25, 3) := by decide +kernel
theorem d_md_discriminantOf_33 : decode c_md_discriminantOf 33 = .ok (.lload 4, 2) := by decide +kernel
theorem d_md_discriminantOf_35 : decode c_md_discriminantOf 35 = .ok (.lmul, 1) := by decide +kernel
theorem d_md_discriminantOf_36 : decode c_md_discriminantOf 36 = .ok (.lload 4, 2) := by decide +kernel
theorem d_md_discriminantOf_38 : decode c_md_discriminantOf 38 = .ok (.lmul, 1) := by decide +kernel
theorem d_md_discriminantOf_39 : decode c_md_discriminantOf 39 = .ok (.lsub, 1) := by decide +kernel
theorem d_md_discriminantOf_40 : decode c_md_discriminantOf 40 = .ok (.ldc2_w 27, 3) := by decide +kernel
theorem d_md_discriminantOf_43 : decode c_md_discriminantOf 43 = .ok (.lload_n 0, 1) := by decide +kernel
theorem d_md_discriminantOf_44 : decode c_md_discriminantOf 44 = .ok (.lmul, 1) := by decide +kernel
theorem d_md_discriminantOf_45 : decode c_md_discriminantOf 45 = .ok (.lload_n 2, 1) := by decide +kernel
theorem d_md_discriminantOf_46 : decode c_md_discriminantOf 46 = .ok (.lmul, 1) := by decide +kernel
theorem d_md_discriminantOf_47 : decode c_md_discriminantOf 47 = .ok (.lload 4, 2) := by decide +kernel
theorem d_md_discriminantOf_49 : decode c_md_discriminantOf 49 = .ok (.lmul, 1) := by decide +kernel
theorem d_md_discriminantOf_50 : decode c_md_discriminantOf 50 = .ok (.ladd, 1) := by decide +kernel
theorem d_md_discriminantOf_51 : decode c_md_discriminantOf 51 = .ok (.lreturn, 1) := by decide +kernel
theorem d_md_cubic_0 : decode c_md_cubic 0 = .ok (.lload_n 1, 1) := by decide +kernel
theorem d_md_cubic_1 : decode c_md_cubic 1 = .ok (.aload_n 0, 1) := by decide +kernel
theorem d_md_cubic_2 : decode c_md_cubic 2 = .ok (.getfield 29, 3) := by decide +kernel
theorem d_md_cubic_5 : decode c_md_cubic 5 = .ok (.ladd, 1) := by decide +kernel
theorem d_md_cubic_6 : decode c_md_cubic 6 = .ok (.lload_n 1, 1) := by decide +kernel
theorem d_md_cubic_7 : decode c_md_cubic 7 = .ok (.lmul, 1) := by decide +kernel
theorem d_md_cubic_8 : decode c_md_cubic 8 = .ok (.aload_n 0, 1) := by decide +kernel
theorem d_md_cubic_9 : decode c_md_cubic 9 = .ok (.getfield 33, 3) := by decide +kernel
theorem d_md_cubic_12 : decode c_md_cubic 12 = .ok (.ladd, 1) := by decide +kernel
theorem d_md_cubic_13 : decode c_md_cubic 13 = .ok (.lload_n 1, 1) := by decide +kernel
theorem d_md_cubic_14 : decode c_md_cubic 14 = .ok (.lmul, 1) := by decide +kernel
theorem d_md_cubic_15 : decode c_md_cubic 15 = .ok (.aload_n 0, 1) := by decide +kernel
theorem d_md_cubic_16 : decode c_md_cubic 16 = .ok (.getfield 36, 3) := by decide +kernel
theorem d_md_cubic_19 : decode c_md_cubic 19 = .ok (.ladd, 1) := by decide +kernel
theorem d_md_cubic_20 : decode c_md_cubic 20 = .ok (.lreturn, 1) := by decide +kernel
theorem d_md_small_0 : decode c_md_small 0 = .ok (.iload_n 0, 1) := by decide +kernel
theorem d_md_small_1 : decode c_md_small 1 = .ok (.bipush (-6), 2) := by decide +kernel
theorem d_md_small_3 : decode c_md_small 3 = .ok (.if_icmp .lt 13, 3) := by decide +kernel
theorem d_md_small_6 : decode c_md_small 6 = .ok (.iload_n 0, 1) := by decide +kernel
theorem d_md_small_7 : decode c_md_small 7 = .ok (.bipush 6, 2) := by decide +kernel
theorem d_md_small_9 : decode c_md_small 9 = .ok (.if_icmp .gt 7, 3) := by decide +kernel
theorem d_md_small_12 : decode c_md_small 12 = .ok (.iconst 1, 1) := by decide +kernel
theorem d_md_small_13 : decode c_md_small 13 = .ok (.goto 4, 3) := by decide +kernel
theorem d_md_small_16 : decode c_md_small 16 = .ok (.iconst 0, 1) := by decide +kernel
theorem d_md_small_17 : decode c_md_small 17 = .ok (.ireturn, 1) := by decide +kernel
theorem d_md_curve_0 : decode c_md_curve 0 = .ok (.iload_n 1, 1) := by decide +kernel
theorem d_md_curve_1 : decode c_md_curve 1 = .ok (.invokestatic 39, 3) := by decide +kernel
theorem d_md_curve_4 : decode c_md_curve 4 = .ok (.ifCond .eq 37, 3) := by decide +kernel
theorem d_md_curve_7 : decode c_md_curve 7 = .ok (.iload_n 2, 1) := by decide +kernel
theorem d_md_curve_8 : decode c_md_curve 8 = .ok (.invokestatic 39, 3) := by decide +kernel
theorem d_md_curve_11 : decode c_md_curve 11 = .ok (.ifCond .eq 30, 3) := by decide +kernel
theorem d_md_curve_14 : decode c_md_curve 14 = .ok (.iload_n 3, 1) := by decide +kernel
theorem d_md_curve_15 : decode c_md_curve 15 = .ok (.invokestatic 39, 3) := by decide +kernel
theorem d_md_curve_18 : decode c_md_curve 18 = .ok (.ifCond .eq 23, 3) := by decide +kernel
theorem d_md_curve_21 : decode c_md_curve 21 = .ok (.iload 4, 2) := by decide +kernel
theorem d_md_curve_23 : decode c_md_curve 23 = .ok (.invokestatic 39, 3) := by decide +kernel
theorem d_md_curve_26 : decode c_md_curve 26 = .ok (.ifCond .eq 15, 3) := by decide +kernel
theorem d_md_curve_29 : decode c_md_curve 29 = .ok (.iload 5, 2) := by decide +kernel
theorem d_md_curve_31 : decode c_md_curve 31 = .ok (.invokestatic 39, 3) := by decide +kernel
theorem d_md_curve_34 : decode c_md_curve 34 = .ok (.ifCond .eq 7, 3) := by decide +kernel
theorem d_md_curve_37 : decode c_md_curve 37 = .ok (.iconst 1, 1) := by decide +kernel
theorem d_md_curve_38 : decode c_md_curve 38 = .ok (.goto 4, 3) := by decide +kernel
theorem d_md_curve_41 : decode c_md_curve 41 = .ok (.iconst 0, 1) := by decide +kernel
theorem d_md_curve_42 : decode c_md_curve 42 = .ok (.istore 6, 2) := by decide +kernel
theorem d_md_curve_44 : decode c_md_curve 44 = .ok (.iload_n 1, 1) := by decide +kernel
theorem d_md_curve_45 : decode c_md_curve 45 = .ok (.iload_n 1, 1) := by decide +kernel
theorem d_md_curve_46 : decode c_md_curve 46 = .ok (.imul, 1) := by decide +kernel
theorem d_md_curve_47 : decode c_md_curve 47 = .ok (.iconst 4, 1) := by decide +kernel
theorem d_md_curve_48 : decode c_md_curve 48 = .ok (.iload_n 2, 1) := by decide +kernel
theorem d_md_curve_49 : decode c_md_curve 49 = .ok (.imul, 1) := by decide +kernel
theorem d_md_curve_50 : decode c_md_curve 50 = .ok (.iadd, 1) := by decide +kernel
theorem d_md_curve_51 : decode c_md_curve 51 = .ok (.i2l, 1) := by decide +kernel
theorem d_md_curve_52 : decode c_md_curve 52 = .ok (.lstore 7, 2) := by decide +kernel
theorem d_md_curve_54 : decode c_md_curve 54 = .ok (.bipush 16, 2) := by decide +kernel
theorem d_md_curve_56 : decode c_md_curve 56 = .ok (.iload 4, 2) := by decide +kernel
theorem d_md_curve_58 : decode c_md_curve 58 = .ok (.imul, 1) := by decide +kernel
theorem d_md_curve_59 : decode c_md_curve 59 = .ok (.bipush 8, 2) := by decide +kernel
theorem d_md_curve_61 : decode c_md_curve 61 = .ok (.iload_n 1, 1) := by decide +kernel
theorem d_md_curve_62 : decode c_md_curve 62 = .ok (.imul, 1) := by decide +kernel
theorem d_md_curve_63 : decode c_md_curve 63 = .ok (.iload_n 3, 1) := by decide +kernel
theorem d_md_curve_64 : decode c_md_curve 64 = .ok (.imul, 1) := by decide +kernel
theorem d_md_curve_65 : decode c_md_curve 65 = .ok (.iadd, 1) := by decide +kernel
theorem d_md_curve_66 : decode c_md_curve 66 = .ok (.i2l, 1) := by decide +kernel
theorem d_md_curve_67 : decode c_md_curve 67 = .ok (.lstore 9, 2) := by decide +kernel
theorem d_md_curve_69 : decode c_md_curve 69 = .ok (.bipush 16, 2) := by decide +kernel
theorem d_md_curve_71 : decode c_md_curve 71 = .ok (.iload_n 3, 1) := by decide +kernel
theorem d_md_curve_72 : decode c_md_curve 72 = .ok (.imul, 1) := by decide +kernel
theorem d_md_curve_73 : decode c_md_curve 73 = .ok (.iload_n 3, 1) := by decide +kernel
theorem d_md_curve_74 : decode c_md_curve 74 = .ok (.imul, 1) := by decide +kernel
theorem d_md_curve_75 : decode c_md_curve 75 = .ok (.bipush 64, 2) := by decide +kernel
theorem d_md_curve_77 : decode c_md_curve 77 = .ok (.iload 5, 2) := by decide +kernel
theorem d_md_curve_79 : decode c_md_curve 79 = .ok (.imul, 1) := by decide +kernel
theorem d_md_curve_80 : decode c_md_curve 80 = .ok (.iadd, 1) := by decide +kernel
theorem d_md_curve_81 : decode c_md_curve 81 = .ok (.i2l, 1) := by decide +kernel
theorem d_md_curve_82 : decode c_md_curve 82 = .ok (.lstore 11, 2) := by decide +kernel
theorem d_md_curve_84 : decode c_md_curve 84 = .ok (.aload_n 0, 1) := by decide +kernel
theorem d_md_curve_85 : decode c_md_curve 85 = .ok (.iload 6, 2) := by decide +kernel
theorem d_md_curve_87 : decode c_md_curve 87 = .ok (.ifCond .ne 7, 3) := by decide +kernel
theorem d_md_curve_90 : decode c_md_curve 90 = .ok (.iconst 1, 1) := by decide +kernel
theorem d_md_curve_91 : decode c_md_curve 91 = .ok (.goto 22, 3) := by decide +kernel
theorem d_md_curve_94 : decode c_md_curve 94 = .ok (.lload 7, 2) := by decide +kernel
theorem d_md_curve_96 : decode c_md_curve 96 = .ok (.lload 9, 2) := by decide +kernel
theorem d_md_curve_98 : decode c_md_curve 98 = .ok (.lload 11, 2) := by decide +kernel
theorem d_md_curve_100 : decode c_md_curve 100 = .ok (.invokestatic 43, 3) := by decide +kernel
theorem d_md_curve_103 : decode c_md_curve 103 = .ok (.lconst 0, 1) := by decide +kernel
theorem d_md_curve_104 : decode c_md_curve 104 = .ok (.lcmp, 1) := by decide +kernel
theorem d_md_curve_105 : decode c_md_curve 105 = .ok (.ifCond .ne 7, 3) := by decide +kernel
theorem d_md_curve_108 : decode c_md_curve 108 = .ok (.iconst 2, 1) := by decide +kernel
theorem d_md_curve_109 : decode c_md_curve 109 = .ok (.goto 4, 3) := by decide +kernel
theorem d_md_curve_112 : decode c_md_curve 112 = .ok (.iconst 0, 1) := by decide +kernel
theorem d_md_curve_113 : decode c_md_curve 113 = .ok (.putfield 19, 3) := by decide +kernel
theorem d_md_curve_116 : decode c_md_curve 116 = .ok (.aload_n 0, 1) := by decide +kernel
theorem d_md_curve_117 : decode c_md_curve 117 = .ok (.getfield 19, 3) := by decide +kernel
theorem d_md_curve_120 : decode c_md_curve 120 = .ok (.ifCond .le 5, 3) := by decide +kernel
theorem d_md_curve_123 : decode c_md_curve 123 = .ok (.iconst 0, 1) := by decide +kernel
theorem d_md_curve_124 : decode c_md_curve 124 = .ok (.ireturn, 1) := by decide +kernel
theorem d_md_curve_125 : decode c_md_curve 125 = .ok (.aload_n 0, 1) := by decide +kernel
theorem d_md_curve_126 : decode c_md_curve 126 = .ok (.iconst 1, 1) := by decide +kernel
theorem d_md_curve_127 : decode c_md_curve 127 = .ok (.putfield 47, 3) := by decide +kernel
theorem d_md_curve_130 : decode c_md_curve 130 = .ok (.aload_n 0, 1) := by decide +kernel
theorem d_md_curve_131 : decode c_md_curve 131 = .ok (.iload_n 1, 1) := by decide +kernel
theorem d_md_curve_132 : decode c_md_curve 132 = .ok (.putfield 51, 3) := by decide +kernel
theorem d_md_curve_135 : decode c_md_curve 135 = .ok (.aload_n 0, 1) := by decide +kernel
theorem d_md_curve_136 : decode c_md_curve 136 = .ok (.iload_n 3, 1) := by decide +kernel
theorem d_md_curve_137 : decode c_md_curve 137 = .ok (.putfield 54, 3) := by decide +kernel
theorem d_md_curve_140 : decode c_md_curve 140 = .ok (.aload_n 0, 1) := by decide +kernel
theorem d_md_curve_141 : decode c_md_curve 141 = .ok (.lload 7, 2) := by decide +kernel
theorem d_md_curve_143 : decode c_md_curve 143 = .ok (.putfield 29, 3) := by decide +kernel
theorem d_md_curve_146 : decode c_md_curve 146 = .ok (.aload_n 0, 1) := by decide +kernel
theorem d_md_curve_147 : decode c_md_curve 147 = .ok (.lload 9, 2) := by decide +kernel
theorem d_md_curve_149 : decode c_md_curve 149 = .ok (.putfield 33, 3) := by decide +kernel
theorem d_md_curve_152 : decode c_md_curve 152 = .ok (.aload_n 0, 1) := by decide +kernel
theorem d_md_curve_153 : decode c_md_curve 153 = .ok (.lload 11, 2) := by decide +kernel
theorem d_md_curve_155 : decode c_md_curve 155 = .ok (.putfield 36, 3) := by decide +kernel
theorem d_md_curve_158 : decode c_md_curve 158 = .ok (.aload_n 0, 1) := by decide +kernel
theorem d_md_curve_159 : decode c_md_curve 159 = .ok (.aload_n 0, 1) := by decide +kernel
theorem d_md_curve_160 : decode c_md_curve 160 = .ok (.getfield 29, 3) := by decide +kernel
theorem d_md_curve_163 : decode c_md_curve 163 = .ok (.aload_n 0, 1) := by decide +kernel
theorem d_md_curve_164 : decode c_md_curve 164 = .ok (.getfield 33, 3) := by decide +kernel
theorem d_md_curve_167 : decode c_md_curve 167 = .ok (.aload_n 0, 1) := by decide +kernel
theorem d_md_curve_168 : decode c_md_curve 168 = .ok (.getfield 36, 3) := by decide +kernel
theorem d_md_curve_171 : decode c_md_curve 171 = .ok (.invokestatic 43, 3) := by decide +kernel
theorem d_md_curve_174 : decode c_md_curve 174 = .ok (.putfield 57, 3) := by decide +kernel
theorem d_md_curve_177 : decode c_md_curve 177 = .ok (.aload_n 0, 1) := by decide +kernel
theorem d_md_curve_178 : decode c_md_curve 178 = .ok (.iconst 1, 1) := by decide +kernel
theorem d_md_curve_179 : decode c_md_curve 179 = .ok (.putfield 60, 3) := by decide +kernel
theorem d_md_curve_182 : decode c_md_curve 182 = .ok (.aload_n 0, 1) := by decide +kernel
theorem d_md_curve_183 : decode c_md_curve 183 = .ok (.getfield 16, 3) := by decide +kernel
theorem d_md_curve_186 : decode c_md_curve 186 = .ok (.iconst 0, 1) := by decide +kernel
theorem d_md_curve_187 : decode c_md_curve 187 = .ok (.iconst 1, 1) := by decide +kernel
theorem d_md_curve_188 : decode c_md_curve 188 = .ok (.iastore, 1) := by decide +kernel
theorem d_md_curve_189 : decode c_md_curve 189 = .ok (.bipush (-120), 2) := by decide +kernel
theorem d_md_curve_191 : decode c_md_curve 191 = .ok (.istore 13, 2) := by decide +kernel
theorem d_md_curve_193 : decode c_md_curve 193 = .ok (.iload 13, 2) := by decide +kernel
theorem d_md_curve_195 : decode c_md_curve 195 = .ok (.sipush 1500, 3) := by decide +kernel
theorem d_md_curve_198 : decode c_md_curve 198 = .ok (.if_icmp .gt 91, 3) := by decide +kernel
theorem d_md_curve_201 : decode c_md_curve 201 = .ok (.aload_n 0, 1) := by decide +kernel
theorem d_md_curve_202 : decode c_md_curve 202 = .ok (.iload 13, 2) := by decide +kernel
theorem d_md_curve_204 : decode c_md_curve 204 = .ok (.i2l, 1) := by decide +kernel
theorem d_md_curve_205 : decode c_md_curve 205 = .ok (.invokevirtual 63, 3) := by decide +kernel
theorem d_md_curve_208 : decode c_md_curve 208 = .ok (.lstore 14, 2) := by decide +kernel
theorem d_md_curve_210 : decode c_md_curve 210 = .ok (.lload 14, 2) := by decide +kernel
theorem d_md_curve_212 : decode c_md_curve 212 = .ok (.lconst 0, 1) := by decide +kernel
theorem d_md_curve_213 : decode c_md_curve 213 = .ok (.lcmp, 1) := by decide +kernel
theorem d_md_curve_214 : decode c_md_curve 214 = .ok (.ifCond .ne 13, 3) := by decide +kernel
theorem d_md_curve_217 : decode c_md_curve 217 = .ok (.aload_n 0, 1) := by decide +kernel
theorem d_md_curve_218 : decode c_md_curve 218 = .ok (.iload 13, 2) := by decide +kernel
theorem d_md_curve_220 : decode c_md_curve 220 = .ok (.iconst 0, 1) := by decide +kernel
theorem d_md_curve_221 : decode c_md_curve 221 = .ok (.invokevirtual 67, 3) := by decide +kernel
theorem d_md_curve_224 : decode c_md_curve 224 = .ok (.goto 59, 3) := by decide +kernel
theorem d_md_curve_227 : decode c_md_curve 227 = .ok (.lload 14, 2) := by decide +kernel
theorem d_md_curve_229 : decode c_md_curve 229 = .ok (.lconst 0, 1) := by decide +kernel
theorem d_md_curve_230 : decode c_md_curve 230 = .ok (.lcmp, 1) := by decide +kernel
theorem d_md_curve_231 : decode c_md_curve 231 = .ok (.ifCond .le 52, 3) := by decide +kernel
theorem d_md_curve_234 : decode c_md_curve 234 = .ok (.aload_n 0, 1) := by decide +kernel
theorem d_md_curve_235 : decode c_md_curve 235 = .ok (.getfield 57, 3) := by decide +kernel
theorem d_md_curve_238 : decode c_md_curve 238 = .ok (.lload 14, 2) := by decide +kernel
theorem d_md_curve_240 : decode c_md_curve 240 = .ok (.lrem, 1) := by decide +kernel
theorem d_md_curve_241 : decode c_md_curve 241 = .ok (.lconst 0, 1) := by decide +kernel
theorem d_md_curve_242 : decode c_md_curve 242 = .ok (.lcmp, 1) := by decide +kernel
theorem d_md_curve_243 : decode c_md_curve 243 = .ok (.ifCond .ne 40, 3) := by decide +kernel
theorem d_md_curve_246 : decode c_md_curve 246 = .ok (.lload 14, 2) := by decide +kernel
theorem d_md_curve_248 : decode c_md_curve 248 = .ok (.invokestatic 71, 3) := by decide +kernel
theorem d_md_curve_251 : decode c_md_curve 251 = .ok (.istore 16, 2) := by decide +kernel
theorem d_md_curve_253 : decode c_md_curve 253 = .ok (.iload 16, 2) := by decide +kernel
theorem d_md_curve_255 : decode c_md_curve 255 = .ok (.i2l, 1) := by decide +kernel
theorem d_md_curve_256 : decode c_md_curve 256 = .ok (.iload 16, 2) := by decide +kernel
theorem d_md_curve_258 : decode c_md_curve 258 = .ok (.i2l, 1) := by decide +kernel
theorem d_md_curve_259 : decode c_md_curve 259 = .ok (.lmul, 1) := by decide +kernel
theorem d_md_curve_260 : decode c_md_curve 260 = .ok (.lload 14, 2) := by decide +kernel
theorem d_md_curve_262 : decode c_md_curve 262 = .ok (.lcmp, 1) := by decide +kernel
theorem d_md_curve_263 : decode c_md_curve 263 = .ok (.ifCond .ne 20, 3) := by decide +kernel
theorem d_md_curve_266 : decode c_md_curve 266 = .ok (.aload_n 0, 1) := by decide +kernel
theorem d_md_curve_267 : decode c_md_curve 267 = .ok (.iload 13, 2) := by decide +kernel
theorem d_md_curve_269 : decode c_md_curve 269 = .ok (.iload 16, 2) := by decide +kernel
theorem d_md_curve_271 : decode c_md_curve 271 = .ok (.ineg, 1) := by decide +kernel
theorem d_md_curve_272 : decode c_md_curve 272 = .ok (.invokevirtual 67, 3) := by decide +kernel
theorem d_md_curve_275 : decode c_md_curve 275 = .ok (.aload_n 0, 1) := by decide +kernel
theorem d_md_curve_276 : decode c_md_curve 276 = .ok (.iload 13, 2) := by decide +kernel
theorem d_md_curve_278 : decode c_md_curve 278 = .ok (.iload 16, 2) := by decide +kernel
theorem d_md_curve_280 : decode c_md_curve 280 = .ok (.invokevirtual 67, 3) := by decide +kernel
theorem d_md_curve_283 : decode c_md_curve 283 = .ok (.iinc 13 1, 3) := by decide +kernel
theorem d_md_curve_286 : decode c_md_curve 286 = .ok (.goto (-93), 3) := by decide +kernel
theorem d_md_curve_289 : decode c_md_curve 289 = .ok (.aload_n 0, 1) := by decide +kernel
theorem d_md_curve_290 : decode c_md_curve 290 = .ok (.invokevirtual 75, 3) := by decide +kernel
theorem d_md_curve_293 : decode c_md_curve 293 = .ok (.aload_n 0, 1) := by decide +kernel
theorem d_md_curve_294 : decode c_md_curve 294 = .ok (.getfield 60, 3) := by decide +kernel
theorem d_md_curve_297 : decode c_md_curve 297 = .ok (.ireturn, 1) := by decide +kernel
theorem d_md_root_0 : decode c_md_root 0 = .ok (.iconst 0, 1) := by decide +kernel
theorem d_md_root_1 : decode c_md_root 1 = .ok (.istore_n 2, 1) := by decide +kernel
theorem d_md_root_2 : decode c_md_root 2 = .ok (.ldc 78, 2) := by decide +kernel
theorem d_md_root_4 : decode c_md_root 4 = .ok (.istore_n 3, 1) := by decide +kernel
theorem d_md_root_5 : decode c_md_root 5 = .ok (.iload_n 3, 1) := by decide +kernel
theorem d_md_root_6 : decode c_md_root 6 = .ok (.ifCond .le 34, 3) := by decide +kernel
theorem d_md_root_9 : decode c_md_root 9 = .ok (.iload_n 2, 1) := by decide +kernel
theorem d_md_root_10 : decode c_md_root 10 = .ok (.iload_n 3, 1) := by decide +kernel
theorem d_md_root_11 : decode c_md_root 11 = .ok (.iadd, 1) := by decide +kernel
theorem d_md_root_12 : decode c_md_root 12 = .ok (.i2l, 1) := by decide +kernel
theorem d_md_root_13 : decode c_md_root 13 = .ok (.lstore 4, 2) := by decide +kernel
theorem d_md_root_15 : decode c_md_root 15 = .ok (.lload 4, 2) := by decide +kernel
theorem d_md_root_17 : decode c_md_root 17 = .ok (.lload 4, 2) := by decide +kernel
theorem d_md_root_19 : decode c_md_root 19 = .ok (.lmul, 1) := by decide +kernel
theorem d_md_root_20 : decode c_md_root 20 = .ok (.lload_n 0, 1) := by decide +kernel
theorem d_md_root_21 : decode c_md_root 21 = .ok (.lcmp, 1) := by decide +kernel
theorem d_md_root_22 : decode c_md_root 22 = .ok (.ifCond .gt 9, 3) := by decide +kernel
theorem d_md_root_25 : decode c_md_root 25 = .ok (.iload_n 2, 1) := by decide +kernel
theorem d_md_root_26 : decode c_md_root 26 = .ok (.iload_n 3, 1) := by decide +kernel
theorem d_md_root_27 : decode c_md_root 27 = .ok (.iadd, 1) := by decide +kernel
theorem d_md_root_28 : decode c_md_root 28 = .ok (.goto 4, 3) := by decide +kernel
theorem d_md_root_31 : decode c_md_root 31 = .ok (.iload_n 2, 1) := by decide +kernel
theorem d_md_root_32 : decode c_md_root 32 = .ok (.istore_n 2, 1) := by decide +kernel
theorem d_md_root_33 : decode c_md_root 33 = .ok (.iload_n 3, 1) := by decide +kernel
theorem d_md_root_34 : decode c_md_root 34 = .ok (.iconst 2, 1) := by decide +kernel
theorem d_md_root_35 : decode c_md_root 35 = .ok (.idiv, 1) := by decide +kernel
theorem d_md_root_36 : decode c_md_root 36 = .ok (.istore_n 3, 1) := by decide +kernel
theorem d_md_root_37 : decode c_md_root 37 = .ok (.goto (-32), 3) := by decide +kernel
theorem d_md_root_40 : decode c_md_root 40 = .ok (.iload_n 2, 1) := by decide +kernel
theorem d_md_root_41 : decode c_md_root 41 = .ok (.ireturn, 1) := by decide +kernel
theorem d_md_take_0 : decode c_md_take 0 = .ok (.aload_n 0, 1) := by decide +kernel
theorem d_md_take_1 : decode c_md_take 1 = .ok (.iload_n 1, 1) := by decide +kernel
theorem d_md_take_2 : decode c_md_take 2 = .ok (.i2l, 1) := by decide +kernel
theorem d_md_take_3 : decode c_md_take 3 = .ok (.putfield 79, 3) := by decide +kernel
theorem d_md_take_6 : decode c_md_take 6 = .ok (.aload_n 0, 1) := by decide +kernel
theorem d_md_take_7 : decode c_md_take 7 = .ok (.iload_n 2, 1) := by decide +kernel
theorem d_md_take_8 : decode c_md_take 8 = .ok (.i2l, 1) := by decide +kernel
theorem d_md_take_9 : decode c_md_take 9 = .ok (.putfield 82, 3) := by decide +kernel
theorem d_md_take_12 : decode c_md_take 12 = .ok (.aload_n 0, 1) := by decide +kernel
theorem d_md_take_13 : decode c_md_take 13 = .ok (.iconst 0, 1) := by decide +kernel
theorem d_md_take_14 : decode c_md_take 14 = .ok (.putfield 85, 3) := by decide +kernel
theorem d_md_take_17 : decode c_md_take 17 = .ok (.aload_n 0, 1) := by decide +kernel
theorem d_md_take_18 : decode c_md_take 18 = .ok (.iconst 1, 1) := by decide +kernel
theorem d_md_take_19 : decode c_md_take 19 = .ok (.putfield 88, 3) := by decide +kernel
theorem d_md_take_22 : decode c_md_take 22 = .ok (.iconst 1, 1) := by decide +kernel
theorem d_md_take_23 : decode c_md_take 23 = .ok (.istore_n 3, 1) := by decide +kernel
theorem d_md_take_24 : decode c_md_take 24 = .ok (.iload_n 3, 1) := by decide +kernel
theorem d_md_take_25 : decode c_md_take 25 = .ok (.bipush 13, 2) := by decide +kernel
theorem d_md_take_27 : decode c_md_take 27 = .ok (.if_icmp .ge 43, 3) := by decide +kernel
theorem d_md_take_30 : decode c_md_take 30 = .ok (.aload_n 0, 1) := by decide +kernel
theorem d_md_take_31 : decode c_md_take 31 = .ok (.getfield 85, 3) := by decide +kernel
theorem d_md_take_34 : decode c_md_take 34 = .ok (.ifCond .ne 36, 3) := by decide +kernel
theorem d_md_take_37 : decode c_md_take 37 = .ok (.aload_n 0, 1) := by decide +kernel
theorem d_md_take_38 : decode c_md_take 38 = .ok (.getfield 88, 3) := by decide +kernel
theorem d_md_take_41 : decode c_md_take 41 = .ok (.ifCond .eq 29, 3) := by decide +kernel
theorem d_md_take_44 : decode c_md_take 44 = .ok (.aload_n 0, 1) := by decide +kernel
theorem d_md_take_45 : decode c_md_take 45 = .ok (.aload_n 0, 1) := by decide +kernel
theorem d_md_take_46 : decode c_md_take 46 = .ok (.getfield 85, 3) := by decide +kernel
theorem d_md_take_49 : decode c_md_take 49 = .ok (.aload_n 0, 1) := by decide +kernel
theorem d_md_take_50 : decode c_md_take 50 = .ok (.getfield 79, 3) := by decide +kernel
theorem d_md_take_53 : decode c_md_take 53 = .ok (.aload_n 0, 1) := by decide +kernel
theorem d_md_take_54 : decode c_md_take 54 = .ok (.getfield 82, 3) := by decide +kernel
theorem d_md_take_57 : decode c_md_take 57 = .ok (.iload_n 1, 1) := by decide +kernel
theorem d_md_take_58 : decode c_md_take 58 = .ok (.i2l, 1) := by decide +kernel
theorem d_md_take_59 : decode c_md_take 59 = .ok (.iload_n 2, 1) := by decide +kernel
theorem d_md_take_60 : decode c_md_take 60 = .ok (.i2l, 1) := by decide +kernel
theorem d_md_take_61 : decode c_md_take 61 = .ok (.invokevirtual 91, 3) := by decide +kernel
theorem d_md_take_64 : decode c_md_take 64 = .ok (.iinc 3 1, 3) := by decide +kernel
theorem d_md_take_67 : decode c_md_take 67 = .ok (.goto (-43), 3) := by decide +kernel
theorem d_md_take_70 : decode c_md_take 70 = .ok (.aload_n 0, 1) := by decide +kernel
theorem d_md_take_71 : decode c_md_take 71 = .ok (.getfield 85, 3) := by decide +kernel
theorem d_md_take_74 : decode c_md_take 74 = .ok (.ifCond .eq 43, 3) := by decide +kernel
theorem d_md_take_77 : decode c_md_take 77 = .ok (.aload_n 0, 1) := by decide +kernel
theorem d_md_take_78 : decode c_md_take 78 = .ok (.getfield 7, 3) := by decide +kernel
theorem d_md_take_81 : decode c_md_take 81 = .ok (.aload_n 0, 1) := by decide +kernel
theorem d_md_take_82 : decode c_md_take 82 = .ok (.getfield 60, 3) := by decide +kernel
theorem d_md_take_85 : decode c_md_take 85 = .ok (.iload_n 1, 1) := by decide +kernel
theorem d_md_take_86 : decode c_md_take 86 = .ok (.iastore, 1) := by decide +kernel
theorem d_md_take_87 : decode c_md_take 87 = .ok (.aload_n 0, 1) := by decide +kernel
theorem d_md_take_88 : decode c_md_take 88 = .ok (.getfield 13, 3) := by decide +kernel
theorem d_md_take_91 : decode c_md_take 91 = .ok (.aload_n 0, 1) := by decide +kernel
theorem d_md_take_92 : decode c_md_take 92 = .ok (.getfield 60, 3) := by decide +kernel
theorem d_md_take_95 : decode c_md_take 95 = .ok (.iload_n 2, 1) := by decide +kernel
theorem d_md_take_96 : decode c_md_take 96 = .ok (.iastore, 1) := by decide +kernel
theorem d_md_take_97 : decode c_md_take 97 = .ok (.aload_n 0, 1) := by decide +kernel
theorem d_md_take_98 : decode c_md_take 98 = .ok (.getfield 16, 3) := by decide +kernel
theorem d_md_take_101 : decode c_md_take 101 = .ok (.aload_n 0, 1) := by decide +kernel
theorem d_md_take_102 : decode c_md_take 102 = .ok (.getfield 60, 3) := by decide +kernel
theorem d_md_take_105 : decode c_md_take 105 = .ok (.iload_n 3, 1) := by decide +kernel
theorem d_md_take_106 : decode c_md_take 106 = .ok (.iastore, 1) := by decide +kernel
theorem d_md_take_107 : decode c_md_take 107 = .ok (.aload_n 0, 1) := by decide +kernel
theorem d_md_take_108 : decode c_md_take 108 = .ok (.dup, 1) := by decide +kernel
theorem d_md_take_109 : decode c_md_take 109 = .ok (.getfield 60, 3) := by decide +kernel
theorem d_md_take_112 : decode c_md_take 112 = .ok (.iconst 1, 1) := by decide +kernel
theorem d_md_take_113 : decode c_md_take 113 = .ok (.iadd, 1) := by decide +kernel
theorem d_md_take_114 : decode c_md_take 114 = .ok (.putfield 60, 3) := by decide +kernel
theorem d_md_take_117 : decode c_md_take 117 = .ok (.return_, 1) := by decide +kernel
theorem d_md_add_0 : decode c_md_add 0 = .ok (.aload_n 0, 1) := by decide +kernel
theorem d_md_add_1 : decode c_md_add 1 = .ok (.iconst 0, 1) := by decide +kernel
theorem d_md_add_2 : decode c_md_add 2 = .ok (.putfield 85, 3) := by decide +kernel
theorem d_md_add_5 : decode c_md_add 5 = .ok (.aload_n 0, 1) := by decide +kernel
theorem d_md_add_6 : decode c_md_add 6 = .ok (.iconst 1, 1) := by decide +kernel
theorem d_md_add_7 : decode c_md_add 7 = .ok (.putfield 88, 3) := by decide +kernel
theorem d_md_add_10 : decode c_md_add 10 = .ok (.iload_n 1, 1) := by decide +kernel
theorem d_md_add_11 : decode c_md_add 11 = .ok (.ifCond .eq 16, 3) := by decide +kernel
theorem d_md_add_14 : decode c_md_add 14 = .ok (.aload_n 0, 1) := by decide +kernel
theorem d_md_add_15 : decode c_md_add 15 = .ok (.lload 6, 2) := by decide +kernel
theorem d_md_add_17 : decode c_md_add 17 = .ok (.putfield 79, 3) := by decide +kernel
theorem d_md_add_20 : decode c_md_add 20 = .ok (.aload_n 0, 1) := by decide +kernel
theorem d_md_add_21 : decode c_md_add 21 = .ok (.lload 8, 2) := by decide +kernel
theorem d_md_add_23 : decode c_md_add 23 = .ok (.putfield 82, 3) := by decide +kernel
theorem d_md_add_26 : decode c_md_add 26 = .ok (.return_, 1) := by decide +kernel
theorem d_md_add_27 : decode c_md_add 27 = .ok (.lload_n 2, 1) := by decide +kernel
theorem d_md_add_28 : decode c_md_add 28 = .ok (.lload 6, 2) := by decide +kernel
theorem d_md_add_30 : decode c_md_add 30 = .ok (.lcmp, 1) := by decide +kernel
theorem d_md_add_31 : decode c_md_add 31 = .ok (.ifCond .ne 18, 3) := by decide +kernel
theorem d_md_add_34 : decode c_md_add 34 = .ok (.lload 4, 2) := by decide +kernel
theorem d_md_add_36 : decode c_md_add 36 = .ok (.lload 8, 2) := by decide +kernel
theorem d_md_add_38 : decode c_md_add 38 = .ok (.lneg, 1) := by decide +kernel
theorem d_md_add_39 : decode c_md_add 39 = .ok (.lcmp, 1) := by decide +kernel
theorem d_md_add_40 : decode c_md_add 40 = .ok (.ifCond .ne 9, 3) := by decide +kernel
theorem d_md_add_43 : decode c_md_add 43 = .ok (.aload_n 0, 1) := by decide +kernel
theorem d_md_add_44 : decode c_md_add 44 = .ok (.iconst 1, 1) := by decide +kernel
theorem d_md_add_45 : decode c_md_add 45 = .ok (.putfield 85, 3) := by decide +kernel
theorem d_md_add_48 : decode c_md_add 48 = .ok (.return_, 1) := by decide +kernel
theorem d_md_add_49 : decode c_md_add 49 = .ok (.lload_n 2, 1) := by decide +kernel
theorem d_md_add_50 : decode c_md_add 50 = .ok (.lload 6, 2) := by decide +kernel
theorem d_md_add_52 : decode c_md_add 52 = .ok (.lcmp, 1) := by decide +kernel
theorem d_md_add_53 : decode c_md_add 53 = .ok (.ifCond .ne 7, 3) := by decide +kernel
theorem d_md_add_56 : decode c_md_add 56 = .ok (.iconst 1, 1) := by decide +kernel
theorem d_md_add_57 : decode c_md_add 57 = .ok (.goto 4, 3) := by decide +kernel
theorem d_md_add_60 : decode c_md_add 60 = .ok (.iconst 0, 1) := by decide +kernel
theorem d_md_add_61 : decode c_md_add 61 = .ok (.istore 10, 2) := by decide +kernel
theorem d_md_add_63 : decode c_md_add 63 = .ok (.iload 10, 2) := by decide +kernel
theorem d_md_add_65 : decode c_md_add 65 = .ok (.ifCond .eq 29, 3) := by decide +kernel
theorem d_md_add_68 : decode c_md_add 68 = .ok (.ldc2_w 95, 3) := by decide +kernel
theorem d_md_add_71 : decode c_md_add 71 = .ok (.lload_n 2, 1) := by decide +kernel
theorem d_md_add_72 : decode c_md_add 72 = .ok (.lmul, 1) := by decide +kernel
theorem d_md_add_73 : decode c_md_add 73 = .ok (.lload_n 2, 1) := by decide +kernel
theorem d_md_add_74 : decode c_md_add 74 = .ok (.lmul, 1) := by decide +kernel
theorem d_md_add_75 : decode c_md_add 75 = .ok (.ldc2_w 97, 3) := by decide +kernel
theorem d_md_add_78 : decode c_md_add 78 = .ok (.aload_n 0, 1) := by decide +kernel
theorem d_md_add_79 : decode c_md_add 79 = .ok (.getfield 29, 3) := by decide +kernel
theorem d_md_add_82 : decode c_md_add 82 = .ok (.lmul, 1) := by decide +kernel
theorem d_md_add_83 : decode c_md_add 83 = .ok (.lload_n 2, 1) := by decide +kernel
theorem d_md_add_84 : decode c_md_add 84 = .ok (.lmul, 1) := by decide +kernel
theorem d_md_add_85 : decode c_md_add 85 = .ok (.ladd, 1) := by decide +kernel
theorem d_md_add_86 : decode c_md_add 86 = .ok (.aload_n 0, 1) := by decide +kernel
theorem d_md_add_87 : decode c_md_add 87 = .ok (.getfield 33, 3) := by decide +kernel
theorem d_md_add_90 : decode c_md_add 90 = .ok (.ladd, 1) := by decide +kernel
theorem d_md_add_91 : decode c_md_add 91 = .ok (.goto 8, 3) := by decide +kernel
theorem d_md_add_94 : decode c_md_add 94 = .ok (.lload 8, 2) := by decide +kernel
theorem d_md_add_96 : decode c_md_add 96 = .ok (.lload 4, 2) := by decide +kernel
theorem d_md_add_98 : decode c_md_add 98 = .ok (.lsub, 1) := by decide +kernel
theorem d_md_add_99 : decode c_md_add 99 = .ok (.lstore 11, 2) := by decide +kernel
theorem d_md_add_101 : decode c_md_add 101 = .ok (.iload 10, 2) := by decide +kernel
theorem d_md_add_103 : decode c_md_add 103 = .ok (.ifCond .eq 12, 3) := by decide +kernel
theorem d_md_add_106 : decode c_md_add 106 = .ok (.ldc2_w 97, 3) := by decide +kernel
theorem d_md_add_109 : decode c_md_add 109 = .ok (.lload 4, 2) := by decide +kernel
theorem d_md_add_111 : decode c_md_add 111 = .ok (.lmul, 1) := by decide +kernel
theorem d_md_add_112 : decode c_md_add 112 = .ok (.goto 7, 3) := by decide +kernel
theorem d_md_add_115 : decode c_md_add 115 = .ok (.lload 6, 2) := by decide +kernel
theorem d_md_add_117 : decode c_md_add 117 = .ok (.lload_n 2, 1) := by decide +kernel
theorem d_md_add_118 : decode c_md_add 118 = .ok (.lsub, 1) := by decide +kernel
theorem d_md_add_119 : decode c_md_add 119 = .ok (.lstore 13, 2) := by decide +kernel
theorem d_md_add_121 : decode c_md_add 121 = .ok (.lload 11, 2) := by decide +kernel
theorem d_md_add_123 : decode c_md_add 123 = .ok (.lload 13, 2) := by decide +kernel
theorem d_md_add_125 : decode c_md_add 125 = .ok (.lrem, 1) := by decide +kernel
theorem d_md_add_126 : decode c_md_add 126 = .ok (.lconst 0, 1) := by decide +kernel
theorem d_md_add_127 : decode c_md_add 127 = .ok (.lcmp, 1) := by decide +kernel
theorem d_md_add_128 : decode c_md_add 128 = .ok (.ifCond .eq 9, 3) := by decide +kernel
theorem d_md_add_131 : decode c_md_add 131 = .ok (.aload_n 0, 1) := by decide +kernel
theorem d_md_add_132 : decode c_md_add 132 = .ok (.iconst 0, 1) := by decide +kernel
theorem d_md_add_133 : decode c_md_add 133 = .ok (.putfield 88, 3) := by decide +kernel
theorem d_md_add_136 : decode c_md_add 136 = .ok (.return_, 1) := by decide +kernel
theorem d_md_add_137 : decode c_md_add 137 = .ok (.lload 11, 2) := by decide +kernel
theorem d_md_add_139 : decode c_md_add 139 = .ok (.lload 13, 2) := by decide +kernel
theorem d_md_add_141 : decode c_md_add 141 = .ok (.ldiv, 1) := by decide +kernel
theorem d_md_add_142 : decode c_md_add 142 = .ok (.lstore 15, 2) := by decide +kernel
theorem d_md_add_144 : decode c_md_add 144 = .ok (.lload 15, 2) := by decide +kernel
theorem d_md_add_146 : decode c_md_add 146 = .ok (.lload 15, 2) := by decide +kernel
theorem d_md_add_148 : decode c_md_add 148 = .ok (.lmul, 1) := by decide +kernel
theorem d_md_add_149 : decode c_md_add 149 = .ok (.aload_n 0, 1) := by decide +kernel
theorem d_md_add_150 : decode c_md_add 150 = .ok (.getfield 29, 3) := by decide +kernel
theorem d_md_add_153 : decode c_md_add 153 = .ok (.lsub, 1) := by decide +kernel
theorem d_md_add_154 : decode c_md_add 154 = .ok (.lload_n 2, 1) := by decide +kernel
theorem d_md_add_155 : decode c_md_add 155 = .ok (.lsub, 1) := by decide +kernel
theorem d_md_add_156 : decode c_md_add 156 = .ok (.lload 6, 2) := by decide +kernel
theorem d_md_add_158 : decode c_md_add 158 = .ok (.lsub, 1) := by decide +kernel
theorem d_md_add_159 : decode c_md_add 159 = .ok (.lstore 17, 2) := by decide +kernel
theorem d_md_add_161 : decode c_md_add 161 = .ok (.aload_n 0, 1) := by decide +kernel
theorem d_md_add_162 : decode c_md_add 162 = .ok (.lload 4, 2) := by decide +kernel
theorem d_md_add_164 : decode c_md_add 164 = .ok (.lload 15, 2) := by decide +kernel
theorem d_md_add_166 : decode c_md_add 166 = .ok (.lload 17, 2) := by decide +kernel
theorem d_md_add_168 : decode c_md_add 168 = .ok (.lload_n 2, 1) := by decide +kernel
theorem d_md_add_169 : decode c_md_add 169 = .ok (.lsub, 1) := by decide +kernel
theorem d_md_add_170 : decode c_md_add 170 = .ok (.lmul, 1) := by decide +kernel
theorem d_md_add_171 : decode c_md_add 171 = .ok (.ladd, 1) := by decide +kernel
theorem d_md_add_172 : decode c_md_add 172 = .ok (.lneg, 1) := by decide +kernel
theorem d_md_add_173 : decode c_md_add 173 = .ok (.putfield 82, 3) := by decide +kernel
theorem d_md_add_176 : decode c_md_add 176 = .ok (.aload_n 0, 1) := by decide +kernel
theorem d_md_add_177 : decode c_md_add 177 = .ok (.lload 17, 2) := by decide +kernel
theorem d_md_add_179 : decode c_md_add 179 = .ok (.putfield 79, 3) := by decide +kernel
theorem d_md_add_182 : decode c_md_add 182 = .ok (.aload_n 0, 1) := by decide +kernel
theorem d_md_add_183 : decode c_md_add 183 = .ok (.lload 17, 2) := by decide +kernel
theorem d_md_add_185 : decode c_md_add 185 = .ok (.ldc2_w 99, 3) := by decide +kernel
theorem d_md_add_188 : decode c_md_add 188 = .ok (.lcmp, 1) := by decide +kernel
theorem d_md_add_189 : decode c_md_add 189 = .ok (.ifCond .lt 16, 3) := by decide +kernel
theorem d_md_add_192 : decode c_md_add 192 = .ok (.lload 17, 2) := by decide +kernel
theorem d_md_add_194 : decode c_md_add 194 = .ok (.ldc2_w 101, 3) := by decide +kernel
theorem d_md_add_197 : decode c_md_add 197 = .ok (.lcmp, 1) := by decide +kernel
theorem d_md_add_198 : decode c_md_add 198 = .ok (.ifCond .gt 7, 3) := by decide +kernel
theorem d_md_add_201 : decode c_md_add 201 = .ok (.iconst 1, 1) := by decide +kernel
theorem d_md_add_202 : decode c_md_add 202 = .ok (.goto 4, 3) := by decide +kernel
theorem d_md_add_205 : decode c_md_add 205 = .ok (.iconst 0, 1) := by decide +kernel
theorem d_md_add_206 : decode c_md_add 206 = .ok (.putfield 88, 3) := by decide +kernel
theorem d_md_add_209 : decode c_md_add 209 = .ok (.return_, 1) := by decide +kernel
theorem d_md_number_0 : decode c_md_number 0 = .ok (.iconst 1, 1) := by decide +kernel
theorem d_md_number_1 : decode c_md_number 1 = .ok (.istore 5, 2) := by decide +kernel
theorem d_md_number_3 : decode c_md_number 3 = .ok (.iload 5, 2) := by decide +kernel
theorem d_md_number_5 : decode c_md_number 5 = .ok (.aload_n 0, 1) := by decide +kernel
theorem d_md_number_6 : decode c_md_number 6 = .ok (.getfield 60, 3) := by decide +kernel
theorem d_md_number_9 : decode c_md_number 9 = .ok (.if_icmp .ge 38, 3) := by decide +kernel
theorem d_md_number_12 : decode c_md_number 12 = .ok (.aload_n 0, 1) := by decide +kernel
theorem d_md_number_13 : decode c_md_number 13 = .ok (.getfield 7, 3) := by decide +kernel
theorem d_md_number_16 : decode c_md_number 16 = .ok (.iload 5, 2) := by decide +kernel
theorem d_md_number_18 : decode c_md_number 18 = .ok (.iaload, 1) := by decide +kernel
theorem d_md_number_19 : decode c_md_number 19 = .ok (.i2l, 1) := by decide +kernel
theorem d_md_number_20 : decode c_md_number 20 = .ok (.lload_n 1, 1) := by decide +kernel
theorem d_md_number_21 : decode c_md_number 21 = .ok (.lcmp, 1) := by decide +kernel
theorem d_md_number_22 : decode c_md_number 22 = .ok (.ifCond .ne 19, 3) := by decide +kernel
theorem d_md_number_25 : decode c_md_number 25 = .ok (.aload_n 0, 1) := by decide +kernel
theorem d_md_number_26 : decode c_md_number 26 = .ok (.getfield 13, 3) := by decide +kernel
theorem d_md_number_29 : decode c_md_number 29 = .ok (.iload 5, 2) := by decide +kernel
theorem d_md_number_31 : decode c_md_number 31 = .ok (.iaload, 1) := by decide +kernel
theorem d_md_number_32 : decode c_md_number 32 = .ok (.i2l, 1) := by decide +kernel
theorem d_md_number_33 : decode c_md_number 33 = .ok (.lload_n 3, 1) := by decide +kernel
theorem d_md_number_34 : decode c_md_number 34 = .ok (.lcmp, 1) := by decide +kernel
theorem d_md_number_35 : decode c_md_number 35 = .ok (.ifCond .ne 6, 3) := by decide +kernel
theorem d_md_number_38 : decode c_md_number 38 = .ok (.iload 5, 2) := by decide +kernel
theorem d_md_number_40 : decode c_md_number 40 = .ok (.ireturn, 1) := by decide +kernel
theorem d_md_number_41 : decode c_md_number 41 = .ok (.iinc 5 1, 3) := by decide +kernel
theorem d_md_number_44 : decode c_md_number 44 = .ok (.goto (-41), 3) := by decide +kernel
theorem d_md_number_47 : decode c_md_number 47 = .ok (.iconst (-1), 1) := by decide +kernel
theorem d_md_number_48 : decode c_md_number 48 = .ok (.ireturn, 1) := by decide +kernel
theorem d_md_sumOf_0 : decode c_md_sumOf 0 = .ok (.iload_n 2, 1) := by decide +kernel
theorem d_md_sumOf_1 : decode c_md_sumOf 1 = .ok (.ifCond .ne 5, 3) := by decide +kernel
theorem d_md_sumOf_4 : decode c_md_sumOf 4 = .ok (.iload_n 1, 1) := by decide +kernel
theorem d_md_sumOf_5 : decode c_md_sumOf 5 = .ok (.ireturn, 1) := by decide +kernel
theorem d_md_sumOf_6 : decode c_md_sumOf 6 = .ok (.aload_n 0, 1) := by decide +kernel
theorem d_md_sumOf_7 : decode c_md_sumOf 7 = .ok (.iload_n 1, 1) := by decide +kernel
theorem d_md_sumOf_8 : decode c_md_sumOf 8 = .ok (.ifCond .ne 7, 3) := by decide +kernel
theorem d_md_sumOf_11 : decode c_md_sumOf 11 = .ok (.iconst 1, 1) := by decide +kernel
theorem d_md_sumOf_12 : decode c_md_sumOf 12 = .ok (.goto 4, 3) := by decide +kernel
theorem d_md_sumOf_15 : decode c_md_sumOf 15 = .ok (.iconst 0, 1) := by decide +kernel
theorem d_md_sumOf_16 : decode c_md_sumOf 16 = .ok (.aload_n 0, 1) := by decide +kernel
theorem d_md_sumOf_17 : decode c_md_sumOf 17 = .ok (.getfield 7, 3) := by decide +kernel
theorem d_md_sumOf_20 : decode c_md_sumOf 20 = .ok (.iload_n 1, 1) := by decide +kernel
theorem d_md_sumOf_21 : decode c_md_sumOf 21 = .ok (.iaload, 1) := by decide +kernel
theorem d_md_sumOf_22 : decode c_md_sumOf 22 = .ok (.i2l, 1) := by decide +kernel
theorem d_md_sumOf_23 : decode c_md_sumOf 23 = .ok (.aload_n 0, 1) := by decide +kernel
theorem d_md_sumOf_24 : decode c_md_sumOf 24 = .ok (.getfield 13, 3) := by decide +kernel
theorem d_md_sumOf_27 : decode c_md_sumOf 27 = .ok (.iload_n 1, 1) := by decide +kernel
theorem d_md_sumOf_28 : decode c_md_sumOf 28 = .ok (.iaload, 1) := by decide +kernel
theorem d_md_sumOf_29 : decode c_md_sumOf 29 = .ok (.i2l, 1) := by decide +kernel
theorem d_md_sumOf_30 : decode c_md_sumOf 30 = .ok (.aload_n 0, 1) := by decide +kernel
theorem d_md_sumOf_31 : decode c_md_sumOf 31 = .ok (.getfield 7, 3) := by decide +kernel
theorem d_md_sumOf_34 : decode c_md_sumOf 34 = .ok (.iload_n 2, 1) := by decide +kernel
theorem d_md_sumOf_35 : decode c_md_sumOf 35 = .ok (.iaload, 1) := by decide +kernel
theorem d_md_sumOf_36 : decode c_md_sumOf 36 = .ok (.i2l, 1) := by decide +kernel
theorem d_md_sumOf_37 : decode c_md_sumOf 37 = .ok (.aload_n 0, 1) := by decide +kernel
theorem d_md_sumOf_38 : decode c_md_sumOf 38 = .ok (.getfield 13, 3) := by decide +kernel
theorem d_md_sumOf_41 : decode c_md_sumOf 41 = .ok (.iload_n 2, 1) := by decide +kernel
theorem d_md_sumOf_42 : decode c_md_sumOf 42 = .ok (.iaload, 1) := by decide +kernel
theorem d_md_sumOf_43 : decode c_md_sumOf 43 = .ok (.i2l, 1) := by decide +kernel
theorem d_md_sumOf_44 : decode c_md_sumOf 44 = .ok (.invokevirtual 91, 3) := by decide +kernel
theorem d_md_sumOf_47 : decode c_md_sumOf 47 = .ok (.aload_n 0, 1) := by decide +kernel
theorem d_md_sumOf_48 : decode c_md_sumOf 48 = .ok (.getfield 85, 3) := by decide +kernel
theorem d_md_sumOf_51 : decode c_md_sumOf 51 = .ok (.ifCond .eq 7, 3) := by decide +kernel
theorem d_md_sumOf_54 : decode c_md_sumOf 54 = .ok (.iconst 0, 1) := by decide +kernel
theorem d_md_sumOf_55 : decode c_md_sumOf 55 = .ok (.goto 15, 3) := by decide +kernel
theorem d_md_sumOf_58 : decode c_md_sumOf 58 = .ok (.aload_n 0, 1) := by decide +kernel
theorem d_md_sumOf_59 : decode c_md_sumOf 59 = .ok (.aload_n 0, 1) := by decide +kernel
theorem d_md_sumOf_60 : decode c_md_sumOf 60 = .ok (.getfield 79, 3) := by decide +kernel
theorem d_md_sumOf_63 : decode c_md_sumOf 63 = .ok (.aload_n 0, 1) := by decide +kernel
theorem d_md_sumOf_64 : decode c_md_sumOf 64 = .ok (.getfield 82, 3) := by decide +kernel
theorem d_md_sumOf_67 : decode c_md_sumOf 67 = .ok (.invokevirtual 103, 3) := by decide +kernel
theorem d_md_sumOf_70 : decode c_md_sumOf 70 = .ok (.ireturn, 1) := by decide +kernel
theorem d_md_multiple_0 : decode c_md_multiple 0 = .ok (.iconst 0, 1) := by decide +kernel
theorem d_md_multiple_1 : decode c_md_multiple 1 = .ok (.istore_n 3, 1) := by decide +kernel
theorem d_md_multiple_2 : decode c_md_multiple 2 = .ok (.iconst 0, 1) := by decide +kernel
theorem d_md_multiple_3 : decode c_md_multiple 3 = .ok (.istore 4, 2) := by decide +kernel
theorem d_md_multiple_5 : decode c_md_multiple 5 = .ok (.iload 4, 2) := by decide +kernel
theorem d_md_multiple_7 : decode c_md_multiple 7 = .ok (.iload_n 1, 1) := by decide +kernel
theorem d_md_multiple_8 : decode c_md_multiple 8 = .ok (.if_icmp .ge 16, 3) := by decide +kernel
theorem d_md_multiple_11 : decode c_md_multiple 11 = .ok (.aload_n 0, 1) := by decide +kernel
theorem d_md_multiple_12 : decode c_md_multiple 12 = .ok (.iload_n 3, 1) := by decide +kernel
theorem d_md_multiple_13 : decode c_md_multiple 13 = .ok (.iload_n 2, 1) := by decide +kernel
theorem d_md_multiple_14 : decode c_md_multiple 14 = .ok (.invokevirtual 107, 3) := by decide +kernel
theorem d_md_multiple_17 : decode c_md_multiple 17 = .ok (.istore_n 3, 1) := by decide +kernel
theorem d_md_multiple_18 : decode c_md_multiple 18 = .ok (.iinc 4 1, 3) := by decide +kernel
theorem d_md_multiple_21 : decode c_md_multiple 21 = .ok (.goto (-16), 3) := by decide +kernel
theorem d_md_multiple_24 : decode c_md_multiple 24 = .ok (.iload_n 3, 1) := by decide +kernel
theorem d_md_multiple_25 : decode c_md_multiple 25 = .ok (.ireturn, 1) := by decide +kernel
theorem d_md_makes_0 : decode c_md_makes 0 = .ok (.lconst 0, 1) := by decide +kernel
theorem d_md_makes_1 : decode c_md_makes 1 = .ok (.lstore_n 3, 1) := by decide +kernel
theorem d_md_makes_2 : decode c_md_makes 2 = .ok (.iconst 0, 1) := by decide +kernel
theorem d_md_makes_3 : decode c_md_makes 3 = .ok (.istore 5, 2) := by decide +kernel
theorem d_md_makes_5 : decode c_md_makes 5 = .ok (.iconst 0, 1) := by decide +kernel
theorem d_md_makes_6 : decode c_md_makes 6 = .ok (.istore 6, 2) := by decide +kernel
theorem d_md_makes_8 : decode c_md_makes 8 = .ok (.iload 6, 2) := by decide +kernel
theorem d_md_makes_10 : decode c_md_makes 10 = .ok (.aload_n 0, 1) := by decide +kernel
theorem d_md_makes_11 : decode c_md_makes 11 = .ok (.getfield 111, 3) := by decide +kernel
theorem d_md_makes_14 : decode c_md_makes 14 = .ok (.if_icmp .ge 56, 3) := by decide +kernel
theorem d_md_makes_17 : decode c_md_makes 17 = .ok (.iload 5, 2) := by decide +kernel
theorem d_md_makes_19 : decode c_md_makes 19 = .ok (.istore 7, 2) := by decide +kernel
theorem d_md_makes_21 : decode c_md_makes 21 = .ok (.iconst 0, 1) := by decide +kernel
theorem d_md_makes_22 : decode c_md_makes 22 = .ok (.istore 8, 2) := by decide +kernel
theorem d_md_makes_24 : decode c_md_makes 24 = .ok (.iload 8, 2) := by decide +kernel
theorem d_md_makes_26 : decode c_md_makes 26 = .ok (.aload_n 0, 1) := by decide +kernel
theorem d_md_makes_27 : decode c_md_makes 27 = .ok (.getfield 114, 3) := by decide +kernel
theorem d_md_makes_30 : decode c_md_makes 30 = .ok (.if_icmp .ge 25, 3) := by decide +kernel
theorem d_md_makes_33 : decode c_md_makes 33 = .ok (.lload_n 3, 1) := by decide +kernel
theorem d_md_makes_34 : decode c_md_makes 34 = .ok (.lconst 1, 1) := by decide +kernel
theorem d_md_makes_35 : decode c_md_makes 35 = .ok (.iload 7, 2) := by decide +kernel
theorem d_md_makes_37 : decode c_md_makes 37 = .ok (.lshl, 1) := by decide +kernel
theorem d_md_makes_38 : decode c_md_makes 38 = .ok (.lor, 1) := by decide +kernel
theorem d_md_makes_39 : decode c_md_makes 39 = .ok (.lstore_n 3, 1) := by decide +kernel
theorem d_md_makes_40 : decode c_md_makes 40 = .ok (.aload_n 0, 1) := by decide +kernel
theorem d_md_makes_41 : decode c_md_makes 41 = .ok (.iload 7, 2) := by decide +kernel
theorem d_md_makes_43 : decode c_md_makes 43 = .ok (.iload_n 2, 1) := by decide +kernel
theorem d_md_makes_44 : decode c_md_makes 44 = .ok (.invokevirtual 107, 3) := by decide +kernel
theorem d_md_makes_47 : decode c_md_makes 47 = .ok (.istore 7, 2) := by decide +kernel
theorem d_md_makes_49 : decode c_md_makes 49 = .ok (.iinc 8 1, 3) := by decide +kernel
theorem d_md_makes_52 : decode c_md_makes 52 = .ok (.goto (-28), 3) := by decide +kernel
theorem d_md_makes_55 : decode c_md_makes 55 = .ok (.aload_n 0, 1) := by decide +kernel
theorem d_md_makes_56 : decode c_md_makes 56 = .ok (.iload 5, 2) := by decide +kernel
theorem d_md_makes_58 : decode c_md_makes 58 = .ok (.iload_n 1, 1) := by decide +kernel
theorem d_md_makes_59 : decode c_md_makes 59 = .ok (.invokevirtual 107, 3) := by decide +kernel
theorem d_md_makes_62 : decode c_md_makes 62 = .ok (.istore 5, 2) := by decide +kernel
theorem d_md_makes_64 : decode c_md_makes 64 = .ok (.iinc 6 1, 3) := by decide +kernel
theorem d_md_makes_67 : decode c_md_makes 67 = .ok (.goto (-59), 3) := by decide +kernel
theorem d_md_makes_70 : decode c_md_makes 70 = .ok (.lload_n 3, 1) := by decide +kernel
theorem d_md_makes_71 : decode c_md_makes 71 = .ok (.lconst 1, 1) := by decide +kernel
theorem d_md_makes_72 : decode c_md_makes 72 = .ok (.aload_n 0, 1) := by decide +kernel
theorem d_md_makes_73 : decode c_md_makes 73 = .ok (.getfield 60, 3) := by decide +kernel
theorem d_md_makes_76 : decode c_md_makes 76 = .ok (.lshl, 1) := by decide +kernel
theorem d_md_makes_77 : decode c_md_makes 77 = .ok (.lconst 1, 1) := by decide +kernel
theorem d_md_makes_78 : decode c_md_makes 78 = .ok (.lsub, 1) := by decide +kernel
theorem d_md_makes_79 : decode c_md_makes 79 = .ok (.lcmp, 1) := by decide +kernel
theorem d_md_makes_80 : decode c_md_makes 80 = .ok (.ifCond .ne 7, 3) := by decide +kernel
theorem d_md_makes_83 : decode c_md_makes 83 = .ok (.iconst 1, 1) := by decide +kernel
theorem d_md_makes_84 : decode c_md_makes 84 = .ok (.goto 4, 3) := by decide +kernel
theorem d_md_makes_87 : decode c_md_makes 87 = .ok (.iconst 0, 1) := by decide +kernel
theorem d_md_makes_88 : decode c_md_makes 88 = .ok (.ireturn, 1) := by decide +kernel
theorem d_md_structure_x_0 : decode c_md_structure_x 0 = .ok (.aload_n 0, 1) := by decide +kernel
theorem d_md_structure_x_1 : decode c_md_structure_x 1 = .ok (.iconst 1, 1) := by decide +kernel
theorem d_md_structure_x_2 : decode c_md_structure_x 2 = .ok (.putfield 114, 3) := by decide +kernel
theorem d_md_structure_x_5 : decode c_md_structure_x 5 = .ok (.iconst 1, 1) := by decide +kernel
theorem d_md_structure_x_6 : decode c_md_structure_x 6 = .ok (.istore_n 1, 1) := by decide +kernel
theorem d_md_structure_x_7 : decode c_md_structure_x 7 = .ok (.iload_n 1, 1) := by decide +kernel
theorem d_md_structure_x_8 : decode c_md_structure_x 8 = .ok (.aload_n 0, 1) := by decide +kernel
theorem d_md_structure_x_9 : decode c_md_structure_x 9 = .ok (.getfield 60, 3) := by decide +kernel
theorem d_md_structure_x_12 : decode c_md_structure_x 12 = .ok (.if_icmp .ge 39, 3) := by decide +kernel
theorem d_md_structure_x_15 : decode c_md_structure_x 15 = .ok (.aload_n 0, 1) := by decide +kernel
theorem d_md_structure_x_16 : decode c_md_structure_x 16 = .ok (.aload_n 0, 1) := by decide +kernel
theorem d_md_structure_x_17 : decode c_md_structure_x 17 = .ok (.getfield 16, 3) := by decide +kernel
theorem d_md_structure_x_20 : decode c_md_structure_x 20 = .ok (.iload_n 1, 1) := by decide +kernel
theorem d_md_structure_x_21 : decode c_md_structure_x 21 = .ok (.iaload, 1) := by decide +kernel
theorem d_md_structure_x_22 : decode c_md_structure_x 22 = .ok (.aload_n 0, 1) := by decide +kernel
theorem d_md_structure_x_23 : decode c_md_structure_x 23 = .ok (.getfield 114, 3) := by decide +kernel
theorem d_md_structure_x_26 : decode c_md_structure_x 26 = .ok (.if_icmp .le 12, 3) := by decide +kernel
theorem d_md_structure_x_29 : decode c_md_structure_x 29 = .ok (.aload_n 0, 1) := by decide +kernel
theorem d_md_structure_x_30 : decode c_md_structure_x 30 = .ok (.getfield 16, 3) := by decide +kernel
theorem d_md_structure_x_33 : decode c_md_structure_x 33 = .ok (.iload_n 1, 1) := by decide +kernel
theorem d_md_structure_x_34 : decode c_md_structure_x 34 = .ok (.iaload, 1) := by decide +kernel
theorem d_md_structure_x_35 : decode c_md_structure_x 35 = .ok (.goto 7, 3) := by decide +kernel
theorem d_md_structure_x_38 : decode c_md_structure_x 38 = .ok (.aload_n 0, 1) := by decide +kernel
theorem d_md_structure_x_39 : decode c_md_structure_x 39 = .ok (.getfield 114, 3) := by decide +kernel
theorem d_md_structure_x_42 : decode c_md_structure_x 42 = .ok (.putfield 114, 3) := by decide +kernel
theorem d_md_structure_x_45 : decode c_md_structure_x 45 = .ok (.iinc 1 1, 3) := by decide +kernel
theorem d_md_structure_x_48 : decode c_md_structure_x 48 = .ok (.goto (-41), 3) := by decide +kernel
theorem d_md_structure_x_51 : decode c_md_structure_x 51 = .ok (.aload_n 0, 1) := by decide +kernel
theorem d_md_structure_x_52 : decode c_md_structure_x 52 = .ok (.aload_n 0, 1) := by decide +kernel
theorem d_md_structure_x_53 : decode c_md_structure_x 53 = .ok (.getfield 60, 3) := by decide +kernel
theorem d_md_structure_x_56 : decode c_md_structure_x 56 = .ok (.aload_n 0, 1) := by decide +kernel
theorem d_md_structure_x_57 : decode c_md_structure_x 57 = .ok (.getfield 114, 3) := by decide +kernel
theorem d_md_structure_x_60 : decode c_md_structure_x 60 = .ok (.idiv, 1) := by decide +kernel
theorem d_md_structure_x_61 : decode c_md_structure_x 61 = .ok (.putfield 111, 3) := by decide +kernel
theorem d_md_structure_x_64 : decode c_md_structure_x 64 = .ok (.aload_n 0, 1) := by decide +kernel
theorem d_md_structure_x_65 : decode c_md_structure_x 65 = .ok (.iconst 0, 1) := by decide +kernel
theorem d_md_structure_x_66 : decode c_md_structure_x 66 = .ok (.putfield 117, 3) := by decide +kernel
theorem d_md_structure_x_69 : decode c_md_structure_x 69 = .ok (.aload_n 0, 1) := by decide +kernel
theorem d_md_structure_x_70 : decode c_md_structure_x 70 = .ok (.getfield 16, 3) := by decide +kernel
theorem d_md_structure_x_73 : decode c_md_structure_x 73 = .ok (.aload_n 0, 1) := by decide +kernel
theorem d_md_structure_x_74 : decode c_md_structure_x 74 = .ok (.getfield 117, 3) := by decide +kernel
theorem d_md_structure_x_77 : decode c_md_structure_x 77 = .ok (.iaload, 1) := by decide +kernel
theorem d_md_structure_x_78 : decode c_md_structure_x 78 = .ok (.aload_n 0, 1) := by decide +kernel
theorem d_md_structure_x_79 : decode c_md_structure_x 79 = .ok (.getfield 114, 3) := by decide +kernel
theorem d_md_structure_x_82 : decode c_md_structure_x 82 = .ok (.if_icmp .eq 16, 3) := by decide +kernel
theorem d_md_structure_x_85 : decode c_md_structure_x 85 = .ok (.aload_n 0, 1) := by decide +kernel
theorem d_md_structure_x_86 : decode c_md_structure_x 86 = .ok (.dup, 1) := by decide +kernel
theorem d_md_structure_x_87 : decode c_md_structure_x 87 = .ok (.getfield 117, 3) := by decide +kernel
theorem d_md_structure_x_90 : decode c_md_structure_x 90 = .ok (.iconst 1, 1) := by decide +kernel
theorem d_md_structure_x_91 : decode c_md_structure_x 91 = .ok (.iadd, 1) := by decide +kernel
theorem d_md_structure_x_92 : decode c_md_structure_x 92 = .ok (.putfield 117, 3) := by decide +kernel
theorem d_md_structure_x_95 : decode c_md_structure_x 95 = .ok (.goto (-26), 3) := by decide +kernel
theorem d_md_structure_x_98 : decode c_md_structure_x 98 = .ok (.aload_n 0, 1) := by decide +kernel
theorem d_md_structure_x_99 : decode c_md_structure_x 99 = .ok (.iconst 0, 1) := by decide +kernel
theorem d_md_structure_x_100 : decode c_md_structure_x 100 = .ok (.putfield 120, 3) := by decide +kernel
theorem d_md_structure_x_103 : decode c_md_structure_x 103 = .ok (.aload_n 0, 1) := by decide +kernel
theorem d_md_structure_x_104 : decode c_md_structure_x 104 = .ok (.getfield 120, 3) := by decide +kernel
theorem d_md_structure_x_107 : decode c_md_structure_x 107 = .ok (.aload_n 0, 1) := by decide +kernel
theorem d_md_structure_x_108 : decode c_md_structure_x 108 = .ok (.getfield 60, 3) := by decide +kernel
theorem d_md_structure_x_111 : decode c_md_structure_x 111 = .ok (.iconst 1, 1) := by decide +kernel
theorem d_md_structure_x_112 : decode c_md_structure_x 112 = .ok (.isub, 1) := by decide +kernel
theorem d_md_structure_x_113 : decode c_md_structure_x 113 = .ok (.if_icmp .ge 47, 3) := by decide +kernel
theorem d_md_structure_x_116 : decode c_md_structure_x 116 = .ok (.aload_n 0, 1) := by decide +kernel
theorem d_md_structure_x_117 : decode c_md_structure_x 117 = .ok (.getfield 16, 3) := by decide +kernel
theorem d_md_structure_x_120 : decode c_md_structure_x 120 = .ok (.aload_n 0, 1) := by decide +kernel
theorem d_md_structure_x_121 : decode c_md_structure_x 121 = .ok (.getfield 120, 3) := by decide +kernel
theorem d_md_structure_x_124 : decode c_md_structure_x 124 = .ok (.iaload, 1) := by decide +kernel
theorem d_md_structure_x_125 : decode c_md_structure_x 125 = .ok (.aload_n 0, 1) := by decide +kernel
theorem d_md_structure_x_126 : decode c_md_structure_x 126 = .ok (.getfield 111, 3) := by decide +kernel
theorem d_md_structure_x_129 : decode c_md_structure_x 129 = .ok (.if_icmp .ne 18, 3) := by decide +kernel
theorem d_md_structure_x_132 : decode c_md_structure_x 132 = .ok (.aload_n 0, 1) := by decide +kernel
theorem d_md_structure_x_133 : decode c_md_structure_x 133 = .ok (.aload_n 0, 1) := by decide +kernel
theorem d_md_structure_x_134 : decode c_md_structure_x 134 = .ok (.getfield 120, 3) := by decide +kernel
theorem d_md_structure_x_137 : decode c_md_structure_x 137 = .ok (.aload_n 0, 1) := by decide +kernel
theorem d_md_structure_x_138 : decode c_md_structure_x 138 = .ok (.getfield 117, 3) := by decide +kernel
theorem d_md_structure_x_141 : decode c_md_structure_x 141 = .ok (.invokevirtual 123, 3) := by decide +kernel
theorem d_md_structure_x_144 : decode c_md_structure_x 144 = .ok (.ifCond .ne 16, 3) := by decide +kernel
theorem d_md_structure_x_147 : decode c_md_structure_x 147 = .ok (.aload_n 0, 1) := by decide +kernel
theorem d_md_structure_x_148 : decode c_md_structure_x 148 = .ok (.dup, 1) := by decide +kernel
theorem d_md_structure_x_149 : decode c_md_structure_x 149 = .ok (.getfield 120, 3) := by decide +kernel
theorem d_md_structure_x_152 : decode c_md_structure_x 152 = .ok (.iconst 1, 1) := by decide +kernel
theorem d_md_structure_x_153 : decode c_md_structure_x 153 = .ok (.iadd, 1) := by decide +kernel
theorem d_md_structure_x_154 : decode c_md_structure_x 154 = .ok (.putfield 120, 3) := by decide +kernel
theorem d_md_structure_x_157 : decode c_md_structure_x 157 = .ok (.goto (-54), 3) := by decide +kernel
theorem d_md_structure_x_160 : decode c_md_structure_x 160 = .ok (.return_, 1) := by decide +kernel
theorem d_md_structure_Ix_0 : decode c_md_structure_Ix 0 = .ok (.aload_n 0, 1) := by decide +kernel
theorem d_md_structure_Ix_1 : decode c_md_structure_Ix 1 = .ok (.iconst 0, 1) := by decide +kernel
theorem d_md_structure_Ix_2 : decode c_md_structure_Ix 2 = .ok (.putfield 19, 3) := by decide +kernel
theorem d_md_structure_Ix_5 : decode c_md_structure_Ix 5 = .ok (.aload_n 0, 1) := by decide +kernel
theorem d_md_structure_Ix_6 : decode c_md_structure_Ix 6 = .ok (.getfield 47, 3) := by decide +kernel
theorem d_md_structure_Ix_9 : decode c_md_structure_Ix 9 = .ok (.ifCond .eq 12, 3) := by decide +kernel
theorem d_md_structure_Ix_12 : decode c_md_structure_Ix 12 = .ok (.iload_n 1, 1) := by decide +kernel
theorem d_md_structure_Ix_13 : decode c_md_structure_Ix 13 = .ok (.ifCond .lt 8, 3) := by decide +kernel
theorem d_md_structure_Ix_16 : decode c_md_structure_Ix 16 = .ok (.iload_n 1, 1) := by decide +kernel
theorem d_md_structure_Ix_17 : decode c_md_structure_Ix 17 = .ok (.iconst 3, 1) := by decide +kernel
theorem d_md_structure_Ix_18 : decode c_md_structure_Ix 18 = .ok (.if_icmp .le 5, 3) := by decide +kernel
theorem d_md_structure_Ix_21 : decode c_md_structure_Ix 21 = .ok (.iconst (-1), 1) := by decide +kernel
theorem d_md_structure_Ix_22 : decode c_md_structure_Ix 22 = .ok (.ireturn, 1) := by decide +kernel
theorem d_md_structure_Ix_23 : decode c_md_structure_Ix 23 = .ok (.iload_n 1, 1) := by decide +kernel
theorem d_md_structure_Ix_24 : decode c_md_structure_Ix 24 = .ok (.ifCond .ne 10, 3) := by decide +kernel
theorem d_md_structure_Ix_27 : decode c_md_structure_Ix 27 = .ok (.aload_n 0, 1) := by decide +kernel
theorem d_md_structure_Ix_28 : decode c_md_structure_Ix 28 = .ok (.getfield 111, 3) := by decide +kernel
theorem d_md_structure_Ix_31 : decode c_md_structure_Ix 31 = .ok (.goto 31, 3) := by decide +kernel
theorem d_md_structure_Ix_34 : decode c_md_structure_Ix 34 = .ok (.iload_n 1, 1) := by decide +kernel
theorem d_md_structure_Ix_35 : decode c_md_structure_Ix 35 = .ok (.iconst 1, 1) := by decide +kernel
theorem d_md_structure_Ix_36 : decode c_md_structure_Ix 36 = .ok (.if_icmp .ne 10, 3) := by decide +kernel
theorem d_md_structure_Ix_39 : decode c_md_structure_Ix 39 = .ok (.aload_n 0, 1) := by decide +kernel
theorem d_md_structure_Ix_40 : decode c_md_structure_Ix 40 = .ok (.getfield 114, 3) := by decide +kernel
theorem d_md_structure_Ix_43 : decode c_md_structure_Ix 43 = .ok (.goto 19, 3) := by decide +kernel
theorem d_md_structure_Ix_46 : decode c_md_structure_Ix 46 = .ok (.iload_n 1, 1) := by decide +kernel
theorem d_md_structure_Ix_47 : decode c_md_structure_Ix 47 = .ok (.iconst 2, 1) := by decide +kernel
theorem d_md_structure_Ix_48 : decode c_md_structure_Ix 48 = .ok (.if_icmp .ne 10, 3) := by decide +kernel
theorem d_md_structure_Ix_51 : decode c_md_structure_Ix 51 = .ok (.aload_n 0, 1) := by decide +kernel
theorem d_md_structure_Ix_52 : decode c_md_structure_Ix 52 = .ok (.getfield 120, 3) := by decide +kernel
theorem d_md_structure_Ix_55 : decode c_md_structure_Ix 55 = .ok (.goto 7, 3) := by decide +kernel
theorem d_md_structure_Ix_58 : decode c_md_structure_Ix 58 = .ok (.aload_n 0, 1) := by decide +kernel
theorem d_md_structure_Ix_59 : decode c_md_structure_Ix 59 = .ok (.getfield 117, 3) := by decide +kernel
theorem d_md_structure_Ix_62 : decode c_md_structure_Ix 62 = .ok (.ireturn, 1) := by decide +kernel
theorem d_md_discriminant_0 : decode c_md_discriminant 0 = .ok (.aload_n 0, 1) := by decide +kernel
theorem d_md_discriminant_1 : decode c_md_discriminant 1 = .ok (.iconst 0, 1) := by decide +kernel
theorem d_md_discriminant_2 : decode c_md_discriminant 2 = .ok (.putfield 19, 3) := by decide +kernel
theorem d_md_discriminant_5 : decode c_md_discriminant 5 = .ok (.aload_n 0, 1) := by decide +kernel
theorem d_md_discriminant_6 : decode c_md_discriminant 6 = .ok (.getfield 47, 3) := by decide +kernel
theorem d_md_discriminant_9 : decode c_md_discriminant 9 = .ok (.ifCond .eq 10, 3) := by decide +kernel
theorem d_md_discriminant_12 : decode c_md_discriminant 12 = .ok (.aload_n 0, 1) := by decide +kernel
theorem d_md_discriminant_13 : decode c_md_discriminant 13 = .ok (.getfield 57, 3) := by decide +kernel
theorem d_md_discriminant_16 : decode c_md_discriminant 16 = .ok (.goto 4, 3) := by decide +kernel
theorem d_md_discriminant_19 : decode c_md_discriminant 19 = .ok (.lconst 0, 1) := by decide +kernel
theorem d_md_discriminant_20 : decode c_md_discriminant 20 = .ok (.lreturn, 1) := by decide +kernel
theorem d_md_candidate_0 : decode c_md_candidate 0 = .ok (.aload_n 0, 1) := by decide +kernel
theorem d_md_candidate_1 : decode c_md_candidate 1 = .ok (.iconst 0, 1) := by decide +kernel
theorem d_md_candidate_2 : decode c_md_candidate 2 = .ok (.putfield 19, 3) := by decide +kernel
theorem d_md_candidate_5 : decode c_md_candidate 5 = .ok (.iload_n 1, 1) := by decide +kernel
theorem d_md_candidate_6 : decode c_md_candidate 6 = .ok (.istore_n 2, 1) := by decide +kernel
theorem d_md_candidate_7 : decode c_md_candidate 7 = .ok (.aload_n 0, 1) := by decide +kernel
theorem d_md_candidate_8 : decode c_md_candidate 8 = .ok (.getfield 47, 3) := by decide +kernel
theorem d_md_candidate_11 : decode c_md_candidate 11 = .ok (.ifCond .eq 31, 3) := by decide +kernel
theorem d_md_candidate_14 : decode c_md_candidate 14 = .ok (.iload_n 1, 1) := by decide +kernel
theorem d_md_candidate_15 : decode c_md_candidate 15 = .ok (.ifCond .lt 27, 3) := by decide +kernel
theorem d_md_candidate_18 : decode c_md_candidate 18 = .ok (.aload_n 0, 1) := by decide +kernel
theorem d_md_candidate_19 : decode c_md_candidate 19 = .ok (.getfield 57, 3) := by decide +kernel
theorem d_md_candidate_22 : decode c_md_candidate 22 = .ok (.lconst 0, 1) := by decide +kernel
theorem d_md_candidate_23 : decode c_md_candidate 23 = .ok (.lcmp, 1) := by decide +kernel
theorem d_md_candidate_24 : decode c_md_candidate 24 = .ok (.ifCond .ge 11, 3) := by decide +kernel
theorem d_md_candidate_27 : decode c_md_candidate 27 = .ok (.aload_n 0, 1) := by decide +kernel
theorem d_md_candidate_28 : decode c_md_candidate 28 = .ok (.getfield 57, 3) := by decide +kernel
theorem d_md_candidate_31 : decode c_md_candidate 31 = .ok (.lneg, 1) := by decide +kernel
theorem d_md_candidate_32 : decode c_md_candidate 32 = .ok (.goto 11, 3) := by decide +kernel
theorem d_md_candidate_35 : decode c_md_candidate 35 = .ok (.aload_n 0, 1) := by decide +kernel
theorem d_md_candidate_36 : decode c_md_candidate 36 = .ok (.getfield 57, 3) := by decide +kernel
theorem d_md_candidate_39 : decode c_md_candidate 39 = .ok (.goto 4, 3) := by decide +kernel
theorem d_md_candidate_42 : decode c_md_candidate 42 = .ok (.lconst 0, 1) := by decide +kernel
theorem d_md_candidate_43 : decode c_md_candidate 43 = .ok (.lstore_n 3, 1) := by decide +kernel
theorem d_md_candidate_44 : decode c_md_candidate 44 = .ok (.lconst 1, 1) := by decide +kernel
theorem d_md_candidate_45 : decode c_md_candidate 45 = .ok (.lstore 5, 2) := by decide +kernel
theorem d_md_candidate_47 : decode c_md_candidate 47 = .ok (.lload 5, 2) := by decide +kernel
theorem d_md_candidate_49 : decode c_md_candidate 49 = .ok (.lload 5, 2) := by decide +kernel
theorem d_md_candidate_51 : decode c_md_candidate 51 = .ok (.lmul, 1) := by decide +kernel
theorem d_md_candidate_52 : decode c_md_candidate 52 = .ok (.lload_n 3, 1) := by decide +kernel
theorem d_md_candidate_53 : decode c_md_candidate 53 = .ok (.lcmp, 1) := by decide +kernel
theorem d_md_candidate_54 : decode c_md_candidate 54 = .ok (.ifCond .gt 38, 3) := by decide +kernel
theorem d_md_candidate_57 : decode c_md_candidate 57 = .ok (.aload_n 0, 1) := by decide +kernel
theorem d_md_candidate_58 : decode c_md_candidate 58 = .ok (.getfield 57, 3) := by decide +kernel
theorem d_md_candidate_61 : decode c_md_candidate 61 = .ok (.lload 5, 2) := by decide +kernel
theorem d_md_candidate_63 : decode c_md_candidate 63 = .ok (.lload 5, 2) := by decide +kernel
theorem d_md_candidate_65 : decode c_md_candidate 65 = .ok (.lmul, 1) := by decide +kernel
theorem d_md_candidate_66 : decode c_md_candidate 66 = .ok (.lrem, 1) := by decide +kernel
theorem d_md_candidate_67 : decode c_md_candidate 67 = .ok (.lconst 0, 1) := by decide +kernel
theorem d_md_candidate_68 : decode c_md_candidate 68 = .ok (.lcmp, 1) := by decide +kernel
theorem d_md_candidate_69 : decode c_md_candidate 69 = .ok (.ifCond .ne 14, 3) := by decide +kernel
theorem d_md_candidate_72 : decode c_md_candidate 72 = .ok (.iload_n 2, 1) := by decide +kernel
theorem d_md_candidate_73 : decode c_md_candidate 73 = .ok (.ifCond .ne 7, 3) := by decide +kernel
theorem d_md_candidate_76 : decode c_md_candidate 76 = .ok (.lload 5, 2) := by decide +kernel
theorem d_md_candidate_78 : decode c_md_candidate 78 = .ok (.l2i, 1) := by decide +kernel
theorem d_md_candidate_79 : decode c_md_candidate 79 = .ok (.ireturn, 1) := by decide +kernel
theorem d_md_candidate_80 : decode c_md_candidate 80 = .ok (.iinc 2 (-1), 3) := by decide +kernel
theorem d_md_candidate_83 : decode c_md_candidate 83 = .ok (.lload 5, 2) := by decide +kernel
theorem d_md_candidate_85 : decode c_md_candidate 85 = .ok (.lconst 1, 1) := by decide +kernel
theorem d_md_candidate_86 : decode c_md_candidate 86 = .ok (.ladd, 1) := by decide +kernel
theorem d_md_candidate_87 : decode c_md_candidate 87 = .ok (.lstore 5, 2) := by decide +kernel
theorem d_md_candidate_89 : decode c_md_candidate 89 = .ok (.goto (-42), 3) := by decide +kernel
theorem d_md_candidate_92 : decode c_md_candidate 92 = .ok (.iconst (-1), 1) := by decide +kernel
theorem d_md_candidate_93 : decode c_md_candidate 93 = .ok (.ireturn, 1) := by decide +kernel
theorem d_md_points_0 : decode c_md_points 0 = .ok (.aload_n 0, 1) := by decide +kernel
theorem d_md_points_1 : decode c_md_points 1 = .ok (.iconst 0, 1) := by decide +kernel
theorem d_md_points_2 : decode c_md_points 2 = .ok (.putfield 19, 3) := by decide +kernel
theorem d_md_points_5 : decode c_md_points 5 = .ok (.aload_n 0, 1) := by decide +kernel
theorem d_md_points_6 : decode c_md_points 6 = .ok (.getfield 47, 3) := by decide +kernel
theorem d_md_points_9 : decode c_md_points 9 = .ok (.ifCond .eq 10, 3) := by decide +kernel
theorem d_md_points_12 : decode c_md_points 12 = .ok (.aload_n 0, 1) := by decide +kernel
theorem d_md_points_13 : decode c_md_points 13 = .ok (.getfield 60, 3) := by decide +kernel
theorem d_md_points_16 : decode c_md_points 16 = .ok (.goto 4, 3) := by decide +kernel
theorem d_md_points_19 : decode c_md_points 19 = .ok (.iconst 0, 1) := by decide +kernel
theorem d_md_points_20 : decode c_md_points 20 = .ok (.ireturn, 1) := by decide +kernel
theorem d_md_isPoint_0 : decode c_md_isPoint 0 = .ok (.aload_n 0, 1) := by decide +kernel
theorem d_md_isPoint_1 : decode c_md_isPoint 1 = .ok (.getfield 47, 3) := by decide +kernel
theorem d_md_isPoint_4 : decode c_md_isPoint 4 = .ok (.ifCond .eq 19, 3) := by decide +kernel
theorem d_md_isPoint_7 : decode c_md_isPoint 7 = .ok (.iload_n 1, 1) := by decide +kernel
theorem d_md_isPoint_8 : decode c_md_isPoint 8 = .ok (.ifCond .lt 15, 3) := by decide +kernel
theorem d_md_isPoint_11 : decode c_md_isPoint 11 = .ok (.iload_n 1, 1) := by decide +kernel
theorem d_md_isPoint_12 : decode c_md_isPoint 12 = .ok (.aload_n 0, 1) := by decide +kernel
theorem d_md_isPoint_13 : decode c_md_isPoint 13 = .ok (.getfield 60, 3) := by decide +kernel
theorem d_md_isPoint_16 : decode c_md_isPoint 16 = .ok (.if_icmp .ge 7, 3) := by decide +kernel
theorem d_md_isPoint_19 : decode c_md_isPoint 19 = .ok (.iconst 1, 1) := by decide +kernel
theorem d_md_isPoint_20 : decode c_md_isPoint 20 = .ok (.goto 4, 3) := by decide +kernel
theorem d_md_isPoint_23 : decode c_md_isPoint 23 = .ok (.iconst 0, 1) := by decide +kernel
theorem d_md_isPoint_24 : decode c_md_isPoint 24 = .ok (.ireturn, 1) := by decide +kernel
theorem d_md_common_0 : decode c_md_common 0 = .ok (.iload_n 0, 1) := by decide +kernel
theorem d_md_common_1 : decode c_md_common 1 = .ok (.ifCond .ge 8, 3) := by decide +kernel
theorem d_md_common_4 : decode c_md_common 4 = .ok (.iload_n 0, 1) := by decide +kernel
theorem d_md_common_5 : decode c_md_common 5 = .ok (.ineg, 1) := by decide +kernel
theorem d_md_common_6 : decode c_md_common 6 = .ok (.goto 4, 3) := by decide +kernel
theorem d_md_common_9 : decode c_md_common 9 = .ok (.iload_n 0, 1) := by decide +kernel
theorem d_md_common_10 : decode c_md_common 10 = .ok (.istore_n 2, 1) := by decide +kernel
theorem d_md_common_11 : decode c_md_common 11 = .ok (.iload_n 1, 1) := by decide +kernel
theorem d_md_common_12 : decode c_md_common 12 = .ok (.istore_n 3, 1) := by decide +kernel
theorem d_md_common_13 : decode c_md_common 13 = .ok (.iload_n 3, 1) := by decide +kernel
theorem d_md_common_14 : decode c_md_common 14 = .ok (.ifCond .le 16, 3) := by decide +kernel
theorem d_md_common_17 : decode c_md_common 17 = .ok (.iload_n 2, 1) := by decide +kernel
theorem d_md_common_18 : decode c_md_common 18 = .ok (.iload_n 3, 1) := by decide +kernel
theorem d_md_common_19 : decode c_md_common 19 = .ok (.irem, 1) := by decide +kernel
theorem d_md_common_20 : decode c_md_common 20 = .ok (.istore 4, 2) := by decide +kernel
theorem d_md_common_22 : decode c_md_common 22 = .ok (.iload_n 3, 1) := by decide +kernel
theorem d_md_common_23 : decode c_md_common 23 = .ok (.istore_n 2, 1) := by decide +kernel
theorem d_md_common_24 : decode c_md_common 24 = .ok (.iload 4, 2) := by decide +kernel
theorem d_md_common_26 : decode c_md_common 26 = .ok (.istore_n 3, 1) := by decide +kernel
theorem d_md_common_27 : decode c_md_common 27 = .ok (.goto (-14), 3) := by decide +kernel
theorem d_md_common_30 : decode c_md_common 30 = .ok (.iload_n 2, 1) := by decide +kernel
theorem d_md_common_31 : decode c_md_common 31 = .ok (.ireturn, 1) := by decide +kernel
theorem d_md_point_0 : decode c_md_point 0 = .ok (.aload_n 0, 1) := by decide +kernel
theorem d_md_point_1 : decode c_md_point 1 = .ok (.iconst 0, 1) := by decide +kernel
theorem d_md_point_2 : decode c_md_point 2 = .ok (.putfield 19, 3) := by decide +kernel
theorem d_md_point_5 : decode c_md_point 5 = .ok (.aload_n 0, 1) := by decide +kernel
theorem d_md_point_6 : decode c_md_point 6 = .ok (.iload_n 1, 1) := by decide +kernel
theorem d_md_point_7 : decode c_md_point 7 = .ok (.invokevirtual 127, 3) := by decide +kernel
theorem d_md_point_10 : decode c_md_point 10 = .ok (.ifCond .eq 13, 3) := by decide +kernel
theorem d_md_point_13 : decode c_md_point 13 = .ok (.iload_n 2, 1) := by decide +kernel
theorem d_md_point_14 : decode c_md_point 14 = .ok (.ifCond .lt 9, 3) := by decide +kernel
theorem d_md_point_17 : decode c_md_point 17 = .ok (.iload_n 2, 1) := by decide +kernel
theorem d_md_point_18 : decode c_md_point 18 = .ok (.bipush 6, 2) := by decide +kernel
theorem d_md_point_20 : decode c_md_point 20 = .ok (.if_icmp .le 5, 3) := by decide +kernel
theorem d_md_point_23 : decode c_md_point 23 = .ok (.iconst 0, 1) := by decide +kernel
theorem d_md_point_24 : decode c_md_point 24 = .ok (.ireturn, 1) := by decide +kernel
theorem d_md_point_25 : decode c_md_point 25 = .ok (.iload_n 2, 1) := by decide +kernel
theorem d_md_point_26 : decode c_md_point 26 = .ok (.iconst 2, 1) := by decide +kernel
theorem d_md_point_27 : decode c_md_point 27 = .ok (.if_icmp .ne 10, 3) := by decide +kernel
theorem d_md_point_30 : decode c_md_point 30 = .ok (.aload_n 0, 1) := by decide +kernel
theorem d_md_point_31 : decode c_md_point 31 = .ok (.getfield 16, 3) := by decide +kernel
theorem d_md_point_34 : decode c_md_point 34 = .ok (.iload_n 1, 1) := by decide +kernel
theorem d_md_point_35 : decode c_md_point 35 = .ok (.iaload, 1) := by decide +kernel
theorem d_md_point_36 : decode c_md_point 36 = .ok (.ireturn, 1) := by decide +kernel
theorem d_md_point_37 : decode c_md_point 37 = .ok (.iload_n 1, 1) := by decide +kernel
theorem d_md_point_38 : decode c_md_point 38 = .ok (.ifCond .ne 5, 3) := by decide +kernel
theorem d_md_point_41 : decode c_md_point 41 = .ok (.iconst 0, 1) := by decide +kernel
theorem d_md_point_42 : decode c_md_point 42 = .ok (.ireturn, 1) := by decide +kernel
theorem d_md_point_43 : decode c_md_point 43 = .ok (.aload_n 0, 1) := by decide +kernel
theorem d_md_point_44 : decode c_md_point 44 = .ok (.getfield 13, 3) := by decide +kernel
theorem d_md_point_47 : decode c_md_point 47 = .ok (.iload_n 1, 1) := by decide +kernel
theorem d_md_point_48 : decode c_md_point 48 = .ok (.iaload, 1) := by decide +kernel
theorem d_md_point_49 : decode c_md_point 49 = .ok (.aload_n 0, 1) := by decide +kernel
theorem d_md_point_50 : decode c_md_point 50 = .ok (.getfield 51, 3) := by decide +kernel
theorem d_md_point_53 : decode c_md_point 53 = .ok (.aload_n 0, 1) := by decide +kernel
theorem d_md_point_54 : decode c_md_point 54 = .ok (.getfield 7, 3) := by decide +kernel
theorem d_md_point_57 : decode c_md_point 57 = .ok (.iload_n 1, 1) := by decide +kernel
theorem d_md_point_58 : decode c_md_point 58 = .ok (.iaload, 1) := by decide +kernel
theorem d_md_point_59 : decode c_md_point 59 = .ok (.imul, 1) := by decide +kernel
theorem d_md_point_60 : decode c_md_point 60 = .ok (.isub, 1) := by decide +kernel
theorem d_md_point_61 : decode c_md_point 61 = .ok (.iconst 4, 1) := by decide +kernel
theorem d_md_point_62 : decode c_md_point 62 = .ok (.aload_n 0, 1) := by decide +kernel
theorem d_md_point_63 : decode c_md_point 63 = .ok (.getfield 54, 3) := by decide +kernel
theorem d_md_point_66 : decode c_md_point 66 = .ok (.imul, 1) := by decide +kernel
theorem d_md_point_67 : decode c_md_point 67 = .ok (.isub, 1) := by decide +kernel
theorem d_md_point_68 : decode c_md_point 68 = .ok (.istore_n 3, 1) := by decide +kernel
theorem d_md_point_69 : decode c_md_point 69 = .ok (.iload_n 2, 1) := by decide +kernel
theorem d_md_point_70 : decode c_md_point 70 = .ok (.iconst 4, 1) := by decide +kernel
theorem d_md_point_71 : decode c_md_point 71 = .ok (.if_icmp .le 7, 3) := by decide +kernel
theorem d_md_point_74 : decode c_md_point 74 = .ok (.iload_n 3, 1) := by decide +kernel
theorem d_md_point_75 : decode c_md_point 75 = .ok (.goto 9, 3) := by decide +kernel
theorem d_md_point_78 : decode c_md_point 78 = .ok (.aload_n 0, 1) := by decide +kernel
theorem d_md_point_79 : decode c_md_point 79 = .ok (.getfield 7, 3) := by decide +kernel
theorem d_md_point_82 : decode c_md_point 82 = .ok (.iload_n 1, 1) := by decide +kernel
theorem d_md_point_83 : decode c_md_point 83 = .ok (.iaload, 1) := by decide +kernel
theorem d_md_point_84 : decode c_md_point 84 = .ok (.istore 4, 2) := by decide +kernel
theorem d_md_point_86 : decode c_md_point 86 = .ok (.iload_n 2, 1) := by decide +kernel
theorem d_md_point_87 : decode c_md_point 87 = .ok (.iconst 4, 1) := by decide +kernel
theorem d_md_point_88 : decode c_md_point 88 = .ok (.if_icmp .le 8, 3) := by decide +kernel
theorem d_md_point_91 : decode c_md_point 91 = .ok (.bipush 8, 2) := by decide +kernel
theorem d_md_point_93 : decode c_md_point 93 = .ok (.goto 4, 3) := by decide +kernel
theorem d_md_point_96 : decode c_md_point 96 = .ok (.iconst 4, 1) := by decide +kernel
theorem d_md_point_97 : decode c_md_point 97 = .ok (.istore 5, 2) := by decide +kernel
theorem d_md_point_99 : decode c_md_point 99 = .ok (.iload_n 2, 1) := by decide +kernel
theorem d_md_point_100 : decode c_md_point 100 = .ok (.ifCond .ne 12, 3) := by decide +kernel
theorem d_md_point_103 : decode c_md_point 103 = .ok (.aload_n 0, 1) := by decide +kernel
theorem d_md_point_104 : decode c_md_point 104 = .ok (.getfield 7, 3) := by decide +kernel
theorem d_md_point_107 : decode c_md_point 107 = .ok (.iload_n 1, 1) := by decide +kernel
theorem d_md_point_108 : decode c_md_point 108 = .ok (.iaload, 1) := by decide +kernel
theorem d_md_point_109 : decode c_md_point 109 = .ok (.goto 47, 3) := by decide +kernel
theorem d_md_point_112 : decode c_md_point 112 = .ok (.iload_n 2, 1) := by decide +kernel
theorem d_md_point_113 : decode c_md_point 113 = .ok (.iconst 1, 1) := by decide +kernel
theorem d_md_point_114 : decode c_md_point 114 = .ok (.if_icmp .ne 12, 3) := by decide +kernel
theorem d_md_point_117 : decode c_md_point 117 = .ok (.aload_n 0, 1) := by decide +kernel
theorem d_md_point_118 : decode c_md_point 118 = .ok (.getfield 13, 3) := by decide +kernel
theorem d_md_point_121 : decode c_md_point 121 = .ok (.iload_n 1, 1) := by decide +kernel
theorem d_md_point_122 : decode c_md_point 122 = .ok (.iaload, 1) := by decide +kernel
theorem d_md_point_123 : decode c_md_point 123 = .ok (.goto 33, 3) := by decide +kernel
theorem d_md_point_126 : decode c_md_point 126 = .ok (.iload_n 2, 1) := by decide +kernel
theorem d_md_point_127 : decode c_md_point 127 = .ok (.iconst 2, 1) := by decide +kernel
theorem d_md_point_128 : decode c_md_point 128 = .ok (.irem, 1) := by decide +kernel
theorem d_md_point_129 : decode c_md_point 129 = .ok (.iconst 1, 1) := by decide +kernel
theorem d_md_point_130 : decode c_md_point 130 = .ok (.if_icmp .ne 16, 3) := by decide +kernel
theorem d_md_point_133 : decode c_md_point 133 = .ok (.iload 4, 2) := by decide +kernel
theorem d_md_point_135 : decode c_md_point 135 = .ok (.iload 4, 2) := by decide +kernel
theorem d_md_point_137 : decode c_md_point 137 = .ok (.iload 5, 2) := by decide +kernel
theorem d_md_point_139 : decode c_md_point 139 = .ok (.invokestatic 130, 3) := by decide +kernel
theorem d_md_point_142 : decode c_md_point 142 = .ok (.idiv, 1) := by decide +kernel
theorem d_md_point_143 : decode c_md_point 143 = .ok (.goto 13, 3) := by decide +kernel
theorem d_md_point_146 : decode c_md_point 146 = .ok (.iload 5, 2) := by decide +kernel
theorem d_md_point_148 : decode c_md_point 148 = .ok (.iload 4, 2) := by decide +kernel
theorem d_md_point_150 : decode c_md_point 150 = .ok (.iload 5, 2) := by decide +kernel
theorem d_md_point_152 : decode c_md_point 152 = .ok (.invokestatic 130, 3) := by decide +kernel
theorem d_md_point_155 : decode c_md_point 155 = .ok (.idiv, 1) := by decide +kernel
theorem d_md_point_156 : decode c_md_point 156 = .ok (.ireturn, 1) := by decide +kernel
theorem d_md_find_0 : decode c_md_find 0 = .ok (.aload_n 0, 1) := by decide +kernel
theorem d_md_find_1 : decode c_md_find 1 = .ok (.iconst 0, 1) := by decide +kernel
theorem d_md_find_2 : decode c_md_find 2 = .ok (.putfield 19, 3) := by decide +kernel
theorem d_md_find_5 : decode c_md_find 5 = .ok (.aload_n 0, 1) := by decide +kernel
theorem d_md_find_6 : decode c_md_find 6 = .ok (.getfield 47, 3) := by decide +kernel
theorem d_md_find_9 : decode c_md_find 9 = .ok (.ifCond .eq 14, 3) := by decide +kernel
theorem d_md_find_12 : decode c_md_find 12 = .ok (.aload_n 0, 1) := by decide +kernel
theorem d_md_find_13 : decode c_md_find 13 = .ok (.iload_n 1, 1) := by decide +kernel
theorem d_md_find_14 : decode c_md_find 14 = .ok (.i2l, 1) := by decide +kernel
theorem d_md_find_15 : decode c_md_find 15 = .ok (.iload_n 2, 1) := by decide +kernel
theorem d_md_find_16 : decode c_md_find 16 = .ok (.i2l, 1) := by decide +kernel
theorem d_md_find_17 : decode c_md_find 17 = .ok (.invokevirtual 103, 3) := by decide +kernel
theorem d_md_find_20 : decode c_md_find 20 = .ok (.goto 4, 3) := by decide +kernel
theorem d_md_find_23 : decode c_md_find 23 = .ok (.iconst (-1), 1) := by decide +kernel
theorem d_md_find_24 : decode c_md_find 24 = .ok (.ireturn, 1) := by decide +kernel
theorem d_md_sum_0 : decode c_md_sum 0 = .ok (.aload_n 0, 1) := by decide +kernel
theorem d_md_sum_1 : decode c_md_sum 1 = .ok (.iconst 0, 1) := by decide +kernel
theorem d_md_sum_2 : decode c_md_sum 2 = .ok (.putfield 19, 3) := by decide +kernel
theorem d_md_sum_5 : decode c_md_sum 5 = .ok (.aload_n 0, 1) := by decide +kernel
theorem d_md_sum_6 : decode c_md_sum 6 = .ok (.iload_n 1, 1) := by decide +kernel
theorem d_md_sum_7 : decode c_md_sum 7 = .ok (.invokevirtual 127, 3) := by decide +kernel
theorem d_md_sum_10 : decode c_md_sum 10 = .ok (.ifCond .eq 20, 3) := by decide +kernel
theorem d_md_sum_13 : decode c_md_sum 13 = .ok (.aload_n 0, 1) := by decide +kernel
theorem d_md_sum_14 : decode c_md_sum 14 = .ok (.iload_n 2, 1) := by decide +kernel
theorem d_md_sum_15 : decode c_md_sum 15 = .ok (.invokevirtual 127, 3) := by decide +kernel
theorem d_md_sum_18 : decode c_md_sum 18 = .ok (.ifCond .eq 12, 3) := by decide +kernel
theorem d_md_sum_21 : decode c_md_sum 21 = .ok (.aload_n 0, 1) := by decide +kernel
theorem d_md_sum_22 : decode c_md_sum 22 = .ok (.iload_n 1, 1) := by decide +kernel
theorem d_md_sum_23 : decode c_md_sum 23 = .ok (.iload_n 2, 1) := by decide +kernel
theorem d_md_sum_24 : decode c_md_sum 24 = .ok (.invokevirtual 107, 3) := by decide +kernel
theorem d_md_sum_27 : decode c_md_sum 27 = .ok (.goto 4, 3) := by decide +kernel
theorem d_md_sum_30 : decode c_md_sum 30 = .ok (.iconst (-1), 1) := by decide +kernel
theorem d_md_sum_31 : decode c_md_sum 31 = .ok (.ireturn, 1) := by decide +kernel
theorem d_md_times_0 : decode c_md_times 0 = .ok (.aload_n 0, 1) := by decide +kernel
theorem d_md_times_1 : decode c_md_times 1 = .ok (.iconst 0, 1) := by decide +kernel
theorem d_md_times_2 : decode c_md_times 2 = .ok (.putfield 19, 3) := by decide +kernel
theorem d_md_times_5 : decode c_md_times 5 = .ok (.aload_n 0, 1) := by decide +kernel
theorem d_md_times_6 : decode c_md_times 6 = .ok (.iload_n 2, 1) := by decide +kernel
theorem d_md_times_7 : decode c_md_times 7 = .ok (.invokevirtual 127, 3) := by decide +kernel
theorem d_md_times_10 : decode c_md_times 10 = .ok (.ifCond .ne 5, 3) := by decide +kernel
theorem d_md_times_13 : decode c_md_times 13 = .ok (.iconst (-1), 1) := by decide +kernel
theorem d_md_times_14 : decode c_md_times 14 = .ok (.ireturn, 1) := by decide +kernel
theorem d_md_times_15 : decode c_md_times 15 = .ok (.iload_n 1, 1) := by decide +kernel
theorem d_md_times_16 : decode c_md_times 16 = .ok (.aload_n 0, 1) := by decide +kernel
theorem d_md_times_17 : decode c_md_times 17 = .ok (.getfield 16, 3) := by decide +kernel
theorem d_md_times_20 : decode c_md_times 20 = .ok (.iload_n 2, 1) := by decide +kernel
theorem d_md_times_21 : decode c_md_times 21 = .ok (.iaload, 1) := by decide +kernel
theorem d_md_times_22 : decode c_md_times 22 = .ok (.irem, 1) := by decide +kernel
theorem d_md_times_23 : decode c_md_times 23 = .ok (.istore_n 3, 1) := by decide +kernel
theorem d_md_times_24 : decode c_md_times 24 = .ok (.aload_n 0, 1) := by decide +kernel
theorem d_md_times_25 : decode c_md_times 25 = .ok (.iload_n 3, 1) := by decide +kernel
theorem d_md_times_26 : decode c_md_times 26 = .ok (.ifCond .ge 14, 3) := by decide +kernel
theorem d_md_times_29 : decode c_md_times 29 = .ok (.iload_n 3, 1) := by decide +kernel
theorem d_md_times_30 : decode c_md_times 30 = .ok (.aload_n 0, 1) := by decide +kernel
theorem d_md_times_31 : decode c_md_times 31 = .ok (.getfield 16, 3) := by decide +kernel
theorem d_md_times_34 : decode c_md_times 34 = .ok (.iload_n 2, 1) := by decide +kernel
theorem d_md_times_35 : decode c_md_times 35 = .ok (.iaload, 1) := by decide +kernel
theorem d_md_times_36 : decode c_md_times 36 = .ok (.iadd, 1) := by decide +kernel
theorem d_md_times_37 : decode c_md_times 37 = .ok (.goto 4, 3) := by decide +kernel
theorem d_md_times_40 : decode c_md_times 40 = .ok (.iload_n 3, 1) := by decide +kernel
theorem d_md_times_41 : decode c_md_times 41 = .ok (.iload_n 2, 1) := by decide +kernel
theorem d_md_times_42 : decode c_md_times 42 = .ok (.invokevirtual 133, 3) := by decide +kernel
theorem d_md_times_45 : decode c_md_times 45 = .ok (.ireturn, 1) := by decide +kernel
theorem d_md_isPrime_0 : decode c_md_isPrime 0 = .ok (.iconst 2, 1) := by decide +kernel
theorem d_md_isPrime_1 : decode c_md_isPrime 1 = .ok (.istore_n 1, 1) := by decide +kernel
theorem d_md_isPrime_2 : decode c_md_isPrime 2 = .ok (.iload_n 1, 1) := by decide +kernel
theorem d_md_isPrime_3 : decode c_md_isPrime 3 = .ok (.iload_n 1, 1) := by decide +kernel
theorem d_md_isPrime_4 : decode c_md_isPrime 4 = .ok (.imul, 1) := by decide +kernel
theorem d_md_isPrime_5 : decode c_md_isPrime 5 = .ok (.iload_n 0, 1) := by decide +kernel
theorem d_md_isPrime_6 : decode c_md_isPrime 6 = .ok (.if_icmp .gt 17, 3) := by decide +kernel
theorem d_md_isPrime_9 : decode c_md_isPrime 9 = .ok (.iload_n 0, 1) := by decide +kernel
theorem d_md_isPrime_10 : decode c_md_isPrime 10 = .ok (.iload_n 1, 1) := by decide +kernel
theorem d_md_isPrime_11 : decode c_md_isPrime 11 = .ok (.irem, 1) := by decide +kernel
theorem d_md_isPrime_12 : decode c_md_isPrime 12 = .ok (.ifCond .ne 5, 3) := by decide +kernel
theorem d_md_isPrime_15 : decode c_md_isPrime 15 = .ok (.iconst 0, 1) := by decide +kernel
theorem d_md_isPrime_16 : decode c_md_isPrime 16 = .ok (.ireturn, 1) := by decide +kernel
theorem d_md_isPrime_17 : decode c_md_isPrime 17 = .ok (.iinc 1 1, 3) := by decide +kernel
theorem d_md_isPrime_20 : decode c_md_isPrime 20 = .ok (.goto (-18), 3) := by decide +kernel
theorem d_md_isPrime_23 : decode c_md_isPrime 23 = .ok (.iload_n 0, 1) := by decide +kernel
theorem d_md_isPrime_24 : decode c_md_isPrime 24 = .ok (.iconst 3, 1) := by decide +kernel
theorem d_md_isPrime_25 : decode c_md_isPrime 25 = .ok (.if_icmp .lt 13, 3) := by decide +kernel
theorem d_md_isPrime_28 : decode c_md_isPrime 28 = .ok (.iload_n 0, 1) := by decide +kernel
theorem d_md_isPrime_29 : decode c_md_isPrime 29 = .ok (.bipush 97, 2) := by decide +kernel
theorem d_md_isPrime_31 : decode c_md_isPrime 31 = .ok (.if_icmp .gt 7, 3) := by decide +kernel
theorem d_md_isPrime_34 : decode c_md_isPrime 34 = .ok (.iconst 1, 1) := by decide +kernel
theorem d_md_isPrime_35 : decode c_md_isPrime 35 = .ok (.goto 4, 3) := by decide +kernel
theorem d_md_isPrime_38 : decode c_md_isPrime 38 = .ok (.iconst 0, 1) := by decide +kernel
theorem d_md_isPrime_39 : decode c_md_isPrime 39 = .ok (.ireturn, 1) := by decide +kernel
theorem d_md_counted_0 : decode c_md_counted 0 = .ok (.iconst 1, 1) := by decide +kernel
theorem d_md_counted_1 : decode c_md_counted 1 = .ok (.istore_n 2, 1) := by decide +kernel
theorem d_md_counted_2 : decode c_md_counted 2 = .ok (.iconst 0, 1) := by decide +kernel
theorem d_md_counted_3 : decode c_md_counted 3 = .ok (.istore_n 3, 1) := by decide +kernel
theorem d_md_counted_4 : decode c_md_counted 4 = .ok (.iload_n 3, 1) := by decide +kernel
theorem d_md_counted_5 : decode c_md_counted 5 = .ok (.iload_n 1, 1) := by decide +kernel
theorem d_md_counted_6 : decode c_md_counted 6 = .ok (.if_icmp .ge 62, 3) := by decide +kernel
theorem d_md_counted_9 : decode c_md_counted 9 = .ok (.aload_n 0, 1) := by decide +kernel
theorem d_md_counted_10 : decode c_md_counted 10 = .ok (.iload_n 3, 1) := by decide +kernel
theorem d_md_counted_11 : decode c_md_counted 11 = .ok (.i2l, 1) := by decide +kernel
theorem d_md_counted_12 : decode c_md_counted 12 = .ok (.invokevirtual 63, 3) := by decide +kernel
theorem d_md_counted_15 : decode c_md_counted 15 = .ok (.iload_n 1, 1) := by decide +kernel
theorem d_md_counted_16 : decode c_md_counted 16 = .ok (.i2l, 1) := by decide +kernel
theorem d_md_counted_17 : decode c_md_counted 17 = .ok (.lrem, 1) := by decide +kernel
theorem d_md_counted_18 : decode c_md_counted 18 = .ok (.iload_n 1, 1) := by decide +kernel
theorem d_md_counted_19 : decode c_md_counted 19 = .ok (.i2l, 1) := by decide +kernel
theorem d_md_counted_20 : decode c_md_counted 20 = .ok (.ladd, 1) := by decide +kernel
theorem d_md_counted_21 : decode c_md_counted 21 = .ok (.iload_n 1, 1) := by decide +kernel
theorem d_md_counted_22 : decode c_md_counted 22 = .ok (.i2l, 1) := by decide +kernel
theorem d_md_counted_23 : decode c_md_counted 23 = .ok (.lrem, 1) := by decide +kernel
theorem d_md_counted_24 : decode c_md_counted 24 = .ok (.l2i, 1) := by decide +kernel
theorem d_md_counted_25 : decode c_md_counted 25 = .ok (.istore 4, 2) := by decide +kernel
theorem d_md_counted_27 : decode c_md_counted 27 = .ok (.iconst 0, 1) := by decide +kernel
theorem d_md_counted_28 : decode c_md_counted 28 = .ok (.istore 5, 2) := by decide +kernel
theorem d_md_counted_30 : decode c_md_counted 30 = .ok (.iload 5, 2) := by decide +kernel
theorem d_md_counted_32 : decode c_md_counted 32 = .ok (.iload_n 1, 1) := by decide +kernel
theorem d_md_counted_33 : decode c_md_counted 33 = .ok (.if_icmp .ge 29, 3) := by decide +kernel
theorem d_md_counted_36 : decode c_md_counted 36 = .ok (.iload 5, 2) := by decide +kernel
theorem d_md_counted_38 : decode c_md_counted 38 = .ok (.iload 5, 2) := by decide +kernel
theorem d_md_counted_40 : decode c_md_counted 40 = .ok (.imul, 1) := by decide +kernel
theorem d_md_counted_41 : decode c_md_counted 41 = .ok (.iload_n 1, 1) := by decide +kernel
theorem d_md_counted_42 : decode c_md_counted 42 = .ok (.irem, 1) := by decide +kernel
theorem d_md_counted_43 : decode c_md_counted 43 = .ok (.iload 4, 2) := by decide +kernel
theorem d_md_counted_45 : decode c_md_counted 45 = .ok (.if_icmp .ne 9, 3) := by decide +kernel
theorem d_md_counted_48 : decode c_md_counted 48 = .ok (.iload_n 2, 1) := by decide +kernel
theorem d_md_counted_49 : decode c_md_counted 49 = .ok (.iconst 1, 1) := by decide +kernel
theorem d_md_counted_50 : decode c_md_counted 50 = .ok (.iadd, 1) := by decide +kernel
theorem d_md_counted_51 : decode c_md_counted 51 = .ok (.goto 4, 3) := by decide +kernel
theorem d_md_counted_54 : decode c_md_counted 54 = .ok (.iload_n 2, 1) := by decide +kernel
theorem d_md_counted_55 : decode c_md_counted 55 = .ok (.istore_n 2, 1) := by decide +kernel
theorem d_md_counted_56 : decode c_md_counted 56 = .ok (.iinc 5 1, 3) := by decide +kernel
theorem d_md_counted_59 : decode c_md_counted 59 = .ok (.goto (-29), 3) := by decide +kernel
theorem d_md_counted_62 : decode c_md_counted 62 = .ok (.iinc 3 1, 3) := by decide +kernel
theorem d_md_counted_65 : decode c_md_counted 65 = .ok (.goto (-61), 3) := by decide +kernel
theorem d_md_counted_68 : decode c_md_counted 68 = .ok (.iload_n 2, 1) := by decide +kernel
theorem d_md_counted_69 : decode c_md_counted 69 = .ok (.ireturn, 1) := by decide +kernel
theorem d_md_modulo_0 : decode c_md_modulo 0 = .ok (.aload_n 0, 1) := by decide +kernel
theorem d_md_modulo_1 : decode c_md_modulo 1 = .ok (.iload_n 1, 1) := by decide +kernel
theorem d_md_modulo_2 : decode c_md_modulo 2 = .ok (.iconst 3, 1) := by decide +kernel
theorem d_md_modulo_3 : decode c_md_modulo 3 = .ok (.if_icmp .lt 16, 3) := by decide +kernel
theorem d_md_modulo_6 : decode c_md_modulo 6 = .ok (.iload_n 1, 1) := by decide +kernel
theorem d_md_modulo_7 : decode c_md_modulo 7 = .ok (.bipush 97, 2) := by decide +kernel
theorem d_md_modulo_9 : decode c_md_modulo 9 = .ok (.if_icmp .gt 10, 3) := by decide +kernel
theorem d_md_modulo_12 : decode c_md_modulo 12 = .ok (.iload_n 1, 1) := by decide +kernel
theorem d_md_modulo_13 : decode c_md_modulo 13 = .ok (.invokestatic 136, 3) := by decide +kernel
theorem d_md_modulo_16 : decode c_md_modulo 16 = .ok (.ifCond .ne 7, 3) := by decide +kernel
theorem d_md_modulo_19 : decode c_md_modulo 19 = .ok (.iconst 1, 1) := by decide +kernel
theorem d_md_modulo_20 : decode c_md_modulo 20 = .ok (.goto 31, 3) := by decide +kernel
theorem d_md_modulo_23 : decode c_md_modulo 23 = .ok (.aload_n 0, 1) := by decide +kernel
theorem d_md_modulo_24 : decode c_md_modulo 24 = .ok (.getfield 47, 3) := by decide +kernel
theorem d_md_modulo_27 : decode c_md_modulo 27 = .ok (.ifCond .ne 7, 3) := by decide +kernel
theorem d_md_modulo_30 : decode c_md_modulo 30 = .ok (.iconst 2, 1) := by decide +kernel
theorem d_md_modulo_31 : decode c_md_modulo 31 = .ok (.goto 20, 3) := by decide +kernel
theorem d_md_modulo_34 : decode c_md_modulo 34 = .ok (.aload_n 0, 1) := by decide +kernel
theorem d_md_modulo_35 : decode c_md_modulo 35 = .ok (.getfield 57, 3) := by decide +kernel
theorem d_md_modulo_38 : decode c_md_modulo 38 = .ok (.iload_n 1, 1) := by decide +kernel
theorem d_md_modulo_39 : decode c_md_modulo 39 = .ok (.i2l, 1) := by decide +kernel
theorem d_md_modulo_40 : decode c_md_modulo 40 = .ok (.lrem, 1) := by decide +kernel
theorem d_md_modulo_41 : decode c_md_modulo 41 = .ok (.lconst 0, 1) := by decide +kernel
theorem d_md_modulo_42 : decode c_md_modulo 42 = .ok (.lcmp, 1) := by decide +kernel
theorem d_md_modulo_43 : decode c_md_modulo 43 = .ok (.ifCond .ne 7, 3) := by decide +kernel
theorem d_md_modulo_46 : decode c_md_modulo 46 = .ok (.iconst 3, 1) := by decide +kernel
theorem d_md_modulo_47 : decode c_md_modulo 47 = .ok (.goto 4, 3) := by decide +kernel
theorem d_md_modulo_50 : decode c_md_modulo 50 = .ok (.iconst 0, 1) := by decide +kernel
theorem d_md_modulo_51 : decode c_md_modulo 51 = .ok (.putfield 19, 3) := by decide +kernel
theorem d_md_modulo_54 : decode c_md_modulo 54 = .ok (.aload_n 0, 1) := by decide +kernel
theorem d_md_modulo_55 : decode c_md_modulo 55 = .ok (.getfield 19, 3) := by decide +kernel
theorem d_md_modulo_58 : decode c_md_modulo 58 = .ok (.ifCond .le 7, 3) := by decide +kernel
theorem d_md_modulo_61 : decode c_md_modulo 61 = .ok (.iconst 0, 1) := by decide +kernel
theorem d_md_modulo_62 : decode c_md_modulo 62 = .ok (.goto 8, 3) := by decide +kernel
theorem d_md_modulo_65 : decode c_md_modulo 65 = .ok (.aload_n 0, 1) := by decide +kernel
theorem d_md_modulo_66 : decode c_md_modulo 66 = .ok (.iload_n 1, 1) := by decide +kernel
theorem d_md_modulo_67 : decode c_md_modulo 67 = .ok (.invokevirtual 139, 3) := by decide +kernel
theorem d_md_modulo_70 : decode c_md_modulo 70 = .ok (.ireturn, 1) := by decide +kernel
theorem d_md_bound_0 : decode c_md_bound 0 = .ok (.aload_n 0, 1) := by decide +kernel
theorem d_md_bound_1 : decode c_md_bound 1 = .ok (.iconst 0, 1) := by decide +kernel
theorem d_md_bound_2 : decode c_md_bound 2 = .ok (.putfield 19, 3) := by decide +kernel
theorem d_md_bound_5 : decode c_md_bound 5 = .ok (.iconst 0, 1) := by decide +kernel
theorem d_md_bound_6 : decode c_md_bound 6 = .ok (.istore_n 2, 1) := by decide +kernel
theorem d_md_bound_7 : decode c_md_bound 7 = .ok (.iconst 3, 1) := by decide +kernel
theorem d_md_bound_8 : decode c_md_bound 8 = .ok (.istore_n 3, 1) := by decide +kernel
theorem d_md_bound_9 : decode c_md_bound 9 = .ok (.iload_n 3, 1) := by decide +kernel
theorem d_md_bound_10 : decode c_md_bound 10 = .ok (.iload_n 1, 1) := by decide +kernel
theorem d_md_bound_11 : decode c_md_bound 11 = .ok (.if_icmp .gt 51, 3) := by decide +kernel
theorem d_md_bound_14 : decode c_md_bound 14 = .ok (.iload_n 1, 1) := by decide +kernel
theorem d_md_bound_15 : decode c_md_bound 15 = .ok (.bipush 97, 2) := by decide +kernel
theorem d_md_bound_17 : decode c_md_bound 17 = .ok (.if_icmp .gt 45, 3) := by decide +kernel
theorem d_md_bound_20 : decode c_md_bound 20 = .ok (.aload_n 0, 1) := by decide +kernel
theorem d_md_bound_21 : decode c_md_bound 21 = .ok (.getfield 47, 3) := by decide +kernel
theorem d_md_bound_24 : decode c_md_bound 24 = .ok (.ifCond .eq 38, 3) := by decide +kernel
theorem d_md_bound_27 : decode c_md_bound 27 = .ok (.iload_n 3, 1) := by decide +kernel
theorem d_md_bound_28 : decode c_md_bound 28 = .ok (.invokestatic 136, 3) := by decide +kernel
theorem d_md_bound_31 : decode c_md_bound 31 = .ok (.ifCond .eq 25, 3) := by decide +kernel
theorem d_md_bound_34 : decode c_md_bound 34 = .ok (.aload_n 0, 1) := by decide +kernel
theorem d_md_bound_35 : decode c_md_bound 35 = .ok (.getfield 57, 3) := by decide +kernel
theorem d_md_bound_38 : decode c_md_bound 38 = .ok (.iload_n 3, 1) := by decide +kernel
theorem d_md_bound_39 : decode c_md_bound 39 = .ok (.i2l, 1) := by decide +kernel
theorem d_md_bound_40 : decode c_md_bound 40 = .ok (.lrem, 1) := by decide +kernel
theorem d_md_bound_41 : decode c_md_bound 41 = .ok (.lconst 0, 1) := by decide +kernel
theorem d_md_bound_42 : decode c_md_bound 42 = .ok (.lcmp, 1) := by decide +kernel
theorem d_md_bound_43 : decode c_md_bound 43 = .ok (.ifCond .eq 13, 3) := by decide +kernel
theorem d_md_bound_46 : decode c_md_bound 46 = .ok (.iload_n 2, 1) := by decide +kernel
theorem d_md_bound_47 : decode c_md_bound 47 = .ok (.aload_n 0, 1) := by decide +kernel
theorem d_md_bound_48 : decode c_md_bound 48 = .ok (.iload_n 3, 1) := by decide +kernel
theorem d_md_bound_49 : decode c_md_bound 49 = .ok (.invokevirtual 139, 3) := by decide +kernel
theorem d_md_bound_52 : decode c_md_bound 52 = .ok (.invokestatic 130, 3) := by decide +kernel
theorem d_md_bound_55 : decode c_md_bound 55 = .ok (.istore_n 2, 1) := by decide +kernel
theorem d_md_bound_56 : decode c_md_bound 56 = .ok (.iinc 3 1, 3) := by decide +kernel
theorem d_md_bound_59 : decode c_md_bound 59 = .ok (.goto (-50), 3) := by decide +kernel
theorem d_md_bound_62 : decode c_md_bound 62 = .ok (.iload_n 2, 1) := by decide +kernel
theorem d_md_bound_63 : decode c_md_bound 63 = .ok (.ireturn, 1) := by decide +kernel
theorem d_cu_init_0 : decode c_cu_init 0 = .ok (.aload_n 0, 1) := by decide +kernel
theorem d_cu_init_1 : decode c_cu_init 1 = .ok (.invokespecial 3, 3) := by decide +kernel
theorem d_cu_init_4 : decode c_cu_init 4 = .ok (.aload_n 0, 1) := by decide +kernel
theorem d_cu_init_5 : decode c_cu_init 5 = .ok (.bipush 97, 2) := by decide +kernel
theorem d_cu_init_7 : decode c_cu_init 7 = .ok (.newarray .int, 2) := by decide +kernel
theorem d_cu_init_9 : decode c_cu_init 9 = .ok (.putfield 9, 3) := by decide +kernel
theorem d_cu_init_12 : decode c_cu_init 12 = .ok (.return_, 1) := by decide +kernel
theorem d_cu_discriminantOf_0 : decode c_cu_discriminantOf 0 = .ok (.lload_n 0, 1) := by decide +kernel
theorem d_cu_discriminantOf_1 : decode c_cu_discriminantOf 1 = .ok (.lload_n 0, 1) := by decide +kernel
theorem d_cu_discriminantOf_2 : decode c_cu_discriminantOf 2 = .ok (.lmul, 1) := by decide +kernel
theorem d_cu_discriminantOf_3 : decode c_cu_discriminantOf 3 = .ok (.lload_n 2, 1) := by decide +kernel
theorem d_cu_discriminantOf_4 : decode c_cu_discriminantOf 4 = .ok (.lmul, 1) := by decide +kernel
theorem d_cu_discriminantOf_5 : decode c_cu_discriminantOf 5 = .ok (.lload_n 2, 1) := by decide +kernel
theorem d_cu_discriminantOf_6 : decode c_cu_discriminantOf 6 = .ok (.lmul, 1) := by decide +kernel
theorem d_cu_discriminantOf_7 : decode c_cu_discriminantOf 7 = .ok (.ldc2_w 15, 3) := by decide +kernel
theorem d_cu_discriminantOf_10 : decode c_cu_discriminantOf 10 = .ok (.lload_n 2, 1) := by decide +kernel
theorem d_cu_discriminantOf_11 : decode c_cu_discriminantOf 11 = .ok (.lmul, 1) := by decide +kernel
theorem d_cu_discriminantOf_12 : decode c_cu_discriminantOf 12 = .ok (.lload_n 2, 1) := by decide +kernel
theorem d_cu_discriminantOf_13 : decode c_cu_discriminantOf 13 = .ok (.lmul, 1) := by decide +kernel
theorem d_cu_discriminantOf_14 : decode c_cu_discriminantOf 14 = .ok (.lload_n 2, 1) := by decide +kernel
theorem d_cu_discriminantOf_15 : decode c_cu_discriminantOf 15 = .ok (.lmul, 1) := by decide +kernel
theorem d_cu_discriminantOf_16 : decode c_cu_discriminantOf 16 = .ok (.lsub, 1) := by decide +kernel
theorem d_cu_discriminantOf_17 : decode c_cu_discriminantOf 17 = .ok (.ldc2_w 15, 3) := by decide +kernel
theorem d_cu_discriminantOf_20 : decode c_cu_discriminantOf 20 = .ok (.lload_n 0, 1) := by decide +kernel
theorem d_cu_discriminantOf_21 : decode c_cu_discriminantOf 21 = .ok (.lmul, 1) := by decide +kernel
theorem d_cu_discriminantOf_22 : decode c_cu_discriminantOf 22 = .ok (.lload_n 0, 1) := by decide +kernel
theorem d_cu_discriminantOf_23 : decode c_cu_discriminantOf 23 = .ok (.lmul, 1) := by decide +kernel
theorem d_cu_discriminantOf_24 : decode c_cu_discriminantOf 24 = .ok (.lload_n 0, 1) := by decide +kernel
theorem d_cu_discriminantOf_25 : decode c_cu_discriminantOf 25 = .ok (.lmul, 1) := by decide +kernel
theorem d_cu_discriminantOf_26 : decode c_cu_discriminantOf 26 = .ok (.lload 4, 2) := by decide +kernel
theorem d_cu_discriminantOf_28 : decode c_cu_discriminantOf 28 = .ok (.lmul, 1) := by decide +kernel
theorem d_cu_discriminantOf_29 : decode c_cu_discriminantOf 29 = .ok (.lsub, 1) := by decide +kernel
theorem d_cu_discriminantOf_30 : decode c_cu_discriminantOf 30 = .ok (.ldc2_w 17, 3) := by decide +kernel
theorem d_cu_discriminantOf_33 : decode c_cu_discriminantOf 33 = .ok (.lload 4, 2) := by decide +kernel
theorem d_cu_discriminantOf_35 : decode c_cu_discriminantOf 35 = .ok (.lmul, 1) := by decide +kernel
theorem d_cu_discriminantOf_36 : decode c_cu_discriminantOf 36 = .ok (.lload 4, 2) := by decide +kernel
theorem d_cu_discriminantOf_38 : decode c_cu_discriminantOf 38 = .ok (.lmul, 1) := by decide +kernel
theorem d_cu_discriminantOf_39 : decode c_cu_discriminantOf 39 = .ok (.lsub, 1) := by decide +kernel
theorem d_cu_discriminantOf_40 : decode c_cu_discriminantOf 40 = .ok (.ldc2_w 19, 3) := by decide +kernel
theorem d_cu_discriminantOf_43 : decode c_cu_discriminantOf 43 = .ok (.lload_n 0, 1) := by decide +kernel
theorem d_cu_discriminantOf_44 : decode c_cu_discriminantOf 44 = .ok (.lmul, 1) := by decide +kernel
theorem d_cu_discriminantOf_45 : decode c_cu_discriminantOf 45 = .ok (.lload_n 2, 1) := by decide +kernel
theorem d_cu_discriminantOf_46 : decode c_cu_discriminantOf 46 = .ok (.lmul, 1) := by decide +kernel
theorem d_cu_discriminantOf_47 : decode c_cu_discriminantOf 47 = .ok (.lload 4, 2) := by decide +kernel
theorem d_cu_discriminantOf_49 : decode c_cu_discriminantOf 49 = .ok (.lmul, 1) := by decide +kernel
theorem d_cu_discriminantOf_50 : decode c_cu_discriminantOf 50 = .ok (.ladd, 1) := by decide +kernel
theorem d_cu_discriminantOf_51 : decode c_cu_discriminantOf 51 = .ok (.lreturn, 1) := by decide +kernel
theorem d_cu_become_0 : decode c_cu_become 0 = .ok (.aload_n 0, 1) := by decide +kernel
theorem d_cu_become_1 : decode c_cu_become 1 = .ok (.lload_n 1, 1) := by decide +kernel
theorem d_cu_become_2 : decode c_cu_become 2 = .ok (.putfield 21, 3) := by decide +kernel
theorem d_cu_become_5 : decode c_cu_become 5 = .ok (.aload_n 0, 1) := by decide +kernel
theorem d_cu_become_6 : decode c_cu_become 6 = .ok (.lload_n 3, 1) := by decide +kernel
theorem d_cu_become_7 : decode c_cu_become 7 = .ok (.putfield 25, 3) := by decide +kernel
theorem d_cu_become_10 : decode c_cu_become 10 = .ok (.aload_n 0, 1) := by decide +kernel
theorem d_cu_become_11 : decode c_cu_become 11 = .ok (.lload 5, 2) := by decide +kernel
theorem d_cu_become_13 : decode c_cu_become 13 = .ok (.putfield 28, 3) := by decide +kernel
theorem d_cu_become_16 : decode c_cu_become 16 = .ok (.aload_n 0, 1) := by decide +kernel
theorem d_cu_become_17 : decode c_cu_become 17 = .ok (.lload_n 1, 1) := by decide +kernel
theorem d_cu_become_18 : decode c_cu_become 18 = .ok (.lload_n 3, 1) := by decide +kernel
theorem d_cu_become_19 : decode c_cu_become 19 = .ok (.lload 5, 2) := by decide +kernel
theorem d_cu_become_21 : decode c_cu_become 21 = .ok (.invokestatic 31, 3) := by decide +kernel
theorem d_cu_become_24 : decode c_cu_become 24 = .ok (.putfield 35, 3) := by decide +kernel
theorem d_cu_become_27 : decode c_cu_become 27 = .ok (.return_, 1) := by decide +kernel
theorem d_cu_valueAt_0 : decode c_cu_valueAt 0 = .ok (.lload_n 1, 1) := by decide +kernel
theorem d_cu_valueAt_1 : decode c_cu_valueAt 1 = .ok (.aload_n 0, 1) := by decide +kernel
theorem d_cu_valueAt_2 : decode c_cu_valueAt 2 = .ok (.getfield 21, 3) := by decide +kernel
theorem d_cu_valueAt_5 : decode c_cu_valueAt 5 = .ok (.ladd, 1) := by decide +kernel
theorem d_cu_valueAt_6 : decode c_cu_valueAt 6 = .ok (.lload_n 1, 1) := by decide +kernel
theorem d_cu_valueAt_7 : decode c_cu_valueAt 7 = .ok (.lmul, 1) := by decide +kernel
theorem d_cu_valueAt_8 : decode c_cu_valueAt 8 = .ok (.aload_n 0, 1) := by decide +kernel
theorem d_cu_valueAt_9 : decode c_cu_valueAt 9 = .ok (.getfield 25, 3) := by decide +kernel
theorem d_cu_valueAt_12 : decode c_cu_valueAt 12 = .ok (.ladd, 1) := by decide +kernel
theorem d_cu_valueAt_13 : decode c_cu_valueAt 13 = .ok (.lload_n 1, 1) := by decide +kernel
theorem d_cu_valueAt_14 : decode c_cu_valueAt 14 = .ok (.lmul, 1) := by decide +kernel
theorem d_cu_valueAt_15 : decode c_cu_valueAt 15 = .ok (.aload_n 0, 1) := by decide +kernel
theorem d_cu_valueAt_16 : decode c_cu_valueAt 16 = .ok (.getfield 28, 3) := by decide +kernel
theorem d_cu_valueAt_19 : decode c_cu_valueAt 19 = .ok (.ladd, 1) := by decide +kernel
theorem d_cu_valueAt_20 : decode c_cu_valueAt 20 = .ok (.lreturn, 1) := by decide +kernel
theorem d_cu_steepnessAt_0 : decode c_cu_steepnessAt 0 = .ok (.ldc2_w 38, 3) := by decide +kernel
theorem d_cu_steepnessAt_3 : decode c_cu_steepnessAt 3 = .ok (.lload_n 1, 1) := by decide +kernel
theorem d_cu_steepnessAt_4 : decode c_cu_steepnessAt 4 = .ok (.lmul, 1) := by decide +kernel
theorem d_cu_steepnessAt_5 : decode c_cu_steepnessAt 5 = .ok (.ldc2_w 40, 3) := by decide +kernel
theorem d_cu_steepnessAt_8 : decode c_cu_steepnessAt 8 = .ok (.aload_n 0, 1) := by decide +kernel
theorem d_cu_steepnessAt_9 : decode c_cu_steepnessAt 9 = .ok (.getfield 21, 3) := by decide +kernel
theorem d_cu_steepnessAt_12 : decode c_cu_steepnessAt 12 = .ok (.lmul, 1) := by decide +kernel
theorem d_cu_steepnessAt_13 : decode c_cu_steepnessAt 13 = .ok (.ladd, 1) := by decide +kernel
theorem d_cu_steepnessAt_14 : decode c_cu_steepnessAt 14 = .ok (.lload_n 1, 1) := by decide +kernel
theorem d_cu_steepnessAt_15 : decode c_cu_steepnessAt 15 = .ok (.lmul, 1) := by decide +kernel
theorem d_cu_steepnessAt_16 : decode c_cu_steepnessAt 16 = .ok (.aload_n 0, 1) := by decide +kernel
theorem d_cu_steepnessAt_17 : decode c_cu_steepnessAt 17 = .ok (.getfield 25, 3) := by decide +kernel
theorem d_cu_steepnessAt_20 : decode c_cu_steepnessAt 20 = .ok (.ladd, 1) := by decide +kernel
theorem d_cu_steepnessAt_21 : decode c_cu_steepnessAt 21 = .ok (.lreturn, 1) := by decide +kernel
theorem d_cu_isGoodFor_0 : decode c_cu_isGoodFor 0 = .ok (.iload_n 1, 1) := by decide +kernel
theorem d_cu_isGoodFor_1 : decode c_cu_isGoodFor 1 = .ok (.ifCond .le 19, 3) := by decide +kernel
theorem d_cu_isGoodFor_4 : decode c_cu_isGoodFor 4 = .ok (.aload_n 0, 1) := by decide +kernel
theorem d_cu_isGoodFor_5 : decode c_cu_isGoodFor 5 = .ok (.getfield 35, 3) := by decide +kernel
theorem d_cu_isGoodFor_8 : decode c_cu_isGoodFor 8 = .ok (.iload_n 1, 1) := by decide +kernel
theorem d_cu_isGoodFor_9 : decode c_cu_isGoodFor 9 = .ok (.i2l, 1) := by decide +kernel
theorem d_cu_isGoodFor_10 : decode c_cu_isGoodFor 10 = .ok (.lrem, 1) := by decide +kernel
theorem d_cu_isGoodFor_11 : decode c_cu_isGoodFor 11 = .ok (.lconst 0, 1) := by decide +kernel
theorem d_cu_isGoodFor_12 : decode c_cu_isGoodFor 12 = .ok (.lcmp, 1) := by decide +kernel
theorem d_cu_isGoodFor_13 : decode c_cu_isGoodFor 13 = .ok (.ifCond .eq 7, 3) := by decide +kernel
theorem d_cu_isGoodFor_16 : decode c_cu_isGoodFor 16 = .ok (.iconst 1, 1) := by decide +kernel
theorem d_cu_isGoodFor_17 : decode c_cu_isGoodFor 17 = .ok (.goto 4, 3) := by decide +kernel
theorem d_cu_isGoodFor_20 : decode c_cu_isGoodFor 20 = .ok (.iconst 0, 1) := by decide +kernel
theorem d_cu_isGoodFor_21 : decode c_cu_isGoodFor 21 = .ok (.ireturn, 1) := by decide +kernel
theorem d_cu_countFor_0 : decode c_cu_countFor 0 = .ok (.iload_n 1, 1) := by decide +kernel
theorem d_cu_countFor_1 : decode c_cu_countFor 1 = .ok (.iconst 1, 1) := by decide +kernel
theorem d_cu_countFor_2 : decode c_cu_countFor 2 = .ok (.if_icmp .lt 9, 3) := by decide +kernel
theorem d_cu_countFor_5 : decode c_cu_countFor 5 = .ok (.iload_n 1, 1) := by decide +kernel
theorem d_cu_countFor_6 : decode c_cu_countFor 6 = .ok (.bipush 97, 2) := by decide +kernel
theorem d_cu_countFor_8 : decode c_cu_countFor 8 = .ok (.if_icmp .le 5, 3) := by decide +kernel
theorem d_cu_countFor_11 : decode c_cu_countFor 11 = .ok (.iconst 0, 1) := by decide +kernel
theorem d_cu_countFor_12 : decode c_cu_countFor 12 = .ok (.ireturn, 1) := by decide +kernel
theorem d_cu_countFor_13 : decode c_cu_countFor 13 = .ok (.aload_n 0, 1) := by decide +kernel
theorem d_cu_countFor_14 : decode c_cu_countFor 14 = .ok (.getfield 9, 3) := by decide +kernel
theorem d_cu_countFor_17 : decode c_cu_countFor 17 = .ok (.iconst 0, 1) := by decide +kernel
theorem d_cu_countFor_18 : decode c_cu_countFor 18 = .ok (.invokestatic 42, 3) := by decide +kernel
theorem d_cu_countFor_21 : decode c_cu_countFor 21 = .ok (.iconst 0, 1) := by decide +kernel
theorem d_cu_countFor_22 : decode c_cu_countFor 22 = .ok (.istore_n 2, 1) := by decide +kernel
theorem d_cu_countFor_23 : decode c_cu_countFor 23 = .ok (.iload_n 2, 1) := by decide +kernel
theorem d_cu_countFor_24 : decode c_cu_countFor 24 = .ok (.iload_n 1, 1) := by decide +kernel
theorem d_cu_countFor_25 : decode c_cu_countFor 25 = .ok (.if_icmp .ge 23, 3) := by decide +kernel
theorem d_cu_countFor_28 : decode c_cu_countFor 28 = .ok (.aload_n 0, 1) := by decide +kernel
theorem d_cu_countFor_29 : decode c_cu_countFor 29 = .ok (.getfield 9, 3) := by decide +kernel
theorem d_cu_countFor_32 : decode c_cu_countFor 32 = .ok (.iload_n 2, 1) := by decide +kernel
theorem d_cu_countFor_33 : decode c_cu_countFor 33 = .ok (.iload_n 2, 1) := by decide +kernel
theorem d_cu_countFor_34 : decode c_cu_countFor 34 = .ok (.imul, 1) := by decide +kernel
theorem d_cu_countFor_35 : decode c_cu_countFor 35 = .ok (.iload_n 1, 1) := by decide +kernel
theorem d_cu_countFor_36 : decode c_cu_countFor 36 = .ok (.irem, 1) := by decide +kernel
theorem d_cu_countFor_37 : decode c_cu_countFor 37 = .ok (.dup2, 1) := by decide +kernel
theorem d_cu_countFor_38 : decode c_cu_countFor 38 = .ok (.iaload, 1) := by decide +kernel
theorem d_cu_countFor_39 : decode c_cu_countFor 39 = .ok (.iconst 1, 1) := by decide +kernel
theorem d_cu_countFor_40 : decode c_cu_countFor 40 = .ok (.iadd, 1) := by decide +kernel
theorem d_cu_countFor_41 : decode c_cu_countFor 41 = .ok (.iastore, 1) := by decide +kernel
theorem d_cu_countFor_42 : decode c_cu_countFor 42 = .ok (.iinc 2 1, 3) := by decide +kernel
theorem d_cu_countFor_45 : decode c_cu_countFor 45 = .ok (.goto (-22), 3) := by decide +kernel
theorem d_cu_countFor_48 : decode c_cu_countFor 48 = .ok (.iconst 1, 1) := by decide +kernel
theorem d_cu_countFor_49 : decode c_cu_countFor 49 = .ok (.istore_n 2, 1) := by decide +kernel
theorem d_cu_countFor_50 : decode c_cu_countFor 50 = .ok (.iconst 0, 1) := by decide +kernel
theorem d_cu_countFor_51 : decode c_cu_countFor 51 = .ok (.istore_n 3, 1) := by decide +kernel
theorem d_cu_countFor_52 : decode c_cu_countFor 52 = .ok (.iload_n 3, 1) := by decide +kernel
theorem d_cu_countFor_53 : decode c_cu_countFor 53 = .ok (.iload_n 1, 1) := by decide +kernel
theorem d_cu_countFor_54 : decode c_cu_countFor 54 = .ok (.if_icmp .ge 29, 3) := by decide +kernel
theorem d_cu_countFor_57 : decode c_cu_countFor 57 = .ok (.iload_n 2, 1) := by decide +kernel
theorem d_cu_countFor_58 : decode c_cu_countFor 58 = .ok (.aload_n 0, 1) := by decide +kernel
theorem d_cu_countFor_59 : decode c_cu_countFor 59 = .ok (.getfield 9, 3) := by decide +kernel
theorem d_cu_countFor_62 : decode c_cu_countFor 62 = .ok (.aload_n 0, 1) := by decide +kernel
theorem d_cu_countFor_63 : decode c_cu_countFor 63 = .ok (.iload_n 3, 1) := by decide +kernel
theorem d_cu_countFor_64 : decode c_cu_countFor 64 = .ok (.i2l, 1) := by decide +kernel
theorem d_cu_countFor_65 : decode c_cu_countFor 65 = .ok (.invokevirtual 48, 3) := by decide +kernel
theorem d_cu_countFor_68 : decode c_cu_countFor 68 = .ok (.iload_n 1, 1) := by decide +kernel
theorem d_cu_countFor_69 : decode c_cu_countFor 69 = .ok (.i2l, 1) := by decide +kernel
theorem d_cu_countFor_70 : decode c_cu_countFor 70 = .ok (.invokestatic 52, 3) := by decide +kernel
theorem d_cu_countFor_73 : decode c_cu_countFor 73 = .ok (.l2i, 1) := by decide +kernel
theorem d_cu_countFor_74 : decode c_cu_countFor 74 = .ok (.iaload, 1) := by decide +kernel
theorem d_cu_countFor_75 : decode c_cu_countFor 75 = .ok (.iadd, 1) := by decide +kernel
theorem d_cu_countFor_76 : decode c_cu_countFor 76 = .ok (.istore_n 2, 1) := by decide +kernel
theorem d_cu_countFor_77 : decode c_cu_countFor 77 = .ok (.iinc 3 1, 3) := by decide +kernel
theorem d_cu_countFor_80 : decode c_cu_countFor 80 = .ok (.goto (-28), 3) := by decide +kernel
theorem d_cu_countFor_83 : decode c_cu_countFor 83 = .ok (.iload_n 2, 1) := by decide +kernel
theorem d_cu_countFor_84 : decode c_cu_countFor 84 = .ok (.ireturn, 1) := by decide +kernel
theorem d_fp_init_0 : decode c_fp_init 0 = .ok (.aload_n 0, 1) := by decide +kernel
theorem d_fp_init_1 : decode c_fp_init 1 = .ok (.invokespecial 3, 3) := by decide +kernel
theorem d_fp_init_4 : decode c_fp_init 4 = .ok (.aload_n 0, 1) := by decide +kernel
theorem d_fp_init_5 : decode c_fp_init 5 = .ok (.bipush 32, 2) := by decide +kernel
theorem d_fp_init_7 : decode c_fp_init 7 = .ok (.newarray .int, 2) := by decide +kernel
theorem d_fp_init_9 : decode c_fp_init 9 = .ok (.putfield 11, 3) := by decide +kernel
theorem d_fp_init_12 : decode c_fp_init 12 = .ok (.aload_n 0, 1) := by decide +kernel
theorem d_fp_init_13 : decode c_fp_init 13 = .ok (.bipush 32, 2) := by decide +kernel
theorem d_fp_init_15 : decode c_fp_init 15 = .ok (.newarray .int, 2) := by decide +kernel
theorem d_fp_init_17 : decode c_fp_init 17 = .ok (.putfield 15, 3) := by decide +kernel
theorem d_fp_init_20 : decode c_fp_init 20 = .ok (.aload_n 0, 1) := by decide +kernel
theorem d_fp_init_21 : decode c_fp_init 21 = .ok (.bipush 32, 2) := by decide +kernel
theorem d_fp_init_23 : decode c_fp_init 23 = .ok (.newarray .int, 2) := by decide +kernel
theorem d_fp_init_25 : decode c_fp_init 25 = .ok (.putfield 18, 3) := by decide +kernel
theorem d_fp_init_28 : decode c_fp_init 28 = .ok (.return_, 1) := by decide +kernel
theorem d_fp_has_0 : decode c_fp_has 0 = .ok (.iload_n 1, 1) := by decide +kernel
theorem d_fp_has_1 : decode c_fp_has 1 = .ok (.ifCond .lt 15, 3) := by decide +kernel
theorem d_fp_has_4 : decode c_fp_has 4 = .ok (.iload_n 1, 1) := by decide +kernel
theorem d_fp_has_5 : decode c_fp_has 5 = .ok (.aload_n 0, 1) := by decide +kernel
theorem d_fp_has_6 : decode c_fp_has 6 = .ok (.getfield 21, 3) := by decide +kernel
theorem d_fp_has_9 : decode c_fp_has 9 = .ok (.if_icmp .ge 7, 3) := by decide +kernel
theorem d_fp_has_12 : decode c_fp_has 12 = .ok (.iconst 1, 1) := by decide +kernel
theorem d_fp_has_13 : decode c_fp_has 13 = .ok (.goto 4, 3) := by decide +kernel
theorem d_fp_has_16 : decode c_fp_has 16 = .ok (.iconst 0, 1) := by decide +kernel
theorem d_fp_has_17 : decode c_fp_has 17 = .ok (.ireturn, 1) := by decide +kernel
theorem d_fp_search_0 : decode c_fp_search 0 = .ok (.aload_n 0, 1) := by decide +kernel
theorem d_fp_search_1 : decode c_fp_search 1 = .ok (.aload_n 1, 1) := by decide +kernel
theorem d_fp_search_2 : decode c_fp_search 2 = .ok (.aload_n 2, 1) := by decide +kernel
theorem d_fp_search_3 : decode c_fp_search 3 = .ok (.invokevirtual 25, 3) := by decide +kernel
theorem d_fp_search_6 : decode c_fp_search 6 = .ok (.iconst 0, 1) := by decide +kernel
theorem d_fp_search_7 : decode c_fp_search 7 = .ok (.istore_n 3, 1) := by decide +kernel
theorem d_fp_search_8 : decode c_fp_search 8 = .ok (.iload_n 3, 1) := by decide +kernel
theorem d_fp_search_9 : decode c_fp_search 9 = .ok (.aload_n 0, 1) := by decide +kernel
theorem d_fp_search_10 : decode c_fp_search 10 = .ok (.getfield 21, 3) := by decide +kernel
theorem d_fp_search_13 : decode c_fp_search 13 = .ok (.if_icmp .ge 21, 3) := by decide +kernel
theorem d_fp_search_16 : decode c_fp_search 16 = .ok (.aload_n 0, 1) := by decide +kernel
theorem d_fp_search_17 : decode c_fp_search 17 = .ok (.getfield 18, 3) := by decide +kernel
theorem d_fp_search_20 : decode c_fp_search 20 = .ok (.iload_n 3, 1) := by decide +kernel
theorem d_fp_search_21 : decode c_fp_search 21 = .ok (.aload_n 0, 1) := by decide +kernel
theorem d_fp_search_22 : decode c_fp_search 22 = .ok (.aload_n 1, 1) := by decide +kernel
theorem d_fp_search_23 : decode c_fp_search 23 = .ok (.iload_n 3, 1) := by decide +kernel
theorem d_fp_search_24 : decode c_fp_search 24 = .ok (.invokevirtual 29, 3) := by decide +kernel
theorem d_fp_search_27 : decode c_fp_search 27 = .ok (.iastore, 1) := by decide +kernel
theorem d_fp_search_28 : decode c_fp_search 28 = .ok (.iinc 3 1, 3) := by decide +kernel
theorem d_fp_search_31 : decode c_fp_search 31 = .ok (.goto (-23), 3) := by decide +kernel
theorem d_fp_search_34 : decode c_fp_search 34 = .ok (.aload_n 0, 1) := by decide +kernel
theorem d_fp_search_35 : decode c_fp_search 35 = .ok (.invokevirtual 33, 3) := by decide +kernel
theorem d_fp_search_38 : decode c_fp_search 38 = .ok (.return_, 1) := by decide +kernel
theorem d_fp_collect_0 : decode c_fp_collect 0 = .ok (.aload_n 0, 1) := by decide +kernel
theorem d_fp_collect_1 : decode c_fp_collect 1 = .ok (.iconst 0, 1) := by decide +kernel
theorem d_fp_collect_2 : decode c_fp_collect 2 = .ok (.putfield 21, 3) := by decide +kernel
theorem d_fp_collect_5 : decode c_fp_collect 5 = .ok (.aload_n 0, 1) := by decide +kernel
theorem d_fp_collect_6 : decode c_fp_collect 6 = .ok (.iconst 0, 1) := by decide +kernel
theorem d_fp_collect_7 : decode c_fp_collect 7 = .ok (.iconst 0, 1) := by decide +kernel
theorem d_fp_collect_8 : decode c_fp_collect 8 = .ok (.invokevirtual 36, 3) := by decide +kernel
theorem d_fp_collect_11 : decode c_fp_collect 11 = .ok (.bipush (-70), 2) := by decide +kernel
theorem d_fp_collect_13 : decode c_fp_collect 13 = .ok (.istore_n 3, 1) := by decide +kernel
theorem d_fp_collect_14 : decode c_fp_collect 14 = .ok (.iload_n 3, 1) := by decide +kernel
theorem d_fp_collect_15 : decode c_fp_collect 15 = .ok (.sipush 1000, 3) := by decide +kernel
theorem d_fp_collect_18 : decode c_fp_collect 18 = .ok (.if_icmp .gt 78, 3) := by decide +kernel
theorem d_fp_collect_21 : decode c_fp_collect 21 = .ok (.aload_n 1, 1) := by decide +kernel
theorem d_fp_collect_22 : decode c_fp_collect 22 = .ok (.iload_n 3, 1) := by decide +kernel
theorem d_fp_collect_23 : decode c_fp_collect 23 = .ok (.i2l, 1) := by decide +kernel
theorem d_fp_collect_24 : decode c_fp_collect 24 = .ok (.invokevirtual 40, 3) := by decide +kernel
theorem d_fp_collect_27 : decode c_fp_collect 27 = .ok (.lstore 4, 2) := by decide +kernel
theorem d_fp_collect_29 : decode c_fp_collect 29 = .ok (.iload_n 3, 1) := by decide +kernel
theorem d_fp_collect_30 : decode c_fp_collect 30 = .ok (.bipush 23, 2) := by decide +kernel
theorem d_fp_collect_32 : decode c_fp_collect 32 = .ok (.if_icmp .lt 16, 3) := by decide +kernel
theorem d_fp_collect_35 : decode c_fp_collect 35 = .ok (.lload 4, 2) := by decide +kernel
theorem d_fp_collect_37 : decode c_fp_collect 37 = .ok (.aload_n 2, 1) := by decide +kernel
theorem d_fp_collect_38 : decode c_fp_collect 38 = .ok (.getfield 46, 3) := by decide +kernel
theorem d_fp_collect_41 : decode c_fp_collect 41 = .ok (.lcmp, 1) := by decide +kernel
theorem d_fp_collect_42 : decode c_fp_collect 42 = .ok (.ifCond .le 6, 3) := by decide +kernel
theorem d_fp_collect_45 : decode c_fp_collect 45 = .ok (.goto 51, 3) := by decide +kernel
theorem d_fp_collect_48 : decode c_fp_collect 48 = .ok (.lload 4, 2) := by decide +kernel
theorem d_fp_collect_50 : decode c_fp_collect 50 = .ok (.lconst 0, 1) := by decide +kernel
theorem d_fp_collect_51 : decode c_fp_collect 51 = .ok (.lcmp, 1) := by decide +kernel
theorem d_fp_collect_52 : decode c_fp_collect 52 = .ok (.ifCond .ne 9, 3) := by decide +kernel
theorem d_fp_collect_55 : decode c_fp_collect 55 = .ok (.aload_n 0, 1) := by decide +kernel
theorem d_fp_collect_56 : decode c_fp_collect 56 = .ok (.iload_n 3, 1) := by decide +kernel
theorem d_fp_collect_57 : decode c_fp_collect 57 = .ok (.iconst 0, 1) := by decide +kernel
theorem d_fp_collect_58 : decode c_fp_collect 58 = .ok (.invokevirtual 36, 3) := by decide +kernel
theorem d_fp_collect_61 : decode c_fp_collect 61 = .ok (.aload_n 2, 1) := by decide +kernel
theorem d_fp_collect_62 : decode c_fp_collect 62 = .ok (.lload 4, 2) := by decide +kernel
theorem d_fp_collect_64 : decode c_fp_collect 64 = .ok (.invokevirtual 52, 3) := by decide +kernel
theorem d_fp_collect_67 : decode c_fp_collect 67 = .ok (.istore 6, 2) := by decide +kernel
theorem d_fp_collect_69 : decode c_fp_collect 69 = .ok (.iload 6, 2) := by decide +kernel
theorem d_fp_collect_71 : decode c_fp_collect 71 = .ok (.iconst (-1), 1) := by decide +kernel
theorem d_fp_collect_72 : decode c_fp_collect 72 = .ok (.if_icmp .eq 18, 3) := by decide +kernel
theorem d_fp_collect_75 : decode c_fp_collect 75 = .ok (.aload_n 0, 1) := by decide +kernel
theorem d_fp_collect_76 : decode c_fp_collect 76 = .ok (.iload_n 3, 1) := by decide +kernel
theorem d_fp_collect_77 : decode c_fp_collect 77 = .ok (.iload 6, 2) := by decide +kernel
theorem d_fp_collect_79 : decode c_fp_collect 79 = .ok (.ineg, 1) := by decide +kernel
theorem d_fp_collect_80 : decode c_fp_collect 80 = .ok (.invokevirtual 36, 3) := by decide +kernel
theorem d_fp_collect_83 : decode c_fp_collect 83 = .ok (.aload_n 0, 1) := by decide +kernel
theorem d_fp_collect_84 : decode c_fp_collect 84 = .ok (.iload_n 3, 1) := by decide +kernel
theorem d_fp_collect_85 : decode c_fp_collect 85 = .ok (.iload 6, 2) := by decide +kernel
theorem d_fp_collect_87 : decode c_fp_collect 87 = .ok (.invokevirtual 36, 3) := by decide +kernel
theorem d_fp_collect_90 : decode c_fp_collect 90 = .ok (.iinc 3 1, 3) := by decide +kernel
theorem d_fp_collect_93 : decode c_fp_collect 93 = .ok (.goto (-79), 3) := by decide +kernel
theorem d_fp_collect_96 : decode c_fp_collect 96 = .ok (.return_, 1) := by decide +kernel
theorem d_fp_append_0 : decode c_fp_append 0 = .ok (.aload_n 0, 1) := by decide +kernel
theorem d_fp_append_1 : decode c_fp_append 1 = .ok (.getfield 21, 3) := by decide +kernel
theorem d_fp_append_4 : decode c_fp_append 4 = .ok (.bipush 32, 2) := by decide +kernel
theorem d_fp_append_6 : decode c_fp_append 6 = .ok (.if_icmp .ge 33, 3) := by decide +kernel
theorem d_fp_append_9 : decode c_fp_append 9 = .ok (.aload_n 0, 1) := by decide +kernel
theorem d_fp_append_10 : decode c_fp_append 10 = .ok (.getfield 11, 3) := by decide +kernel
theorem d_fp_append_13 : decode c_fp_append 13 = .ok (.aload_n 0, 1) := by decide +kernel
theorem d_fp_append_14 : decode c_fp_append 14 = .ok (.getfield 21, 3) := by decide +kernel
theorem d_fp_append_17 : decode c_fp_append 17 = .ok (.iload_n 1, 1) := by decide +kernel
theorem d_fp_append_18 : decode c_fp_append 18 = .ok (.iastore, 1) := by decide +kernel
theorem d_fp_append_19 : decode c_fp_append 19 = .ok (.aload_n 0, 1) := by decide +kernel
theorem d_fp_append_20 : decode c_fp_append 20 = .ok (.getfield 15, 3) := by decide +kernel
theorem d_fp_append_23 : decode c_fp_append 23 = .ok (.aload_n 0, 1) := by decide +kernel
theorem d_fp_append_24 : decode c_fp_append 24 = .ok (.getfield 21, 3) := by decide +kernel
theorem d_fp_append_27 : decode c_fp_append 27 = .ok (.iload_n 2, 1) := by decide +kernel
theorem d_fp_append_28 : decode c_fp_append 28 = .ok (.iastore, 1) := by decide +kernel
theorem d_fp_append_29 : decode c_fp_append 29 = .ok (.aload_n 0, 1) := by decide +kernel
theorem d_fp_append_30 : decode c_fp_append 30 = .ok (.dup, 1) := by decide +kernel
theorem d_fp_append_31 : decode c_fp_append 31 = .ok (.getfield 21, 3) := by decide +kernel
theorem d_fp_append_34 : decode c_fp_append 34 = .ok (.iconst 1, 1) := by decide +kernel
theorem d_fp_append_35 : decode c_fp_append 35 = .ok (.iadd, 1) := by decide +kernel
theorem d_fp_append_36 : decode c_fp_append 36 = .ok (.putfield 21, 3) := by decide +kernel
theorem d_fp_append_39 : decode c_fp_append 39 = .ok (.return_, 1) := by decide +kernel
theorem d_fp_orderOf_0 : decode c_fp_orderOf 0 = .ok (.iload_n 2, 1) := by decide +kernel
theorem d_fp_orderOf_1 : decode c_fp_orderOf 1 = .ok (.istore_n 3, 1) := by decide +kernel
theorem d_fp_orderOf_2 : decode c_fp_orderOf 2 = .ok (.iconst 1, 1) := by decide +kernel
theorem d_fp_orderOf_3 : decode c_fp_orderOf 3 = .ok (.istore 4, 2) := by decide +kernel
theorem d_fp_orderOf_5 : decode c_fp_orderOf 5 = .ok (.iload 4, 2) := by decide +kernel
theorem d_fp_orderOf_7 : decode c_fp_orderOf 7 = .ok (.bipush 12, 2) := by decide +kernel
theorem d_fp_orderOf_9 : decode c_fp_orderOf 9 = .ok (.if_icmp .gt 24, 3) := by decide +kernel
theorem d_fp_orderOf_12 : decode c_fp_orderOf 12 = .ok (.iload_n 3, 1) := by decide +kernel
theorem d_fp_orderOf_13 : decode c_fp_orderOf 13 = .ok (.ifCond .ne 6, 3) := by decide +kernel
theorem d_fp_orderOf_16 : decode c_fp_orderOf 16 = .ok (.iload 4, 2) := by decide +kernel
theorem d_fp_orderOf_18 : decode c_fp_orderOf 18 = .ok (.ireturn, 1) := by decide +kernel
theorem d_fp_orderOf_19 : decode c_fp_orderOf 19 = .ok (.aload_n 0, 1) := by decide +kernel
theorem d_fp_orderOf_20 : decode c_fp_orderOf 20 = .ok (.aload_n 1, 1) := by decide +kernel
theorem d_fp_orderOf_21 : decode c_fp_orderOf 21 = .ok (.iload_n 3, 1) := by decide +kernel
theorem d_fp_orderOf_22 : decode c_fp_orderOf 22 = .ok (.iload_n 2, 1) := by decide +kernel
theorem d_fp_orderOf_23 : decode c_fp_orderOf 23 = .ok (.invokevirtual 56, 3) := by decide +kernel
theorem d_fp_orderOf_26 : decode c_fp_orderOf 26 = .ok (.istore_n 3, 1) := by decide +kernel
theorem d_fp_orderOf_27 : decode c_fp_orderOf 27 = .ok (.iinc 4 1, 3) := by decide +kernel
theorem d_fp_orderOf_30 : decode c_fp_orderOf 30 = .ok (.goto (-25), 3) := by decide +kernel
theorem d_fp_orderOf_33 : decode c_fp_orderOf 33 = .ok (.iconst (-1), 1) := by decide +kernel
theorem d_fp_orderOf_34 : decode c_fp_orderOf 34 = .ok (.ireturn, 1) := by decide +kernel
theorem d_fp_keepFinite_0 : decode c_fp_keepFinite 0 = .ok (.iconst 0, 1) := by decide +kernel
theorem d_fp_keepFinite_1 : decode c_fp_keepFinite 1 = .ok (.istore_n 1, 1) := by decide +kernel
theorem d_fp_keepFinite_2 : decode c_fp_keepFinite 2 = .ok (.iconst 0, 1) := by decide +kernel
theorem d_fp_keepFinite_3 : decode c_fp_keepFinite 3 = .ok (.istore_n 2, 1) := by decide +kernel
theorem d_fp_keepFinite_4 : decode c_fp_keepFinite 4 = .ok (.iload_n 2, 1) := by decide +kernel
theorem d_fp_keepFinite_5 : decode c_fp_keepFinite 5 = .ok (.aload_n 0, 1) := by decide +kernel
theorem d_fp_keepFinite_6 : decode c_fp_keepFinite 6 = .ok (.getfield 21, 3) := by decide +kernel
theorem d_fp_keepFinite_9 : decode c_fp_keepFinite 9 = .ok (.if_icmp .ge 58, 3) := by decide +kernel
theorem d_fp_keepFinite_12 : decode c_fp_keepFinite 12 = .ok (.aload_n 0, 1) := by decide +kernel
theorem d_fp_keepFinite_13 : decode c_fp_keepFinite 13 = .ok (.getfield 18, 3) := by decide +kernel
theorem d_fp_keepFinite_16 : decode c_fp_keepFinite 16 = .ok (.iload_n 2, 1) := by decide +kernel
theorem d_fp_keepFinite_17 : decode c_fp_keepFinite 17 = .ok (.iaload, 1) := by decide +kernel
theorem d_fp_keepFinite_18 : decode c_fp_keepFinite 18 = .ok (.iconst (-1), 1) := by decide +kernel
theorem d_fp_keepFinite_19 : decode c_fp_keepFinite 19 = .ok (.if_icmp .eq 42, 3) := by decide +kernel
theorem d_fp_keepFinite_22 : decode c_fp_keepFinite 22 = .ok (.aload_n 0, 1) := by decide +kernel
theorem d_fp_keepFinite_23 : decode c_fp_keepFinite 23 = .ok (.getfield 11, 3) := by decide +kernel
theorem d_fp_keepFinite_26 : decode c_fp_keepFinite 26 = .ok (.iload_n 1, 1) := by decide +kernel
theorem d_fp_keepFinite_27 : decode c_fp_keepFinite 27 = .ok (.aload_n 0, 1) := by decide +kernel
theorem d_fp_keepFinite_28 : decode c_fp_keepFinite 28 = .ok (.getfield 11, 3) := by decide +kernel
theorem d_fp_keepFinite_31 : decode c_fp_keepFinite 31 = .ok (.iload_n 2, 1) := by decide +kernel
theorem d_fp_keepFinite_32 : decode c_fp_keepFinite 32 = .ok (.iaload, 1) := by decide +kernel
theorem d_fp_keepFinite_33 : decode c_fp_keepFinite 33 = .ok (.iastore, 1) := by decide +kernel
theorem d_fp_keepFinite_34 : decode c_fp_keepFinite 34 = .ok (.aload_n 0, 1) := by decide +kernel
theorem d_fp_keepFinite_35 : decode c_fp_keepFinite 35 = .ok (.getfield 15, 3) := by decide +kernel
theorem d_fp_keepFinite_38 : decode c_fp_keepFinite 38 = .ok (.iload_n 1, 1) := by decide +kernel
theorem d_fp_keepFinite_39 : decode c_fp_keepFinite 39 = .ok (.aload_n 0, 1) := by decide +kernel
theorem d_fp_keepFinite_40 : decode c_fp_keepFinite 40 = .ok (.getfield 15, 3) := by decide +kernel
theorem d_fp_keepFinite_43 : decode c_fp_keepFinite 43 = .ok (.iload_n 2, 1) := by decide +kernel
theorem d_fp_keepFinite_44 : decode c_fp_keepFinite 44 = .ok (.iaload, 1) := by decide +kernel
theorem d_fp_keepFinite_45 : decode c_fp_keepFinite 45 = .ok (.iastore, 1) := by decide +kernel
theorem d_fp_keepFinite_46 : decode c_fp_keepFinite 46 = .ok (.aload_n 0, 1) := by decide +kernel
theorem d_fp_keepFinite_47 : decode c_fp_keepFinite 47 = .ok (.getfield 18, 3) := by decide +kernel
theorem d_fp_keepFinite_50 : decode c_fp_keepFinite 50 = .ok (.iload_n 1, 1) := by decide +kernel
theorem d_fp_keepFinite_51 : decode c_fp_keepFinite 51 = .ok (.aload_n 0, 1) := by decide +kernel
theorem d_fp_keepFinite_52 : decode c_fp_keepFinite 52 = .ok (.getfield 18, 3) := by decide +kernel
theorem d_fp_keepFinite_55 : decode c_fp_keepFinite 55 = .ok (.iload_n 2, 1) := by decide +kernel
theorem d_fp_keepFinite_56 : decode c_fp_keepFinite 56 = .ok (.iaload, 1) := by decide +kernel
theorem d_fp_keepFinite_57 : decode c_fp_keepFinite 57 = .ok (.iastore, 1) := by decide +kernel
theorem d_fp_keepFinite_58 : decode c_fp_keepFinite 58 = .ok (.iinc 1 1, 3) := by decide +kernel
theorem d_fp_keepFinite_61 : decode c_fp_keepFinite 61 = .ok (.iinc 2 1, 3) := by decide +kernel
theorem d_fp_keepFinite_64 : decode c_fp_keepFinite 64 = .ok (.goto (-60), 3) := by decide +kernel
theorem d_fp_keepFinite_67 : decode c_fp_keepFinite 67 = .ok (.aload_n 0, 1) := by decide +kernel
theorem d_fp_keepFinite_68 : decode c_fp_keepFinite 68 = .ok (.iload_n 1, 1) := by decide +kernel
theorem d_fp_keepFinite_69 : decode c_fp_keepFinite 69 = .ok (.putfield 21, 3) := by decide +kernel
theorem d_fp_keepFinite_72 : decode c_fp_keepFinite 72 = .ok (.return_, 1) := by decide +kernel
theorem d_fp_numberOf_0 : decode c_fp_numberOf 0 = .ok (.iconst 1, 1) := by decide +kernel
theorem d_fp_numberOf_1 : decode c_fp_numberOf 1 = .ok (.istore 5, 2) := by decide +kernel
theorem d_fp_numberOf_3 : decode c_fp_numberOf 3 = .ok (.iload 5, 2) := by decide +kernel
theorem d_fp_numberOf_5 : decode c_fp_numberOf 5 = .ok (.aload_n 0, 1) := by decide +kernel
theorem d_fp_numberOf_6 : decode c_fp_numberOf 6 = .ok (.getfield 21, 3) := by decide +kernel
theorem d_fp_numberOf_9 : decode c_fp_numberOf 9 = .ok (.if_icmp .ge 38, 3) := by decide +kernel
theorem d_fp_numberOf_12 : decode c_fp_numberOf 12 = .ok (.aload_n 0, 1) := by decide +kernel
theorem d_fp_numberOf_13 : decode c_fp_numberOf 13 = .ok (.getfield 11, 3) := by decide +kernel
theorem d_fp_numberOf_16 : decode c_fp_numberOf 16 = .ok (.iload 5, 2) := by decide +kernel
theorem d_fp_numberOf_18 : decode c_fp_numberOf 18 = .ok (.iaload, 1) := by decide +kernel
theorem d_fp_numberOf_19 : decode c_fp_numberOf 19 = .ok (.i2l, 1) := by decide +kernel
theorem d_fp_numberOf_20 : decode c_fp_numberOf 20 = .ok (.lload_n 1, 1) := by decide +kernel
theorem d_fp_numberOf_21 : decode c_fp_numberOf 21 = .ok (.lcmp, 1) := by decide +kernel
theorem d_fp_numberOf_22 : decode c_fp_numberOf 22 = .ok (.ifCond .ne 19, 3) := by decide +kernel
theorem d_fp_numberOf_25 : decode c_fp_numberOf 25 = .ok (.aload_n 0, 1) := by decide +kernel
theorem d_fp_numberOf_26 : decode c_fp_numberOf 26 = .ok (.getfield 15, 3) := by decide +kernel
theorem d_fp_numberOf_29 : decode c_fp_numberOf 29 = .ok (.iload 5, 2) := by decide +kernel
theorem d_fp_numberOf_31 : decode c_fp_numberOf 31 = .ok (.iaload, 1) := by decide +kernel
theorem d_fp_numberOf_32 : decode c_fp_numberOf 32 = .ok (.i2l, 1) := by decide +kernel
theorem d_fp_numberOf_33 : decode c_fp_numberOf 33 = .ok (.lload_n 3, 1) := by decide +kernel
theorem d_fp_numberOf_34 : decode c_fp_numberOf 34 = .ok (.lcmp, 1) := by decide +kernel
theorem d_fp_numberOf_35 : decode c_fp_numberOf 35 = .ok (.ifCond .ne 6, 3) := by decide +kernel
theorem d_fp_numberOf_38 : decode c_fp_numberOf 38 = .ok (.iload 5, 2) := by decide +kernel
theorem d_fp_numberOf_40 : decode c_fp_numberOf 40 = .ok (.ireturn, 1) := by decide +kernel
theorem d_fp_numberOf_41 : decode c_fp_numberOf 41 = .ok (.iinc 5 1, 3) := by decide +kernel
theorem d_fp_numberOf_44 : decode c_fp_numberOf 44 = .ok (.goto (-41), 3) := by decide +kernel
theorem d_fp_numberOf_47 : decode c_fp_numberOf 47 = .ok (.iconst (-1), 1) := by decide +kernel
theorem d_fp_numberOf_48 : decode c_fp_numberOf 48 = .ok (.ireturn, 1) := by decide +kernel
theorem d_fp_added_0 : decode c_fp_added 0 = .ok (.aload_n 0, 1) := by decide +kernel
theorem d_fp_added_1 : decode c_fp_added 1 = .ok (.iload_n 2, 1) := by decide +kernel
theorem d_fp_added_2 : decode c_fp_added 2 = .ok (.invokevirtual 60, 3) := by decide +kernel
theorem d_fp_added_5 : decode c_fp_added 5 = .ok (.ifCond .eq 11, 3) := by decide +kernel
theorem d_fp_added_8 : decode c_fp_added 8 = .ok (.aload_n 0, 1) := by decide +kernel
theorem d_fp_added_9 : decode c_fp_added 9 = .ok (.iload_n 3, 1) := by decide +kernel
theorem d_fp_added_10 : decode c_fp_added 10 = .ok (.invokevirtual 60, 3) := by decide +kernel
theorem d_fp_added_13 : decode c_fp_added 13 = .ok (.ifCond .ne 5, 3) := by decide +kernel
theorem d_fp_added_16 : decode c_fp_added 16 = .ok (.iconst (-1), 1) := by decide +kernel
theorem d_fp_added_17 : decode c_fp_added 17 = .ok (.ireturn, 1) := by decide +kernel
theorem d_fp_added_18 : decode c_fp_added 18 = .ok (.iload_n 2, 1) := by decide +kernel
theorem d_fp_added_19 : decode c_fp_added 19 = .ok (.ifCond .eq 7, 3) := by decide +kernel
theorem d_fp_added_22 : decode c_fp_added 22 = .ok (.iload_n 3, 1) := by decide +kernel
theorem d_fp_added_23 : decode c_fp_added 23 = .ok (.ifCond .ne 7, 3) := by decide +kernel
theorem d_fp_added_26 : decode c_fp_added 26 = .ok (.iload_n 2, 1) := by decide +kernel
theorem d_fp_added_27 : decode c_fp_added 27 = .ok (.iload_n 3, 1) := by decide +kernel
theorem d_fp_added_28 : decode c_fp_added 28 = .ok (.iadd, 1) := by decide +kernel
theorem d_fp_added_29 : decode c_fp_added 29 = .ok (.ireturn, 1) := by decide +kernel
theorem d_fp_added_30 : decode c_fp_added 30 = .ok (.aload_n 0, 1) := by decide +kernel
theorem d_fp_added_31 : decode c_fp_added 31 = .ok (.getfield 11, 3) := by decide +kernel
theorem d_fp_added_34 : decode c_fp_added 34 = .ok (.iload_n 2, 1) := by decide +kernel
theorem d_fp_added_35 : decode c_fp_added 35 = .ok (.iaload, 1) := by decide +kernel
theorem d_fp_added_36 : decode c_fp_added 36 = .ok (.i2l, 1) := by decide +kernel
theorem d_fp_added_37 : decode c_fp_added 37 = .ok (.lstore 4, 2) := by decide +kernel
theorem d_fp_added_39 : decode c_fp_added 39 = .ok (.aload_n 0, 1) := by decide +kernel
theorem d_fp_added_40 : decode c_fp_added 40 = .ok (.getfield 15, 3) := by decide +kernel
theorem d_fp_added_43 : decode c_fp_added 43 = .ok (.iload_n 2, 1) := by decide +kernel
theorem d_fp_added_44 : decode c_fp_added 44 = .ok (.iaload, 1) := by decide +kernel
theorem d_fp_added_45 : decode c_fp_added 45 = .ok (.i2l, 1) := by decide +kernel
theorem d_fp_added_46 : decode c_fp_added 46 = .ok (.lstore 6, 2) := by decide +kernel
theorem d_fp_added_48 : decode c_fp_added 48 = .ok (.aload_n 0, 1) := by decide +kernel
theorem d_fp_added_49 : decode c_fp_added 49 = .ok (.getfield 11, 3) := by decide +kernel
theorem d_fp_added_52 : decode c_fp_added 52 = .ok (.iload_n 3, 1) := by decide +kernel
theorem d_fp_added_53 : decode c_fp_added 53 = .ok (.iaload, 1) := by decide +kernel
theorem d_fp_added_54 : decode c_fp_added 54 = .ok (.i2l, 1) := by decide +kernel
theorem d_fp_added_55 : decode c_fp_added 55 = .ok (.lload 4, 2) := by decide +kernel
theorem d_fp_added_57 : decode c_fp_added 57 = .ok (.lcmp, 1) := by decide +kernel
theorem d_fp_added_58 : decode c_fp_added 58 = .ok (.ifCond .ne 7, 3) := by decide +kernel
theorem d_fp_added_61 : decode c_fp_added 61 = .ok (.iconst 1, 1) := by decide +kernel
theorem d_fp_added_62 : decode c_fp_added 62 = .ok (.goto 4, 3) := by decide +kernel
theorem d_fp_added_65 : decode c_fp_added 65 = .ok (.iconst 0, 1) := by decide +kernel
theorem d_fp_added_66 : decode c_fp_added 66 = .ok (.istore 8, 2) := by decide +kernel
theorem d_fp_added_68 : decode c_fp_added 68 = .ok (.iload 8, 2) := by decide +kernel
theorem d_fp_added_70 : decode c_fp_added 70 = .ok (.ifCond .eq 19, 3) := by decide +kernel
theorem d_fp_added_73 : decode c_fp_added 73 = .ok (.aload_n 0, 1) := by decide +kernel
theorem d_fp_added_74 : decode c_fp_added 74 = .ok (.getfield 15, 3) := by decide +kernel
theorem d_fp_added_77 : decode c_fp_added 77 = .ok (.iload_n 3, 1) := by decide +kernel
theorem d_fp_added_78 : decode c_fp_added 78 = .ok (.iaload, 1) := by decide +kernel
theorem d_fp_added_79 : decode c_fp_added 79 = .ok (.i2l, 1) := by decide +kernel
theorem d_fp_added_80 : decode c_fp_added 80 = .ok (.lload 6, 2) := by decide +kernel
theorem d_fp_added_82 : decode c_fp_added 82 = .ok (.lneg, 1) := by decide +kernel
theorem d_fp_added_83 : decode c_fp_added 83 = .ok (.lcmp, 1) := by decide +kernel
theorem d_fp_added_84 : decode c_fp_added 84 = .ok (.ifCond .ne 5, 3) := by decide +kernel
theorem d_fp_added_87 : decode c_fp_added 87 = .ok (.iconst 0, 1) := by decide +kernel
theorem d_fp_added_88 : decode c_fp_added 88 = .ok (.ireturn, 1) := by decide +kernel
theorem d_fp_added_89 : decode c_fp_added 89 = .ok (.iload 8, 2) := by decide +kernel
theorem d_fp_added_91 : decode c_fp_added 91 = .ok (.ifCond .eq 12, 3) := by decide +kernel
theorem d_fp_added_94 : decode c_fp_added 94 = .ok (.aload_n 1, 1) := by decide +kernel
theorem d_fp_added_95 : decode c_fp_added 95 = .ok (.lload 4, 2) := by decide +kernel
theorem d_fp_added_97 : decode c_fp_added 97 = .ok (.invokevirtual 64, 3) := by decide +kernel
theorem d_fp_added_100 : decode c_fp_added 100 = .ok (.goto 13, 3) := by decide +kernel
theorem d_fp_added_103 : decode c_fp_added 103 = .ok (.aload_n 0, 1) := by decide +kernel
theorem d_fp_added_104 : decode c_fp_added 104 = .ok (.getfield 15, 3) := by decide +kernel
theorem d_fp_added_107 : decode c_fp_added 107 = .ok (.iload_n 3, 1) := by decide +kernel
theorem d_fp_added_108 : decode c_fp_added 108 = .ok (.iaload, 1) := by decide +kernel
theorem d_fp_added_109 : decode c_fp_added 109 = .ok (.i2l, 1) := by decide +kernel
theorem d_fp_added_110 : decode c_fp_added 110 = .ok (.lload 6, 2) := by decide +kernel
theorem d_fp_added_112 : decode c_fp_added 112 = .ok (.lsub, 1) := by decide +kernel
theorem d_fp_added_113 : decode c_fp_added 113 = .ok (.lstore 9, 2) := by decide +kernel
theorem d_fp_added_115 : decode c_fp_added 115 = .ok (.iload 8, 2) := by decide +kernel
theorem d_fp_added_117 : decode c_fp_added 117 = .ok (.ifCond .eq 12, 3) := by decide +kernel
theorem d_fp_added_120 : decode c_fp_added 120 = .ok (.ldc2_w 67, 3) := by decide +kernel
theorem d_fp_added_123 : decode c_fp_added 123 = .ok (.lload 6, 2) := by decide +kernel
theorem d_fp_added_125 : decode c_fp_added 125 = .ok (.lmul, 1) := by decide +kernel
theorem d_fp_added_126 : decode c_fp_added 126 = .ok (.goto 13, 3) := by decide +kernel
theorem d_fp_added_129 : decode c_fp_added 129 = .ok (.aload_n 0, 1) := by decide +kernel
theorem d_fp_added_130 : decode c_fp_added 130 = .ok (.getfield 11, 3) := by decide +kernel
theorem d_fp_added_133 : decode c_fp_added 133 = .ok (.iload_n 3, 1) := by decide +kernel
theorem d_fp_added_134 : decode c_fp_added 134 = .ok (.iaload, 1) := by decide +kernel
theorem d_fp_added_135 : decode c_fp_added 135 = .ok (.i2l, 1) := by decide +kernel
theorem d_fp_added_136 : decode c_fp_added 136 = .ok (.lload 4, 2) := by decide +kernel
theorem d_fp_added_138 : decode c_fp_added 138 = .ok (.lsub, 1) := by decide +kernel
theorem d_fp_added_139 : decode c_fp_added 139 = .ok (.lstore 11, 2) := by decide +kernel
theorem d_fp_added_141 : decode c_fp_added 141 = .ok (.lload 11, 2) := by decide +kernel
theorem d_fp_added_143 : decode c_fp_added 143 = .ok (.lconst 0, 1) := by decide +kernel
theorem d_fp_added_144 : decode c_fp_added 144 = .ok (.lcmp, 1) := by decide +kernel
theorem d_fp_added_145 : decode c_fp_added 145 = .ok (.ifCond .eq 13, 3) := by decide +kernel
theorem d_fp_added_148 : decode c_fp_added 148 = .ok (.lload 9, 2) := by decide +kernel
theorem d_fp_added_150 : decode c_fp_added 150 = .ok (.lload 11, 2) := by decide +kernel
theorem d_fp_added_152 : decode c_fp_added 152 = .ok (.lrem, 1) := by decide +kernel
theorem d_fp_added_153 : decode c_fp_added 153 = .ok (.lconst 0, 1) := by decide +kernel
theorem d_fp_added_154 : decode c_fp_added 154 = .ok (.lcmp, 1) := by decide +kernel
theorem d_fp_added_155 : decode c_fp_added 155 = .ok (.ifCond .eq 5, 3) := by decide +kernel
theorem d_fp_added_158 : decode c_fp_added 158 = .ok (.iconst (-1), 1) := by decide +kernel
theorem d_fp_added_159 : decode c_fp_added 159 = .ok (.ireturn, 1) := by decide +kernel
theorem d_fp_added_160 : decode c_fp_added 160 = .ok (.lload 9, 2) := by decide +kernel
theorem d_fp_added_162 : decode c_fp_added 162 = .ok (.lload 11, 2) := by decide +kernel
theorem d_fp_added_164 : decode c_fp_added 164 = .ok (.ldiv, 1) := by decide +kernel
theorem d_fp_added_165 : decode c_fp_added 165 = .ok (.lstore 13, 2) := by decide +kernel
theorem d_fp_added_167 : decode c_fp_added 167 = .ok (.lload 13, 2) := by decide +kernel
theorem d_fp_added_169 : decode c_fp_added 169 = .ok (.lload 13, 2) := by decide +kernel
theorem d_fp_added_171 : decode c_fp_added 171 = .ok (.lmul, 1) := by decide +kernel
theorem d_fp_added_172 : decode c_fp_added 172 = .ok (.aload_n 1, 1) := by decide +kernel
theorem d_fp_added_173 : decode c_fp_added 173 = .ok (.getfield 69, 3) := by decide +kernel
theorem d_fp_added_176 : decode c_fp_added 176 = .ok (.lsub, 1) := by decide +kernel
theorem d_fp_added_177 : decode c_fp_added 177 = .ok (.lload 4, 2) := by decide +kernel
theorem d_fp_added_179 : decode c_fp_added 179 = .ok (.lsub, 1) := by decide +kernel
theorem d_fp_added_180 : decode c_fp_added 180 = .ok (.aload_n 0, 1) := by decide +kernel
theorem d_fp_added_181 : decode c_fp_added 181 = .ok (.getfield 11, 3) := by decide +kernel
theorem d_fp_added_184 : decode c_fp_added 184 = .ok (.iload_n 3, 1) := by decide +kernel
theorem d_fp_added_185 : decode c_fp_added 185 = .ok (.iaload, 1) := by decide +kernel
theorem d_fp_added_186 : decode c_fp_added 186 = .ok (.i2l, 1) := by decide +kernel
theorem d_fp_added_187 : decode c_fp_added 187 = .ok (.lsub, 1) := by decide +kernel
theorem d_fp_added_188 : decode c_fp_added 188 = .ok (.lstore 15, 2) := by decide +kernel
theorem d_fp_added_190 : decode c_fp_added 190 = .ok (.aload_n 0, 1) := by decide +kernel
theorem d_fp_added_191 : decode c_fp_added 191 = .ok (.lload 15, 2) := by decide +kernel
theorem d_fp_added_193 : decode c_fp_added 193 = .ok (.lload 6, 2) := by decide +kernel
theorem d_fp_added_195 : decode c_fp_added 195 = .ok (.lload 13, 2) := by decide +kernel
theorem d_fp_added_197 : decode c_fp_added 197 = .ok (.lload 15, 2) := by decide +kernel
theorem d_fp_added_199 : decode c_fp_added 199 = .ok (.lload 4, 2) := by decide +kernel
theorem d_fp_added_201 : decode c_fp_added 201 = .ok (.lsub, 1) := by decide +kernel
theorem d_fp_added_202 : decode c_fp_added 202 = .ok (.lmul, 1) := by decide +kernel
theorem d_fp_added_203 : decode c_fp_added 203 = .ok (.ladd, 1) := by decide +kernel
theorem d_fp_added_204 : decode c_fp_added 204 = .ok (.lneg, 1) := by decide +kernel
theorem d_fp_added_205 : decode c_fp_added 205 = .ok (.invokevirtual 72, 3) := by decide +kernel
theorem d_fp_added_208 : decode c_fp_added 208 = .ok (.ireturn, 1) := by decide +kernel
theorem d_fp_multiple_0 : decode c_fp_multiple 0 = .ok (.aload_n 0, 1) := by decide +kernel
theorem d_fp_multiple_1 : decode c_fp_multiple 1 = .ok (.iload_n 3, 1) := by decide +kernel
theorem d_fp_multiple_2 : decode c_fp_multiple 2 = .ok (.invokevirtual 60, 3) := by decide +kernel
theorem d_fp_multiple_5 : decode c_fp_multiple 5 = .ok (.ifCond .ne 5, 3) := by decide +kernel
theorem d_fp_multiple_8 : decode c_fp_multiple 8 = .ok (.iconst (-1), 1) := by decide +kernel
theorem d_fp_multiple_9 : decode c_fp_multiple 9 = .ok (.ireturn, 1) := by decide +kernel
theorem d_fp_multiple_10 : decode c_fp_multiple 10 = .ok (.aload_n 0, 1) := by decide +kernel
theorem d_fp_multiple_11 : decode c_fp_multiple 11 = .ok (.getfield 18, 3) := by decide +kernel
theorem d_fp_multiple_14 : decode c_fp_multiple 14 = .ok (.iload_n 3, 1) := by decide +kernel
theorem d_fp_multiple_15 : decode c_fp_multiple 15 = .ok (.iaload, 1) := by decide +kernel
theorem d_fp_multiple_16 : decode c_fp_multiple 16 = .ok (.istore 4, 2) := by decide +kernel
theorem d_fp_multiple_18 : decode c_fp_multiple 18 = .ok (.iload 4, 2) := by decide +kernel
theorem d_fp_multiple_20 : decode c_fp_multiple 20 = .ok (.ifCond .le 12, 3) := by decide +kernel
theorem d_fp_multiple_23 : decode c_fp_multiple 23 = .ok (.iload_n 2, 1) := by decide +kernel
theorem d_fp_multiple_24 : decode c_fp_multiple 24 = .ok (.iload 4, 2) := by decide +kernel
theorem d_fp_multiple_26 : decode c_fp_multiple 26 = .ok (.invokestatic 76, 3) := by decide +kernel
theorem d_fp_multiple_29 : decode c_fp_multiple 29 = .ok (.goto 4, 3) := by decide +kernel
theorem d_fp_multiple_32 : decode c_fp_multiple 32 = .ok (.iconst 0, 1) := by decide +kernel
theorem d_fp_multiple_33 : decode c_fp_multiple 33 = .ok (.istore 5, 2) := by decide +kernel
theorem d_fp_multiple_35 : decode c_fp_multiple 35 = .ok (.iconst 0, 1) := by decide +kernel
theorem d_fp_multiple_36 : decode c_fp_multiple 36 = .ok (.istore 6, 2) := by decide +kernel
theorem d_fp_multiple_38 : decode c_fp_multiple 38 = .ok (.iconst 0, 1) := by decide +kernel
theorem d_fp_multiple_39 : decode c_fp_multiple 39 = .ok (.istore 7, 2) := by decide +kernel
theorem d_fp_multiple_41 : decode c_fp_multiple 41 = .ok (.iload 7, 2) := by decide +kernel
theorem d_fp_multiple_43 : decode c_fp_multiple 43 = .ok (.iload 5, 2) := by decide +kernel
theorem d_fp_multiple_45 : decode c_fp_multiple 45 = .ok (.if_icmp .ge 19, 3) := by decide +kernel
theorem d_fp_multiple_48 : decode c_fp_multiple 48 = .ok (.aload_n 0, 1) := by decide +kernel
theorem d_fp_multiple_49 : decode c_fp_multiple 49 = .ok (.aload_n 1, 1) := by decide +kernel
theorem d_fp_multiple_50 : decode c_fp_multiple 50 = .ok (.iload 6, 2) := by decide +kernel
theorem d_fp_multiple_52 : decode c_fp_multiple 52 = .ok (.iload_n 3, 1) := by decide +kernel
theorem d_fp_multiple_53 : decode c_fp_multiple 53 = .ok (.invokevirtual 56, 3) := by decide +kernel
theorem d_fp_multiple_56 : decode c_fp_multiple 56 = .ok (.istore 6, 2) := by decide +kernel
theorem d_fp_multiple_58 : decode c_fp_multiple 58 = .ok (.iinc 7 1, 3) := by decide +kernel
theorem d_fp_multiple_61 : decode c_fp_multiple 61 = .ok (.goto (-20), 3) := by decide +kernel
theorem d_fp_multiple_64 : decode c_fp_multiple 64 = .ok (.iload 6, 2) := by decide +kernel
theorem d_fp_multiple_66 : decode c_fp_multiple 66 = .ok (.ireturn, 1) := by decide +kernel
theorem d_fp_greatestOrder_0 : decode c_fp_greatestOrder 0 = .ok (.iconst 1, 1) := by decide +kernel
theorem d_fp_greatestOrder_1 : decode c_fp_greatestOrder 1 = .ok (.istore_n 1, 1) := by decide +kernel
theorem d_fp_greatestOrder_2 : decode c_fp_greatestOrder 2 = .ok (.iconst 0, 1) := by decide +kernel
theorem d_fp_greatestOrder_3 : decode c_fp_greatestOrder 3 = .ok (.istore_n 2, 1) := by decide +kernel
theorem d_fp_greatestOrder_4 : decode c_fp_greatestOrder 4 = .ok (.iload_n 2, 1) := by decide +kernel
theorem d_fp_greatestOrder_5 : decode c_fp_greatestOrder 5 = .ok (.aload_n 0, 1) := by decide +kernel
theorem d_fp_greatestOrder_6 : decode c_fp_greatestOrder 6 = .ok (.getfield 21, 3) := by decide +kernel
theorem d_fp_greatestOrder_9 : decode c_fp_greatestOrder 9 = .ok (.if_icmp .ge 20, 3) := by decide +kernel
theorem d_fp_greatestOrder_12 : decode c_fp_greatestOrder 12 = .ok (.iload_n 1, 1) := by decide +kernel
theorem d_fp_greatestOrder_13 : decode c_fp_greatestOrder 13 = .ok (.aload_n 0, 1) := by decide +kernel
theorem d_fp_greatestOrder_14 : decode c_fp_greatestOrder 14 = .ok (.getfield 18, 3) := by decide +kernel
theorem d_fp_greatestOrder_17 : decode c_fp_greatestOrder 17 = .ok (.iload_n 2, 1) := by decide +kernel
theorem d_fp_greatestOrder_18 : decode c_fp_greatestOrder 18 = .ok (.iaload, 1) := by decide +kernel
theorem d_fp_greatestOrder_19 : decode c_fp_greatestOrder 19 = .ok (.invokestatic 82, 3) := by decide +kernel
theorem d_fp_greatestOrder_22 : decode c_fp_greatestOrder 22 = .ok (.istore_n 1, 1) := by decide +kernel
theorem d_fp_greatestOrder_23 : decode c_fp_greatestOrder 23 = .ok (.iinc 2 1, 3) := by decide +kernel
theorem d_fp_greatestOrder_26 : decode c_fp_greatestOrder 26 = .ok (.goto (-22), 3) := by decide +kernel
theorem d_fp_greatestOrder_29 : decode c_fp_greatestOrder 29 = .ok (.iload_n 1, 1) := by decide +kernel
theorem d_fp_greatestOrder_30 : decode c_fp_greatestOrder 30 = .ok (.ireturn, 1) := by decide +kernel
theorem d_fp_smallerFactor_0 : decode c_fp_smallerFactor 0 = .ok (.aload_n 0, 1) := by decide +kernel
theorem d_fp_smallerFactor_1 : decode c_fp_smallerFactor 1 = .ok (.invokevirtual 85, 3) := by decide +kernel
theorem d_fp_smallerFactor_4 : decode c_fp_smallerFactor 4 = .ok (.istore_n 1, 1) := by decide +kernel
theorem d_fp_smallerFactor_5 : decode c_fp_smallerFactor 5 = .ok (.iload_n 1, 1) := by decide +kernel
theorem d_fp_smallerFactor_6 : decode c_fp_smallerFactor 6 = .ok (.ifCond .le 12, 3) := by decide +kernel
theorem d_fp_smallerFactor_9 : decode c_fp_smallerFactor 9 = .ok (.aload_n 0, 1) := by decide +kernel
theorem d_fp_smallerFactor_10 : decode c_fp_smallerFactor 10 = .ok (.getfield 21, 3) := by decide +kernel
theorem d_fp_smallerFactor_13 : decode c_fp_smallerFactor 13 = .ok (.iload_n 1, 1) := by decide +kernel
theorem d_fp_smallerFactor_14 : decode c_fp_smallerFactor 14 = .ok (.idiv, 1) := by decide +kernel
theorem d_fp_smallerFactor_15 : decode c_fp_smallerFactor 15 = .ok (.goto 4, 3) := by decide +kernel
theorem d_fp_smallerFactor_18 : decode c_fp_smallerFactor 18 = .ok (.iconst (-1), 1) := by decide +kernel
theorem d_fp_smallerFactor_19 : decode c_fp_smallerFactor 19 = .ok (.ireturn, 1) := by decide +kernel
theorem d_fp_greaterMaker_0 : decode c_fp_greaterMaker 0 = .ok (.aload_n 0, 1) := by decide +kernel
theorem d_fp_greaterMaker_1 : decode c_fp_greaterMaker 1 = .ok (.invokevirtual 85, 3) := by decide +kernel
theorem d_fp_greaterMaker_4 : decode c_fp_greaterMaker 4 = .ok (.istore_n 1, 1) := by decide +kernel
theorem d_fp_greaterMaker_5 : decode c_fp_greaterMaker 5 = .ok (.iconst 0, 1) := by decide +kernel
theorem d_fp_greaterMaker_6 : decode c_fp_greaterMaker 6 = .ok (.istore_n 2, 1) := by decide +kernel
theorem d_fp_greaterMaker_7 : decode c_fp_greaterMaker 7 = .ok (.iload_n 2, 1) := by decide +kernel
theorem d_fp_greaterMaker_8 : decode c_fp_greaterMaker 8 = .ok (.aload_n 0, 1) := by decide +kernel
theorem d_fp_greaterMaker_9 : decode c_fp_greaterMaker 9 = .ok (.getfield 21, 3) := by decide +kernel
theorem d_fp_greaterMaker_12 : decode c_fp_greaterMaker 12 = .ok (.if_icmp .ge 21, 3) := by decide +kernel
theorem d_fp_greaterMaker_15 : decode c_fp_greaterMaker 15 = .ok (.aload_n 0, 1) := by decide +kernel
theorem d_fp_greaterMaker_16 : decode c_fp_greaterMaker 16 = .ok (.getfield 18, 3) := by decide +kernel
theorem d_fp_greaterMaker_19 : decode c_fp_greaterMaker 19 = .ok (.iload_n 2, 1) := by decide +kernel
theorem d_fp_greaterMaker_20 : decode c_fp_greaterMaker 20 = .ok (.iaload, 1) := by decide +kernel
theorem d_fp_greaterMaker_21 : decode c_fp_greaterMaker 21 = .ok (.iload_n 1, 1) := by decide +kernel
theorem d_fp_greaterMaker_22 : decode c_fp_greaterMaker 22 = .ok (.if_icmp .ne 5, 3) := by decide +kernel
theorem d_fp_greaterMaker_25 : decode c_fp_greaterMaker 25 = .ok (.iload_n 2, 1) := by decide +kernel
theorem d_fp_greaterMaker_26 : decode c_fp_greaterMaker 26 = .ok (.ireturn, 1) := by decide +kernel
theorem d_fp_greaterMaker_27 : decode c_fp_greaterMaker 27 = .ok (.iinc 2 1, 3) := by decide +kernel
theorem d_fp_greaterMaker_30 : decode c_fp_greaterMaker 30 = .ok (.goto (-23), 3) := by decide +kernel
theorem d_fp_greaterMaker_33 : decode c_fp_greaterMaker 33 = .ok (.iconst (-1), 1) := by decide +kernel
theorem d_fp_greaterMaker_34 : decode c_fp_greaterMaker 34 = .ok (.ireturn, 1) := by decide +kernel
theorem d_fp_smallerMaker_0 : decode c_fp_smallerMaker 0 = .ok (.aload_n 0, 1) := by decide +kernel
theorem d_fp_smallerMaker_1 : decode c_fp_smallerMaker 1 = .ok (.invokevirtual 89, 3) := by decide +kernel
theorem d_fp_smallerMaker_4 : decode c_fp_smallerMaker 4 = .ok (.istore_n 2, 1) := by decide +kernel
theorem d_fp_smallerMaker_5 : decode c_fp_smallerMaker 5 = .ok (.aload_n 0, 1) := by decide +kernel
theorem d_fp_smallerMaker_6 : decode c_fp_smallerMaker 6 = .ok (.invokevirtual 92, 3) := by decide +kernel
theorem d_fp_smallerMaker_9 : decode c_fp_smallerMaker 9 = .ok (.istore_n 3, 1) := by decide +kernel
theorem d_fp_smallerMaker_10 : decode c_fp_smallerMaker 10 = .ok (.iconst 0, 1) := by decide +kernel
theorem d_fp_smallerMaker_11 : decode c_fp_smallerMaker 11 = .ok (.istore 4, 2) := by decide +kernel
theorem d_fp_smallerMaker_13 : decode c_fp_smallerMaker 13 = .ok (.iload 4, 2) := by decide +kernel
theorem d_fp_smallerMaker_15 : decode c_fp_smallerMaker 15 = .ok (.aload_n 0, 1) := by decide +kernel
theorem d_fp_smallerMaker_16 : decode c_fp_smallerMaker 16 = .ok (.getfield 21, 3) := by decide +kernel
theorem d_fp_smallerMaker_19 : decode c_fp_smallerMaker 19 = .ok (.if_icmp .ge 34, 3) := by decide +kernel
theorem d_fp_smallerMaker_22 : decode c_fp_smallerMaker 22 = .ok (.aload_n 0, 1) := by decide +kernel
theorem d_fp_smallerMaker_23 : decode c_fp_smallerMaker 23 = .ok (.getfield 18, 3) := by decide +kernel
theorem d_fp_smallerMaker_26 : decode c_fp_smallerMaker 26 = .ok (.iload 4, 2) := by decide +kernel
theorem d_fp_smallerMaker_28 : decode c_fp_smallerMaker 28 = .ok (.iaload, 1) := by decide +kernel
theorem d_fp_smallerMaker_29 : decode c_fp_smallerMaker 29 = .ok (.iload_n 2, 1) := by decide +kernel
theorem d_fp_smallerMaker_30 : decode c_fp_smallerMaker 30 = .ok (.if_icmp .ne 17, 3) := by decide +kernel
theorem d_fp_smallerMaker_33 : decode c_fp_smallerMaker 33 = .ok (.aload_n 0, 1) := by decide +kernel
theorem d_fp_smallerMaker_34 : decode c_fp_smallerMaker 34 = .ok (.aload_n 1, 1) := by decide +kernel
theorem d_fp_smallerMaker_35 : decode c_fp_smallerMaker 35 = .ok (.iload 4, 2) := by decide +kernel
theorem d_fp_smallerMaker_37 : decode c_fp_smallerMaker 37 = .ok (.iload_n 3, 1) := by decide +kernel
theorem d_fp_smallerMaker_38 : decode c_fp_smallerMaker 38 = .ok (.invokevirtual 95, 3) := by decide +kernel
theorem d_fp_smallerMaker_41 : decode c_fp_smallerMaker 41 = .ok (.ifCond .eq 6, 3) := by decide +kernel
theorem d_fp_smallerMaker_44 : decode c_fp_smallerMaker 44 = .ok (.iload 4, 2) := by decide +kernel
theorem d_fp_smallerMaker_46 : decode c_fp_smallerMaker 46 = .ok (.ireturn, 1) := by decide +kernel
theorem d_fp_smallerMaker_47 : decode c_fp_smallerMaker 47 = .ok (.iinc 4 1, 3) := by decide +kernel
theorem d_fp_smallerMaker_50 : decode c_fp_smallerMaker 50 = .ok (.goto (-37), 3) := by decide +kernel
theorem d_fp_smallerMaker_53 : decode c_fp_smallerMaker 53 = .ok (.iconst (-1), 1) := by decide +kernel
theorem d_fp_smallerMaker_54 : decode c_fp_smallerMaker 54 = .ok (.ireturn, 1) := by decide +kernel
theorem d_fp_meetsOnlyInZero_0 : decode c_fp_meetsOnlyInZero 0 = .ok (.iconst 1, 1) := by decide +kernel
theorem d_fp_meetsOnlyInZero_1 : decode c_fp_meetsOnlyInZero 1 = .ok (.istore 4, 2) := by decide +kernel
theorem d_fp_meetsOnlyInZero_3 : decode c_fp_meetsOnlyInZero 3 = .ok (.iload 4, 2) := by decide +kernel
theorem d_fp_meetsOnlyInZero_5 : decode c_fp_meetsOnlyInZero 5 = .ok (.aload_n 0, 1) := by decide +kernel
theorem d_fp_meetsOnlyInZero_6 : decode c_fp_meetsOnlyInZero 6 = .ok (.getfield 18, 3) := by decide +kernel
theorem d_fp_meetsOnlyInZero_9 : decode c_fp_meetsOnlyInZero 9 = .ok (.iload_n 2, 1) := by decide +kernel
theorem d_fp_meetsOnlyInZero_10 : decode c_fp_meetsOnlyInZero 10 = .ok (.iaload, 1) := by decide +kernel
theorem d_fp_meetsOnlyInZero_11 : decode c_fp_meetsOnlyInZero 11 = .ok (.if_icmp .ge 28, 3) := by decide +kernel
theorem d_fp_meetsOnlyInZero_14 : decode c_fp_meetsOnlyInZero 14 = .ok (.aload_n 0, 1) := by decide +kernel
theorem d_fp_meetsOnlyInZero_15 : decode c_fp_meetsOnlyInZero 15 = .ok (.aload_n 1, 1) := by decide +kernel
theorem d_fp_meetsOnlyInZero_16 : decode c_fp_meetsOnlyInZero 16 = .ok (.aload_n 0, 1) := by decide +kernel
theorem d_fp_meetsOnlyInZero_17 : decode c_fp_meetsOnlyInZero 17 = .ok (.aload_n 1, 1) := by decide +kernel
theorem d_fp_meetsOnlyInZero_18 : decode c_fp_meetsOnlyInZero 18 = .ok (.iload 4, 2) := by decide +kernel
theorem d_fp_meetsOnlyInZero_20 : decode c_fp_meetsOnlyInZero 20 = .ok (.iload_n 2, 1) := by decide +kernel
theorem d_fp_meetsOnlyInZero_21 : decode c_fp_meetsOnlyInZero 21 = .ok (.invokevirtual 99, 3) := by decide +kernel
theorem d_fp_meetsOnlyInZero_24 : decode c_fp_meetsOnlyInZero 24 = .ok (.iload_n 3, 1) := by decide +kernel
theorem d_fp_meetsOnlyInZero_25 : decode c_fp_meetsOnlyInZero 25 = .ok (.invokevirtual 102, 3) := by decide +kernel
theorem d_fp_meetsOnlyInZero_28 : decode c_fp_meetsOnlyInZero 28 = .ok (.ifCond .eq 5, 3) := by decide +kernel
theorem d_fp_meetsOnlyInZero_31 : decode c_fp_meetsOnlyInZero 31 = .ok (.iconst 0, 1) := by decide +kernel
theorem d_fp_meetsOnlyInZero_32 : decode c_fp_meetsOnlyInZero 32 = .ok (.ireturn, 1) := by decide +kernel
theorem d_fp_meetsOnlyInZero_33 : decode c_fp_meetsOnlyInZero 33 = .ok (.iinc 4 1, 3) := by decide +kernel
theorem d_fp_meetsOnlyInZero_36 : decode c_fp_meetsOnlyInZero 36 = .ok (.goto (-33), 3) := by decide +kernel
theorem d_fp_meetsOnlyInZero_39 : decode c_fp_meetsOnlyInZero 39 = .ok (.iconst 1, 1) := by decide +kernel
theorem d_fp_meetsOnlyInZero_40 : decode c_fp_meetsOnlyInZero 40 = .ok (.ireturn, 1) := by decide +kernel
theorem d_fp_isMultiple_0 : decode c_fp_isMultiple 0 = .ok (.iconst 0, 1) := by decide +kernel
theorem d_fp_isMultiple_1 : decode c_fp_isMultiple 1 = .ok (.istore 4, 2) := by decide +kernel
theorem d_fp_isMultiple_3 : decode c_fp_isMultiple 3 = .ok (.iconst 0, 1) := by decide +kernel
theorem d_fp_isMultiple_4 : decode c_fp_isMultiple 4 = .ok (.istore 5, 2) := by decide +kernel
theorem d_fp_isMultiple_6 : decode c_fp_isMultiple 6 = .ok (.iload 5, 2) := by decide +kernel
theorem d_fp_isMultiple_8 : decode c_fp_isMultiple 8 = .ok (.bipush 12, 2) := by decide +kernel
theorem d_fp_isMultiple_10 : decode c_fp_isMultiple 10 = .ok (.if_icmp .ge 27, 3) := by decide +kernel
theorem d_fp_isMultiple_13 : decode c_fp_isMultiple 13 = .ok (.iload 4, 2) := by decide +kernel
theorem d_fp_isMultiple_15 : decode c_fp_isMultiple 15 = .ok (.iload_n 2, 1) := by decide +kernel
theorem d_fp_isMultiple_16 : decode c_fp_isMultiple 16 = .ok (.if_icmp .ne 5, 3) := by decide +kernel
theorem d_fp_isMultiple_19 : decode c_fp_isMultiple 19 = .ok (.iconst 1, 1) := by decide +kernel
theorem d_fp_isMultiple_20 : decode c_fp_isMultiple 20 = .ok (.ireturn, 1) := by decide +kernel
theorem d_fp_isMultiple_21 : decode c_fp_isMultiple 21 = .ok (.aload_n 0, 1) := by decide +kernel
theorem d_fp_isMultiple_22 : decode c_fp_isMultiple 22 = .ok (.aload_n 1, 1) := by decide +kernel
theorem d_fp_isMultiple_23 : decode c_fp_isMultiple 23 = .ok (.iload 4, 2) := by decide +kernel
theorem d_fp_isMultiple_25 : decode c_fp_isMultiple 25 = .ok (.iload_n 3, 1) := by decide +kernel
theorem d_fp_isMultiple_26 : decode c_fp_isMultiple 26 = .ok (.invokevirtual 56, 3) := by decide +kernel
theorem d_fp_isMultiple_29 : decode c_fp_isMultiple 29 = .ok (.istore 4, 2) := by decide +kernel
theorem d_fp_isMultiple_31 : decode c_fp_isMultiple 31 = .ok (.iinc 5 1, 3) := by decide +kernel
theorem d_fp_isMultiple_34 : decode c_fp_isMultiple 34 = .ok (.goto (-28), 3) := by decide +kernel
theorem d_fp_isMultiple_37 : decode c_fp_isMultiple 37 = .ok (.iconst 0, 1) := by decide +kernel
theorem d_fp_isMultiple_38 : decode c_fp_isMultiple 38 = .ok (.ireturn, 1) := by decide +kernel
theorem d_sd_init_0 : decode c_sd_init 0 = .ok (.aload_n 0, 1) := by decide +kernel
theorem d_sd_init_1 : decode c_sd_init 1 = .ok (.invokespecial 3, 3) := by decide +kernel
theorem d_sd_init_4 : decode c_sd_init 4 = .ok (.aload_n 0, 1) := by decide +kernel
theorem d_sd_init_5 : decode c_sd_init 5 = .ok (.bipush 64, 2) := by decide +kernel
theorem d_sd_init_7 : decode c_sd_init 7 = .ok (.newarray .int, 2) := by decide +kernel
theorem d_sd_init_9 : decode c_sd_init 9 = .ok (.putfield 11, 3) := by decide +kernel
theorem d_sd_init_12 : decode c_sd_init 12 = .ok (.return_, 1) := by decide +kernel
theorem d_sd_listFor_0 : decode c_sd_listFor 0 = .ok (.lload_n 1, 1) := by decide +kernel
theorem d_sd_listFor_1 : decode c_sd_listFor 1 = .ok (.invokestatic 15, 3) := by decide +kernel
theorem d_sd_listFor_4 : decode c_sd_listFor 4 = .ok (.invokestatic 21, 3) := by decide +kernel
theorem d_sd_listFor_7 : decode c_sd_listFor 7 = .ok (.istore_n 3, 1) := by decide +kernel
theorem d_sd_listFor_8 : decode c_sd_listFor 8 = .ok (.aload_n 0, 1) := by decide +kernel
theorem d_sd_listFor_9 : decode c_sd_listFor 9 = .ok (.iload_n 3, 1) := by decide +kernel
theorem d_sd_listFor_10 : decode c_sd_listFor 10 = .ok (.i2l, 1) := by decide +kernel
theorem d_sd_listFor_11 : decode c_sd_listFor 11 = .ok (.iload_n 3, 1) := by decide +kernel
theorem d_sd_listFor_12 : decode c_sd_listFor 12 = .ok (.i2l, 1) := by decide +kernel
theorem d_sd_listFor_13 : decode c_sd_listFor 13 = .ok (.lmul, 1) := by decide +kernel
theorem d_sd_listFor_14 : decode c_sd_listFor 14 = .ok (.putfield 25, 3) := by decide +kernel
theorem d_sd_listFor_17 : decode c_sd_listFor 17 = .ok (.aload_n 0, 1) := by decide +kernel
theorem d_sd_listFor_18 : decode c_sd_listFor 18 = .ok (.iconst 0, 1) := by decide +kernel
theorem d_sd_listFor_19 : decode c_sd_listFor 19 = .ok (.putfield 29, 3) := by decide +kernel
theorem d_sd_listFor_22 : decode c_sd_listFor 22 = .ok (.iload_n 3, 1) := by decide +kernel
theorem d_sd_listFor_23 : decode c_sd_listFor 23 = .ok (.i2l, 1) := by decide +kernel
theorem d_sd_listFor_24 : decode c_sd_listFor 24 = .ok (.invokestatic 33, 3) := by decide +kernel
theorem d_sd_listFor_27 : decode c_sd_listFor 27 = .ok (.l2i, 1) := by decide +kernel
theorem d_sd_listFor_28 : decode c_sd_listFor 28 = .ok (.istore 4, 2) := by decide +kernel
theorem d_sd_listFor_30 : decode c_sd_listFor 30 = .ok (.iconst 1, 1) := by decide +kernel
theorem d_sd_listFor_31 : decode c_sd_listFor 31 = .ok (.istore 5, 2) := by decide +kernel
theorem d_sd_listFor_33 : decode c_sd_listFor 33 = .ok (.iload 5, 2) := by decide +kernel
theorem d_sd_listFor_35 : decode c_sd_listFor 35 = .ok (.iload 4, 2) := by decide +kernel
theorem d_sd_listFor_37 : decode c_sd_listFor 37 = .ok (.if_icmp .gt 22, 3) := by decide +kernel
theorem d_sd_listFor_40 : decode c_sd_listFor 40 = .ok (.iload_n 3, 1) := by decide +kernel
theorem d_sd_listFor_41 : decode c_sd_listFor 41 = .ok (.iload 5, 2) := by decide +kernel
theorem d_sd_listFor_43 : decode c_sd_listFor 43 = .ok (.irem, 1) := by decide +kernel
theorem d_sd_listFor_44 : decode c_sd_listFor 44 = .ok (.ifCond .ne 9, 3) := by decide +kernel
theorem d_sd_listFor_47 : decode c_sd_listFor 47 = .ok (.aload_n 0, 1) := by decide +kernel
theorem d_sd_listFor_48 : decode c_sd_listFor 48 = .ok (.iload 5, 2) := by decide +kernel
theorem d_sd_listFor_50 : decode c_sd_listFor 50 = .ok (.invokevirtual 36, 3) := by decide +kernel
theorem d_sd_listFor_53 : decode c_sd_listFor 53 = .ok (.iinc 5 1, 3) := by decide +kernel
theorem d_sd_listFor_56 : decode c_sd_listFor 56 = .ok (.goto (-23), 3) := by decide +kernel
theorem d_sd_listFor_59 : decode c_sd_listFor 59 = .ok (.iload 4, 2) := by decide +kernel
theorem d_sd_listFor_61 : decode c_sd_listFor 61 = .ok (.istore 5, 2) := by decide +kernel
theorem d_sd_listFor_63 : decode c_sd_listFor 63 = .ok (.iload 5, 2) := by decide +kernel
theorem d_sd_listFor_65 : decode c_sd_listFor 65 = .ok (.iconst 1, 1) := by decide +kernel
theorem d_sd_listFor_66 : decode c_sd_listFor 66 = .ok (.if_icmp .lt 33, 3) := by decide +kernel
theorem d_sd_listFor_69 : decode c_sd_listFor 69 = .ok (.iload_n 3, 1) := by decide +kernel
theorem d_sd_listFor_70 : decode c_sd_listFor 70 = .ok (.iload 5, 2) := by decide +kernel
theorem d_sd_listFor_72 : decode c_sd_listFor 72 = .ok (.irem, 1) := by decide +kernel
theorem d_sd_listFor_73 : decode c_sd_listFor 73 = .ok (.ifCond .ne 20, 3) := by decide +kernel
theorem d_sd_listFor_76 : decode c_sd_listFor 76 = .ok (.iload_n 3, 1) := by decide +kernel
theorem d_sd_listFor_77 : decode c_sd_listFor 77 = .ok (.iload 5, 2) := by decide +kernel
theorem d_sd_listFor_79 : decode c_sd_listFor 79 = .ok (.idiv, 1) := by decide +kernel
theorem d_sd_listFor_80 : decode c_sd_listFor 80 = .ok (.iload 5, 2) := by decide +kernel
theorem d_sd_listFor_82 : decode c_sd_listFor 82 = .ok (.if_icmp .le 11, 3) := by decide +kernel
theorem d_sd_listFor_85 : decode c_sd_listFor 85 = .ok (.aload_n 0, 1) := by decide +kernel
theorem d_sd_listFor_86 : decode c_sd_listFor 86 = .ok (.iload_n 3, 1) := by decide +kernel
theorem d_sd_listFor_87 : decode c_sd_listFor 87 = .ok (.iload 5, 2) := by decide +kernel
theorem d_sd_listFor_89 : decode c_sd_listFor 89 = .ok (.idiv, 1) := by decide +kernel
theorem d_sd_listFor_90 : decode c_sd_listFor 90 = .ok (.invokevirtual 36, 3) := by decide +kernel
theorem d_sd_listFor_93 : decode c_sd_listFor 93 = .ok (.iinc 5 (-1), 3) := by decide +kernel
theorem d_sd_listFor_96 : decode c_sd_listFor 96 = .ok (.goto (-33), 3) := by decide +kernel
theorem d_sd_listFor_99 : decode c_sd_listFor 99 = .ok (.return_, 1) := by decide +kernel
theorem d_sd_rootOf_0 : decode c_sd_rootOf 0 = .ok (.lload_n 1, 1) := by decide +kernel
theorem d_sd_rootOf_1 : decode c_sd_rootOf 1 = .ok (.lconst 1, 1) := by decide +kernel
theorem d_sd_rootOf_2 : decode c_sd_rootOf 2 = .ok (.lcmp, 1) := by decide +kernel
theorem d_sd_rootOf_3 : decode c_sd_rootOf 3 = .ok (.ifCond .lt 14, 3) := by decide +kernel
theorem d_sd_rootOf_6 : decode c_sd_rootOf 6 = .ok (.aload_n 0, 1) := by decide +kernel
theorem d_sd_rootOf_7 : decode c_sd_rootOf 7 = .ok (.getfield 25, 3) := by decide +kernel
theorem d_sd_rootOf_10 : decode c_sd_rootOf 10 = .ok (.lload_n 1, 1) := by decide +kernel
theorem d_sd_rootOf_11 : decode c_sd_rootOf 11 = .ok (.lrem, 1) := by decide +kernel
theorem d_sd_rootOf_12 : decode c_sd_rootOf 12 = .ok (.lconst 0, 1) := by decide +kernel
theorem d_sd_rootOf_13 : decode c_sd_rootOf 13 = .ok (.lcmp, 1) := by decide +kernel
theorem d_sd_rootOf_14 : decode c_sd_rootOf 14 = .ok (.ifCond .eq 5, 3) := by decide +kernel
theorem d_sd_rootOf_17 : decode c_sd_rootOf 17 = .ok (.iconst (-1), 1) := by decide +kernel
theorem d_sd_rootOf_18 : decode c_sd_rootOf 18 = .ok (.ireturn, 1) := by decide +kernel
theorem d_sd_rootOf_19 : decode c_sd_rootOf 19 = .ok (.iconst 0, 1) := by decide +kernel
theorem d_sd_rootOf_20 : decode c_sd_rootOf 20 = .ok (.istore_n 3, 1) := by decide +kernel
theorem d_sd_rootOf_21 : decode c_sd_rootOf 21 = .ok (.iload_n 3, 1) := by decide +kernel
theorem d_sd_rootOf_22 : decode c_sd_rootOf 22 = .ok (.aload_n 0, 1) := by decide +kernel
theorem d_sd_rootOf_23 : decode c_sd_rootOf 23 = .ok (.getfield 29, 3) := by decide +kernel
theorem d_sd_rootOf_26 : decode c_sd_rootOf 26 = .ok (.if_icmp .ge 36, 3) := by decide +kernel
theorem d_sd_rootOf_29 : decode c_sd_rootOf 29 = .ok (.aload_n 0, 1) := by decide +kernel
theorem d_sd_rootOf_30 : decode c_sd_rootOf 30 = .ok (.getfield 11, 3) := by decide +kernel
theorem d_sd_rootOf_33 : decode c_sd_rootOf 33 = .ok (.iload_n 3, 1) := by decide +kernel
theorem d_sd_rootOf_34 : decode c_sd_rootOf 34 = .ok (.iaload, 1) := by decide +kernel
theorem d_sd_rootOf_35 : decode c_sd_rootOf 35 = .ok (.i2l, 1) := by decide +kernel
theorem d_sd_rootOf_36 : decode c_sd_rootOf 36 = .ok (.aload_n 0, 1) := by decide +kernel
theorem d_sd_rootOf_37 : decode c_sd_rootOf 37 = .ok (.getfield 11, 3) := by decide +kernel
theorem d_sd_rootOf_40 : decode c_sd_rootOf 40 = .ok (.iload_n 3, 1) := by decide +kernel
theorem d_sd_rootOf_41 : decode c_sd_rootOf 41 = .ok (.iaload, 1) := by decide +kernel
theorem d_sd_rootOf_42 : decode c_sd_rootOf 42 = .ok (.i2l, 1) := by decide +kernel
theorem d_sd_rootOf_43 : decode c_sd_rootOf 43 = .ok (.lmul, 1) := by decide +kernel
theorem d_sd_rootOf_44 : decode c_sd_rootOf 44 = .ok (.lload_n 1, 1) := by decide +kernel
theorem d_sd_rootOf_45 : decode c_sd_rootOf 45 = .ok (.lcmp, 1) := by decide +kernel
theorem d_sd_rootOf_46 : decode c_sd_rootOf 46 = .ok (.ifCond .ne 10, 3) := by decide +kernel
theorem d_sd_rootOf_49 : decode c_sd_rootOf 49 = .ok (.aload_n 0, 1) := by decide +kernel
theorem d_sd_rootOf_50 : decode c_sd_rootOf 50 = .ok (.getfield 11, 3) := by decide +kernel
theorem d_sd_rootOf_53 : decode c_sd_rootOf 53 = .ok (.iload_n 3, 1) := by decide +kernel
theorem d_sd_rootOf_54 : decode c_sd_rootOf 54 = .ok (.iaload, 1) := by decide +kernel
theorem d_sd_rootOf_55 : decode c_sd_rootOf 55 = .ok (.ireturn, 1) := by decide +kernel
theorem d_sd_rootOf_56 : decode c_sd_rootOf 56 = .ok (.iinc 3 1, 3) := by decide +kernel
theorem d_sd_rootOf_59 : decode c_sd_rootOf 59 = .ok (.goto (-38), 3) := by decide +kernel
theorem d_sd_rootOf_62 : decode c_sd_rootOf 62 = .ok (.iconst (-1), 1) := by decide +kernel
theorem d_sd_rootOf_63 : decode c_sd_rootOf 63 = .ok (.ireturn, 1) := by decide +kernel
theorem d_sd_append_0 : decode c_sd_append 0 = .ok (.aload_n 0, 1) := by decide +kernel
theorem d_sd_append_1 : decode c_sd_append 1 = .ok (.getfield 29, 3) := by decide +kernel
theorem d_sd_append_4 : decode c_sd_append 4 = .ok (.bipush 64, 2) := by decide +kernel
theorem d_sd_append_6 : decode c_sd_append 6 = .ok (.if_icmp .ge 23, 3) := by decide +kernel
theorem d_sd_append_9 : decode c_sd_append 9 = .ok (.aload_n 0, 1) := by decide +kernel
theorem d_sd_append_10 : decode c_sd_append 10 = .ok (.getfield 11, 3) := by decide +kernel
theorem d_sd_append_13 : decode c_sd_append 13 = .ok (.aload_n 0, 1) := by decide +kernel
theorem d_sd_append_14 : decode c_sd_append 14 = .ok (.getfield 29, 3) := by decide +kernel
theorem d_sd_append_17 : decode c_sd_append 17 = .ok (.iload_n 1, 1) := by decide +kernel
theorem d_sd_append_18 : decode c_sd_append 18 = .ok (.iastore, 1) := by decide +kernel
theorem d_sd_append_19 : decode c_sd_append 19 = .ok (.aload_n 0, 1) := by decide +kernel
theorem d_sd_append_20 : decode c_sd_append 20 = .ok (.dup, 1) := by decide +kernel
theorem d_sd_append_21 : decode c_sd_append 21 = .ok (.getfield 29, 3) := by decide +kernel
theorem d_sd_append_24 : decode c_sd_append 24 = .ok (.iconst 1, 1) := by decide +kernel
theorem d_sd_append_25 : decode c_sd_append 25 = .ok (.iadd, 1) := by decide +kernel
theorem d_sd_append_26 : decode c_sd_append 26 = .ok (.putfield 29, 3) := by decide +kernel
theorem d_sd_append_29 : decode c_sd_append 29 = .ok (.return_, 1) := by decide +kernel
theorem d_sd_largestRoot_0 : decode c_sd_largestRoot 0 = .ok (.lload_n 0, 1) := by decide +kernel
theorem d_sd_largestRoot_1 : decode c_sd_largestRoot 1 = .ok (.lstore_n 2, 1) := by decide +kernel
theorem d_sd_largestRoot_2 : decode c_sd_largestRoot 2 = .ok (.lconst 1, 1) := by decide +kernel
theorem d_sd_largestRoot_3 : decode c_sd_largestRoot 3 = .ok (.lstore 4, 2) := by decide +kernel
theorem d_sd_largestRoot_5 : decode c_sd_largestRoot 5 = .ok (.ldc2_w 40, 3) := by decide +kernel
theorem d_sd_largestRoot_8 : decode c_sd_largestRoot 8 = .ok (.lstore 6, 2) := by decide +kernel
theorem d_sd_largestRoot_10 : decode c_sd_largestRoot 10 = .ok (.lload 6, 2) := by decide +kernel
theorem d_sd_largestRoot_12 : decode c_sd_largestRoot 12 = .ok (.ldc2_w 42, 3) := by decide +kernel
theorem d_sd_largestRoot_15 : decode c_sd_largestRoot 15 = .ok (.lcmp, 1) := by decide +kernel
theorem d_sd_largestRoot_16 : decode c_sd_largestRoot 16 = .ok (.ifCond .ge 82, 3) := by decide +kernel
theorem d_sd_largestRoot_19 : decode c_sd_largestRoot 19 = .ok (.lload 6, 2) := by decide +kernel
theorem d_sd_largestRoot_21 : decode c_sd_largestRoot 21 = .ok (.lload 6, 2) := by decide +kernel
theorem d_sd_largestRoot_23 : decode c_sd_largestRoot 23 = .ok (.lmul, 1) := by decide +kernel
theorem d_sd_largestRoot_24 : decode c_sd_largestRoot 24 = .ok (.lload 6, 2) := by decide +kernel
theorem d_sd_largestRoot_26 : decode c_sd_largestRoot 26 = .ok (.lmul, 1) := by decide +kernel
theorem d_sd_largestRoot_27 : decode c_sd_largestRoot 27 = .ok (.lload_n 2, 1) := by decide +kernel
theorem d_sd_largestRoot_28 : decode c_sd_largestRoot 28 = .ok (.lcmp, 1) := by decide +kernel
theorem d_sd_largestRoot_29 : decode c_sd_largestRoot 29 = .ok (.ifCond .gt 69, 3) := by decide +kernel
theorem d_sd_largestRoot_32 : decode c_sd_largestRoot 32 = .ok (.iconst 0, 1) := by decide +kernel
theorem d_sd_largestRoot_33 : decode c_sd_largestRoot 33 = .ok (.istore 8, 2) := by decide +kernel
theorem d_sd_largestRoot_35 : decode c_sd_largestRoot 35 = .ok (.iload 8, 2) := by decide +kernel
theorem d_sd_largestRoot_37 : decode c_sd_largestRoot 37 = .ok (.bipush 64, 2) := by decide +kernel
theorem d_sd_largestRoot_39 : decode c_sd_largestRoot 39 = .ok (.if_icmp .ge 36, 3) := by decide +kernel
theorem d_sd_largestRoot_42 : decode c_sd_largestRoot 42 = .ok (.lload_n 2, 1) := by decide +kernel
theorem d_sd_largestRoot_43 : decode c_sd_largestRoot 43 = .ok (.lload 6, 2) := by decide +kernel
theorem d_sd_largestRoot_45 : decode c_sd_largestRoot 45 = .ok (.lload 6, 2) := by decide +kernel
theorem d_sd_largestRoot_47 : decode c_sd_largestRoot 47 = .ok (.lmul, 1) := by decide +kernel
theorem d_sd_largestRoot_48 : decode c_sd_largestRoot 48 = .ok (.lrem, 1) := by decide +kernel
theorem d_sd_largestRoot_49 : decode c_sd_largestRoot 49 = .ok (.lconst 0, 1) := by decide +kernel
theorem d_sd_largestRoot_50 : decode c_sd_largestRoot 50 = .ok (.lcmp, 1) := by decide +kernel
theorem d_sd_largestRoot_51 : decode c_sd_largestRoot 51 = .ok (.ifCond .ne 24, 3) := by decide +kernel
theorem d_sd_largestRoot_54 : decode c_sd_largestRoot 54 = .ok (.lload_n 2, 1) := by decide +kernel
theorem d_sd_largestRoot_55 : decode c_sd_largestRoot 55 = .ok (.lload 6, 2) := by decide +kernel
theorem d_sd_largestRoot_57 : decode c_sd_largestRoot 57 = .ok (.lload 6, 2) := by decide +kernel
theorem d_sd_largestRoot_59 : decode c_sd_largestRoot 59 = .ok (.lmul, 1) := by decide +kernel
theorem d_sd_largestRoot_60 : decode c_sd_largestRoot 60 = .ok (.ldiv, 1) := by decide +kernel
theorem d_sd_largestRoot_61 : decode c_sd_largestRoot 61 = .ok (.lstore_n 2, 1) := by decide +kernel
theorem d_sd_largestRoot_62 : decode c_sd_largestRoot 62 = .ok (.lload 4, 2) := by decide +kernel
theorem d_sd_largestRoot_64 : decode c_sd_largestRoot 64 = .ok (.lload 6, 2) := by decide +kernel
theorem d_sd_largestRoot_66 : decode c_sd_largestRoot 66 = .ok (.lmul, 1) := by decide +kernel
theorem d_sd_largestRoot_67 : decode c_sd_largestRoot 67 = .ok (.lstore 4, 2) := by decide +kernel
theorem d_sd_largestRoot_69 : decode c_sd_largestRoot 69 = .ok (.iinc 8 1, 3) := by decide +kernel
theorem d_sd_largestRoot_72 : decode c_sd_largestRoot 72 = .ok (.goto (-37), 3) := by decide +kernel
theorem d_sd_largestRoot_75 : decode c_sd_largestRoot 75 = .ok (.lload_n 2, 1) := by decide +kernel
theorem d_sd_largestRoot_76 : decode c_sd_largestRoot 76 = .ok (.lload 6, 2) := by decide +kernel
theorem d_sd_largestRoot_78 : decode c_sd_largestRoot 78 = .ok (.lrem, 1) := by decide +kernel
theorem d_sd_largestRoot_79 : decode c_sd_largestRoot 79 = .ok (.lconst 0, 1) := by decide +kernel
theorem d_sd_largestRoot_80 : decode c_sd_largestRoot 80 = .ok (.lcmp, 1) := by decide +kernel
theorem d_sd_largestRoot_81 : decode c_sd_largestRoot 81 = .ok (.ifCond .ne 8, 3) := by decide +kernel
theorem d_sd_largestRoot_84 : decode c_sd_largestRoot 84 = .ok (.lload_n 2, 1) := by decide +kernel
theorem d_sd_largestRoot_85 : decode c_sd_largestRoot 85 = .ok (.lload 6, 2) := by decide +kernel
theorem d_sd_largestRoot_87 : decode c_sd_largestRoot 87 = .ok (.ldiv, 1) := by decide +kernel
theorem d_sd_largestRoot_88 : decode c_sd_largestRoot 88 = .ok (.lstore_n 2, 1) := by decide +kernel
theorem d_sd_largestRoot_89 : decode c_sd_largestRoot 89 = .ok (.lload 6, 2) := by decide +kernel
theorem d_sd_largestRoot_91 : decode c_sd_largestRoot 91 = .ok (.lconst 1, 1) := by decide +kernel
theorem d_sd_largestRoot_92 : decode c_sd_largestRoot 92 = .ok (.ladd, 1) := by decide +kernel
theorem d_sd_largestRoot_93 : decode c_sd_largestRoot 93 = .ok (.lstore 6, 2) := by decide +kernel
theorem d_sd_largestRoot_95 : decode c_sd_largestRoot 95 = .ok (.goto (-85), 3) := by decide +kernel
theorem d_sd_largestRoot_98 : decode c_sd_largestRoot 98 = .ok (.lload_n 2, 1) := by decide +kernel
theorem d_sd_largestRoot_99 : decode c_sd_largestRoot 99 = .ok (.invokestatic 33, 3) := by decide +kernel
theorem d_sd_largestRoot_102 : decode c_sd_largestRoot 102 = .ok (.lstore 6, 2) := by decide +kernel
theorem d_sd_largestRoot_104 : decode c_sd_largestRoot 104 = .ok (.lload 6, 2) := by decide +kernel
theorem d_sd_largestRoot_106 : decode c_sd_largestRoot 106 = .ok (.lload 6, 2) := by decide +kernel
theorem d_sd_largestRoot_108 : decode c_sd_largestRoot 108 = .ok (.lmul, 1) := by decide +kernel
theorem d_sd_largestRoot_109 : decode c_sd_largestRoot 109 = .ok (.lload_n 2, 1) := by decide +kernel
theorem d_sd_largestRoot_110 : decode c_sd_largestRoot 110 = .ok (.lcmp, 1) := by decide +kernel
theorem d_sd_largestRoot_111 : decode c_sd_largestRoot 111 = .ok (.ifCond .ne 11, 3) := by decide +kernel
theorem d_sd_largestRoot_114 : decode c_sd_largestRoot 114 = .ok (.lload 4, 2) := by decide +kernel
theorem d_sd_largestRoot_116 : decode c_sd_largestRoot 116 = .ok (.lload 6, 2) := by decide +kernel
theorem d_sd_largestRoot_118 : decode c_sd_largestRoot 118 = .ok (.lmul, 1) := by decide +kernel
theorem d_sd_largestRoot_119 : decode c_sd_largestRoot 119 = .ok (.goto 5, 3) := by decide +kernel
theorem d_sd_largestRoot_122 : decode c_sd_largestRoot 122 = .ok (.lload 4, 2) := by decide +kernel
theorem d_sd_largestRoot_124 : decode c_sd_largestRoot 124 = .ok (.l2i, 1) := by decide +kernel
theorem d_sd_largestRoot_125 : decode c_sd_largestRoot 125 = .ok (.ireturn, 1) := by decide +kernel
theorem d_sd_floorOfRoot_0 : decode c_sd_floorOfRoot 0 = .ok (.lconst 0, 1) := by decide +kernel
theorem d_sd_floorOfRoot_1 : decode c_sd_floorOfRoot 1 = .ok (.lstore_n 2, 1) := by decide +kernel
theorem d_sd_floorOfRoot_2 : decode c_sd_floorOfRoot 2 = .ok (.ldc2_w 44, 3) := by decide +kernel
theorem d_sd_floorOfRoot_5 : decode c_sd_floorOfRoot 5 = .ok (.lstore 4, 2) := by decide +kernel
theorem d_sd_floorOfRoot_7 : decode c_sd_floorOfRoot 7 = .ok (.lload 4, 2) := by decide +kernel
theorem d_sd_floorOfRoot_9 : decode c_sd_floorOfRoot 9 = .ok (.lconst 0, 1) := by decide +kernel
theorem d_sd_floorOfRoot_10 : decode c_sd_floorOfRoot 10 = .ok (.lcmp, 1) := by decide +kernel
theorem d_sd_floorOfRoot_11 : decode c_sd_floorOfRoot 11 = .ok (.ifCond .le 31, 3) := by decide +kernel
theorem d_sd_floorOfRoot_14 : decode c_sd_floorOfRoot 14 = .ok (.lload_n 2, 1) := by decide +kernel
theorem d_sd_floorOfRoot_15 : decode c_sd_floorOfRoot 15 = .ok (.lload 4, 2) := by decide +kernel
theorem d_sd_floorOfRoot_17 : decode c_sd_floorOfRoot 17 = .ok (.ladd, 1) := by decide +kernel
theorem d_sd_floorOfRoot_18 : decode c_sd_floorOfRoot 18 = .ok (.lload_n 2, 1) := by decide +kernel
theorem d_sd_floorOfRoot_19 : decode c_sd_floorOfRoot 19 = .ok (.lload 4, 2) := by decide +kernel
theorem d_sd_floorOfRoot_21 : decode c_sd_floorOfRoot 21 = .ok (.ladd, 1) := by decide +kernel
theorem d_sd_floorOfRoot_22 : decode c_sd_floorOfRoot 22 = .ok (.lmul, 1) := by decide +kernel
theorem d_sd_floorOfRoot_23 : decode c_sd_floorOfRoot 23 = .ok (.lload_n 0, 1) := by decide +kernel
theorem d_sd_floorOfRoot_24 : decode c_sd_floorOfRoot 24 = .ok (.lcmp, 1) := by decide +kernel
theorem d_sd_floorOfRoot_25 : decode c_sd_floorOfRoot 25 = .ok (.ifCond .gt 8, 3) := by decide +kernel
theorem d_sd_floorOfRoot_28 : decode c_sd_floorOfRoot 28 = .ok (.lload_n 2, 1) := by decide +kernel
theorem d_sd_floorOfRoot_29 : decode c_sd_floorOfRoot 29 = .ok (.lload 4, 2) := by decide +kernel
theorem d_sd_floorOfRoot_31 : decode c_sd_floorOfRoot 31 = .ok (.ladd, 1) := by decide +kernel
theorem d_sd_floorOfRoot_32 : decode c_sd_floorOfRoot 32 = .ok (.lstore_n 2, 1) := by decide +kernel
theorem d_sd_floorOfRoot_33 : decode c_sd_floorOfRoot 33 = .ok (.lload 4, 2) := by decide +kernel
theorem d_sd_floorOfRoot_35 : decode c_sd_floorOfRoot 35 = .ok (.iconst 1, 1) := by decide +kernel
theorem d_sd_floorOfRoot_36 : decode c_sd_floorOfRoot 36 = .ok (.lshr, 1) := by decide +kernel
theorem d_sd_floorOfRoot_37 : decode c_sd_floorOfRoot 37 = .ok (.lstore 4, 2) := by decide +kernel
theorem d_sd_floorOfRoot_39 : decode c_sd_floorOfRoot 39 = .ok (.goto (-32), 3) := by decide +kernel
theorem d_sd_floorOfRoot_42 : decode c_sd_floorOfRoot 42 = .ok (.lload_n 2, 1) := by decide +kernel
theorem d_sd_floorOfRoot_43 : decode c_sd_floorOfRoot 43 = .ok (.lreturn, 1) := by decide +kernel
theorem d_lw_curve_0 : decode c_lw_curve 0 = .ok (.aload 6, 2) := by decide +kernel
theorem d_lw_curve_2 : decode c_lw_curve 2 = .ok (.iconst 0, 1) := by decide +kernel
theorem d_lw_curve_3 : decode c_lw_curve 3 = .ok (.aload_n 0, 1) := by decide +kernel
theorem d_lw_curve_4 : decode c_lw_curve 4 = .ok (.iload_n 1, 1) := by decide +kernel
theorem d_lw_curve_5 : decode c_lw_curve 5 = .ok (.iload_n 2, 1) := by decide +kernel
theorem d_lw_curve_6 : decode c_lw_curve 6 = .ok (.iload_n 3, 1) := by decide +kernel
theorem d_lw_curve_7 : decode c_lw_curve 7 = .ok (.iload 4, 2) := by decide +kernel
theorem d_lw_curve_9 : decode c_lw_curve 9 = .ok (.iload 5, 2) := by decide +kernel
theorem d_lw_curve_11 : decode c_lw_curve 11 = .ok (.invokevirtual 7, 3) := by decide +kernel
theorem d_lw_curve_14 : decode c_lw_curve 14 = .ok (.i2l, 1) := by decide +kernel
theorem d_lw_curve_15 : decode c_lw_curve 15 = .ok (.lastore, 1) := by decide +kernel
theorem d_lw_curve_16 : decode c_lw_curve 16 = .ok (.goto 11, 3) := by decide +kernel
theorem d_lw_curve_19 : decode c_lw_curve 19 = .ok (.astore 7, 2) := by decide +kernel
theorem d_lw_curve_21 : decode c_lw_curve 21 = .ok (.iconst 1, 1) := by decide +kernel
theorem d_lw_curve_22 : decode c_lw_curve 22 = .ok (.ireturn, 1) := by decide +kernel
theorem d_lw_curve_23 : decode c_lw_curve 23 = .ok (.astore 7, 2) := by decide +kernel
theorem d_lw_curve_25 : decode c_lw_curve 25 = .ok (.iconst 2, 1) := by decide +kernel
theorem d_lw_curve_26 : decode c_lw_curve 26 = .ok (.ireturn, 1) := by decide +kernel
theorem d_lw_curve_27 : decode c_lw_curve 27 = .ok (.iconst 0, 1) := by decide +kernel
theorem d_lw_curve_28 : decode c_lw_curve 28 = .ok (.ireturn, 1) := by decide +kernel
theorem d_lw_modulo_0 : decode c_lw_modulo 0 = .ok (.aload_n 2, 1) := by decide +kernel
theorem d_lw_modulo_1 : decode c_lw_modulo 1 = .ok (.iconst 0, 1) := by decide +kernel
theorem d_lw_modulo_2 : decode c_lw_modulo 2 = .ok (.aload_n 0, 1) := by decide +kernel
theorem d_lw_modulo_3 : decode c_lw_modulo 3 = .ok (.iload_n 1, 1) := by decide +kernel
theorem d_lw_modulo_4 : decode c_lw_modulo 4 = .ok (.invokevirtual 17, 3) := by decide +kernel
theorem d_lw_modulo_7 : decode c_lw_modulo 7 = .ok (.i2l, 1) := by decide +kernel
theorem d_lw_modulo_8 : decode c_lw_modulo 8 = .ok (.lastore, 1) := by decide +kernel
theorem d_lw_modulo_9 : decode c_lw_modulo 9 = .ok (.goto 12, 3) := by decide +kernel
theorem d_lw_modulo_12 : decode c_lw_modulo 12 = .ok (.astore_n 3, 1) := by decide +kernel
theorem d_lw_modulo_13 : decode c_lw_modulo 13 = .ok (.iconst 1, 1) := by decide +kernel
theorem d_lw_modulo_14 : decode c_lw_modulo 14 = .ok (.ireturn, 1) := by decide +kernel
theorem d_lw_modulo_15 : decode c_lw_modulo 15 = .ok (.astore_n 3, 1) := by decide +kernel
theorem d_lw_modulo_16 : decode c_lw_modulo 16 = .ok (.iconst 2, 1) := by decide +kernel
theorem d_lw_modulo_17 : decode c_lw_modulo 17 = .ok (.ireturn, 1) := by decide +kernel
theorem d_lw_modulo_18 : decode c_lw_modulo 18 = .ok (.astore_n 3, 1) := by decide +kernel
theorem d_lw_modulo_19 : decode c_lw_modulo 19 = .ok (.iconst 3, 1) := by decide +kernel
theorem d_lw_modulo_20 : decode c_lw_modulo 20 = .ok (.ireturn, 1) := by decide +kernel
theorem d_lw_modulo_21 : decode c_lw_modulo 21 = .ok (.iconst 0, 1) := by decide +kernel
theorem d_lw_modulo_22 : decode c_lw_modulo 22 = .ok (.ireturn, 1) := by decide +kernel
theorem d_lw_law_0 : decode c_lw_law 0 = .ok (.new 8, 3) := by decide +kernel
theorem d_lw_law_3 : decode c_lw_law 3 = .ok (.dup, 1) := by decide +kernel
theorem d_lw_law_4 : decode c_lw_law 4 = .ok (.invokespecial 23, 3) := by decide +kernel
theorem d_lw_law_7 : decode c_lw_law 7 = .ok (.astore_n 1, 1) := by decide +kernel
theorem d_lw_law_8 : decode c_lw_law 8 = .ok (.new 24, 3) := by decide +kernel
theorem d_lw_law_11 : decode c_lw_law 11 = .ok (.dup, 1) := by decide +kernel
theorem d_lw_law_12 : decode c_lw_law 12 = .ok (.invokespecial 26, 3) := by decide +kernel
theorem d_lw_law_15 : decode c_lw_law 15 = .ok (.astore_n 2, 1) := by decide +kernel
theorem d_lw_law_16 : decode c_lw_law 16 = .ok (.iconst 1, 1) := by decide +kernel
theorem d_lw_law_17 : decode c_lw_law 17 = .ok (.newarray .long, 2) := by decide +kernel
theorem d_lw_law_19 : decode c_lw_law 19 = .ok (.astore_n 3, 1) := by decide +kernel
theorem d_lw_law_20 : decode c_lw_law 20 = .ok (.iconst 0, 1) := by decide +kernel
theorem d_lw_law_21 : decode c_lw_law 21 = .ok (.istore 4, 2) := by decide +kernel
theorem d_lw_law_23 : decode c_lw_law 23 = .ok (.iload 4, 2) := by decide +kernel
theorem d_lw_law_25 : decode c_lw_law 25 = .ok (.aload_n 0, 1) := by decide +kernel
theorem d_lw_law_26 : decode c_lw_law 26 = .ok (.arraylength, 1) := by decide +kernel
theorem d_lw_law_27 : decode c_lw_law 27 = .ok (.bipush 6, 2) := by decide +kernel
theorem d_lw_law_29 : decode c_lw_law 29 = .ok (.isub, 1) := by decide +kernel
theorem d_lw_law_30 : decode c_lw_law 30 = .ok (.if_icmp .gt 486, 3) := by decide +kernel
theorem d_lw_law_33 : decode c_lw_law 33 = .ok (.aload_n 0, 1) := by decide +kernel
theorem d_lw_law_34 : decode c_lw_law 34 = .ok (.iload 4, 2) := by decide +kernel
theorem d_lw_law_36 : decode c_lw_law 36 = .ok (.iaload, 1) := by decide +kernel
theorem d_lw_law_37 : decode c_lw_law 37 = .ok (.bipush 15, 2) := by decide +kernel
theorem d_lw_law_39 : decode c_lw_law 39 = .ok (.iand, 1) := by decide +kernel
theorem d_lw_law_40 : decode c_lw_law 40 = .ok (.tableswitch 470 0 10 #[60, 164, 178, 203, 216, 253, 290, 327, 364, 389, 445], 60) := by decide +kernel
theorem d_lw_law_100 : decode c_lw_law 100 = .ok (.aload_n 1, 1) := by decide +kernel
theorem d_lw_law_101 : decode c_lw_law 101 = .ok (.aload_n 0, 1) := by decide +kernel
theorem d_lw_law_102 : decode c_lw_law 102 = .ok (.iload 4, 2) := by decide +kernel
theorem d_lw_law_104 : decode c_lw_law 104 = .ok (.iconst 1, 1) := by decide +kernel
theorem d_lw_law_105 : decode c_lw_law 105 = .ok (.iadd, 1) := by decide +kernel
theorem d_lw_law_106 : decode c_lw_law 106 = .ok (.iaload, 1) := by decide +kernel
theorem d_lw_law_107 : decode c_lw_law 107 = .ok (.aload_n 0, 1) := by decide +kernel
theorem d_lw_law_108 : decode c_lw_law 108 = .ok (.iload 4, 2) := by decide +kernel
theorem d_lw_law_110 : decode c_lw_law 110 = .ok (.iconst 2, 1) := by decide +kernel
theorem d_lw_law_111 : decode c_lw_law 111 = .ok (.iadd, 1) := by decide +kernel
theorem d_lw_law_112 : decode c_lw_law 112 = .ok (.iaload, 1) := by decide +kernel
theorem d_lw_law_113 : decode c_lw_law 113 = .ok (.aload_n 0, 1) := by decide +kernel
theorem d_lw_law_114 : decode c_lw_law 114 = .ok (.iload 4, 2) := by decide +kernel
theorem d_lw_law_116 : decode c_lw_law 116 = .ok (.iconst 3, 1) := by decide +kernel
theorem d_lw_law_117 : decode c_lw_law 117 = .ok (.iadd, 1) := by decide +kernel
theorem d_lw_law_118 : decode c_lw_law 118 = .ok (.iaload, 1) := by decide +kernel
theorem d_lw_law_119 : decode c_lw_law 119 = .ok (.aload_n 0, 1) := by decide +kernel
theorem d_lw_law_120 : decode c_lw_law 120 = .ok (.iload 4, 2) := by decide +kernel
theorem d_lw_law_122 : decode c_lw_law 122 = .ok (.iconst 4, 1) := by decide +kernel
theorem d_lw_law_123 : decode c_lw_law 123 = .ok (.iadd, 1) := by decide +kernel
theorem d_lw_law_124 : decode c_lw_law 124 = .ok (.iaload, 1) := by decide +kernel
theorem d_lw_law_125 : decode c_lw_law 125 = .ok (.aload_n 0, 1) := by decide +kernel
theorem d_lw_law_126 : decode c_lw_law 126 = .ok (.iload 4, 2) := by decide +kernel
theorem d_lw_law_128 : decode c_lw_law 128 = .ok (.iconst 5, 1) := by decide +kernel
theorem d_lw_law_129 : decode c_lw_law 129 = .ok (.iadd, 1) := by decide +kernel
theorem d_lw_law_130 : decode c_lw_law 130 = .ok (.iaload, 1) := by decide +kernel
theorem d_lw_law_131 : decode c_lw_law 131 = .ok (.aload_n 3, 1) := by decide +kernel
theorem d_lw_law_132 : decode c_lw_law 132 = .ok (.invokestatic 27, 3) := by decide +kernel
theorem d_lw_law_135 : decode c_lw_law 135 = .ok (.istore 5, 2) := by decide +kernel
theorem d_lw_law_137 : decode c_lw_law 137 = .ok (.aload_n 2, 1) := by decide +kernel
theorem d_lw_law_138 : decode c_lw_law 138 = .ok (.aload_n 0, 1) := by decide +kernel
theorem d_lw_law_139 : decode c_lw_law 139 = .ok (.iload 4, 2) := by decide +kernel
theorem d_lw_law_141 : decode c_lw_law 141 = .ok (.iconst 1, 1) := by decide +kernel
theorem d_lw_law_142 : decode c_lw_law 142 = .ok (.iadd, 1) := by decide +kernel
theorem d_lw_law_143 : decode c_lw_law 143 = .ok (.iaload, 1) := by decide +kernel
theorem d_lw_law_144 : decode c_lw_law 144 = .ok (.aload_n 0, 1) := by decide +kernel
theorem d_lw_law_145 : decode c_lw_law 145 = .ok (.iload 4, 2) := by decide +kernel
theorem d_lw_law_147 : decode c_lw_law 147 = .ok (.iconst 2, 1) := by decide +kernel
theorem d_lw_law_148 : decode c_lw_law 148 = .ok (.iadd, 1) := by decide +kernel
theorem d_lw_law_149 : decode c_lw_law 149 = .ok (.iaload, 1) := by decide +kernel
theorem d_lw_law_150 : decode c_lw_law 150 = .ok (.aload_n 0, 1) := by decide +kernel
theorem d_lw_law_151 : decode c_lw_law 151 = .ok (.iload 4, 2) := by decide +kernel
theorem d_lw_law_153 : decode c_lw_law 153 = .ok (.iconst 3, 1) := by decide +kernel
theorem d_lw_law_154 : decode c_lw_law 154 = .ok (.iadd, 1) := by decide +kernel
theorem d_lw_law_155 : decode c_lw_law 155 = .ok (.iaload, 1) := by decide +kernel
theorem d_lw_law_156 : decode c_lw_law 156 = .ok (.aload_n 0, 1) := by decide +kernel
theorem d_lw_law_157 : decode c_lw_law 157 = .ok (.iload 4, 2) := by decide +kernel
theorem d_lw_law_159 : decode c_lw_law 159 = .ok (.iconst 4, 1) := by decide +kernel
theorem d_lw_law_160 : decode c_lw_law 160 = .ok (.iadd, 1) := by decide +kernel
theorem d_lw_law_161 : decode c_lw_law 161 = .ok (.iaload, 1) := by decide +kernel
theorem d_lw_law_162 : decode c_lw_law 162 = .ok (.aload_n 0, 1) := by decide +kernel
theorem d_lw_law_163 : decode c_lw_law 163 = .ok (.iload 4, 2) := by decide +kernel
theorem d_lw_law_165 : decode c_lw_law 165 = .ok (.iconst 5, 1) := by decide +kernel
theorem d_lw_law_166 : decode c_lw_law 166 = .ok (.iadd, 1) := by decide +kernel
theorem d_lw_law_167 : decode c_lw_law 167 = .ok (.iaload, 1) := by decide +kernel
theorem d_lw_law_168 : decode c_lw_law 168 = .ok (.invokevirtual 32, 3) := by decide +kernel
theorem d_lw_law_171 : decode c_lw_law 171 = .ok (.istore 6, 2) := by decide +kernel
theorem d_lw_law_173 : decode c_lw_law 173 = .ok (.aload_n 2, 1) := by decide +kernel
theorem d_lw_law_174 : decode c_lw_law 174 = .ok (.invokevirtual 33, 3) := by decide +kernel
theorem d_lw_law_177 : decode c_lw_law 177 = .ok (.iload 5, 2) := by decide +kernel
theorem d_lw_law_179 : decode c_lw_law 179 = .ok (.if_icmp .eq 5, 3) := by decide +kernel
theorem d_lw_law_182 : decode c_lw_law 182 = .ok (.iconst 0, 1) := by decide +kernel
theorem d_lw_law_183 : decode c_lw_law 183 = .ok (.ireturn, 1) := by decide +kernel
theorem d_lw_law_184 : decode c_lw_law 184 = .ok (.iload 5, 2) := by decide +kernel
theorem d_lw_law_186 : decode c_lw_law 186 = .ok (.ifCond .ne 15, 3) := by decide +kernel
theorem d_lw_law_189 : decode c_lw_law 189 = .ok (.aload_n 3, 1) := by decide +kernel
theorem d_lw_law_190 : decode c_lw_law 190 = .ok (.iconst 0, 1) := by decide +kernel
theorem d_lw_law_191 : decode c_lw_law 191 = .ok (.laload, 1) := by decide +kernel
theorem d_lw_law_192 : decode c_lw_law 192 = .ok (.iload 6, 2) := by decide +kernel
theorem d_lw_law_194 : decode c_lw_law 194 = .ok (.i2l, 1) := by decide +kernel
theorem d_lw_law_195 : decode c_lw_law 195 = .ok (.lcmp, 1) := by decide +kernel
theorem d_lw_law_196 : decode c_lw_law 196 = .ok (.ifCond .eq 5, 3) := by decide +kernel
theorem d_lw_law_199 : decode c_lw_law 199 = .ok (.iconst 0, 1) := by decide +kernel
theorem d_lw_law_200 : decode c_lw_law 200 = .ok (.ireturn, 1) := by decide +kernel
theorem d_lw_law_201 : decode c_lw_law 201 = .ok (.goto 309, 3) := by decide +kernel
theorem d_lw_law_204 : decode c_lw_law 204 = .ok (.aload_n 1, 1) := by decide +kernel
theorem d_lw_law_205 : decode c_lw_law 205 = .ok (.invokevirtual 37, 3) := by decide +kernel
theorem d_lw_law_208 : decode c_lw_law 208 = .ok (.aload_n 2, 1) := by decide +kernel
theorem d_lw_law_209 : decode c_lw_law 209 = .ok (.invokevirtual 41, 3) := by decide +kernel
theorem d_lw_law_212 : decode c_lw_law 212 = .ok (.lcmp, 1) := by decide +kernel
theorem d_lw_law_213 : decode c_lw_law 213 = .ok (.ifCond .eq 297, 3) := by decide +kernel
theorem d_lw_law_216 : decode c_lw_law 216 = .ok (.iconst 0, 1) := by decide +kernel
theorem d_lw_law_217 : decode c_lw_law 217 = .ok (.ireturn, 1) := by decide +kernel
theorem d_lw_law_218 : decode c_lw_law 218 = .ok (.aload_n 1, 1) := by decide +kernel
theorem d_lw_law_219 : decode c_lw_law 219 = .ok (.aload_n 0, 1) := by decide +kernel
theorem d_lw_law_220 : decode c_lw_law 220 = .ok (.iload 4, 2) := by decide +kernel
theorem d_lw_law_222 : decode c_lw_law 222 = .ok (.iconst 1, 1) := by decide +kernel
theorem d_lw_law_223 : decode c_lw_law 223 = .ok (.iadd, 1) := by decide +kernel
theorem d_lw_law_224 : decode c_lw_law 224 = .ok (.iaload, 1) := by decide +kernel
theorem d_lw_law_225 : decode c_lw_law 225 = .ok (.invokevirtual 42, 3) := by decide +kernel
theorem d_lw_law_228 : decode c_lw_law 228 = .ok (.aload_n 2, 1) := by decide +kernel
theorem d_lw_law_229 : decode c_lw_law 229 = .ok (.aload_n 0, 1) := by decide +kernel
theorem d_lw_law_230 : decode c_lw_law 230 = .ok (.iload 4, 2) := by decide +kernel
theorem d_lw_law_232 : decode c_lw_law 232 = .ok (.iconst 1, 1) := by decide +kernel
theorem d_lw_law_233 : decode c_lw_law 233 = .ok (.iadd, 1) := by decide +kernel
theorem d_lw_law_234 : decode c_lw_law 234 = .ok (.iaload, 1) := by decide +kernel
theorem d_lw_law_235 : decode c_lw_law 235 = .ok (.invokevirtual 45, 3) := by decide +kernel
theorem d_lw_law_238 : decode c_lw_law 238 = .ok (.if_icmp .eq 272, 3) := by decide +kernel
theorem d_lw_law_241 : decode c_lw_law 241 = .ok (.iconst 0, 1) := by decide +kernel
theorem d_lw_law_242 : decode c_lw_law 242 = .ok (.ireturn, 1) := by decide +kernel
theorem d_lw_law_243 : decode c_lw_law 243 = .ok (.aload_n 1, 1) := by decide +kernel
theorem d_lw_law_244 : decode c_lw_law 244 = .ok (.invokevirtual 46, 3) := by decide +kernel
theorem d_lw_law_247 : decode c_lw_law 247 = .ok (.aload_n 2, 1) := by decide +kernel
theorem d_lw_law_248 : decode c_lw_law 248 = .ok (.invokevirtual 49, 3) := by decide +kernel
theorem d_lw_law_251 : decode c_lw_law 251 = .ok (.if_icmp .eq 259, 3) := by decide +kernel
theorem d_lw_law_254 : decode c_lw_law 254 = .ok (.iconst 0, 1) := by decide +kernel
theorem d_lw_law_255 : decode c_lw_law 255 = .ok (.ireturn, 1) := by decide +kernel
theorem d_lw_law_256 : decode c_lw_law 256 = .ok (.aload_n 1, 1) := by decide +kernel
theorem d_lw_law_257 : decode c_lw_law 257 = .ok (.aload_n 0, 1) := by decide +kernel
theorem d_lw_law_258 : decode c_lw_law 258 = .ok (.iload 4, 2) := by decide +kernel
theorem d_lw_law_260 : decode c_lw_law 260 = .ok (.iconst 1, 1) := by decide +kernel
theorem d_lw_law_261 : decode c_lw_law 261 = .ok (.iadd, 1) := by decide +kernel
theorem d_lw_law_262 : decode c_lw_law 262 = .ok (.iaload, 1) := by decide +kernel
theorem d_lw_law_263 : decode c_lw_law 263 = .ok (.aload_n 0, 1) := by decide +kernel
theorem d_lw_law_264 : decode c_lw_law 264 = .ok (.iload 4, 2) := by decide +kernel
theorem d_lw_law_266 : decode c_lw_law 266 = .ok (.iconst 2, 1) := by decide +kernel
theorem d_lw_law_267 : decode c_lw_law 267 = .ok (.iadd, 1) := by decide +kernel
theorem d_lw_law_268 : decode c_lw_law 268 = .ok (.iaload, 1) := by decide +kernel
theorem d_lw_law_269 : decode c_lw_law 269 = .ok (.invokevirtual 50, 3) := by decide +kernel
theorem d_lw_law_272 : decode c_lw_law 272 = .ok (.aload_n 2, 1) := by decide +kernel
theorem d_lw_law_273 : decode c_lw_law 273 = .ok (.aload_n 0, 1) := by decide +kernel
theorem d_lw_law_274 : decode c_lw_law 274 = .ok (.iload 4, 2) := by decide +kernel
theorem d_lw_law_276 : decode c_lw_law 276 = .ok (.iconst 1, 1) := by decide +kernel
theorem d_lw_law_277 : decode c_lw_law 277 = .ok (.iadd, 1) := by decide +kernel
theorem d_lw_law_278 : decode c_lw_law 278 = .ok (.iaload, 1) := by decide +kernel
theorem d_lw_law_279 : decode c_lw_law 279 = .ok (.aload_n 0, 1) := by decide +kernel
theorem d_lw_law_280 : decode c_lw_law 280 = .ok (.iload 4, 2) := by decide +kernel
theorem d_lw_law_282 : decode c_lw_law 282 = .ok (.iconst 2, 1) := by decide +kernel
theorem d_lw_law_283 : decode c_lw_law 283 = .ok (.iadd, 1) := by decide +kernel
theorem d_lw_law_284 : decode c_lw_law 284 = .ok (.iaload, 1) := by decide +kernel
theorem d_lw_law_285 : decode c_lw_law 285 = .ok (.invokevirtual 54, 3) := by decide +kernel
theorem d_lw_law_288 : decode c_lw_law 288 = .ok (.if_icmp .eq 222, 3) := by decide +kernel
theorem d_lw_law_291 : decode c_lw_law 291 = .ok (.iconst 0, 1) := by decide +kernel
theorem d_lw_law_292 : decode c_lw_law 292 = .ok (.ireturn, 1) := by decide +kernel
theorem d_lw_law_293 : decode c_lw_law 293 = .ok (.aload_n 1, 1) := by decide +kernel
theorem d_lw_law_294 : decode c_lw_law 294 = .ok (.aload_n 0, 1) := by decide +kernel
theorem d_lw_law_295 : decode c_lw_law 295 = .ok (.iload 4, 2) := by decide +kernel
theorem d_lw_law_297 : decode c_lw_law 297 = .ok (.iconst 1, 1) := by decide +kernel
theorem d_lw_law_298 : decode c_lw_law 298 = .ok (.iadd, 1) := by decide +kernel
theorem d_lw_law_299 : decode c_lw_law 299 = .ok (.iaload, 1) := by decide +kernel
theorem d_lw_law_300 : decode c_lw_law 300 = .ok (.aload_n 0, 1) := by decide +kernel
theorem d_lw_law_301 : decode c_lw_law 301 = .ok (.iload 4, 2) := by decide +kernel
theorem d_lw_law_303 : decode c_lw_law 303 = .ok (.iconst 2, 1) := by decide +kernel
theorem d_lw_law_304 : decode c_lw_law 304 = .ok (.iadd, 1) := by decide +kernel
theorem d_lw_law_305 : decode c_lw_law 305 = .ok (.iaload, 1) := by decide +kernel
theorem d_lw_law_306 : decode c_lw_law 306 = .ok (.invokevirtual 55, 3) := by decide +kernel
theorem d_lw_law_309 : decode c_lw_law 309 = .ok (.aload_n 2, 1) := by decide +kernel
theorem d_lw_law_310 : decode c_lw_law 310 = .ok (.aload_n 0, 1) := by decide +kernel
theorem d_lw_law_311 : decode c_lw_law 311 = .ok (.iload 4, 2) := by decide +kernel
theorem d_lw_law_313 : decode c_lw_law 313 = .ok (.iconst 1, 1) := by decide +kernel
theorem d_lw_law_314 : decode c_lw_law 314 = .ok (.iadd, 1) := by decide +kernel
theorem d_lw_law_315 : decode c_lw_law 315 = .ok (.iaload, 1) := by decide +kernel
theorem d_lw_law_316 : decode c_lw_law 316 = .ok (.aload_n 0, 1) := by decide +kernel
theorem d_lw_law_317 : decode c_lw_law 317 = .ok (.iload 4, 2) := by decide +kernel
theorem d_lw_law_319 : decode c_lw_law 319 = .ok (.iconst 2, 1) := by decide +kernel
theorem d_lw_law_320 : decode c_lw_law 320 = .ok (.iadd, 1) := by decide +kernel
theorem d_lw_law_321 : decode c_lw_law 321 = .ok (.iaload, 1) := by decide +kernel
theorem d_lw_law_322 : decode c_lw_law 322 = .ok (.invokevirtual 58, 3) := by decide +kernel
theorem d_lw_law_325 : decode c_lw_law 325 = .ok (.if_icmp .eq 185, 3) := by decide +kernel
theorem d_lw_law_328 : decode c_lw_law 328 = .ok (.iconst 0, 1) := by decide +kernel
theorem d_lw_law_329 : decode c_lw_law 329 = .ok (.ireturn, 1) := by decide +kernel
theorem d_lw_law_330 : decode c_lw_law 330 = .ok (.aload_n 1, 1) := by decide +kernel
theorem d_lw_law_331 : decode c_lw_law 331 = .ok (.aload_n 0, 1) := by decide +kernel
theorem d_lw_law_332 : decode c_lw_law 332 = .ok (.iload 4, 2) := by decide +kernel
theorem d_lw_law_334 : decode c_lw_law 334 = .ok (.iconst 1, 1) := by decide +kernel
theorem d_lw_law_335 : decode c_lw_law 335 = .ok (.iadd, 1) := by decide +kernel
theorem d_lw_law_336 : decode c_lw_law 336 = .ok (.iaload, 1) := by decide +kernel
theorem d_lw_law_337 : decode c_lw_law 337 = .ok (.aload_n 0, 1) := by decide +kernel
theorem d_lw_law_338 : decode c_lw_law 338 = .ok (.iload 4, 2) := by decide +kernel
theorem d_lw_law_340 : decode c_lw_law 340 = .ok (.iconst 2, 1) := by decide +kernel
theorem d_lw_law_341 : decode c_lw_law 341 = .ok (.iadd, 1) := by decide +kernel
theorem d_lw_law_342 : decode c_lw_law 342 = .ok (.iaload, 1) := by decide +kernel
theorem d_lw_law_343 : decode c_lw_law 343 = .ok (.invokevirtual 59, 3) := by decide +kernel
theorem d_lw_law_346 : decode c_lw_law 346 = .ok (.aload_n 2, 1) := by decide +kernel
theorem d_lw_law_347 : decode c_lw_law 347 = .ok (.aload_n 0, 1) := by decide +kernel
theorem d_lw_law_348 : decode c_lw_law 348 = .ok (.iload 4, 2) := by decide +kernel
theorem d_lw_law_350 : decode c_lw_law 350 = .ok (.iconst 1, 1) := by decide +kernel
theorem d_lw_law_351 : decode c_lw_law 351 = .ok (.iadd, 1) := by decide +kernel
theorem d_lw_law_352 : decode c_lw_law 352 = .ok (.iaload, 1) := by decide +kernel
theorem d_lw_law_353 : decode c_lw_law 353 = .ok (.aload_n 0, 1) := by decide +kernel
theorem d_lw_law_354 : decode c_lw_law 354 = .ok (.iload 4, 2) := by decide +kernel
theorem d_lw_law_356 : decode c_lw_law 356 = .ok (.iconst 2, 1) := by decide +kernel
theorem d_lw_law_357 : decode c_lw_law 357 = .ok (.iadd, 1) := by decide +kernel
theorem d_lw_law_358 : decode c_lw_law 358 = .ok (.iaload, 1) := by decide +kernel
theorem d_lw_law_359 : decode c_lw_law 359 = .ok (.invokevirtual 62, 3) := by decide +kernel
theorem d_lw_law_362 : decode c_lw_law 362 = .ok (.if_icmp .eq 148, 3) := by decide +kernel
theorem d_lw_law_365 : decode c_lw_law 365 = .ok (.iconst 0, 1) := by decide +kernel
theorem d_lw_law_366 : decode c_lw_law 366 = .ok (.ireturn, 1) := by decide +kernel
theorem d_lw_law_367 : decode c_lw_law 367 = .ok (.aload_n 1, 1) := by decide +kernel
theorem d_lw_law_368 : decode c_lw_law 368 = .ok (.aload_n 0, 1) := by decide +kernel
theorem d_lw_law_369 : decode c_lw_law 369 = .ok (.iload 4, 2) := by decide +kernel
theorem d_lw_law_371 : decode c_lw_law 371 = .ok (.iconst 1, 1) := by decide +kernel
theorem d_lw_law_372 : decode c_lw_law 372 = .ok (.iadd, 1) := by decide +kernel
theorem d_lw_law_373 : decode c_lw_law 373 = .ok (.iaload, 1) := by decide +kernel
theorem d_lw_law_374 : decode c_lw_law 374 = .ok (.aload_n 0, 1) := by decide +kernel
theorem d_lw_law_375 : decode c_lw_law 375 = .ok (.iload 4, 2) := by decide +kernel
theorem d_lw_law_377 : decode c_lw_law 377 = .ok (.iconst 2, 1) := by decide +kernel
theorem d_lw_law_378 : decode c_lw_law 378 = .ok (.iadd, 1) := by decide +kernel
theorem d_lw_law_379 : decode c_lw_law 379 = .ok (.iaload, 1) := by decide +kernel
theorem d_lw_law_380 : decode c_lw_law 380 = .ok (.invokevirtual 63, 3) := by decide +kernel
theorem d_lw_law_383 : decode c_lw_law 383 = .ok (.aload_n 2, 1) := by decide +kernel
theorem d_lw_law_384 : decode c_lw_law 384 = .ok (.aload_n 0, 1) := by decide +kernel
theorem d_lw_law_385 : decode c_lw_law 385 = .ok (.iload 4, 2) := by decide +kernel
theorem d_lw_law_387 : decode c_lw_law 387 = .ok (.iconst 1, 1) := by decide +kernel
theorem d_lw_law_388 : decode c_lw_law 388 = .ok (.iadd, 1) := by decide +kernel
theorem d_lw_law_389 : decode c_lw_law 389 = .ok (.iaload, 1) := by decide +kernel
theorem d_lw_law_390 : decode c_lw_law 390 = .ok (.aload_n 0, 1) := by decide +kernel
theorem d_lw_law_391 : decode c_lw_law 391 = .ok (.iload 4, 2) := by decide +kernel
theorem d_lw_law_393 : decode c_lw_law 393 = .ok (.iconst 2, 1) := by decide +kernel
theorem d_lw_law_394 : decode c_lw_law 394 = .ok (.iadd, 1) := by decide +kernel
theorem d_lw_law_395 : decode c_lw_law 395 = .ok (.iaload, 1) := by decide +kernel
theorem d_lw_law_396 : decode c_lw_law 396 = .ok (.invokevirtual 66, 3) := by decide +kernel
theorem d_lw_law_399 : decode c_lw_law 399 = .ok (.if_icmp .eq 111, 3) := by decide +kernel
theorem d_lw_law_402 : decode c_lw_law 402 = .ok (.iconst 0, 1) := by decide +kernel
theorem d_lw_law_403 : decode c_lw_law 403 = .ok (.ireturn, 1) := by decide +kernel
theorem d_lw_law_404 : decode c_lw_law 404 = .ok (.aload_n 1, 1) := by decide +kernel
theorem d_lw_law_405 : decode c_lw_law 405 = .ok (.aload_n 0, 1) := by decide +kernel
theorem d_lw_law_406 : decode c_lw_law 406 = .ok (.iload 4, 2) := by decide +kernel
theorem d_lw_law_408 : decode c_lw_law 408 = .ok (.iconst 1, 1) := by decide +kernel
theorem d_lw_law_409 : decode c_lw_law 409 = .ok (.iadd, 1) := by decide +kernel
theorem d_lw_law_410 : decode c_lw_law 410 = .ok (.iaload, 1) := by decide +kernel
theorem d_lw_law_411 : decode c_lw_law 411 = .ok (.invokevirtual 67, 3) := by decide +kernel
theorem d_lw_law_414 : decode c_lw_law 414 = .ok (.aload_n 2, 1) := by decide +kernel
theorem d_lw_law_415 : decode c_lw_law 415 = .ok (.aload_n 0, 1) := by decide +kernel
theorem d_lw_law_416 : decode c_lw_law 416 = .ok (.iload 4, 2) := by decide +kernel
theorem d_lw_law_418 : decode c_lw_law 418 = .ok (.iconst 1, 1) := by decide +kernel
theorem d_lw_law_419 : decode c_lw_law 419 = .ok (.iadd, 1) := by decide +kernel
theorem d_lw_law_420 : decode c_lw_law 420 = .ok (.iaload, 1) := by decide +kernel
theorem d_lw_law_421 : decode c_lw_law 421 = .ok (.invokevirtual 70, 3) := by decide +kernel
theorem d_lw_law_424 : decode c_lw_law 424 = .ok (.if_icmp .eq 86, 3) := by decide +kernel
theorem d_lw_law_427 : decode c_lw_law 427 = .ok (.iconst 0, 1) := by decide +kernel
theorem d_lw_law_428 : decode c_lw_law 428 = .ok (.ireturn, 1) := by decide +kernel
theorem d_lw_law_429 : decode c_lw_law 429 = .ok (.aload_n 1, 1) := by decide +kernel
theorem d_lw_law_430 : decode c_lw_law 430 = .ok (.aload_n 0, 1) := by decide +kernel
theorem d_lw_law_431 : decode c_lw_law 431 = .ok (.iload 4, 2) := by decide +kernel
theorem d_lw_law_433 : decode c_lw_law 433 = .ok (.iconst 1, 1) := by decide +kernel
theorem d_lw_law_434 : decode c_lw_law 434 = .ok (.iadd, 1) := by decide +kernel
theorem d_lw_law_435 : decode c_lw_law 435 = .ok (.iaload, 1) := by decide +kernel
theorem d_lw_law_436 : decode c_lw_law 436 = .ok (.aload_n 3, 1) := by decide +kernel
theorem d_lw_law_437 : decode c_lw_law 437 = .ok (.invokestatic 71, 3) := by decide +kernel
theorem d_lw_law_440 : decode c_lw_law 440 = .ok (.istore 5, 2) := by decide +kernel
theorem d_lw_law_442 : decode c_lw_law 442 = .ok (.aload_n 2, 1) := by decide +kernel
theorem d_lw_law_443 : decode c_lw_law 443 = .ok (.aload_n 0, 1) := by decide +kernel
theorem d_lw_law_444 : decode c_lw_law 444 = .ok (.iload 4, 2) := by decide +kernel
theorem d_lw_law_446 : decode c_lw_law 446 = .ok (.iconst 1, 1) := by decide +kernel
theorem d_lw_law_447 : decode c_lw_law 447 = .ok (.iadd, 1) := by decide +kernel
theorem d_lw_law_448 : decode c_lw_law 448 = .ok (.iaload, 1) := by decide +kernel
theorem d_lw_law_449 : decode c_lw_law 449 = .ok (.invokevirtual 74, 3) := by decide +kernel
theorem d_lw_law_452 : decode c_lw_law 452 = .ok (.istore 6, 2) := by decide +kernel
theorem d_lw_law_454 : decode c_lw_law 454 = .ok (.aload_n 2, 1) := by decide +kernel
theorem d_lw_law_455 : decode c_lw_law 455 = .ok (.invokevirtual 33, 3) := by decide +kernel
theorem d_lw_law_458 : decode c_lw_law 458 = .ok (.iload 5, 2) := by decide +kernel
theorem d_lw_law_460 : decode c_lw_law 460 = .ok (.if_icmp .eq 5, 3) := by decide +kernel
theorem d_lw_law_463 : decode c_lw_law 463 = .ok (.iconst 0, 1) := by decide +kernel
theorem d_lw_law_464 : decode c_lw_law 464 = .ok (.ireturn, 1) := by decide +kernel
theorem d_lw_law_465 : decode c_lw_law 465 = .ok (.iload 5, 2) := by decide +kernel
theorem d_lw_law_467 : decode c_lw_law 467 = .ok (.ifCond .ne 15, 3) := by decide +kernel
theorem d_lw_law_470 : decode c_lw_law 470 = .ok (.aload_n 3, 1) := by decide +kernel
theorem d_lw_law_471 : decode c_lw_law 471 = .ok (.iconst 0, 1) := by decide +kernel
theorem d_lw_law_472 : decode c_lw_law 472 = .ok (.laload, 1) := by decide +kernel
theorem d_lw_law_473 : decode c_lw_law 473 = .ok (.iload 6, 2) := by decide +kernel
theorem d_lw_law_475 : decode c_lw_law 475 = .ok (.i2l, 1) := by decide +kernel
theorem d_lw_law_476 : decode c_lw_law 476 = .ok (.lcmp, 1) := by decide +kernel
theorem d_lw_law_477 : decode c_lw_law 477 = .ok (.ifCond .eq 5, 3) := by decide +kernel
theorem d_lw_law_480 : decode c_lw_law 480 = .ok (.iconst 0, 1) := by decide +kernel
theorem d_lw_law_481 : decode c_lw_law 481 = .ok (.ireturn, 1) := by decide +kernel
theorem d_lw_law_482 : decode c_lw_law 482 = .ok (.goto 28, 3) := by decide +kernel
theorem d_lw_law_485 : decode c_lw_law 485 = .ok (.aload_n 1, 1) := by decide +kernel
theorem d_lw_law_486 : decode c_lw_law 486 = .ok (.aload_n 0, 1) := by decide +kernel
theorem d_lw_law_487 : decode c_lw_law 487 = .ok (.iload 4, 2) := by decide +kernel
theorem d_lw_law_489 : decode c_lw_law 489 = .ok (.iconst 1, 1) := by decide +kernel
theorem d_lw_law_490 : decode c_lw_law 490 = .ok (.iadd, 1) := by decide +kernel
theorem d_lw_law_491 : decode c_lw_law 491 = .ok (.iaload, 1) := by decide +kernel
theorem d_lw_law_492 : decode c_lw_law 492 = .ok (.invokevirtual 75, 3) := by decide +kernel
theorem d_lw_law_495 : decode c_lw_law 495 = .ok (.aload_n 2, 1) := by decide +kernel
theorem d_lw_law_496 : decode c_lw_law 496 = .ok (.aload_n 0, 1) := by decide +kernel
theorem d_lw_law_497 : decode c_lw_law 497 = .ok (.iload 4, 2) := by decide +kernel
theorem d_lw_law_499 : decode c_lw_law 499 = .ok (.iconst 1, 1) := by decide +kernel
theorem d_lw_law_500 : decode c_lw_law 500 = .ok (.iadd, 1) := by decide +kernel
theorem d_lw_law_501 : decode c_lw_law 501 = .ok (.iaload, 1) := by decide +kernel
theorem d_lw_law_502 : decode c_lw_law 502 = .ok (.invokevirtual 78, 3) := by decide +kernel
theorem d_lw_law_505 : decode c_lw_law 505 = .ok (.if_icmp .eq 5, 3) := by decide +kernel
theorem d_lw_law_508 : decode c_lw_law 508 = .ok (.iconst 0, 1) := by decide +kernel
theorem d_lw_law_509 : decode c_lw_law 509 = .ok (.ireturn, 1) := by decide +kernel
theorem d_lw_law_510 : decode c_lw_law 510 = .ok (.iinc 4 6, 3) := by decide +kernel
theorem d_lw_law_513 : decode c_lw_law 513 = .ok (.goto (-490), 3) := by decide +kernel
theorem d_lw_law_516 : decode c_lw_law 516 = .ok (.iconst 1, 1) := by decide +kernel
theorem d_lw_law_517 : decode c_lw_law 517 = .ok (.ireturn, 1) := by decide +kernel
theorem d_ma_abs_0 : decode c_ma_abs 0 = .ok (.lload_n 0, 1) := by decide +kernel
theorem d_ma_abs_1 : decode c_ma_abs 1 = .ok (.lconst 0, 1) := by decide +kernel
theorem d_ma_abs_2 : decode c_ma_abs 2 = .ok (.lcmp, 1) := by decide +kernel
theorem d_ma_abs_3 : decode c_ma_abs 3 = .ok (.ifCond .ge 8, 3) := by decide +kernel
theorem d_ma_abs_6 : decode c_ma_abs 6 = .ok (.lload_n 0, 1) := by decide +kernel
theorem d_ma_abs_7 : decode c_ma_abs 7 = .ok (.lneg, 1) := by decide +kernel
theorem d_ma_abs_8 : decode c_ma_abs 8 = .ok (.goto 4, 3) := by decide +kernel
theorem d_ma_abs_11 : decode c_ma_abs 11 = .ok (.lload_n 0, 1) := by decide +kernel
theorem d_ma_abs_12 : decode c_ma_abs 12 = .ok (.lreturn, 1) := by decide +kernel
theorem d_ma_max_0 : decode c_ma_max 0 = .ok (.iload_n 0, 1) := by decide +kernel
theorem d_ma_max_1 : decode c_ma_max 1 = .ok (.iload_n 1, 1) := by decide +kernel
theorem d_ma_max_2 : decode c_ma_max 2 = .ok (.if_icmp .lt 7, 3) := by decide +kernel
theorem d_ma_max_5 : decode c_ma_max 5 = .ok (.iload_n 0, 1) := by decide +kernel
theorem d_ma_max_6 : decode c_ma_max 6 = .ok (.goto 4, 3) := by decide +kernel
theorem d_ma_max_9 : decode c_ma_max 9 = .ok (.iload_n 1, 1) := by decide +kernel
theorem d_ma_max_10 : decode c_ma_max 10 = .ok (.ireturn, 1) := by decide +kernel
theorem d_ma_floorMod_IIx_0 : decode c_ma_floorMod_IIx 0 = .ok (.iload_n 0, 1) := by decide +kernel
theorem d_ma_floorMod_IIx_1 : decode c_ma_floorMod_IIx 1 = .ok (.iload_n 1, 1) := by decide +kernel
theorem d_ma_floorMod_IIx_2 : decode c_ma_floorMod_IIx 2 = .ok (.irem, 1) := by decide +kernel
theorem d_ma_floorMod_IIx_3 : decode c_ma_floorMod_IIx 3 = .ok (.istore_n 2, 1) := by decide +kernel
theorem d_ma_floorMod_IIx_4 : decode c_ma_floorMod_IIx 4 = .ok (.iload_n 0, 1) := by decide +kernel
theorem d_ma_floorMod_IIx_5 : decode c_ma_floorMod_IIx 5 = .ok (.iload_n 1, 1) := by decide +kernel
theorem d_ma_floorMod_IIx_6 : decode c_ma_floorMod_IIx 6 = .ok (.ixor, 1) := by decide +kernel
theorem d_ma_floorMod_IIx_7 : decode c_ma_floorMod_IIx 7 = .ok (.ifCond .ge 11, 3) := by decide +kernel
theorem d_ma_floorMod_IIx_10 : decode c_ma_floorMod_IIx 10 = .ok (.iload_n 2, 1) := by decide +kernel
theorem d_ma_floorMod_IIx_11 : decode c_ma_floorMod_IIx 11 = .ok (.ifCond .eq 7, 3) := by decide +kernel
theorem d_ma_floorMod_IIx_14 : decode c_ma_floorMod_IIx 14 = .ok (.iload_n 2, 1) := by decide +kernel
theorem d_ma_floorMod_IIx_15 : decode c_ma_floorMod_IIx 15 = .ok (.iload_n 1, 1) := by decide +kernel
theorem d_ma_floorMod_IIx_16 : decode c_ma_floorMod_IIx 16 = .ok (.iadd, 1) := by decide +kernel
theorem d_ma_floorMod_IIx_17 : decode c_ma_floorMod_IIx 17 = .ok (.ireturn, 1) := by decide +kernel
theorem d_ma_floorMod_IIx_18 : decode c_ma_floorMod_IIx 18 = .ok (.iload_n 2, 1) := by decide +kernel
theorem d_ma_floorMod_IIx_19 : decode c_ma_floorMod_IIx 19 = .ok (.ireturn, 1) := by decide +kernel
theorem d_ma_floorMod_JJx_0 : decode c_ma_floorMod_JJx 0 = .ok (.lload_n 0, 1) := by decide +kernel
theorem d_ma_floorMod_JJx_1 : decode c_ma_floorMod_JJx 1 = .ok (.lload_n 2, 1) := by decide +kernel
theorem d_ma_floorMod_JJx_2 : decode c_ma_floorMod_JJx 2 = .ok (.lrem, 1) := by decide +kernel
theorem d_ma_floorMod_JJx_3 : decode c_ma_floorMod_JJx 3 = .ok (.lstore 4, 2) := by decide +kernel
theorem d_ma_floorMod_JJx_5 : decode c_ma_floorMod_JJx 5 = .ok (.lload_n 0, 1) := by decide +kernel
theorem d_ma_floorMod_JJx_6 : decode c_ma_floorMod_JJx 6 = .ok (.lload_n 2, 1) := by decide +kernel
theorem d_ma_floorMod_JJx_7 : decode c_ma_floorMod_JJx 7 = .ok (.lxor, 1) := by decide +kernel
theorem d_ma_floorMod_JJx_8 : decode c_ma_floorMod_JJx 8 = .ok (.lconst 0, 1) := by decide +kernel
theorem d_ma_floorMod_JJx_9 : decode c_ma_floorMod_JJx 9 = .ok (.lcmp, 1) := by decide +kernel
theorem d_ma_floorMod_JJx_10 : decode c_ma_floorMod_JJx 10 = .ok (.ifCond .ge 15, 3) := by decide +kernel
theorem d_ma_floorMod_JJx_13 : decode c_ma_floorMod_JJx 13 = .ok (.lload 4, 2) := by decide +kernel
theorem d_ma_floorMod_JJx_15 : decode c_ma_floorMod_JJx 15 = .ok (.lconst 0, 1) := by decide +kernel
theorem d_ma_floorMod_JJx_16 : decode c_ma_floorMod_JJx 16 = .ok (.lcmp, 1) := by decide +kernel
theorem d_ma_floorMod_JJx_17 : decode c_ma_floorMod_JJx 17 = .ok (.ifCond .eq 8, 3) := by decide +kernel
theorem d_ma_floorMod_JJx_20 : decode c_ma_floorMod_JJx 20 = .ok (.lload 4, 2) := by decide +kernel
theorem d_ma_floorMod_JJx_22 : decode c_ma_floorMod_JJx 22 = .ok (.lload_n 2, 1) := by decide +kernel
theorem d_ma_floorMod_JJx_23 : decode c_ma_floorMod_JJx 23 = .ok (.ladd, 1) := by decide +kernel
theorem d_ma_floorMod_JJx_24 : decode c_ma_floorMod_JJx 24 = .ok (.lreturn, 1) := by decide +kernel
theorem d_ma_floorMod_JJx_25 : decode c_ma_floorMod_JJx 25 = .ok (.lload 4, 2) := by decide +kernel
theorem d_ma_floorMod_JJx_27 : decode c_ma_floorMod_JJx 27 = .ok (.lreturn, 1) := by decide +kernel
theorem d_ar_fill_0 : decode c_ar_fill 0 = .ok (.iconst 0, 1) := by decide +kernel
theorem d_ar_fill_1 : decode c_ar_fill 1 = .ok (.istore_n 2, 1) := by decide +kernel
theorem d_ar_fill_2 : decode c_ar_fill 2 = .ok (.aload_n 0, 1) := by decide +kernel
theorem d_ar_fill_3 : decode c_ar_fill 3 = .ok (.arraylength, 1) := by decide +kernel
theorem d_ar_fill_4 : decode c_ar_fill 4 = .ok (.istore_n 3, 1) := by decide +kernel
theorem d_ar_fill_5 : decode c_ar_fill 5 = .ok (.iload_n 2, 1) := by decide +kernel
theorem d_ar_fill_6 : decode c_ar_fill 6 = .ok (.iload_n 3, 1) := by decide +kernel
theorem d_ar_fill_7 : decode c_ar_fill 7 = .ok (.if_icmp .ge 13, 3) := by decide +kernel
theorem d_ar_fill_10 : decode c_ar_fill 10 = .ok (.aload_n 0, 1) := by decide +kernel
theorem d_ar_fill_11 : decode c_ar_fill 11 = .ok (.iload_n 2, 1) := by decide +kernel
theorem d_ar_fill_12 : decode c_ar_fill 12 = .ok (.iload_n 1, 1) := by decide +kernel
theorem d_ar_fill_13 : decode c_ar_fill 13 = .ok (.iastore, 1) := by decide +kernel
theorem d_ar_fill_14 : decode c_ar_fill 14 = .ok (.iinc 2 1, 3) := by decide +kernel
theorem d_ar_fill_17 : decode c_ar_fill 17 = .ok (.goto (-12), 3) := by decide +kernel
theorem d_ar_fill_20 : decode c_ar_fill 20 = .ok (.return_, 1) := by decide +kernel
