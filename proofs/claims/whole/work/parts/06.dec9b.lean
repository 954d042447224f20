theorem dX9_sum_17 : decode cX9_sum 17 = .ok (.lstore_n 2, 1) := by decide +kernel
theorem dX9_sum_18 : decode cX9_sum 18 = .ok (.iconst 2, 1) := by decide +kernel
theorem dX9_sum_19 : decode cX9_sum 19 = .ok (.istore 4, 2) := by decide +kernel
theorem dX9_sum_21 : decode cX9_sum 21 = .ok (.iload 4, 2) := by decide +kernel
theorem dX9_sum_23 : decode cX9_sum 23 = .ok (.iload_n 1, 1) := by decide +kernel
theorem dX9_sum_24 : decode cX9_sum 24 = .ok (.if_icmp .gt 29, 3) := by decide +kernel
theorem dX9_sum_27 : decode cX9_sum 27 = .ok (.lload_n 2, 1) := by decide +kernel
theorem dX9_sum_28 : decode cX9_sum 28 = .ok (.aload_n 0, 1) := by decide +kernel
theorem dX9_sum_29 : decode cX9_sum 29 = .ok (.getfield 14, 3) := by decide +kernel
theorem dX9_sum_32 : decode cX9_sum 32 = .ok (.iload 4, 2) := by decide +kernel
theorem dX9_sum_34 : decode cX9_sum 34 = .ok (.baload, 1) := by decide +kernel
theorem dX9_sum_35 : decode cX9_sum 35 = .ok (.ifCond .eq 7, 3) := by decide +kernel
theorem dX9_sum_38 : decode cX9_sum 38 = .ok (.lconst 0, 1) := by decide +kernel
theorem dX9_sum_39 : decode cX9_sum 39 = .ok (.goto 6, 3) := by decide +kernel
theorem dX9_sum_42 : decode cX9_sum 42 = .ok (.iload 4, 2) := by decide +kernel
theorem dX9_sum_44 : decode cX9_sum 44 = .ok (.i2l, 1) := by decide +kernel
theorem dX9_sum_45 : decode cX9_sum 45 = .ok (.ladd, 1) := by decide +kernel
theorem dX9_sum_46 : decode cX9_sum 46 = .ok (.lstore_n 2, 1) := by decide +kernel
theorem dX9_sum_47 : decode cX9_sum 47 = .ok (.iinc 4 1, 3) := by decide +kernel
theorem dX9_sum_50 : decode cX9_sum 50 = .ok (.goto (-29), 3) := by decide +kernel
theorem dX9_sum_53 : decode cX9_sum 53 = .ok (.lload_n 2, 1) := by decide +kernel
theorem dX9_sum_54 : decode cX9_sum 54 = .ok (.lreturn, 1) := by decide +kernel
theorem dX9_among_0 : decode cX9_among 0 = .ok (.iload_n 1, 1) := by decide +kernel
theorem dX9_among_1 : decode cX9_among 1 = .ok (.i2l, 1) := by decide +kernel
theorem dX9_among_2 : decode cX9_among 2 = .ok (.lconst 0, 1) := by decide +kernel
theorem dX9_among_3 : decode cX9_among 3 = .ok (.ldc2_w 100, 3) := by decide +kernel
theorem dX9_among_6 : decode cX9_among 6 = .ok (.invokestatic 61, 3) := by decide +kernel
theorem dX9_among_9 : decode cX9_among 9 = .ok (.ifCond .eq 28, 3) := by decide +kernel
theorem dX9_among_12 : decode cX9_among 12 = .ok (.iload_n 2, 1) := by decide +kernel
theorem dX9_among_13 : decode cX9_among 13 = .ok (.i2l, 1) := by decide +kernel
theorem dX9_among_14 : decode cX9_among 14 = .ok (.lconst 1, 1) := by decide +kernel
theorem dX9_among_15 : decode cX9_among 15 = .ok (.ldc2_w 102, 3) := by decide +kernel
theorem dX9_among_18 : decode cX9_among 18 = .ok (.invokestatic 61, 3) := by decide +kernel
theorem dX9_among_21 : decode cX9_among 21 = .ok (.ifCond .eq 16, 3) := by decide +kernel
theorem dX9_among_24 : decode cX9_among 24 = .ok (.iload_n 3, 1) := by decide +kernel
theorem dX9_among_25 : decode cX9_among 25 = .ok (.i2l, 1) := by decide +kernel
theorem dX9_among_26 : decode cX9_among 26 = .ok (.lconst 0, 1) := by decide +kernel
theorem dX9_among_27 : decode cX9_among 27 = .ok (.iload_n 2, 1) := by decide +kernel
theorem dX9_among_28 : decode cX9_among 28 = .ok (.iconst 1, 1) := by decide +kernel
theorem dX9_among_29 : decode cX9_among 29 = .ok (.isub, 1) := by decide +kernel
theorem dX9_among_30 : decode cX9_among 30 = .ok (.i2l, 1) := by decide +kernel
theorem dX9_among_31 : decode cX9_among 31 = .ok (.invokestatic 61, 3) := by decide +kernel
theorem dX9_among_34 : decode cX9_among 34 = .ok (.ifCond .ne 5, 3) := by decide +kernel
theorem dX9_among_37 : decode cX9_among 37 = .ok (.iconst (-1), 1) := by decide +kernel
theorem dX9_among_38 : decode cX9_among 38 = .ok (.ireturn, 1) := by decide +kernel
theorem dX9_among_39 : decode cX9_among 39 = .ok (.iconst 0, 1) := by decide +kernel
theorem dX9_among_40 : decode cX9_among 40 = .ok (.istore 4, 2) := by decide +kernel
theorem dX9_among_42 : decode cX9_among 42 = .ok (.iconst 2, 1) := by decide +kernel
theorem dX9_among_43 : decode cX9_among 43 = .ok (.istore 5, 2) := by decide +kernel
theorem dX9_among_45 : decode cX9_among 45 = .ok (.iload 5, 2) := by decide +kernel
theorem dX9_among_47 : decode cX9_among 47 = .ok (.iload_n 1, 1) := by decide +kernel
theorem dX9_among_48 : decode cX9_among 48 = .ok (.if_icmp .gt 37, 3) := by decide +kernel
theorem dX9_among_51 : decode cX9_among 51 = .ok (.iload 4, 2) := by decide +kernel
theorem dX9_among_53 : decode cX9_among 53 = .ok (.aload_n 0, 1) := by decide +kernel
theorem dX9_among_54 : decode cX9_among 54 = .ok (.getfield 14, 3) := by decide +kernel
theorem dX9_among_57 : decode cX9_among 57 = .ok (.iload 5, 2) := by decide +kernel
theorem dX9_among_59 : decode cX9_among 59 = .ok (.baload, 1) := by decide +kernel
theorem dX9_among_60 : decode cX9_among 60 = .ok (.ifCond .ne 15, 3) := by decide +kernel
theorem dX9_among_63 : decode cX9_among 63 = .ok (.iload 5, 2) := by decide +kernel
theorem dX9_among_65 : decode cX9_among 65 = .ok (.iload_n 2, 1) := by decide +kernel
theorem dX9_among_66 : decode cX9_among 66 = .ok (.irem, 1) := by decide +kernel
theorem dX9_among_67 : decode cX9_among 67 = .ok (.iload_n 3, 1) := by decide +kernel
theorem dX9_among_68 : decode cX9_among 68 = .ok (.if_icmp .ne 7, 3) := by decide +kernel
theorem dX9_among_71 : decode cX9_among 71 = .ok (.iconst 1, 1) := by decide +kernel
theorem dX9_among_72 : decode cX9_among 72 = .ok (.goto 4, 3) := by decide +kernel
theorem dX9_among_75 : decode cX9_among 75 = .ok (.iconst 0, 1) := by decide +kernel
theorem dX9_among_76 : decode cX9_among 76 = .ok (.iadd, 1) := by decide +kernel
theorem dX9_among_77 : decode cX9_among 77 = .ok (.istore 4, 2) := by decide +kernel
theorem dX9_among_79 : decode cX9_among 79 = .ok (.iinc 5 1, 3) := by decide +kernel
theorem dX9_among_82 : decode cX9_among 82 = .ok (.goto (-37), 3) := by decide +kernel
theorem dX9_among_85 : decode cX9_among 85 = .ok (.iload 4, 2) := by decide +kernel
theorem dX9_among_87 : decode cX9_among 87 = .ok (.ireturn, 1) := by decide +kernel
theorem dX9_pairs_0 : decode cX9_pairs 0 = .ok (.lload_n 0, 1) := by decide +kernel
theorem dX9_pairs_1 : decode cX9_pairs 1 = .ok (.ldc2_w 57, 3) := by decide +kernel
theorem dX9_pairs_4 : decode cX9_pairs 4 = .ok (.lrem, 1) := by decide +kernel
theorem dX9_pairs_5 : decode cX9_pairs 5 = .ok (.lconst 0, 1) := by decide +kernel
theorem dX9_pairs_6 : decode cX9_pairs 6 = .ok (.lcmp, 1) := by decide +kernel
theorem dX9_pairs_7 : decode cX9_pairs 7 = .ok (.ifCond .ne 15, 3) := by decide +kernel
theorem dX9_pairs_10 : decode cX9_pairs 10 = .ok (.lload_n 0, 1) := by decide +kernel
theorem dX9_pairs_11 : decode cX9_pairs 11 = .ok (.ldc2_w 57, 3) := by decide +kernel
theorem dX9_pairs_14 : decode cX9_pairs 14 = .ok (.ldiv, 1) := by decide +kernel
theorem dX9_pairs_15 : decode cX9_pairs 15 = .ok (.lload_n 0, 1) := by decide +kernel
theorem dX9_pairs_16 : decode cX9_pairs 16 = .ok (.lconst 1, 1) := by decide +kernel
theorem dX9_pairs_17 : decode cX9_pairs 17 = .ok (.lsub, 1) := by decide +kernel
theorem dX9_pairs_18 : decode cX9_pairs 18 = .ok (.lmul, 1) := by decide +kernel
theorem dX9_pairs_19 : decode cX9_pairs 19 = .ok (.goto 12, 3) := by decide +kernel
theorem dX9_pairs_22 : decode cX9_pairs 22 = .ok (.lload_n 0, 1) := by decide +kernel
theorem dX9_pairs_23 : decode cX9_pairs 23 = .ok (.lconst 1, 1) := by decide +kernel
theorem dX9_pairs_24 : decode cX9_pairs 24 = .ok (.lsub, 1) := by decide +kernel
theorem dX9_pairs_25 : decode cX9_pairs 25 = .ok (.ldc2_w 57, 3) := by decide +kernel
theorem dX9_pairs_28 : decode cX9_pairs 28 = .ok (.ldiv, 1) := by decide +kernel
theorem dX9_pairs_29 : decode cX9_pairs 29 = .ok (.lload_n 0, 1) := by decide +kernel
theorem dX9_pairs_30 : decode cX9_pairs 30 = .ok (.lmul, 1) := by decide +kernel
theorem dX9_pairs_31 : decode cX9_pairs 31 = .ok (.lreturn, 1) := by decide +kernel
theorem dX9_floors_0 : decode cX9_floors 0 = .ok (.iload_n 1, 1) := by decide +kernel
theorem dX9_floors_1 : decode cX9_floors 1 = .ok (.i2l, 1) := by decide +kernel
theorem dX9_floors_2 : decode cX9_floors 2 = .ok (.lconst 0, 1) := by decide +kernel
theorem dX9_floors_3 : decode cX9_floors 3 = .ok (.ldc2_w 104, 3) := by decide +kernel
theorem dX9_floors_6 : decode cX9_floors 6 = .ok (.invokestatic 61, 3) := by decide +kernel
theorem dX9_floors_9 : decode cX9_floors 9 = .ok (.ifCond .eq 40, 3) := by decide +kernel
theorem dX9_floors_12 : decode cX9_floors 12 = .ok (.iload_n 2, 1) := by decide +kernel
theorem dX9_floors_13 : decode cX9_floors 13 = .ok (.i2l, 1) := by decide +kernel
theorem dX9_floors_14 : decode cX9_floors 14 = .ok (.lconst 0, 1) := by decide +kernel
theorem dX9_floors_15 : decode cX9_floors 15 = .ok (.ldc2_w 106, 3) := by decide +kernel
theorem dX9_floors_18 : decode cX9_floors 18 = .ok (.invokestatic 61, 3) := by decide +kernel
theorem dX9_floors_21 : decode cX9_floors 21 = .ok (.ifCond .eq 28, 3) := by decide +kernel
theorem dX9_floors_24 : decode cX9_floors 24 = .ok (.iload_n 3, 1) := by decide +kernel
theorem dX9_floors_25 : decode cX9_floors 25 = .ok (.i2l, 1) := by decide +kernel
theorem dX9_floors_26 : decode cX9_floors 26 = .ok (.lconst 0, 1) := by decide +kernel
theorem dX9_floors_27 : decode cX9_floors 27 = .ok (.ldc2_w 106, 3) := by decide +kernel
theorem dX9_floors_30 : decode cX9_floors 30 = .ok (.invokestatic 61, 3) := by decide +kernel
theorem dX9_floors_33 : decode cX9_floors 33 = .ok (.ifCond .eq 16, 3) := by decide +kernel
theorem dX9_floors_36 : decode cX9_floors 36 = .ok (.iload 4, 2) := by decide +kernel
theorem dX9_floors_38 : decode cX9_floors 38 = .ok (.i2l, 1) := by decide +kernel
theorem dX9_floors_39 : decode cX9_floors 39 = .ok (.lconst 1, 1) := by decide +kernel
theorem dX9_floors_40 : decode cX9_floors 40 = .ok (.ldc2_w 106, 3) := by decide +kernel
theorem dX9_floors_43 : decode cX9_floors 43 = .ok (.invokestatic 61, 3) := by decide +kernel
theorem dX9_floors_46 : decode cX9_floors 46 = .ok (.ifCond .ne 7, 3) := by decide +kernel
theorem dX9_floors_49 : decode cX9_floors 49 = .ok (.ldc2_w 92, 3) := by decide +kernel
theorem dX9_floors_52 : decode cX9_floors 52 = .ok (.lreturn, 1) := by decide +kernel
theorem dX9_floors_53 : decode cX9_floors 53 = .ok (.iload_n 1, 1) := by decide +kernel
theorem dX9_floors_54 : decode cX9_floors 54 = .ok (.i2l, 1) := by decide +kernel
theorem dX9_floors_55 : decode cX9_floors 55 = .ok (.lstore 5, 2) := by decide +kernel
theorem dX9_floors_57 : decode cX9_floors 57 = .ok (.iload_n 2, 1) := by decide +kernel
theorem dX9_floors_58 : decode cX9_floors 58 = .ok (.i2l, 1) := by decide +kernel
theorem dX9_floors_59 : decode cX9_floors 59 = .ok (.lstore 7, 2) := by decide +kernel
theorem dX9_floors_61 : decode cX9_floors 61 = .ok (.iload_n 3, 1) := by decide +kernel
theorem dX9_floors_62 : decode cX9_floors 62 = .ok (.i2l, 1) := by decide +kernel
theorem dX9_floors_63 : decode cX9_floors 63 = .ok (.lstore 9, 2) := by decide +kernel
theorem dX9_floors_65 : decode cX9_floors 65 = .ok (.iload 4, 2) := by decide +kernel
theorem dX9_floors_67 : decode cX9_floors 67 = .ok (.i2l, 1) := by decide +kernel
theorem dX9_floors_68 : decode cX9_floors 68 = .ok (.lstore 11, 2) := by decide +kernel
theorem dX9_floors_70 : decode cX9_floors 70 = .ok (.lconst 0, 1) := by decide +kernel
theorem dX9_floors_71 : decode cX9_floors 71 = .ok (.lstore 13, 2) := by decide +kernel
theorem dX9_floors_73 : decode cX9_floors 73 = .ok (.iconst 1, 1) := by decide +kernel
theorem dX9_floors_74 : decode cX9_floors 74 = .ok (.istore 15, 2) := by decide +kernel
theorem dX9_floors_76 : decode cX9_floors 76 = .ok (.iload 15, 2) := by decide +kernel
theorem dX9_floors_78 : decode cX9_floors 78 = .ok (.ifCond .eq 101, 3) := by decide +kernel
theorem dX9_floors_81 : decode cX9_floors 81 = .ok (.lload 13, 2) := by decide +kernel
theorem dX9_floors_83 : decode cX9_floors 83 = .ok (.lload 5, 2) := by decide +kernel
theorem dX9_floors_85 : decode cX9_floors 85 = .ok (.invokestatic 108, 3) := by decide +kernel
theorem dX9_floors_88 : decode cX9_floors 88 = .ok (.lload 7, 2) := by decide +kernel
theorem dX9_floors_90 : decode cX9_floors 90 = .ok (.lload 11, 2) := by decide +kernel
theorem dX9_floors_92 : decode cX9_floors 92 = .ok (.ldiv, 1) := by decide +kernel
theorem dX9_floors_93 : decode cX9_floors 93 = .ok (.lmul, 1) := by decide +kernel
theorem dX9_floors_94 : decode cX9_floors 94 = .ok (.lload 5, 2) := by decide +kernel
theorem dX9_floors_96 : decode cX9_floors 96 = .ok (.lload 9, 2) := by decide +kernel
theorem dX9_floors_98 : decode cX9_floors 98 = .ok (.lload 11, 2) := by decide +kernel
theorem dX9_floors_100 : decode cX9_floors 100 = .ok (.ldiv, 1) := by decide +kernel
theorem dX9_floors_101 : decode cX9_floors 101 = .ok (.lmul, 1) := by decide +kernel
theorem dX9_floors_102 : decode cX9_floors 102 = .ok (.ladd, 1) := by decide +kernel
theorem dX9_floors_103 : decode cX9_floors 103 = .ok (.ladd, 1) := by decide +kernel
theorem dX9_floors_104 : decode cX9_floors 104 = .ok (.lstore 13, 2) := by decide +kernel
theorem dX9_floors_106 : decode cX9_floors 106 = .ok (.lload 7, 2) := by decide +kernel
theorem dX9_floors_108 : decode cX9_floors 108 = .ok (.lload 11, 2) := by decide +kernel
theorem dX9_floors_110 : decode cX9_floors 110 = .ok (.lrem, 1) := by decide +kernel
theorem dX9_floors_111 : decode cX9_floors 111 = .ok (.lstore 7, 2) := by decide +kernel
theorem dX9_floors_113 : decode cX9_floors 113 = .ok (.lload 9, 2) := by decide +kernel
theorem dX9_floors_115 : decode cX9_floors 115 = .ok (.lload 11, 2) := by decide +kernel
theorem dX9_floors_117 : decode cX9_floors 117 = .ok (.lrem, 1) := by decide +kernel
theorem dX9_floors_118 : decode cX9_floors 118 = .ok (.lstore 9, 2) := by decide +kernel
theorem dX9_floors_120 : decode cX9_floors 120 = .ok (.lload 7, 2) := by decide +kernel
theorem dX9_floors_122 : decode cX9_floors 122 = .ok (.lload 5, 2) := by decide +kernel
theorem dX9_floors_124 : decode cX9_floors 124 = .ok (.lmul, 1) := by decide +kernel
theorem dX9_floors_125 : decode cX9_floors 125 = .ok (.lload 9, 2) := by decide +kernel
theorem dX9_floors_127 : decode cX9_floors 127 = .ok (.ladd, 1) := by decide +kernel
theorem dX9_floors_128 : decode cX9_floors 128 = .ok (.lstore 16, 2) := by decide +kernel
theorem dX9_floors_130 : decode cX9_floors 130 = .ok (.lload 16, 2) := by decide +kernel
theorem dX9_floors_132 : decode cX9_floors 132 = .ok (.lload 11, 2) := by decide +kernel
theorem dX9_floors_134 : decode cX9_floors 134 = .ok (.lcmp, 1) := by decide +kernel
theorem dX9_floors_135 : decode cX9_floors 135 = .ok (.ifCond .lt 7, 3) := by decide +kernel
theorem dX9_floors_138 : decode cX9_floors 138 = .ok (.iconst 1, 1) := by decide +kernel
theorem dX9_floors_139 : decode cX9_floors 139 = .ok (.goto 4, 3) := by decide +kernel
theorem dX9_floors_142 : decode cX9_floors 142 = .ok (.iconst 0, 1) := by decide +kernel
theorem dX9_floors_143 : decode cX9_floors 143 = .ok (.istore 15, 2) := by decide +kernel
theorem dX9_floors_145 : decode cX9_floors 145 = .ok (.iload 15, 2) := by decide +kernel
theorem dX9_floors_147 : decode cX9_floors 147 = .ok (.ifCond .eq 29, 3) := by decide +kernel
theorem dX9_floors_150 : decode cX9_floors 150 = .ok (.lload 16, 2) := by decide +kernel
theorem dX9_floors_152 : decode cX9_floors 152 = .ok (.lload 11, 2) := by decide +kernel
theorem dX9_floors_154 : decode cX9_floors 154 = .ok (.ldiv, 1) := by decide +kernel
theorem dX9_floors_155 : decode cX9_floors 155 = .ok (.lstore 5, 2) := by decide +kernel
theorem dX9_floors_157 : decode cX9_floors 157 = .ok (.lload 16, 2) := by decide +kernel
theorem dX9_floors_159 : decode cX9_floors 159 = .ok (.lload 11, 2) := by decide +kernel
theorem dX9_floors_161 : decode cX9_floors 161 = .ok (.lrem, 1) := by decide +kernel
theorem dX9_floors_162 : decode cX9_floors 162 = .ok (.lstore 9, 2) := by decide +kernel
theorem dX9_floors_164 : decode cX9_floors 164 = .ok (.lload 11, 2) := by decide +kernel
theorem dX9_floors_166 : decode cX9_floors 166 = .ok (.lstore 18, 2) := by decide +kernel
theorem dX9_floors_168 : decode cX9_floors 168 = .ok (.lload 7, 2) := by decide +kernel
theorem dX9_floors_170 : decode cX9_floors 170 = .ok (.lstore 11, 2) := by decide +kernel
theorem dX9_floors_172 : decode cX9_floors 172 = .ok (.lload 18, 2) := by decide +kernel
theorem dX9_floors_174 : decode cX9_floors 174 = .ok (.lstore 7, 2) := by decide +kernel
theorem dX9_floors_176 : decode cX9_floors 176 = .ok (.goto (-100), 3) := by decide +kernel
theorem dX9_floors_179 : decode cX9_floors 179 = .ok (.lload 13, 2) := by decide +kernel
theorem dX9_floors_181 : decode cX9_floors 181 = .ok (.lreturn, 1) := by decide +kernel
theorem dX9_points_0 : decode cX9_points 0 = .ok (.lload_n 1, 1) := by decide +kernel
theorem dX9_points_1 : decode cX9_points 1 = .ok (.lconst 0, 1) := by decide +kernel
theorem dX9_points_2 : decode cX9_points 2 = .ok (.ldc2_w 65, 3) := by decide +kernel
theorem dX9_points_5 : decode cX9_points 5 = .ok (.invokestatic 61, 3) := by decide +kernel
theorem dX9_points_8 : decode cX9_points 8 = .ok (.ifCond .ne 7, 3) := by decide +kernel
theorem dX9_points_11 : decode cX9_points 11 = .ok (.ldc2_w 92, 3) := by decide +kernel
theorem dX9_points_14 : decode cX9_points 14 = .ok (.lreturn, 1) := by decide +kernel
theorem dX9_points_15 : decode cX9_points 15 = .ok (.lconst 0, 1) := by decide +kernel
theorem dX9_points_16 : decode cX9_points 16 = .ok (.lstore_n 3, 1) := by decide +kernel
theorem dX9_points_17 : decode cX9_points 17 = .ok (.lconst 1, 1) := by decide +kernel
theorem dX9_points_18 : decode cX9_points 18 = .ok (.lstore 5, 2) := by decide +kernel
theorem dX9_points_20 : decode cX9_points 20 = .ok (.lload 5, 2) := by decide +kernel
theorem dX9_points_22 : decode cX9_points 22 = .ok (.lload 5, 2) := by decide +kernel
theorem dX9_points_24 : decode cX9_points 24 = .ok (.lmul, 1) := by decide +kernel
theorem dX9_points_25 : decode cX9_points 25 = .ok (.lload_n 1, 1) := by decide +kernel
theorem dX9_points_26 : decode cX9_points 26 = .ok (.lcmp, 1) := by decide +kernel
theorem dX9_points_27 : decode cX9_points 27 = .ok (.ifCond .gt 28, 3) := by decide +kernel
theorem dX9_points_30 : decode cX9_points 30 = .ok (.lload_n 3, 1) := by decide +kernel
theorem dX9_points_31 : decode cX9_points 31 = .ok (.ldc2_w 57, 3) := by decide +kernel
theorem dX9_points_34 : decode cX9_points 34 = .ok (.lload_n 1, 1) := by decide +kernel
theorem dX9_points_35 : decode cX9_points 35 = .ok (.lload 5, 2) := by decide +kernel
theorem dX9_points_37 : decode cX9_points 37 = .ok (.ldiv, 1) := by decide +kernel
theorem dX9_points_38 : decode cX9_points 38 = .ok (.lload 5, 2) := by decide +kernel
theorem dX9_points_40 : decode cX9_points 40 = .ok (.lsub, 1) := by decide +kernel
theorem dX9_points_41 : decode cX9_points 41 = .ok (.lmul, 1) := by decide +kernel
theorem dX9_points_42 : decode cX9_points 42 = .ok (.lconst 1, 1) := by decide +kernel
theorem dX9_points_43 : decode cX9_points 43 = .ok (.ladd, 1) := by decide +kernel
theorem dX9_points_44 : decode cX9_points 44 = .ok (.ladd, 1) := by decide +kernel
theorem dX9_points_45 : decode cX9_points 45 = .ok (.lstore_n 3, 1) := by decide +kernel
theorem dX9_points_46 : decode cX9_points 46 = .ok (.lload 5, 2) := by decide +kernel
theorem dX9_points_48 : decode cX9_points 48 = .ok (.lconst 1, 1) := by decide +kernel
theorem dX9_points_49 : decode cX9_points 49 = .ok (.ladd, 1) := by decide +kernel
theorem dX9_points_50 : decode cX9_points 50 = .ok (.lstore 5, 2) := by decide +kernel
theorem dX9_points_52 : decode cX9_points 52 = .ok (.goto (-32), 3) := by decide +kernel
theorem dX9_points_55 : decode cX9_points 55 = .ok (.lload_n 3, 1) := by decide +kernel
theorem dX9_points_56 : decode cX9_points 56 = .ok (.lreturn, 1) := by decide +kernel
theorem dX9_isRow_0 : decode cX9_isRow 0 = .ok (.iload_n 1, 1) := by decide +kernel
theorem dX9_isRow_1 : decode cX9_isRow 1 = .ok (.i2l, 1) := by decide +kernel
theorem dX9_isRow_2 : decode cX9_isRow 2 = .ok (.lconst 0, 1) := by decide +kernel
theorem dX9_isRow_3 : decode cX9_isRow 3 = .ok (.aload_n 0, 1) := by decide +kernel
theorem dX9_isRow_4 : decode cX9_isRow 4 = .ok (.getfield 112, 3) := by decide +kernel
theorem dX9_isRow_7 : decode cX9_isRow 7 = .ok (.iconst 1, 1) := by decide +kernel
theorem dX9_isRow_8 : decode cX9_isRow 8 = .ok (.isub, 1) := by decide +kernel
theorem dX9_isRow_9 : decode cX9_isRow 9 = .ok (.i2l, 1) := by decide +kernel
theorem dX9_isRow_10 : decode cX9_isRow 10 = .ok (.invokestatic 61, 3) := by decide +kernel
theorem dX9_isRow_13 : decode cX9_isRow 13 = .ok (.ireturn, 1) := by decide +kernel
theorem dX9_powered_0 : decode cX9_powered 0 = .ok (.lconst 1, 1) := by decide +kernel
theorem dX9_powered_1 : decode cX9_powered 1 = .ok (.lstore_n 3, 1) := by decide +kernel
theorem dX9_powered_2 : decode cX9_powered 2 = .ok (.iconst 0, 1) := by decide +kernel
theorem dX9_powered_3 : decode cX9_powered 3 = .ok (.istore 5, 2) := by decide +kernel
theorem dX9_powered_5 : decode cX9_powered 5 = .ok (.iload 5, 2) := by decide +kernel
theorem dX9_powered_7 : decode cX9_powered 7 = .ok (.iload_n 2, 1) := by decide +kernel
theorem dX9_powered_8 : decode cX9_powered 8 = .ok (.if_icmp .ge 13, 3) := by decide +kernel
theorem dX9_powered_11 : decode cX9_powered 11 = .ok (.lload_n 3, 1) := by decide +kernel
theorem dX9_powered_12 : decode cX9_powered 12 = .ok (.lload_n 0, 1) := by decide +kernel
theorem dX9_powered_13 : decode cX9_powered 13 = .ok (.lmul, 1) := by decide +kernel
theorem dX9_powered_14 : decode cX9_powered 14 = .ok (.lstore_n 3, 1) := by decide +kernel
theorem dX9_powered_15 : decode cX9_powered 15 = .ok (.iinc 5 1, 3) := by decide +kernel
theorem dX9_powered_18 : decode cX9_powered 18 = .ok (.goto (-13), 3) := by decide +kernel
theorem dX9_powered_21 : decode cX9_powered 21 = .ok (.lload_n 3, 1) := by decide +kernel
theorem dX9_powered_22 : decode cX9_powered 22 = .ok (.lreturn, 1) := by decide +kernel
theorem dX9_atPower_0 : decode cX9_atPower 0 = .ok (.iload_n 0, 1) := by decide +kernel
theorem dX9_atPower_1 : decode cX9_atPower 1 = .ok (.tableswitch 150 0 8 #[51, 53, 55, 61, 74, 88, 93, 125, 139], 51) := by decide +kernel
theorem dX9_atPower_52 : decode cX9_atPower 52 = .ok (.lconst 0, 1) := by decide +kernel
theorem dX9_atPower_53 : decode cX9_atPower 53 = .ok (.lreturn, 1) := by decide +kernel
theorem dX9_atPower_54 : decode cX9_atPower 54 = .ok (.lconst 1, 1) := by decide +kernel
theorem dX9_atPower_55 : decode cX9_atPower 55 = .ok (.lreturn, 1) := by decide +kernel
theorem dX9_atPower_56 : decode cX9_atPower 56 = .ok (.lload_n 1, 1) := by decide +kernel
theorem dX9_atPower_57 : decode cX9_atPower 57 = .ok (.iload_n 3, 1) := by decide +kernel
theorem dX9_atPower_58 : decode cX9_atPower 58 = .ok (.invokestatic 115, 3) := by decide +kernel
theorem dX9_atPower_61 : decode cX9_atPower 61 = .ok (.lreturn, 1) := by decide +kernel
theorem dX9_atPower_62 : decode cX9_atPower 62 = .ok (.iload_n 3, 1) := by decide +kernel
theorem dX9_atPower_63 : decode cX9_atPower 63 = .ok (.iconst 1, 1) := by decide +kernel
theorem dX9_atPower_64 : decode cX9_atPower 64 = .ok (.if_icmp .ne 9, 3) := by decide +kernel
theorem dX9_atPower_67 : decode cX9_atPower 67 = .ok (.ldc2_w 92, 3) := by decide +kernel
theorem dX9_atPower_70 : decode cX9_atPower 70 = .ok (.goto 4, 3) := by decide +kernel
theorem dX9_atPower_73 : decode cX9_atPower 73 = .ok (.lconst 0, 1) := by decide +kernel
theorem dX9_atPower_74 : decode cX9_atPower 74 = .ok (.lreturn, 1) := by decide +kernel
theorem dX9_atPower_75 : decode cX9_atPower 75 = .ok (.lload_n 1, 1) := by decide +kernel
theorem dX9_atPower_76 : decode cX9_atPower 76 = .ok (.iload_n 3, 1) := by decide +kernel
theorem dX9_atPower_77 : decode cX9_atPower 77 = .ok (.invokestatic 115, 3) := by decide +kernel
theorem dX9_atPower_80 : decode cX9_atPower 80 = .ok (.lload_n 1, 1) := by decide +kernel
theorem dX9_atPower_81 : decode cX9_atPower 81 = .ok (.iload_n 3, 1) := by decide +kernel
theorem dX9_atPower_82 : decode cX9_atPower 82 = .ok (.iconst 1, 1) := by decide +kernel
theorem dX9_atPower_83 : decode cX9_atPower 83 = .ok (.isub, 1) := by decide +kernel
theorem dX9_atPower_84 : decode cX9_atPower 84 = .ok (.invokestatic 115, 3) := by decide +kernel
theorem dX9_atPower_87 : decode cX9_atPower 87 = .ok (.lsub, 1) := by decide +kernel
theorem dX9_atPower_88 : decode cX9_atPower 88 = .ok (.lreturn, 1) := by decide +kernel
theorem dX9_atPower_89 : decode cX9_atPower 89 = .ok (.iload_n 3, 1) := by decide +kernel
theorem dX9_atPower_90 : decode cX9_atPower 90 = .ok (.i2l, 1) := by decide +kernel
theorem dX9_atPower_91 : decode cX9_atPower 91 = .ok (.lconst 1, 1) := by decide +kernel
theorem dX9_atPower_92 : decode cX9_atPower 92 = .ok (.ladd, 1) := by decide +kernel
theorem dX9_atPower_93 : decode cX9_atPower 93 = .ok (.lreturn, 1) := by decide +kernel
theorem dX9_atPower_94 : decode cX9_atPower 94 = .ok (.lconst 0, 1) := by decide +kernel
theorem dX9_atPower_95 : decode cX9_atPower 95 = .ok (.lstore 4, 2) := by decide +kernel
theorem dX9_atPower_97 : decode cX9_atPower 97 = .ok (.iconst 0, 1) := by decide +kernel
theorem dX9_atPower_98 : decode cX9_atPower 98 = .ok (.istore 6, 2) := by decide +kernel
theorem dX9_atPower_100 : decode cX9_atPower 100 = .ok (.iload 6, 2) := by decide +kernel
theorem dX9_atPower_102 : decode cX9_atPower 102 = .ok (.iload_n 3, 1) := by decide +kernel
theorem dX9_atPower_103 : decode cX9_atPower 103 = .ok (.if_icmp .gt 20, 3) := by decide +kernel
theorem dX9_atPower_106 : decode cX9_atPower 106 = .ok (.lload 4, 2) := by decide +kernel
theorem dX9_atPower_108 : decode cX9_atPower 108 = .ok (.lload_n 1, 1) := by decide +kernel
theorem dX9_atPower_109 : decode cX9_atPower 109 = .ok (.iload 6, 2) := by decide +kernel
theorem dX9_atPower_111 : decode cX9_atPower 111 = .ok (.invokestatic 115, 3) := by decide +kernel
theorem dX9_atPower_114 : decode cX9_atPower 114 = .ok (.ladd, 1) := by decide +kernel
theorem dX9_atPower_115 : decode cX9_atPower 115 = .ok (.lstore 4, 2) := by decide +kernel
theorem dX9_atPower_117 : decode cX9_atPower 117 = .ok (.iinc 6 1, 3) := by decide +kernel
theorem dX9_atPower_120 : decode cX9_atPower 120 = .ok (.goto (-20), 3) := by decide +kernel
theorem dX9_atPower_123 : decode cX9_atPower 123 = .ok (.lload 4, 2) := by decide +kernel
theorem dX9_atPower_125 : decode cX9_atPower 125 = .ok (.lreturn, 1) := by decide +kernel
theorem dX9_atPower_126 : decode cX9_atPower 126 = .ok (.iload_n 3, 1) := by decide +kernel
theorem dX9_atPower_127 : decode cX9_atPower 127 = .ok (.iconst 2, 1) := by decide +kernel
theorem dX9_atPower_128 : decode cX9_atPower 128 = .ok (.irem, 1) := by decide +kernel
theorem dX9_atPower_129 : decode cX9_atPower 129 = .ok (.ifCond .ne 7, 3) := by decide +kernel
theorem dX9_atPower_132 : decode cX9_atPower 132 = .ok (.lconst 1, 1) := by decide +kernel
theorem dX9_atPower_133 : decode cX9_atPower 133 = .ok (.goto 6, 3) := by decide +kernel
theorem dX9_atPower_136 : decode cX9_atPower 136 = .ok (.ldc2_w 92, 3) := by decide +kernel
theorem dX9_atPower_139 : decode cX9_atPower 139 = .ok (.lreturn, 1) := by decide +kernel
theorem dX9_atPower_140 : decode cX9_atPower 140 = .ok (.iload_n 3, 1) := by decide +kernel
theorem dX9_atPower_141 : decode cX9_atPower 141 = .ok (.iconst 1, 1) := by decide +kernel
theorem dX9_atPower_142 : decode cX9_atPower 142 = .ok (.if_icmp .ne 7, 3) := by decide +kernel
theorem dX9_atPower_145 : decode cX9_atPower 145 = .ok (.lconst 1, 1) := by decide +kernel
theorem dX9_atPower_146 : decode cX9_atPower 146 = .ok (.goto 4, 3) := by decide +kernel
theorem dX9_atPower_149 : decode cX9_atPower 149 = .ok (.lconst 0, 1) := by decide +kernel
theorem dX9_atPower_150 : decode cX9_atPower 150 = .ok (.lreturn, 1) := by decide +kernel
theorem dX9_atPower_151 : decode cX9_atPower 151 = .ok (.lload_n 1, 1) := by decide +kernel
theorem dX9_atPower_152 : decode cX9_atPower 152 = .ok (.iconst 2, 1) := by decide +kernel
theorem dX9_atPower_153 : decode cX9_atPower 153 = .ok (.iload_n 3, 1) := by decide +kernel
theorem dX9_atPower_154 : decode cX9_atPower 154 = .ok (.imul, 1) := by decide +kernel
theorem dX9_atPower_155 : decode cX9_atPower 155 = .ok (.invokestatic 115, 3) := by decide +kernel
theorem dX9_atPower_158 : decode cX9_atPower 158 = .ok (.lreturn, 1) := by decide +kernel
theorem dX9_byRule_0 : decode cX9_byRule 0 = .ok (.lconst 1, 1) := by decide +kernel
theorem dX9_byRule_1 : decode cX9_byRule 1 = .ok (.lstore_n 2, 1) := by decide +kernel
theorem dX9_byRule_2 : decode cX9_byRule 2 = .ok (.iload_n 1, 1) := by decide +kernel
theorem dX9_byRule_3 : decode cX9_byRule 3 = .ok (.istore 4, 2) := by decide +kernel
theorem dX9_byRule_5 : decode cX9_byRule 5 = .ok (.iconst 2, 1) := by decide +kernel
theorem dX9_byRule_6 : decode cX9_byRule 6 = .ok (.istore 5, 2) := by decide +kernel
theorem dX9_byRule_8 : decode cX9_byRule 8 = .ok (.iload 5, 2) := by decide +kernel
theorem dX9_byRule_10 : decode cX9_byRule 10 = .ok (.iload 4, 2) := by decide +kernel
theorem dX9_byRule_12 : decode cX9_byRule 12 = .ok (.if_icmp .gt 50, 3) := by decide +kernel
theorem dX9_byRule_15 : decode cX9_byRule 15 = .ok (.iconst 0, 1) := by decide +kernel
theorem dX9_byRule_16 : decode cX9_byRule 16 = .ok (.istore 6, 2) := by decide +kernel
theorem dX9_byRule_18 : decode cX9_byRule 18 = .ok (.iload 4, 2) := by decide +kernel
theorem dX9_byRule_20 : decode cX9_byRule 20 = .ok (.iload 5, 2) := by decide +kernel
theorem dX9_byRule_22 : decode cX9_byRule 22 = .ok (.irem, 1) := by decide +kernel
theorem dX9_byRule_23 : decode cX9_byRule 23 = .ok (.ifCond .ne 16, 3) := by decide +kernel
theorem dX9_byRule_26 : decode cX9_byRule 26 = .ok (.iload 4, 2) := by decide +kernel
theorem dX9_byRule_28 : decode cX9_byRule 28 = .ok (.iload 5, 2) := by decide +kernel
theorem dX9_byRule_30 : decode cX9_byRule 30 = .ok (.idiv, 1) := by decide +kernel
theorem dX9_byRule_31 : decode cX9_byRule 31 = .ok (.istore 4, 2) := by decide +kernel
theorem dX9_byRule_33 : decode cX9_byRule 33 = .ok (.iinc 6 1, 3) := by decide +kernel
theorem dX9_byRule_36 : decode cX9_byRule 36 = .ok (.goto (-18), 3) := by decide +kernel
theorem dX9_byRule_39 : decode cX9_byRule 39 = .ok (.iload 6, 2) := by decide +kernel
theorem dX9_byRule_41 : decode cX9_byRule 41 = .ok (.ifCond .le 15, 3) := by decide +kernel
theorem dX9_byRule_44 : decode cX9_byRule 44 = .ok (.lload_n 2, 1) := by decide +kernel
theorem dX9_byRule_45 : decode cX9_byRule 45 = .ok (.iload_n 0, 1) := by decide +kernel
theorem dX9_byRule_46 : decode cX9_byRule 46 = .ok (.iload 5, 2) := by decide +kernel
theorem dX9_byRule_48 : decode cX9_byRule 48 = .ok (.i2l, 1) := by decide +kernel
theorem dX9_byRule_49 : decode cX9_byRule 49 = .ok (.iload 6, 2) := by decide +kernel
theorem dX9_byRule_51 : decode cX9_byRule 51 = .ok (.invokestatic 119, 3) := by decide +kernel
theorem dX9_byRule_54 : decode cX9_byRule 54 = .ok (.lmul, 1) := by decide +kernel
theorem dX9_byRule_55 : decode cX9_byRule 55 = .ok (.lstore_n 2, 1) := by decide +kernel
theorem dX9_byRule_56 : decode cX9_byRule 56 = .ok (.iinc 5 1, 3) := by decide +kernel
theorem dX9_byRule_59 : decode cX9_byRule 59 = .ok (.goto (-51), 3) := by decide +kernel
theorem dX9_byRule_62 : decode cX9_byRule 62 = .ok (.lload_n 2, 1) := by decide +kernel
theorem dX9_byRule_63 : decode cX9_byRule 63 = .ok (.lreturn, 1) := by decide +kernel
theorem dX9_rule_0 : decode cX9_rule 0 = .ok (.iload_n 1, 1) := by decide +kernel
theorem dX9_rule_1 : decode cX9_rule 1 = .ok (.i2l, 1) := by decide +kernel
theorem dX9_rule_2 : decode cX9_rule 2 = .ok (.lconst 0, 1) := by decide +kernel
theorem dX9_rule_3 : decode cX9_rule 3 = .ok (.ldc2_w 123, 3) := by decide +kernel
theorem dX9_rule_6 : decode cX9_rule 6 = .ok (.invokestatic 61, 3) := by decide +kernel
theorem dX9_rule_9 : decode cX9_rule 9 = .ok (.ifCond .eq 12, 3) := by decide +kernel
theorem dX9_rule_12 : decode cX9_rule 12 = .ok (.aload_n 0, 1) := by decide +kernel
theorem dX9_rule_13 : decode cX9_rule 13 = .ok (.getfield 112, 3) := by decide +kernel
theorem dX9_rule_16 : decode cX9_rule 16 = .ok (.bipush 16, 2) := by decide +kernel
theorem dX9_rule_18 : decode cX9_rule 18 = .ok (.if_icmp .ne 5, 3) := by decide +kernel
theorem dX9_rule_21 : decode cX9_rule 21 = .ok (.iconst (-1), 1) := by decide +kernel
theorem dX9_rule_22 : decode cX9_rule 22 = .ok (.ireturn, 1) := by decide +kernel
theorem dX9_rule_23 : decode cX9_rule 23 = .ok (.iconst 1, 1) := by decide +kernel
theorem dX9_rule_24 : decode cX9_rule 24 = .ok (.istore_n 2, 1) := by decide +kernel
theorem dX9_rule_25 : decode cX9_rule 25 = .ok (.iload_n 2, 1) := by decide +kernel
theorem dX9_rule_26 : decode cX9_rule 26 = .ok (.sipush 600, 3) := by decide +kernel
theorem dX9_rule_29 : decode cX9_rule 29 = .ok (.if_icmp .gt 29, 3) := by decide +kernel
theorem dX9_rule_32 : decode cX9_rule 32 = .ok (.aload_n 0, 1) := by decide +kernel
theorem dX9_rule_33 : decode cX9_rule 33 = .ok (.getfield 34, 3) := by decide +kernel
theorem dX9_rule_36 : decode cX9_rule 36 = .ok (.sipush 601, 3) := by decide +kernel
theorem dX9_rule_39 : decode cX9_rule 39 = .ok (.aload_n 0, 1) := by decide +kernel
theorem dX9_rule_40 : decode cX9_rule 40 = .ok (.getfield 112, 3) := by decide +kernel
theorem dX9_rule_43 : decode cX9_rule 43 = .ok (.imul, 1) := by decide +kernel
theorem dX9_rule_44 : decode cX9_rule 44 = .ok (.iload_n 2, 1) := by decide +kernel
theorem dX9_rule_45 : decode cX9_rule 45 = .ok (.iadd, 1) := by decide +kernel
theorem dX9_rule_46 : decode cX9_rule 46 = .ok (.iload_n 1, 1) := by decide +kernel
theorem dX9_rule_47 : decode cX9_rule 47 = .ok (.iload_n 2, 1) := by decide +kernel
theorem dX9_rule_48 : decode cX9_rule 48 = .ok (.invokestatic 125, 3) := by decide +kernel
theorem dX9_rule_51 : decode cX9_rule 51 = .ok (.lastore, 1) := by decide +kernel
theorem dX9_rule_52 : decode cX9_rule 52 = .ok (.iinc 2 1, 3) := by decide +kernel
theorem dX9_rule_55 : decode cX9_rule 55 = .ok (.goto (-30), 3) := by decide +kernel
theorem dX9_rule_58 : decode cX9_rule 58 = .ok (.aload_n 0, 1) := by decide +kernel
theorem dX9_rule_59 : decode cX9_rule 59 = .ok (.dup, 1) := by decide +kernel
theorem dX9_rule_60 : decode cX9_rule 60 = .ok (.getfield 112, 3) := by decide +kernel
theorem dX9_rule_63 : decode cX9_rule 63 = .ok (.iconst 1, 1) := by decide +kernel
theorem dX9_rule_64 : decode cX9_rule 64 = .ok (.iadd, 1) := by decide +kernel
theorem dX9_rule_65 : decode cX9_rule 65 = .ok (.putfield 112, 3) := by decide +kernel
theorem dX9_rule_68 : decode cX9_rule 68 = .ok (.aload_n 0, 1) := by decide +kernel
theorem dX9_rule_69 : decode cX9_rule 69 = .ok (.getfield 112, 3) := by decide +kernel
theorem dX9_rule_72 : decode cX9_rule 72 = .ok (.iconst 1, 1) := by decide +kernel
theorem dX9_rule_73 : decode cX9_rule 73 = .ok (.isub, 1) := by decide +kernel
theorem dX9_rule_74 : decode cX9_rule 74 = .ok (.ireturn, 1) := by decide +kernel
theorem dX9_sheet_0 : decode cX9_sheet 0 = .ok (.aload_n 0, 1) := by decide +kernel
theorem dX9_sheet_1 : decode cX9_sheet 1 = .ok (.getfield 112, 3) := by decide +kernel
theorem dX9_sheet_4 : decode cX9_sheet 4 = .ok (.bipush 16, 2) := by decide +kernel
theorem dX9_sheet_6 : decode cX9_sheet 6 = .ok (.if_icmp .ne 5, 3) := by decide +kernel
theorem dX9_sheet_9 : decode cX9_sheet 9 = .ok (.iconst (-1), 1) := by decide +kernel
theorem dX9_sheet_10 : decode cX9_sheet 10 = .ok (.ireturn, 1) := by decide +kernel
theorem dX9_sheet_11 : decode cX9_sheet 11 = .ok (.iconst 0, 1) := by decide +kernel
theorem dX9_sheet_12 : decode cX9_sheet 12 = .ok (.istore_n 1, 1) := by decide +kernel
theorem dX9_sheet_13 : decode cX9_sheet 13 = .ok (.iload_n 1, 1) := by decide +kernel
theorem dX9_sheet_14 : decode cX9_sheet 14 = .ok (.sipush 600, 3) := by decide +kernel
theorem dX9_sheet_17 : decode cX9_sheet 17 = .ok (.if_icmp .gt 25, 3) := by decide +kernel
theorem dX9_sheet_20 : decode cX9_sheet 20 = .ok (.aload_n 0, 1) := by decide +kernel
theorem dX9_sheet_21 : decode cX9_sheet 21 = .ok (.getfield 34, 3) := by decide +kernel
theorem dX9_sheet_24 : decode cX9_sheet 24 = .ok (.sipush 601, 3) := by decide +kernel
theorem dX9_sheet_27 : decode cX9_sheet 27 = .ok (.aload_n 0, 1) := by decide +kernel
theorem dX9_sheet_28 : decode cX9_sheet 28 = .ok (.getfield 112, 3) := by decide +kernel
theorem dX9_sheet_31 : decode cX9_sheet 31 = .ok (.imul, 1) := by decide +kernel
theorem dX9_sheet_32 : decode cX9_sheet 32 = .ok (.iload_n 1, 1) := by decide +kernel
theorem dX9_sheet_33 : decode cX9_sheet 33 = .ok (.iadd, 1) := by decide +kernel
theorem dX9_sheet_34 : decode cX9_sheet 34 = .ok (.lconst 0, 1) := by decide +kernel
theorem dX9_sheet_35 : decode cX9_sheet 35 = .ok (.lastore, 1) := by decide +kernel
theorem dX9_sheet_36 : decode cX9_sheet 36 = .ok (.iinc 1 1, 3) := by decide +kernel
theorem dX9_sheet_39 : decode cX9_sheet 39 = .ok (.goto (-26), 3) := by decide +kernel
theorem dX9_sheet_42 : decode cX9_sheet 42 = .ok (.aload_n 0, 1) := by decide +kernel
theorem dX9_sheet_43 : decode cX9_sheet 43 = .ok (.dup, 1) := by decide +kernel
theorem dX9_sheet_44 : decode cX9_sheet 44 = .ok (.getfield 112, 3) := by decide +kernel
theorem dX9_sheet_47 : decode cX9_sheet 47 = .ok (.iconst 1, 1) := by decide +kernel
theorem dX9_sheet_48 : decode cX9_sheet 48 = .ok (.iadd, 1) := by decide +kernel
theorem dX9_sheet_49 : decode cX9_sheet 49 = .ok (.putfield 112, 3) := by decide +kernel
theorem dX9_sheet_52 : decode cX9_sheet 52 = .ok (.aload_n 0, 1) := by decide +kernel
theorem dX9_sheet_53 : decode cX9_sheet 53 = .ok (.getfield 112, 3) := by decide +kernel
theorem dX9_sheet_56 : decode cX9_sheet 56 = .ok (.iconst 1, 1) := by decide +kernel
theorem dX9_sheet_57 : decode cX9_sheet 57 = .ok (.isub, 1) := by decide +kernel
theorem dX9_sheet_58 : decode cX9_sheet 58 = .ok (.ireturn, 1) := by decide +kernel
theorem dX9_tell_0 : decode cX9_tell 0 = .ok (.aload_n 0, 1) := by decide +kernel
theorem dX9_tell_1 : decode cX9_tell 1 = .ok (.iload_n 1, 1) := by decide +kernel
theorem dX9_tell_2 : decode cX9_tell 2 = .ok (.invokevirtual 129, 3) := by decide +kernel
theorem dX9_tell_5 : decode cX9_tell 5 = .ok (.ifCond .eq 15, 3) := by decide +kernel
theorem dX9_tell_8 : decode cX9_tell 8 = .ok (.iload_n 2, 1) := by decide +kernel
theorem dX9_tell_9 : decode cX9_tell 9 = .ok (.i2l, 1) := by decide +kernel
theorem dX9_tell_10 : decode cX9_tell 10 = .ok (.lconst 1, 1) := by decide +kernel
theorem dX9_tell_11 : decode cX9_tell 11 = .ok (.ldc2_w 132, 3) := by decide +kernel
theorem dX9_tell_14 : decode cX9_tell 14 = .ok (.invokestatic 61, 3) := by decide +kernel
theorem dX9_tell_17 : decode cX9_tell 17 = .ok (.ifCond .ne 5, 3) := by decide +kernel
theorem dX9_tell_20 : decode cX9_tell 20 = .ok (.iconst 0, 1) := by decide +kernel
theorem dX9_tell_21 : decode cX9_tell 21 = .ok (.ireturn, 1) := by decide +kernel
theorem dX9_tell_22 : decode cX9_tell 22 = .ok (.aload_n 0, 1) := by decide +kernel
theorem dX9_tell_23 : decode cX9_tell 23 = .ok (.getfield 34, 3) := by decide +kernel
theorem dX9_tell_26 : decode cX9_tell 26 = .ok (.sipush 601, 3) := by decide +kernel
theorem dX9_tell_29 : decode cX9_tell 29 = .ok (.iload_n 1, 1) := by decide +kernel
theorem dX9_tell_30 : decode cX9_tell 30 = .ok (.imul, 1) := by decide +kernel
theorem dX9_tell_31 : decode cX9_tell 31 = .ok (.iload_n 2, 1) := by decide +kernel
theorem dX9_tell_32 : decode cX9_tell 32 = .ok (.iadd, 1) := by decide +kernel
theorem dX9_tell_33 : decode cX9_tell 33 = .ok (.lload_n 3, 1) := by decide +kernel
theorem dX9_tell_34 : decode cX9_tell 34 = .ok (.lastore, 1) := by decide +kernel
theorem dX9_tell_35 : decode cX9_tell 35 = .ok (.iconst 1, 1) := by decide +kernel
theorem dX9_tell_36 : decode cX9_tell 36 = .ok (.ireturn, 1) := by decide +kernel
theorem dX9_product_0 : decode cX9_product 0 = .ok (.aload_n 0, 1) := by decide +kernel
theorem dX9_product_1 : decode cX9_product 1 = .ok (.iload_n 1, 1) := by decide +kernel
theorem dX9_product_2 : decode cX9_product 2 = .ok (.invokevirtual 129, 3) := by decide +kernel
theorem dX9_product_5 : decode cX9_product 5 = .ok (.ifCond .eq 20, 3) := by decide +kernel
theorem dX9_product_8 : decode cX9_product 8 = .ok (.aload_n 0, 1) := by decide +kernel
theorem dX9_product_9 : decode cX9_product 9 = .ok (.iload_n 2, 1) := by decide +kernel
theorem dX9_product_10 : decode cX9_product 10 = .ok (.invokevirtual 129, 3) := by decide +kernel
theorem dX9_product_13 : decode cX9_product 13 = .ok (.ifCond .eq 12, 3) := by decide +kernel
theorem dX9_product_16 : decode cX9_product 16 = .ok (.aload_n 0, 1) := by decide +kernel
theorem dX9_product_17 : decode cX9_product 17 = .ok (.getfield 112, 3) := by decide +kernel
theorem dX9_product_20 : decode cX9_product 20 = .ok (.bipush 16, 2) := by decide +kernel
theorem dX9_product_22 : decode cX9_product 22 = .ok (.if_icmp .ne 5, 3) := by decide +kernel
theorem dX9_product_25 : decode cX9_product 25 = .ok (.iconst (-1), 1) := by decide +kernel
theorem dX9_product_26 : decode cX9_product 26 = .ok (.ireturn, 1) := by decide +kernel
theorem dX9_product_27 : decode cX9_product 27 = .ok (.iconst 1, 1) := by decide +kernel
theorem dX9_product_28 : decode cX9_product 28 = .ok (.istore_n 3, 1) := by decide +kernel
theorem dX9_product_29 : decode cX9_product 29 = .ok (.iload_n 3, 1) := by decide +kernel
theorem dX9_product_30 : decode cX9_product 30 = .ok (.sipush 600, 3) := by decide +kernel
theorem dX9_product_33 : decode cX9_product 33 = .ok (.if_icmp .gt 89, 3) := by decide +kernel
theorem dX9_product_36 : decode cX9_product 36 = .ok (.lconst 0, 1) := by decide +kernel
theorem dX9_product_37 : decode cX9_product 37 = .ok (.lstore 4, 2) := by decide +kernel
theorem dX9_product_39 : decode cX9_product 39 = .ok (.iconst 1, 1) := by decide +kernel
theorem dX9_product_40 : decode cX9_product 40 = .ok (.istore 6, 2) := by decide +kernel
theorem dX9_product_42 : decode cX9_product 42 = .ok (.iload 6, 2) := by decide +kernel
theorem dX9_product_44 : decode cX9_product 44 = .ok (.iload_n 3, 1) := by decide +kernel
theorem dX9_product_45 : decode cX9_product 45 = .ok (.if_icmp .gt 54, 3) := by decide +kernel
theorem dX9_product_48 : decode cX9_product 48 = .ok (.lload 4, 2) := by decide +kernel
theorem dX9_product_50 : decode cX9_product 50 = .ok (.iload_n 3, 1) := by decide +kernel
theorem dX9_product_51 : decode cX9_product 51 = .ok (.iload 6, 2) := by decide +kernel
theorem dX9_product_53 : decode cX9_product 53 = .ok (.irem, 1) := by decide +kernel
theorem dX9_product_54 : decode cX9_product 54 = .ok (.ifCond .ne 35, 3) := by decide +kernel
theorem dX9_product_57 : decode cX9_product 57 = .ok (.aload_n 0, 1) := by decide +kernel
theorem dX9_product_58 : decode cX9_product 58 = .ok (.getfield 34, 3) := by decide +kernel
theorem dX9_product_61 : decode cX9_product 61 = .ok (.sipush 601, 3) := by decide +kernel
theorem dX9_product_64 : decode cX9_product 64 = .ok (.iload_n 1, 1) := by decide +kernel
theorem dX9_product_65 : decode cX9_product 65 = .ok (.imul, 1) := by decide +kernel
theorem dX9_product_66 : decode cX9_product 66 = .ok (.iload 6, 2) := by decide +kernel
theorem dX9_product_68 : decode cX9_product 68 = .ok (.iadd, 1) := by decide +kernel
theorem dX9_product_69 : decode cX9_product 69 = .ok (.laload, 1) := by decide +kernel
theorem dX9_product_70 : decode cX9_product 70 = .ok (.aload_n 0, 1) := by decide +kernel
theorem dX9_product_71 : decode cX9_product 71 = .ok (.getfield 34, 3) := by decide +kernel
theorem dX9_product_74 : decode cX9_product 74 = .ok (.sipush 601, 3) := by decide +kernel
theorem dX9_product_77 : decode cX9_product 77 = .ok (.iload_n 2, 1) := by decide +kernel
theorem dX9_product_78 : decode cX9_product 78 = .ok (.imul, 1) := by decide +kernel
theorem dX9_product_79 : decode cX9_product 79 = .ok (.iload_n 3, 1) := by decide +kernel
theorem dX9_product_80 : decode cX9_product 80 = .ok (.iload 6, 2) := by decide +kernel
theorem dX9_product_82 : decode cX9_product 82 = .ok (.idiv, 1) := by decide +kernel
theorem dX9_product_83 : decode cX9_product 83 = .ok (.iadd, 1) := by decide +kernel
theorem dX9_product_84 : decode cX9_product 84 = .ok (.laload, 1) := by decide +kernel
theorem dX9_product_85 : decode cX9_product 85 = .ok (.lmul, 1) := by decide +kernel
theorem dX9_product_86 : decode cX9_product 86 = .ok (.goto 4, 3) := by decide +kernel
theorem dX9_product_89 : decode cX9_product 89 = .ok (.lconst 0, 1) := by decide +kernel
theorem dX9_product_90 : decode cX9_product 90 = .ok (.ladd, 1) := by decide +kernel
theorem dX9_product_91 : decode cX9_product 91 = .ok (.lstore 4, 2) := by decide +kernel
theorem dX9_product_93 : decode cX9_product 93 = .ok (.iinc 6 1, 3) := by decide +kernel
theorem dX9_product_96 : decode cX9_product 96 = .ok (.goto (-54), 3) := by decide +kernel
theorem dX9_product_99 : decode cX9_product 99 = .ok (.aload_n 0, 1) := by decide +kernel
theorem dX9_product_100 : decode cX9_product 100 = .ok (.getfield 34, 3) := by decide +kernel
theorem dX9_product_103 : decode cX9_product 103 = .ok (.sipush 601, 3) := by decide +kernel
theorem dX9_product_106 : decode cX9_product 106 = .ok (.aload_n 0, 1) := by decide +kernel
theorem dX9_product_107 : decode cX9_product 107 = .ok (.getfield 112, 3) := by decide +kernel
theorem dX9_product_110 : decode cX9_product 110 = .ok (.imul, 1) := by decide +kernel
theorem dX9_product_111 : decode cX9_product 111 = .ok (.iload_n 3, 1) := by decide +kernel
theorem dX9_product_112 : decode cX9_product 112 = .ok (.iadd, 1) := by decide +kernel
theorem dX9_product_113 : decode cX9_product 113 = .ok (.lload 4, 2) := by decide +kernel
theorem dX9_product_115 : decode cX9_product 115 = .ok (.lastore, 1) := by decide +kernel
theorem dX9_product_116 : decode cX9_product 116 = .ok (.iinc 3 1, 3) := by decide +kernel
theorem dX9_product_119 : decode cX9_product 119 = .ok (.goto (-90), 3) := by decide +kernel
theorem dX9_product_122 : decode cX9_product 122 = .ok (.aload_n 0, 1) := by decide +kernel
theorem dX9_product_123 : decode cX9_product 123 = .ok (.dup, 1) := by decide +kernel
theorem dX9_product_124 : decode cX9_product 124 = .ok (.getfield 112, 3) := by decide +kernel
theorem dX9_product_127 : decode cX9_product 127 = .ok (.iconst 1, 1) := by decide +kernel
theorem dX9_product_128 : decode cX9_product 128 = .ok (.iadd, 1) := by decide +kernel
theorem dX9_product_129 : decode cX9_product 129 = .ok (.putfield 112, 3) := by decide +kernel
theorem dX9_product_132 : decode cX9_product 132 = .ok (.aload_n 0, 1) := by decide +kernel
theorem dX9_product_133 : decode cX9_product 133 = .ok (.getfield 112, 3) := by decide +kernel
theorem dX9_product_136 : decode cX9_product 136 = .ok (.iconst 1, 1) := by decide +kernel
theorem dX9_product_137 : decode cX9_product 137 = .ok (.isub, 1) := by decide +kernel
theorem dX9_product_138 : decode cX9_product 138 = .ok (.ireturn, 1) := by decide +kernel
theorem dX9_turned_0 : decode cX9_turned 0 = .ok (.aload_n 0, 1) := by decide +kernel
theorem dX9_turned_1 : decode cX9_turned 1 = .ok (.iload_n 1, 1) := by decide +kernel
theorem dX9_turned_2 : decode cX9_turned 2 = .ok (.invokevirtual 129, 3) := by decide +kernel
theorem dX9_turned_5 : decode cX9_turned 5 = .ok (.ifCond .eq 18, 3) := by decide +kernel
theorem dX9_turned_8 : decode cX9_turned 8 = .ok (.aload_n 0, 1) := by decide +kernel
theorem dX9_turned_9 : decode cX9_turned 9 = .ok (.getfield 34, 3) := by decide +kernel
theorem dX9_turned_12 : decode cX9_turned 12 = .ok (.sipush 601, 3) := by decide +kernel
theorem dX9_turned_15 : decode cX9_turned 15 = .ok (.iload_n 1, 1) := by decide +kernel
theorem dX9_turned_16 : decode cX9_turned 16 = .ok (.imul, 1) := by decide +kernel
theorem dX9_turned_17 : decode cX9_turned 17 = .ok (.iconst 1, 1) := by decide +kernel
theorem dX9_turned_18 : decode cX9_turned 18 = .ok (.iadd, 1) := by decide +kernel
theorem dX9_turned_19 : decode cX9_turned 19 = .ok (.laload, 1) := by decide +kernel
theorem dX9_turned_20 : decode cX9_turned 20 = .ok (.goto 4, 3) := by decide +kernel
theorem dX9_turned_23 : decode cX9_turned 23 = .ok (.lconst 0, 1) := by decide +kernel
theorem dX9_turned_24 : decode cX9_turned 24 = .ok (.lstore_n 2, 1) := by decide +kernel
theorem dX9_turned_25 : decode cX9_turned 25 = .ok (.lload_n 2, 1) := by decide +kernel
theorem dX9_turned_26 : decode cX9_turned 26 = .ok (.lconst 1, 1) := by decide +kernel
theorem dX9_turned_27 : decode cX9_turned 27 = .ok (.lcmp, 1) := by decide +kernel
theorem dX9_turned_28 : decode cX9_turned 28 = .ok (.ifCond .eq 11, 3) := by decide +kernel
theorem dX9_turned_31 : decode cX9_turned 31 = .ok (.lload_n 2, 1) := by decide +kernel
theorem dX9_turned_32 : decode cX9_turned 32 = .ok (.ldc2_w 92, 3) := by decide +kernel
theorem dX9_turned_35 : decode cX9_turned 35 = .ok (.lcmp, 1) := by decide +kernel
theorem dX9_turned_36 : decode cX9_turned 36 = .ok (.ifCond .ne 12, 3) := by decide +kernel
theorem dX9_turned_39 : decode cX9_turned 39 = .ok (.aload_n 0, 1) := by decide +kernel
theorem dX9_turned_40 : decode cX9_turned 40 = .ok (.getfield 112, 3) := by decide +kernel
theorem dX9_turned_43 : decode cX9_turned 43 = .ok (.bipush 16, 2) := by decide +kernel
theorem dX9_turned_45 : decode cX9_turned 45 = .ok (.if_icmp .ne 5, 3) := by decide +kernel
theorem dX9_turned_48 : decode cX9_turned 48 = .ok (.iconst (-1), 1) := by decide +kernel
theorem dX9_turned_49 : decode cX9_turned 49 = .ok (.ireturn, 1) := by decide +kernel
theorem dX9_turned_50 : decode cX9_turned 50 = .ok (.sipush 601, 3) := by decide +kernel
theorem dX9_turned_53 : decode cX9_turned 53 = .ok (.aload_n 0, 1) := by decide +kernel
theorem dX9_turned_54 : decode cX9_turned 54 = .ok (.getfield 112, 3) := by decide +kernel
theorem dX9_turned_57 : decode cX9_turned 57 = .ok (.imul, 1) := by decide +kernel
theorem dX9_turned_58 : decode cX9_turned 58 = .ok (.istore 4, 2) := by decide +kernel
theorem dX9_turned_60 : decode cX9_turned 60 = .ok (.aload_n 0, 1) := by decide +kernel
theorem dX9_turned_61 : decode cX9_turned 61 = .ok (.getfield 34, 3) := by decide +kernel
theorem dX9_turned_64 : decode cX9_turned 64 = .ok (.iload 4, 2) := by decide +kernel
theorem dX9_turned_66 : decode cX9_turned 66 = .ok (.iconst 1, 1) := by decide +kernel
theorem dX9_turned_67 : decode cX9_turned 67 = .ok (.iadd, 1) := by decide +kernel
theorem dX9_turned_68 : decode cX9_turned 68 = .ok (.lload_n 2, 1) := by decide +kernel
theorem dX9_turned_69 : decode cX9_turned 69 = .ok (.lastore, 1) := by decide +kernel
theorem dX9_turned_70 : decode cX9_turned 70 = .ok (.iconst 2, 1) := by decide +kernel
theorem dX9_turned_71 : decode cX9_turned 71 = .ok (.istore 5, 2) := by decide +kernel
theorem dX9_turned_73 : decode cX9_turned 73 = .ok (.iload 5, 2) := by decide +kernel
theorem dX9_turned_75 : decode cX9_turned 75 = .ok (.sipush 600, 3) := by decide +kernel
theorem dX9_turned_78 : decode cX9_turned 78 = .ok (.if_icmp .gt 87, 3) := by decide +kernel
theorem dX9_turned_81 : decode cX9_turned 81 = .ok (.lconst 0, 1) := by decide +kernel
theorem dX9_turned_82 : decode cX9_turned 82 = .ok (.lstore 6, 2) := by decide +kernel
theorem dX9_turned_84 : decode cX9_turned 84 = .ok (.iconst 1, 1) := by decide +kernel
theorem dX9_turned_85 : decode cX9_turned 85 = .ok (.istore 8, 2) := by decide +kernel
theorem dX9_turned_87 : decode cX9_turned 87 = .ok (.iload 8, 2) := by decide +kernel
theorem dX9_turned_89 : decode cX9_turned 89 = .ok (.iload 5, 2) := by decide +kernel
theorem dX9_turned_91 : decode cX9_turned 91 = .ok (.if_icmp .ge 53, 3) := by decide +kernel
theorem dX9_turned_94 : decode cX9_turned 94 = .ok (.lload 6, 2) := by decide +kernel
theorem dX9_turned_96 : decode cX9_turned 96 = .ok (.iload 5, 2) := by decide +kernel
theorem dX9_turned_98 : decode cX9_turned 98 = .ok (.iload 8, 2) := by decide +kernel
theorem dX9_turned_100 : decode cX9_turned 100 = .ok (.irem, 1) := by decide +kernel
theorem dX9_turned_101 : decode cX9_turned 101 = .ok (.ifCond .ne 33, 3) := by decide +kernel
theorem dX9_turned_104 : decode cX9_turned 104 = .ok (.aload_n 0, 1) := by decide +kernel
theorem dX9_turned_105 : decode cX9_turned 105 = .ok (.getfield 34, 3) := by decide +kernel
theorem dX9_turned_108 : decode cX9_turned 108 = .ok (.sipush 601, 3) := by decide +kernel
theorem dX9_turned_111 : decode cX9_turned 111 = .ok (.iload_n 1, 1) := by decide +kernel
theorem dX9_turned_112 : decode cX9_turned 112 = .ok (.imul, 1) := by decide +kernel
theorem dX9_turned_113 : decode cX9_turned 113 = .ok (.iload 5, 2) := by decide +kernel
theorem dX9_turned_115 : decode cX9_turned 115 = .ok (.iload 8, 2) := by decide +kernel
theorem dX9_turned_117 : decode cX9_turned 117 = .ok (.idiv, 1) := by decide +kernel
theorem dX9_turned_118 : decode cX9_turned 118 = .ok (.iadd, 1) := by decide +kernel
theorem dX9_turned_119 : decode cX9_turned 119 = .ok (.laload, 1) := by decide +kernel
theorem dX9_turned_120 : decode cX9_turned 120 = .ok (.aload_n 0, 1) := by decide +kernel
theorem dX9_turned_121 : decode cX9_turned 121 = .ok (.getfield 34, 3) := by decide +kernel
theorem dX9_turned_124 : decode cX9_turned 124 = .ok (.iload 4, 2) := by decide +kernel
theorem dX9_turned_126 : decode cX9_turned 126 = .ok (.iload 8, 2) := by decide +kernel
theorem dX9_turned_128 : decode cX9_turned 128 = .ok (.iadd, 1) := by decide +kernel
theorem dX9_turned_129 : decode cX9_turned 129 = .ok (.laload, 1) := by decide +kernel
theorem dX9_turned_130 : decode cX9_turned 130 = .ok (.lmul, 1) := by decide +kernel
theorem dX9_turned_131 : decode cX9_turned 131 = .ok (.goto 4, 3) := by decide +kernel
theorem dX9_turned_134 : decode cX9_turned 134 = .ok (.lconst 0, 1) := by decide +kernel
theorem dX9_turned_135 : decode cX9_turned 135 = .ok (.ladd, 1) := by decide +kernel
theorem dX9_turned_136 : decode cX9_turned 136 = .ok (.lstore 6, 2) := by decide +kernel
theorem dX9_turned_138 : decode cX9_turned 138 = .ok (.iinc 8 1, 3) := by decide +kernel
theorem dX9_turned_141 : decode cX9_turned 141 = .ok (.goto (-54), 3) := by decide +kernel
theorem dX9_turned_144 : decode cX9_turned 144 = .ok (.aload_n 0, 1) := by decide +kernel
theorem dX9_turned_145 : decode cX9_turned 145 = .ok (.getfield 34, 3) := by decide +kernel
theorem dX9_turned_148 : decode cX9_turned 148 = .ok (.iload 4, 2) := by decide +kernel
theorem dX9_turned_150 : decode cX9_turned 150 = .ok (.iload 5, 2) := by decide +kernel
theorem dX9_turned_152 : decode cX9_turned 152 = .ok (.iadd, 1) := by decide +kernel
theorem dX9_turned_153 : decode cX9_turned 153 = .ok (.lload 6, 2) := by decide +kernel
theorem dX9_turned_155 : decode cX9_turned 155 = .ok (.lneg, 1) := by decide +kernel
theorem dX9_turned_156 : decode cX9_turned 156 = .ok (.lload_n 2, 1) := by decide +kernel
theorem dX9_turned_157 : decode cX9_turned 157 = .ok (.lmul, 1) := by decide +kernel
theorem dX9_turned_158 : decode cX9_turned 158 = .ok (.lastore, 1) := by decide +kernel
theorem dX9_turned_159 : decode cX9_turned 159 = .ok (.iinc 5 1, 3) := by decide +kernel
theorem dX9_turned_162 : decode cX9_turned 162 = .ok (.goto (-89), 3) := by decide +kernel
theorem dX9_turned_165 : decode cX9_turned 165 = .ok (.aload_n 0, 1) := by decide +kernel
theorem dX9_turned_166 : decode cX9_turned 166 = .ok (.dup, 1) := by decide +kernel
theorem dX9_turned_167 : decode cX9_turned 167 = .ok (.getfield 112, 3) := by decide +kernel
theorem dX9_turned_170 : decode cX9_turned 170 = .ok (.iconst 1, 1) := by decide +kernel
theorem dX9_turned_171 : decode cX9_turned 171 = .ok (.iadd, 1) := by decide +kernel
theorem dX9_turned_172 : decode cX9_turned 172 = .ok (.putfield 112, 3) := by decide +kernel
theorem dX9_turned_175 : decode cX9_turned 175 = .ok (.aload_n 0, 1) := by decide +kernel
theorem dX9_turned_176 : decode cX9_turned 176 = .ok (.getfield 112, 3) := by decide +kernel
theorem dX9_turned_179 : decode cX9_turned 179 = .ok (.iconst 1, 1) := by decide +kernel
theorem dX9_turned_180 : decode cX9_turned 180 = .ok (.isub, 1) := by decide +kernel
theorem dX9_turned_181 : decode cX9_turned 181 = .ok (.ireturn, 1) := by decide +kernel
theorem dX9_clear_0 : decode cX9_clear 0 = .ok (.aload_n 0, 1) := by decide +kernel
theorem dX9_clear_1 : decode cX9_clear 1 = .ok (.iconst 0, 1) := by decide +kernel
theorem dX9_clear_2 : decode cX9_clear 2 = .ok (.putfield 112, 3) := by decide +kernel
theorem dX9_clear_5 : decode cX9_clear 5 = .ok (.return_, 1) := by decide +kernel
theorem dX9_at_0 : decode cX9_at 0 = .ok (.aload_n 0, 1) := by decide +kernel
theorem dX9_at_1 : decode cX9_at 1 = .ok (.iload_n 1, 1) := by decide +kernel
theorem dX9_at_2 : decode cX9_at 2 = .ok (.invokevirtual 129, 3) := by decide +kernel
theorem dX9_at_5 : decode cX9_at 5 = .ok (.ifCond .eq 30, 3) := by decide +kernel
theorem dX9_at_8 : decode cX9_at 8 = .ok (.iload_n 2, 1) := by decide +kernel
theorem dX9_at_9 : decode cX9_at 9 = .ok (.i2l, 1) := by decide +kernel
theorem dX9_at_10 : decode cX9_at 10 = .ok (.lconst 1, 1) := by decide +kernel
theorem dX9_at_11 : decode cX9_at 11 = .ok (.ldc2_w 132, 3) := by decide +kernel
theorem dX9_at_14 : decode cX9_at 14 = .ok (.invokestatic 61, 3) := by decide +kernel
theorem dX9_at_17 : decode cX9_at 17 = .ok (.ifCond .eq 18, 3) := by decide +kernel
theorem dX9_at_20 : decode cX9_at 20 = .ok (.aload_n 0, 1) := by decide +kernel
theorem dX9_at_21 : decode cX9_at 21 = .ok (.getfield 34, 3) := by decide +kernel
theorem dX9_at_24 : decode cX9_at 24 = .ok (.sipush 601, 3) := by decide +kernel
theorem dX9_at_27 : decode cX9_at 27 = .ok (.iload_n 1, 1) := by decide +kernel
theorem dX9_at_28 : decode cX9_at 28 = .ok (.imul, 1) := by decide +kernel
theorem dX9_at_29 : decode cX9_at 29 = .ok (.iload_n 2, 1) := by decide +kernel
theorem dX9_at_30 : decode cX9_at 30 = .ok (.iadd, 1) := by decide +kernel
theorem dX9_at_31 : decode cX9_at 31 = .ok (.laload, 1) := by decide +kernel
theorem dX9_at_32 : decode cX9_at 32 = .ok (.goto 4, 3) := by decide +kernel
theorem dX9_at_35 : decode cX9_at 35 = .ok (.lconst 0, 1) := by decide +kernel
theorem dX9_at_36 : decode cX9_at 36 = .ok (.lreturn, 1) := by decide +kernel
theorem dX9_sumOf_0 : decode cX9_sumOf 0 = .ok (.lconst 0, 1) := by decide +kernel
theorem dX9_sumOf_1 : decode cX9_sumOf 1 = .ok (.lstore_n 3, 1) := by decide +kernel
theorem dX9_sumOf_2 : decode cX9_sumOf 2 = .ok (.iconst 1, 1) := by decide +kernel
theorem dX9_sumOf_3 : decode cX9_sumOf 3 = .ok (.istore 5, 2) := by decide +kernel
theorem dX9_sumOf_5 : decode cX9_sumOf 5 = .ok (.iload 5, 2) := by decide +kernel
theorem dX9_sumOf_7 : decode cX9_sumOf 7 = .ok (.iload_n 2, 1) := by decide +kernel
theorem dX9_sumOf_8 : decode cX9_sumOf 8 = .ok (.if_icmp .gt 45, 3) := by decide +kernel
theorem dX9_sumOf_11 : decode cX9_sumOf 11 = .ok (.aload_n 0, 1) := by decide +kernel
theorem dX9_sumOf_12 : decode cX9_sumOf 12 = .ok (.iload_n 1, 1) := by decide +kernel
theorem dX9_sumOf_13 : decode cX9_sumOf 13 = .ok (.invokevirtual 129, 3) := by decide +kernel
theorem dX9_sumOf_16 : decode cX9_sumOf 16 = .ok (.ifCond .eq 37, 3) := by decide +kernel
theorem dX9_sumOf_19 : decode cX9_sumOf 19 = .ok (.iload_n 2, 1) := by decide +kernel
theorem dX9_sumOf_20 : decode cX9_sumOf 20 = .ok (.i2l, 1) := by decide +kernel
theorem dX9_sumOf_21 : decode cX9_sumOf 21 = .ok (.lconst 0, 1) := by decide +kernel
theorem dX9_sumOf_22 : decode cX9_sumOf 22 = .ok (.ldc2_w 132, 3) := by decide +kernel
theorem dX9_sumOf_25 : decode cX9_sumOf 25 = .ok (.invokestatic 61, 3) := by decide +kernel
theorem dX9_sumOf_28 : decode cX9_sumOf 28 = .ok (.ifCond .eq 25, 3) := by decide +kernel
theorem dX9_sumOf_31 : decode cX9_sumOf 31 = .ok (.lload_n 3, 1) := by decide +kernel
theorem dX9_sumOf_32 : decode cX9_sumOf 32 = .ok (.aload_n 0, 1) := by decide +kernel
theorem dX9_sumOf_33 : decode cX9_sumOf 33 = .ok (.getfield 34, 3) := by decide +kernel
theorem dX9_sumOf_36 : decode cX9_sumOf 36 = .ok (.sipush 601, 3) := by decide +kernel
theorem dX9_sumOf_39 : decode cX9_sumOf 39 = .ok (.iload_n 1, 1) := by decide +kernel
theorem dX9_sumOf_40 : decode cX9_sumOf 40 = .ok (.imul, 1) := by decide +kernel
theorem dX9_sumOf_41 : decode cX9_sumOf 41 = .ok (.iload 5, 2) := by decide +kernel
theorem dX9_sumOf_43 : decode cX9_sumOf 43 = .ok (.iadd, 1) := by decide +kernel
theorem dX9_sumOf_44 : decode cX9_sumOf 44 = .ok (.laload, 1) := by decide +kernel
theorem dX9_sumOf_45 : decode cX9_sumOf 45 = .ok (.ladd, 1) := by decide +kernel
theorem dX9_sumOf_46 : decode cX9_sumOf 46 = .ok (.lstore_n 3, 1) := by decide +kernel
theorem dX9_sumOf_47 : decode cX9_sumOf 47 = .ok (.iinc 5 1, 3) := by decide +kernel
theorem dX9_sumOf_50 : decode cX9_sumOf 50 = .ok (.goto (-45), 3) := by decide +kernel
theorem dX9_sumOf_53 : decode cX9_sumOf 53 = .ok (.lload_n 3, 1) := by decide +kernel
theorem dX9_sumOf_54 : decode cX9_sumOf 54 = .ok (.lreturn, 1) := by decide +kernel
theorem dX9_same_0 : decode cX9_same 0 = .ok (.aload_n 0, 1) := by decide +kernel
theorem dX9_same_1 : decode cX9_same 1 = .ok (.iload_n 1, 1) := by decide +kernel
theorem dX9_same_2 : decode cX9_same 2 = .ok (.invokevirtual 129, 3) := by decide +kernel
theorem dX9_same_5 : decode cX9_same 5 = .ok (.ifCond .eq 11, 3) := by decide +kernel
theorem dX9_same_8 : decode cX9_same 8 = .ok (.aload_n 0, 1) := by decide +kernel
theorem dX9_same_9 : decode cX9_same 9 = .ok (.iload_n 2, 1) := by decide +kernel
theorem dX9_same_10 : decode cX9_same 10 = .ok (.invokevirtual 129, 3) := by decide +kernel
theorem dX9_same_13 : decode cX9_same 13 = .ok (.ifCond .ne 5, 3) := by decide +kernel
theorem dX9_same_16 : decode cX9_same 16 = .ok (.iconst (-1), 1) := by decide +kernel
theorem dX9_same_17 : decode cX9_same 17 = .ok (.ireturn, 1) := by decide +kernel
theorem dX9_same_18 : decode cX9_same 18 = .ok (.iconst 1, 1) := by decide +kernel
theorem dX9_same_19 : decode cX9_same 19 = .ok (.istore_n 3, 1) := by decide +kernel
theorem dX9_same_20 : decode cX9_same 20 = .ok (.iload_n 3, 1) := by decide +kernel
theorem dX9_same_21 : decode cX9_same 21 = .ok (.sipush 600, 3) := by decide +kernel
theorem dX9_same_24 : decode cX9_same 24 = .ok (.if_icmp .gt 39, 3) := by decide +kernel
theorem dX9_same_27 : decode cX9_same 27 = .ok (.aload_n 0, 1) := by decide +kernel
theorem dX9_same_28 : decode cX9_same 28 = .ok (.getfield 34, 3) := by decide +kernel
theorem dX9_same_31 : decode cX9_same 31 = .ok (.sipush 601, 3) := by decide +kernel
theorem dX9_same_34 : decode cX9_same 34 = .ok (.iload_n 1, 1) := by decide +kernel
theorem dX9_same_35 : decode cX9_same 35 = .ok (.imul, 1) := by decide +kernel
theorem dX9_same_36 : decode cX9_same 36 = .ok (.iload_n 3, 1) := by decide +kernel
theorem dX9_same_37 : decode cX9_same 37 = .ok (.iadd, 1) := by decide +kernel
theorem dX9_same_38 : decode cX9_same 38 = .ok (.laload, 1) := by decide +kernel
theorem dX9_same_39 : decode cX9_same 39 = .ok (.aload_n 0, 1) := by decide +kernel
theorem dX9_same_40 : decode cX9_same 40 = .ok (.getfield 34, 3) := by decide +kernel
theorem dX9_same_43 : decode cX9_same 43 = .ok (.sipush 601, 3) := by decide +kernel
theorem dX9_same_46 : decode cX9_same 46 = .ok (.iload_n 2, 1) := by decide +kernel
theorem dX9_same_47 : decode cX9_same 47 = .ok (.imul, 1) := by decide +kernel
theorem dX9_same_48 : decode cX9_same 48 = .ok (.iload_n 3, 1) := by decide +kernel
theorem dX9_same_49 : decode cX9_same 49 = .ok (.iadd, 1) := by decide +kernel
theorem dX9_same_50 : decode cX9_same 50 = .ok (.laload, 1) := by decide +kernel
theorem dX9_same_51 : decode cX9_same 51 = .ok (.lcmp, 1) := by decide +kernel
theorem dX9_same_52 : decode cX9_same 52 = .ok (.ifCond .eq 5, 3) := by decide +kernel
theorem dX9_same_55 : decode cX9_same 55 = .ok (.iload_n 3, 1) := by decide +kernel
theorem dX9_same_56 : decode cX9_same 56 = .ok (.ireturn, 1) := by decide +kernel
theorem dX9_same_57 : decode cX9_same 57 = .ok (.iinc 3 1, 3) := by decide +kernel
theorem dX9_same_60 : decode cX9_same 60 = .ok (.goto (-40), 3) := by decide +kernel
theorem dX9_same_63 : decode cX9_same 63 = .ok (.iconst 0, 1) := by decide +kernel
theorem dX9_same_64 : decode cX9_same 64 = .ok (.ireturn, 1) := by decide +kernel
theorem dX9_isFar_0 : decode cX9_isFar 0 = .ok (.iload_n 0, 1) := by decide +kernel
theorem dX9_isFar_1 : decode cX9_isFar 1 = .ok (.ifCond .eq 19, 3) := by decide +kernel
theorem dX9_isFar_4 : decode cX9_isFar 4 = .ok (.iload_n 0, 1) := by decide +kernel
theorem dX9_isFar_5 : decode cX9_isFar 5 = .ok (.iconst 1, 1) := by decide +kernel
theorem dX9_isFar_6 : decode cX9_isFar 6 = .ok (.if_icmp .eq 14, 3) := by decide +kernel
theorem dX9_isFar_9 : decode cX9_isFar 9 = .ok (.iload_n 0, 1) := by decide +kernel
theorem dX9_isFar_10 : decode cX9_isFar 10 = .ok (.iconst 2, 1) := by decide +kernel
theorem dX9_isFar_11 : decode cX9_isFar 11 = .ok (.if_icmp .eq 9, 3) := by decide +kernel
theorem dX9_isFar_14 : decode cX9_isFar 14 = .ok (.iload_n 0, 1) := by decide +kernel
theorem dX9_isFar_15 : decode cX9_isFar 15 = .ok (.bipush 9, 2) := by decide +kernel
theorem dX9_isFar_17 : decode cX9_isFar 17 = .ok (.if_icmp .ne 7, 3) := by decide +kernel
theorem dX9_isFar_20 : decode cX9_isFar 20 = .ok (.iconst 1, 1) := by decide +kernel
theorem dX9_isFar_21 : decode cX9_isFar 21 = .ok (.goto 4, 3) := by decide +kernel
theorem dX9_isFar_24 : decode cX9_isFar 24 = .ok (.iconst 0, 1) := by decide +kernel
theorem dX9_isFar_25 : decode cX9_isFar 25 = .ok (.ireturn, 1) := by decide +kernel
theorem dX9_upTo_0 : decode cX9_upTo 0 = .ok (.lload_n 1, 1) := by decide +kernel
theorem dX9_upTo_1 : decode cX9_upTo 1 = .ok (.lconst 1, 1) := by decide +kernel
theorem dX9_upTo_2 : decode cX9_upTo 2 = .ok (.ladd, 1) := by decide +kernel
theorem dX9_upTo_3 : decode cX9_upTo 3 = .ok (.invokestatic 108, 3) := by decide +kernel
theorem dX9_upTo_6 : decode cX9_upTo 6 = .ok (.lstore_n 3, 1) := by decide +kernel
theorem dX9_upTo_7 : decode cX9_upTo 7 = .ok (.iload_n 0, 1) := by decide +kernel
theorem dX9_upTo_8 : decode cX9_upTo 8 = .ok (.tableswitch 44 0 2 #[28, 40, 42], 28) := by decide +kernel
theorem dX9_upTo_36 : decode cX9_upTo 36 = .ok (.lload_n 1, 1) := by decide +kernel
theorem dX9_upTo_37 : decode cX9_upTo 37 = .ok (.lconst 0, 1) := by decide +kernel
theorem dX9_upTo_38 : decode cX9_upTo 38 = .ok (.lcmp, 1) := by decide +kernel
theorem dX9_upTo_39 : decode cX9_upTo 39 = .ok (.ifCond .le 7, 3) := by decide +kernel
theorem dX9_upTo_42 : decode cX9_upTo 42 = .ok (.lconst 1, 1) := by decide +kernel
theorem dX9_upTo_43 : decode cX9_upTo 43 = .ok (.goto 4, 3) := by decide +kernel
theorem dX9_upTo_46 : decode cX9_upTo 46 = .ok (.lconst 0, 1) := by decide +kernel
theorem dX9_upTo_47 : decode cX9_upTo 47 = .ok (.lreturn, 1) := by decide +kernel
theorem dX9_upTo_48 : decode cX9_upTo 48 = .ok (.lload_n 1, 1) := by decide +kernel
theorem dX9_upTo_49 : decode cX9_upTo 49 = .ok (.lreturn, 1) := by decide +kernel
theorem dX9_upTo_50 : decode cX9_upTo 50 = .ok (.lload_n 3, 1) := by decide +kernel
theorem dX9_upTo_51 : decode cX9_upTo 51 = .ok (.lreturn, 1) := by decide +kernel
theorem dX9_upTo_52 : decode cX9_upTo 52 = .ok (.lload_n 3, 1) := by decide +kernel
theorem dX9_upTo_53 : decode cX9_upTo 53 = .ok (.ldc2_w 134, 3) := by decide +kernel
theorem dX9_upTo_56 : decode cX9_upTo 56 = .ok (.lrem, 1) := by decide +kernel
theorem dX9_upTo_57 : decode cX9_upTo 57 = .ok (.lconst 0, 1) := by decide +kernel
theorem dX9_upTo_58 : decode cX9_upTo 58 = .ok (.lcmp, 1) := by decide +kernel
theorem dX9_upTo_59 : decode cX9_upTo 59 = .ok (.ifCond .ne 19, 3) := by decide +kernel
theorem dX9_upTo_62 : decode cX9_upTo 62 = .ok (.lload_n 3, 1) := by decide +kernel
theorem dX9_upTo_63 : decode cX9_upTo 63 = .ok (.ldc2_w 134, 3) := by decide +kernel
theorem dX9_upTo_66 : decode cX9_upTo 66 = .ok (.ldiv, 1) := by decide +kernel
theorem dX9_upTo_67 : decode cX9_upTo 67 = .ok (.ldc2_w 57, 3) := by decide +kernel
theorem dX9_upTo_70 : decode cX9_upTo 70 = .ok (.lload_n 1, 1) := by decide +kernel
theorem dX9_upTo_71 : decode cX9_upTo 71 = .ok (.lmul, 1) := by decide +kernel
theorem dX9_upTo_72 : decode cX9_upTo 72 = .ok (.lconst 1, 1) := by decide +kernel
theorem dX9_upTo_73 : decode cX9_upTo 73 = .ok (.ladd, 1) := by decide +kernel
theorem dX9_upTo_74 : decode cX9_upTo 74 = .ok (.lmul, 1) := by decide +kernel
theorem dX9_upTo_75 : decode cX9_upTo 75 = .ok (.goto 16, 3) := by decide +kernel
theorem dX9_upTo_78 : decode cX9_upTo 78 = .ok (.lload_n 3, 1) := by decide +kernel
theorem dX9_upTo_79 : decode cX9_upTo 79 = .ok (.ldc2_w 57, 3) := by decide +kernel
theorem dX9_upTo_82 : decode cX9_upTo 82 = .ok (.lload_n 1, 1) := by decide +kernel
theorem dX9_upTo_83 : decode cX9_upTo 83 = .ok (.lmul, 1) := by decide +kernel
theorem dX9_upTo_84 : decode cX9_upTo 84 = .ok (.lconst 1, 1) := by decide +kernel
theorem dX9_upTo_85 : decode cX9_upTo 85 = .ok (.ladd, 1) := by decide +kernel
theorem dX9_upTo_86 : decode cX9_upTo 86 = .ok (.ldc2_w 134, 3) := by decide +kernel
theorem dX9_upTo_89 : decode cX9_upTo 89 = .ok (.ldiv, 1) := by decide +kernel
theorem dX9_upTo_90 : decode cX9_upTo 90 = .ok (.lmul, 1) := by decide +kernel
theorem dX9_upTo_91 : decode cX9_upTo 91 = .ok (.lreturn, 1) := by decide +kernel
theorem dX9_far_0 : decode cX9_far 0 = .ok (.iload_n 1, 1) := by decide +kernel
theorem dX9_far_1 : decode cX9_far 1 = .ok (.invokestatic 136, 3) := by decide +kernel
theorem dX9_far_4 : decode cX9_far 4 = .ok (.ifCond .eq 22, 3) := by decide +kernel
theorem dX9_far_7 : decode cX9_far 7 = .ok (.iload_n 2, 1) := by decide +kernel
theorem dX9_far_8 : decode cX9_far 8 = .ok (.invokestatic 136, 3) := by decide +kernel
theorem dX9_far_11 : decode cX9_far 11 = .ok (.ifCond .eq 15, 3) := by decide +kernel
theorem dX9_far_14 : decode cX9_far 14 = .ok (.iload_n 3, 1) := by decide +kernel
theorem dX9_far_15 : decode cX9_far 15 = .ok (.i2l, 1) := by decide +kernel
theorem dX9_far_16 : decode cX9_far 16 = .ok (.lconst 0, 1) := by decide +kernel
theorem dX9_far_17 : decode cX9_far 17 = .ok (.ldc2_w 104, 3) := by decide +kernel
theorem dX9_far_20 : decode cX9_far 20 = .ok (.invokestatic 61, 3) := by decide +kernel
theorem dX9_far_23 : decode cX9_far 23 = .ok (.ifCond .ne 5, 3) := by decide +kernel
theorem dX9_far_26 : decode cX9_far 26 = .ok (.lconst 0, 1) := by decide +kernel
theorem dX9_far_27 : decode cX9_far 27 = .ok (.lreturn, 1) := by decide +kernel
theorem dX9_far_28 : decode cX9_far 28 = .ok (.lconst 0, 1) := by decide +kernel
theorem dX9_far_29 : decode cX9_far 29 = .ok (.lstore 4, 2) := by decide +kernel
theorem dX9_far_31 : decode cX9_far 31 = .ok (.lconst 1, 1) := by decide +kernel
theorem dX9_far_32 : decode cX9_far 32 = .ok (.lstore 6, 2) := by decide +kernel
theorem dX9_far_34 : decode cX9_far 34 = .ok (.lload 6, 2) := by decide +kernel
theorem dX9_far_36 : decode cX9_far 36 = .ok (.iload_n 3, 1) := by decide +kernel
theorem dX9_far_37 : decode cX9_far 37 = .ok (.i2l, 1) := by decide +kernel
theorem dX9_far_38 : decode cX9_far 38 = .ok (.lcmp, 1) := by decide +kernel
theorem dX9_far_39 : decode cX9_far 39 = .ok (.ifCond .gt 53, 3) := by decide +kernel
theorem dX9_far_42 : decode cX9_far 42 = .ok (.iload_n 3, 1) := by decide +kernel
theorem dX9_far_43 : decode cX9_far 43 = .ok (.i2l, 1) := by decide +kernel
theorem dX9_far_44 : decode cX9_far 44 = .ok (.lload 6, 2) := by decide +kernel
theorem dX9_far_46 : decode cX9_far 46 = .ok (.ldiv, 1) := by decide +kernel
theorem dX9_far_47 : decode cX9_far 47 = .ok (.lstore 8, 2) := by decide +kernel
theorem dX9_far_49 : decode cX9_far 49 = .ok (.iload_n 3, 1) := by decide +kernel
theorem dX9_far_50 : decode cX9_far 50 = .ok (.i2l, 1) := by decide +kernel
theorem dX9_far_51 : decode cX9_far 51 = .ok (.lload 8, 2) := by decide +kernel
theorem dX9_far_53 : decode cX9_far 53 = .ok (.ldiv, 1) := by decide +kernel
theorem dX9_far_54 : decode cX9_far 54 = .ok (.lstore 10, 2) := by decide +kernel
theorem dX9_far_56 : decode cX9_far 56 = .ok (.lload 4, 2) := by decide +kernel
theorem dX9_far_58 : decode cX9_far 58 = .ok (.iload_n 1, 1) := by decide +kernel
theorem dX9_far_59 : decode cX9_far 59 = .ok (.lload 10, 2) := by decide +kernel
theorem dX9_far_61 : decode cX9_far 61 = .ok (.invokestatic 139, 3) := by decide +kernel
theorem dX9_far_64 : decode cX9_far 64 = .ok (.iload_n 1, 1) := by decide +kernel
theorem dX9_far_65 : decode cX9_far 65 = .ok (.lload 6, 2) := by decide +kernel
theorem dX9_far_67 : decode cX9_far 67 = .ok (.lconst 1, 1) := by decide +kernel
theorem dX9_far_68 : decode cX9_far 68 = .ok (.lsub, 1) := by decide +kernel
theorem dX9_far_69 : decode cX9_far 69 = .ok (.invokestatic 139, 3) := by decide +kernel
theorem dX9_far_72 : decode cX9_far 72 = .ok (.lsub, 1) := by decide +kernel
theorem dX9_far_73 : decode cX9_far 73 = .ok (.iload_n 2, 1) := by decide +kernel
theorem dX9_far_74 : decode cX9_far 74 = .ok (.lload 8, 2) := by decide +kernel
theorem dX9_far_76 : decode cX9_far 76 = .ok (.invokestatic 139, 3) := by decide +kernel
theorem dX9_far_79 : decode cX9_far 79 = .ok (.lmul, 1) := by decide +kernel
theorem dX9_far_80 : decode cX9_far 80 = .ok (.ladd, 1) := by decide +kernel
theorem dX9_far_81 : decode cX9_far 81 = .ok (.lstore 4, 2) := by decide +kernel
theorem dX9_far_83 : decode cX9_far 83 = .ok (.lload 10, 2) := by decide +kernel
theorem dX9_far_85 : decode cX9_far 85 = .ok (.lconst 1, 1) := by decide +kernel
theorem dX9_far_86 : decode cX9_far 86 = .ok (.ladd, 1) := by decide +kernel
theorem dX9_far_87 : decode cX9_far 87 = .ok (.lstore 6, 2) := by decide +kernel
theorem dX9_far_89 : decode cX9_far 89 = .ok (.goto (-55), 3) := by decide +kernel
theorem dX9_far_92 : decode cX9_far 92 = .ok (.lload 4, 2) := by decide +kernel
theorem dX9_far_94 : decode cX9_far 94 = .ok (.lreturn, 1) := by decide +kernel
theorem dX9_about_0 : decode cX9_about 0 = .ok (.iload_n 1, 1) := by decide +kernel
theorem dX9_about_1 : decode cX9_about 1 = .ok (.tableswitch 64 0 2 #[27, 32, 48], 27) := by decide +kernel
theorem dX9_about_28 : decode cX9_about 28 = .ok (.aload_n 0, 1) := by decide +kernel
theorem dX9_about_29 : decode cX9_about 29 = .ok (.getfield 112, 3) := by decide +kernel
theorem dX9_about_32 : decode cX9_about 32 = .ok (.ireturn, 1) := by decide +kernel
theorem dX9_about_33 : decode cX9_about 33 = .ok (.aload_n 0, 1) := by decide +kernel
theorem dX9_about_34 : decode cX9_about 34 = .ok (.getfield 67, 3) := by decide +kernel
theorem dX9_about_37 : decode cX9_about 37 = .ok (.ifCond .eq 10, 3) := by decide +kernel
theorem dX9_about_40 : decode cX9_about 40 = .ok (.aload_n 0, 1) := by decide +kernel
theorem dX9_about_41 : decode cX9_about 41 = .ok (.getfield 73, 3) := by decide +kernel
theorem dX9_about_44 : decode cX9_about 44 = .ok (.goto 4, 3) := by decide +kernel
theorem dX9_about_47 : decode cX9_about 47 = .ok (.iconst 0, 1) := by decide +kernel
theorem dX9_about_48 : decode cX9_about 48 = .ok (.ireturn, 1) := by decide +kernel
theorem dX9_about_49 : decode cX9_about 49 = .ok (.aload_n 0, 1) := by decide +kernel
theorem dX9_about_50 : decode cX9_about 50 = .ok (.getfield 94, 3) := by decide +kernel
theorem dX9_about_53 : decode cX9_about 53 = .ok (.ifCond .eq 10, 3) := by decide +kernel
theorem dX9_about_56 : decode cX9_about 56 = .ok (.aload_n 0, 1) := by decide +kernel
theorem dX9_about_57 : decode cX9_about 57 = .ok (.getfield 54, 3) := by decide +kernel
theorem dX9_about_60 : decode cX9_about 60 = .ok (.goto 4, 3) := by decide +kernel
theorem dX9_about_63 : decode cX9_about 63 = .ok (.iconst (-1), 1) := by decide +kernel
theorem dX9_about_64 : decode cX9_about 64 = .ok (.ireturn, 1) := by decide +kernel
theorem dX9_about_65 : decode cX9_about 65 = .ok (.iconst (-1), 1) := by decide +kernel
theorem dX9_about_66 : decode cX9_about 66 = .ok (.ireturn, 1) := by decide +kernel
